theorem zv_fillT (t : Nat) (zv_S0 : St) (K : Int32 → St → Option (Unit × St)) : ∃ S', (gI S' = gI zv_S0 ∧ gR S' = gR zv_S0 ∧ ∀ a r, gJ S' 18 a r = if a = t ∧ r < 60 then 0 else gJ zv_S0 18 a r) ∧ L_J7_fill_d0a16_6 t 0 K 1000 (nI 0) zv_S0 = K (nI 60) S' := by
  refine zv_lpI (L_J7_fill_d0a16_6 t 0 K) K 60 (fun j S => gI S = gI zv_S0 ∧ gR S = gR zv_S0 ∧ ∀ a r, gJ S 18 a r = if a = t ∧ r < j then 0 else gJ zv_S0 18 a r) ?_ ?_ 60 0 1000 zv_S0 rfl (by decide) ⟨rfl, rfl, fun a r => by rw [if_neg (by omega)]⟩
  · intro n j S hj ⟨h1, h2, h3⟩
    refine ⟨sJ S 18 t j 0, ⟨h1, h2, fun a r => ?_⟩, ?_⟩
    · rw [gJ_sJ, h3]
      by_cases hq : a = t ∧ r = j
      · rw [if_pos ⟨rfl, hq⟩, if_pos (by omega)]
      · rw [if_neg (by omega)]
        by_cases hr : a = t ∧ r < j
        · rw [if_pos hr, if_pos (by omega)]
        · rw [if_neg hr, if_neg (by omega)]
    · rw [L_J7_fill_d0a16_6.eq_2, if_neg (by show ¬ nI 60 ≤ nI j; rw [zv_nIle (by omega) (by omega)]; omega), if_pos (zv_gd hj), zv_nIcl (by omega), zv_nIs j (by omega)]
  · intro n S _
    rw [L_J7_fill_d0a16_6.eq_2, if_pos (by show nI 60 ≤ nI 60; rw [zv_nIle (by omega) (by omega)]; omega)]
theorem zv_fillb (t : Nat) (ht : t < 6) (zv_S0 : St) (K : Int32 → St → Option (Int32 × St)) : ∃ S', (gI S' = gI zv_S0 ∧ gR S' = gR zv_S0 ∧ ∀ r, gJ S' 55 0 r = if 60 * t ≤ r ∧ r < 60 * t + 60 then 0 else gJ zv_S0 55 0 r) ∧ L_X8_tape_69b (nI t) K 1000 (nI 0) zv_S0 = K (nI 60) S' := by
  refine zv_lpI (L_X8_tape_69b (nI t) K) K 60 (fun j S => gI S = gI zv_S0 ∧ gR S = gR zv_S0 ∧ ∀ r, gJ S 55 0 r = if 60 * t ≤ r ∧ r < 60 * t + j then 0 else gJ zv_S0 55 0 r) ?_ ?_ 60 0 1000 zv_S0 rfl (by decide) ⟨rfl, rfl, fun r => by rw [if_neg (by omega)]⟩
  · intro n j S hj ⟨h1, h2, h3⟩
    refine ⟨sJ S 55 0 (60 * t + j) 0, ⟨h1, h2, fun r => ?_⟩, ?_⟩
    · rw [gJ_sJ, h3]
      by_cases hq : r = 60 * t + j
      · rw [if_pos ⟨rfl, rfl, hq⟩, if_pos (by omega)]
      · rw [if_neg (by omega)]
        by_cases hr : 60 * t ≤ r ∧ r < 60 * t + j
        · rw [if_pos hr, if_pos (by omega)]
        · rw [if_neg hr, if_neg (by omega)]
    · rw [L_X8_tape_69b.eq_2, if_neg (by show ¬ nI 60 ≤ nI j; rw [zv_nIle (by omega) (by omega)]; omega), zv_mx60 t j ht (by omega), if_pos (zv_gd (by omega)), zv_nIcl (by omega), zv_nIs j (by omega)]
  · intro n S _
    rw [L_X8_tape_69b.eq_2, if_pos (by show nI 60 ≤ nI 60; rw [zv_nIle (by omega) (by omega)]; omega)]
theorem zv_fillbbbbbb (t : Nat) (ht : t < 6) (zv_S0 : St) (K : Int32 → St → Option (Int32 × St)) : ∃ S', (gI S' = gI zv_S0 ∧ gR S' = gR zv_S0 ∧ ∀ r, gJ S' 55 0 r = if 60 * t ≤ r ∧ r < 60 * t + 60 then 0 else gJ zv_S0 55 0 r) ∧ L_X8_tape_69bbbbbb (nI t) K 1000 (nI 0) zv_S0 = K (nI 60) S' := by
  refine zv_lpI (L_X8_tape_69bbbbbb (nI t) K) K 60 (fun j S => gI S = gI zv_S0 ∧ gR S = gR zv_S0 ∧ ∀ r, gJ S 55 0 r = if 60 * t ≤ r ∧ r < 60 * t + j then 0 else gJ zv_S0 55 0 r) ?_ ?_ 60 0 1000 zv_S0 rfl (by decide) ⟨rfl, rfl, fun r => by rw [if_neg (by omega)]⟩
  · intro n j S hj ⟨h1, h2, h3⟩
    refine ⟨sJ S 55 0 (60 * t + j) 0, ⟨h1, h2, fun r => ?_⟩, ?_⟩
    · rw [gJ_sJ, h3]
      by_cases hq : r = 60 * t + j
      · rw [if_pos ⟨rfl, rfl, hq⟩, if_pos (by omega)]
      · rw [if_neg (by omega)]
        by_cases hr : 60 * t ≤ r ∧ r < 60 * t + j
        · rw [if_pos hr, if_pos (by omega)]
        · rw [if_neg hr, if_neg (by omega)]
    · rw [L_X8_tape_69bbbbbb.eq_2, if_neg (by show ¬ nI 60 ≤ nI j; rw [zv_nIle (by omega) (by omega)]; omega), zv_mx60 t j ht (by omega), if_pos (zv_gd (by omega)), zv_nIcl (by omega), zv_nIs j (by omega)]
  · intro n S _
    rw [L_X8_tape_69bbbbbb.eq_2, if_pos (by show nI 60 ≤ nI 60; rw [zv_nIle (by omega) (by omega)]; omega)]
theorem zv_tape_R {k q : Nat} {cs : Nat → List zv_Cl} {Sx Sm X M : St} (hW : zv_RW k q cs Sx Sm) (t sz : Nat) (a2 : Int32) (hsz : sz ≤ 60) (ha : -1 ≤ a2 ∧ a2 ≤ 4) (h0 : a2 = -1 → sz = 0)
    (x1 : gI X = gI (sI (sI Sx 6 t 1 a2) 6 t 2 (nI sz))) (x2 : gR X = gR Sx) (x3 : ∀ a r, gJ X 18 a r = if a = t ∧ r < 60 then 0 else gJ Sx 18 a r)
    (y1 : gI M = gI (sI (sI Sm 53 0 t a2) 54 0 t (nI sz))) (y3 : ∀ r, gJ M 55 0 r = if 60 * t ≤ r ∧ r < 60 * t + 60 then 0 else gJ Sm 55 0 r) : zv_RW k q cs X M := by
  obtain ⟨w1, w2, w3, w4, w5, w6, w7, zv_w8, w9, w10, ⟨c, u1, u2, u3, u4, u5, u6, u7, u8, u9, u10, u11⟩, w12⟩ := hW
  simp only [zv_RW, zv_S0, zv_S1, zv_SR, x1, x2, y1, gI_sI, zv_gI_f, zv_gI_i, gI_sI, zv_gJ_f, zv_gIc_f, zv_gIc_i, zv_kJ_sI, zv_kR_sI, zv_kI_sJ, zv_kR_sJ, zv_kI_sR, zv_kJ_sR, zv_kJ_cI, zv_kR_cI, zv_kI_cJ, zv_kR_cJ, ne_eq, Nat.reduceEqDiff, Nat.reduceMul, Nat.reduceAdd, not_false_eq_true, not_true_eq_false, false_and, and_false, and_true, true_and, and_self, reduceIte, Nat.one_ne_zero, Nat.zero_ne_one, Nat.zero_add, Nat.mul_zero]
  refine ⟨w1, w2, w3, w4, w5, ?_, w7, zv_w8, w9, w10, ⟨c, u1, u2, u3, u4, u5, u6, u7, u8, u9, u10, u11⟩, w12⟩
  intro t' ht'
  obtain ⟨g1, g2, g3, g4, g5, g6, g7, g8⟩ := w6 t' ht'
  have hJ : ∀ o, o < 60 → gJ X 18 t' o = gJ M 55 0 (60 * t' + o) := by
    intro o ho
    rw [x3, y3]
    by_cases hq : t' = t
    · rw [if_pos (by omega), if_pos (by omega)]
    · rw [if_neg (by omega), if_neg (by omega)]; exact g8 o ho
  by_cases hq : t' = t
  · subst hq
    simp only [gI_sI, zv_gI_f, zv_gI_i, gI_sI, zv_gJ_f, zv_gIc_f, zv_gIc_i, zv_kJ_sI, zv_kR_sI, zv_kI_sJ, zv_kR_sJ, zv_kI_sR, zv_kJ_sR, zv_kJ_cI, zv_kR_cI, zv_kI_cJ, zv_kR_cJ, ne_eq, Nat.reduceEqDiff, Nat.reduceMul, Nat.reduceAdd, not_false_eq_true, not_true_eq_false, false_and, and_false, and_true, true_and, and_self, reduceIte, Nat.one_ne_zero, Nat.zero_ne_one, Nat.zero_add, Nat.mul_zero]
    have h1 := zv_iN (show sz < 2147483648 by omega)
    exact ⟨ha.1, ha.2, zv_nI0 sz (by omega), by simp only [Int32.le_iff_toInt_le, Int32.lt_iff_toInt_lt, ← Int32.toInt_inj, zv_ia, zv_is_, zv_im, zv_ing, zv_iit, Int32.reduceToInt]; omega, fun e => by rw [h0 e]; rfl, hJ⟩
  · simp only [gI_sI, hq, zv_gI_f, zv_gI_i, gI_sI, zv_gJ_f, zv_gIc_f, zv_gIc_i, zv_kJ_sI, zv_kR_sI, zv_kI_sJ, zv_kR_sJ, zv_kI_sR, zv_kJ_sR, zv_kJ_cI, zv_kR_cI, zv_kI_cJ, zv_kR_cJ, ne_eq, Nat.reduceEqDiff, Nat.reduceMul, Nat.reduceAdd, not_false_eq_true, not_true_eq_false, false_and, and_false, and_true, true_and, and_self, reduceIte, Nat.one_ne_zero, Nat.zero_ne_one, Nat.zero_add, Nat.mul_zero]
    exact ⟨g1, g2, g3, g4, g5, g6, g7, hJ⟩
theorem m_tape {k : Nat} {Sx Sm : St} (hR : Rel k Sx Sm) (a1 : Int32) (a2 : Int32) (a3 : Int32) : ∃ (r : Int32) (Sx' Sm' : St), F_X7_tape Sx a1 a2 a3 = some (r, Sx') ∧ F_X8_tape Sm a1 a2 a3 = some (r, Sm') ∧ Rel k Sx' Sm' := by
  have hR0 := hR
  obtain ⟨q, cs, hW⟩ := hR
  simp only [F_X7_tape, F_X8_tape, F_X6_begin, F_J7_fill_d0a16, zv_x7_isTp, zv_x8_isTp, zv_x7_in, zv_x8_in, bnd, zv_if10]
  by_cases h : 0 ≤ a1 ∧ a1 ≤ 5
  · obtain ⟨t, ht, rfl⟩ := zv_asW (c := 5) h.1 (by have := h.2; simp only [Int32.le_iff_toInt_le, Int32.lt_iff_toInt_lt, ← Int32.toInt_inj, zv_ia, zv_is_, zv_im, zv_ing, zv_iit, Int32.reduceToInt] at this; omega)
    simp only [if_pos h]
    simp only [zv_nIcl (show t < 2147483648 by omega), zv_nI0 t (by omega), show t < 6 by omega, and_self, reduceIte]
    by_cases h1 : a2 = -1
    · subst h1
      obtain ⟨X, ⟨x1, x2, x3⟩, ex⟩ := zv_fillT t (sI (sI Sx 6 t 1 (-1)) 6 t 2 0) (fun y3_1 T_1 => some ((), T_1))
      obtain ⟨M, ⟨y1, y2, y3⟩, ey⟩ := zv_fillb t (by omega) (sI (sI Sm 53 0 t (-1)) 54 0 t 0) (fun y4_24 T_24 => some ((1 : Int32), T_24))
      rw [show nI 0 = 0 from rfl] at ex ey
      simp only [show (-1 : Int32) ≤ -1 ∧ (-1 : Int32) ≤ 4 by decide, show (-1 : Int32) < 0 by decide, show ¬ (0 : Int32) ≤ -1 by decide, reduceIte, ex, ey]
      simp only [and_self, reduceIte]
      exact ⟨_, _, _, rfl, rfl, q, cs, zv_tape_R hW t 0 (-1) (by decide) (by decide) (fun _ => rfl) x1 x2 x3 y1 y3⟩
    · simp only [h1, reduceIte]
      by_cases h2 : 0 ≤ a2 ∧ a2 ≤ 4
      · have h2' : -1 ≤ a2 ∧ a2 ≤ 4 := by simp only [Int32.le_iff_toInt_le, Int32.lt_iff_toInt_lt, ← Int32.toInt_inj, zv_ia, zv_is_, zv_im, zv_ing, zv_iit, Int32.reduceToInt] at *; omega
        have h3 : ¬ a2 < 0 := by simp only [Int32.le_iff_toInt_le, Int32.lt_iff_toInt_lt, ← Int32.toInt_inj, zv_ia, zv_is_, zv_im, zv_ing, zv_iit, Int32.reduceToInt] at *; omega
        simp only [h2', h2.1, h2.2, h3, and_self, reduceIte]
        by_cases h4 : a3 ≤ 60
        · by_cases h5 : 0 ≤ a3
          · obtain ⟨sz, hsz, rfl⟩ := zv_asW (c := 60) h5 (by simp only [Int32.le_iff_toInt_le, Int32.lt_iff_toInt_lt, ← Int32.toInt_inj, zv_ia, zv_is_, zv_im, zv_ing, zv_iit, Int32.reduceToInt] at h4; omega)
            obtain ⟨X, ⟨x1, x2, x3⟩, ex⟩ := zv_fillT t (sI (sI Sx 6 t 1 a2) 6 t 2 (nI sz)) (fun y3_1 T_1 => some ((), T_1))
            obtain ⟨M, ⟨y1, y2, y3⟩, ey⟩ := zv_fillbbbbbb t (by omega) (sI (sI Sm 53 0 t a2) 54 0 t (nI sz)) (fun y4_67 T_67 => some ((1 : Int32), T_67))
            rw [show nI 0 = 0 from rfl] at ex ey
            simp only [h4, h5, reduceIte, ex, ey]
            exact ⟨_, _, _, rfl, rfl, q, cs, zv_tape_R hW t sz a2 hsz h2' (fun e => absurd e h1) x1 x2 x3 y1 y3⟩
          · simp only [h4, h5, reduceIte]
            exact ⟨_, _, _, rfl, rfl, hR0⟩
        · simp only [h4, reduceIte]
          exact ⟨_, _, _, rfl, rfl, hR0⟩
      · have h2' : ¬ (-1 ≤ a2 ∧ a2 ≤ 4) := fun e => by
          apply h2
          simp only [Int32.le_iff_toInt_le, Int32.lt_iff_toInt_lt, ← Int32.toInt_inj, zv_ia, zv_is_, zv_im, zv_ing, zv_iit, Int32.reduceToInt] at *; omega
        simp only [h2, h2', reduceIte]
        exact ⟨_, _, _, rfl, rfl, hR0⟩
  · simp only [if_neg h]
    exact ⟨_, _, _, rfl, rfl, hR0⟩
theorem zv_mx3 (t i k : Nat) (ht : t < 6) (hi : i ≤ 60) (hk : k ≤ 60) : 60 * nI t + nI i + nI k = nI (60 * t + i + k) := by
  rw [zv_mx60 t i ht hi]
  apply zv_inI
  simp only [Int32.le_iff_toInt_le, Int32.lt_iff_toInt_lt, ← Int32.toInt_inj, zv_ia, zv_is_, zv_im, zv_ing, zv_iit, Int32.reduceToInt]
  rw [zv_iN (by omega), zv_iN (by omega)]; omega
theorem zv_sh1 (t i m : Nat) (ht : t < 6) (hm : i + m ≤ 60) (zv_S0 : St) (K : Int32 → St → Option (Int32 × St)) : ∃ S', (gI S' = gI zv_S0 ∧ gR S' = gR zv_S0 ∧ gJ S' 55 0 = gJ zv_S0 55 0 ∧ ∀ r, r < m → gJ S' 56 0 r = gJ zv_S0 55 0 (60 * t + i + r)) ∧ L_X8_shift_104 (nI t) (nI i) (nI m) K 1000 (nI 0) zv_S0 = K (nI m) S' := by
  refine zv_lpI (L_X8_shift_104 (nI t) (nI i) (nI m) K) K m (fun j S => gI S = gI zv_S0 ∧ gR S = gR zv_S0 ∧ gJ S 55 0 = gJ zv_S0 55 0 ∧ ∀ r, r < j → gJ S 56 0 r = gJ zv_S0 55 0 (60 * t + i + r)) ?_ ?_ m 0 1000 zv_S0 (by omega) (by omega) ⟨rfl, rfl, rfl, fun r hr => absurd hr (Nat.not_lt_zero _)⟩
  · intro n j S hj ⟨h1, h2, h3, h4⟩
    refine ⟨sJ S 56 0 j (gJ S 55 0 (60 * t + i + j)), ⟨h1, h2, by rw [zv_gJ_f (by decide)]; exact h3, fun r hr => ?_⟩, ?_⟩
    · rw [gJ_sJ, h3]
      by_cases hq : r = j
      · rw [if_pos ⟨rfl, rfl, hq⟩, hq]
      · rw [if_neg (by omega)]; exact h4 r (by omega)
    · rw [L_X8_shift_104.eq_2, if_neg (by rw [zv_nIle (by omega) (by omega)]; omega), zv_mx3 t i j ht (by omega) (by omega), if_pos (zv_gd (by omega)), if_pos (zv_gd (by omega)), zv_nIcl (by omega), zv_nIcl (by omega), zv_nIs j (by omega)]
  · intro n S _
    rw [L_X8_shift_104.eq_2, if_pos (by rw [zv_nIle (by omega) (by omega)]; omega)]
theorem zv_sh2 (t i m : Nat) (ht : t < 6) (hm : i + m ≤ 60) (zv_S0 : St) (K : Int32 → St → Option (Int32 × St)) : ∃ S', (gI S' = gI zv_S0 ∧ gR S' = gR zv_S0 ∧ gJ S' 56 0 = gJ zv_S0 56 0 ∧ ∀ r, gJ S' 55 0 r = if 60 * t + i ≤ r ∧ r < 60 * t + i + m then gJ zv_S0 56 0 (r - (60 * t + i)) else gJ zv_S0 55 0 r) ∧ L_X8_shift_141 (nI t) (nI i) (nI m) K 1000 (nI 0) zv_S0 = K (nI m) S' := by
  refine zv_lpI (L_X8_shift_141 (nI t) (nI i) (nI m) K) K m (fun j S => gI S = gI zv_S0 ∧ gR S = gR zv_S0 ∧ gJ S 56 0 = gJ zv_S0 56 0 ∧ ∀ r, gJ S 55 0 r = if 60 * t + i ≤ r ∧ r < 60 * t + i + j then gJ zv_S0 56 0 (r - (60 * t + i)) else gJ zv_S0 55 0 r) ?_ ?_ m 0 1000 zv_S0 (by omega) (by omega) ⟨rfl, rfl, rfl, fun r => by rw [if_neg (by omega)]⟩
  · intro n j S hj ⟨h1, h2, h3, h4⟩
    refine ⟨sJ S 55 0 (60 * t + i + j) (gJ S 56 0 j), ⟨h1, h2, by rw [zv_gJ_f (by decide)]; exact h3, fun r => ?_⟩, ?_⟩
    · rw [gJ_sJ, h4]
      by_cases hq : r = 60 * t + i + j
      · rw [if_pos ⟨rfl, rfl, hq⟩, if_pos (by omega), hq, show 60 * t + i + j - (60 * t + i) = j by omega, h3]
      · rw [if_neg (by omega)]
        by_cases hr : 60 * t + i ≤ r ∧ r < 60 * t + i + j
        · rw [if_pos hr, if_pos (by omega)]
        · rw [if_neg hr, if_neg (by omega)]
    · rw [L_X8_shift_141.eq_2, if_neg (by rw [zv_nIle (by omega) (by omega)]; omega), zv_mx3 t i j ht (by omega) (by omega), if_pos (zv_gd (by omega)), if_pos (zv_gd (by omega)), zv_nIcl (by omega), zv_nIcl (by omega), zv_nIs j (by omega)]
  · intro n S _
    rw [L_X8_shift_141.eq_2, if_pos (by rw [zv_nIle (by omega) (by omega)]; omega)]
theorem m_shift {k : Nat} {Sx Sm : St} (hR : Rel k Sx Sm) (a1 : Int32) (a2 : Int32) (a3 : Int32) (a4 : Int32) (a5 : Int32) : ∃ (r : Int32) (Sx' Sm' : St), F_X7_shift Sx a1 a2 a3 a4 a5 = some (r, Sx') ∧ F_X8_shift Sm a1 a2 a3 a4 a5 = some (r, Sm') ∧ Rel k Sx' Sm' := by
  have hR0 := hR
  obtain ⟨q, cs, w1, w2, w3, w4, w5, w6, w7, zv_w8, w9, w10, ⟨c, u1, u2, u3, u4, u5, u6, u7, u8, u9, u10, u11⟩, w12⟩ := hR
  simp only [F_X7_shift, F_X8_shift, zv_x7_isTp, zv_x8_isTp, zv_x6_holds, bnd, zv_if10, zv_if01]
  by_cases h : 0 ≤ a1 ∧ a1 ≤ 5
  · obtain ⟨t, ht, rfl⟩ := zv_asW (c := 5) h.1 (by have := h.2; simp only [Int32.le_iff_toInt_le, Int32.lt_iff_toInt_lt, ← Int32.toInt_inj, zv_ia, zv_is_, zv_im, zv_ing, zv_iit, Int32.reduceToInt] at this; omega)
    simp only [if_pos h]
    by_cases h' : 0 ≤ a3 ∧ a3 ≤ 5
    · obtain ⟨o, ho, rfl⟩ := zv_asW (c := 5) h'.1 (by have := h'.2; simp only [Int32.le_iff_toInt_le, Int32.lt_iff_toInt_lt, ← Int32.toInt_inj, zv_ia, zv_is_, zv_im, zv_ing, zv_iit, Int32.reduceToInt] at this; omega)
      simp only [if_pos h']
      obtain ⟨g1, g2, g3, g4, g5, g6, g7, g8⟩ := w6 t (by omega)
      obtain ⟨k1, k2, k3, k4, k5, k6, k7, k8⟩ := w6 o (by omega)
      obtain ⟨sz, hsz, es⟩ := zv_asW (c := 60) g5 (by have := g6; simp only [Int32.le_iff_toInt_le, Int32.lt_iff_toInt_lt, ← Int32.toInt_inj, zv_ia, zv_is_, zv_im, zv_ing, zv_iit, Int32.reduceToInt] at this; omega)
      obtain ⟨sy, hsy, ey⟩ := zv_asW (c := 60) k5 (by have := k6; simp only [Int32.le_iff_toInt_le, Int32.lt_iff_toInt_lt, ← Int32.toInt_inj, zv_ia, zv_is_, zv_im, zv_ing, zv_iit, Int32.reduceToInt] at this; omega)
      simp only [zv_nIcl (show t < 2147483648 by omega), zv_nI0 t (by omega), show t < 6 by omega, zv_nIcl (show o < 2147483648 by omega), zv_nI0 o (by omega), show o < 6 by omega, and_self, reduceIte, g1, g2, es, k1, k2, ey]
      by_cases b1 : gI Sm 53 0 t = -1
      · simp only [b1, show (-1 : Int32) < 0 by decide, reduceIte]
        exact ⟨_, _, _, rfl, rfl, hR0⟩
      · have b1' : ¬ gI Sm 53 0 t < 0 := by simp only [Int32.le_iff_toInt_le, Int32.lt_iff_toInt_lt, ← Int32.toInt_inj, zv_ia, zv_is_, zv_im, zv_ing, zv_iit, Int32.reduceToInt] at *; omega
        simp only [b1, b1', reduceIte]
        by_cases b2 : gI Sm 53 0 o = -1
        · simp only [b2, show ¬ (0 : Int32) ≤ -1 by decide, reduceIte]
          exact ⟨_, _, _, rfl, rfl, hR0⟩
        · have b2' : 0 ≤ gI Sm 53 0 o := by simp only [Int32.le_iff_toInt_le, Int32.lt_iff_toInt_lt, ← Int32.toInt_inj, zv_ia, zv_is_, zv_im, zv_ing, zv_iit, Int32.reduceToInt] at *; omega
          simp only [b2, b2', reduceIte]
          by_cases b3 : gI Sm 53 0 t = gI Sm 53 0 o
          · simp only [b3, reduceIte]
            by_cases zv_c1 : a5 < 0
            · simp only [zv_c1, reduceIte]; exact ⟨_, _, _, rfl, rfl, hR0⟩
            simp only [zv_c1, reduceIte]
            by_cases c2 : a2 < 0
            · simp only [c2, reduceIte]; exact ⟨_, _, _, rfl, rfl, hR0⟩
            simp only [c2, reduceIte]
            by_cases c3 : a4 < 0
            · simp only [c3, reduceIte]; exact ⟨_, _, _, rfl, rfl, hR0⟩
            simp only [c3, reduceIte]
            by_cases c4 : nI sz - a5 < a2
            · simp only [c4, reduceIte]; exact ⟨_, _, _, rfl, rfl, hR0⟩
            simp only [c4, reduceIte]
            by_cases c5 : a4 ≤ nI sy - a5
            · have f1 := zv_iN (show sz < 2147483648 by omega)
              have f2 := zv_iN (show sy < 2147483648 by omega)
              have r1 := zv_iB a5
              have r2 := zv_iB a2
              have r3 := zv_iB a4
              obtain ⟨m, hm, rfl⟩ := zv_asW (x := a5) (c := 60) (by simp only [Int32.le_iff_toInt_le, Int32.lt_iff_toInt_lt, ← Int32.toInt_inj, zv_ia, zv_is_, zv_im, zv_ing, zv_iit, Int32.reduceToInt] at *; omega) (by simp only [Int32.le_iff_toInt_le, Int32.lt_iff_toInt_lt, ← Int32.toInt_inj, zv_ia, zv_is_, zv_im, zv_ing, zv_iit, Int32.reduceToInt] at *; omega)
              obtain ⟨i, hi, rfl⟩ := zv_asW (x := a2) (c := 60) (by simp only [Int32.le_iff_toInt_le, Int32.lt_iff_toInt_lt, ← Int32.toInt_inj, zv_ia, zv_is_, zv_im, zv_ing, zv_iit, Int32.reduceToInt] at *; omega) (by simp only [Int32.le_iff_toInt_le, Int32.lt_iff_toInt_lt, ← Int32.toInt_inj, zv_ia, zv_is_, zv_im, zv_ing, zv_iit, Int32.reduceToInt] at *; omega)
              obtain ⟨j, hj, rfl⟩ := zv_asW (x := a4) (c := 60) (by simp only [Int32.le_iff_toInt_le, Int32.lt_iff_toInt_lt, ← Int32.toInt_inj, zv_ia, zv_is_, zv_im, zv_ing, zv_iit, Int32.reduceToInt] at *; omega) (by simp only [Int32.le_iff_toInt_le, Int32.lt_iff_toInt_lt, ← Int32.toInt_inj, zv_ia, zv_is_, zv_im, zv_ing, zv_iit, Int32.reduceToInt] at *; omega)
              have f3 := zv_iN (show m < 2147483648 by omega)
              have f4 := zv_iN (show i < 2147483648 by omega)
              have f5 := zv_iN (show j < 2147483648 by omega)
              have l1 : i + m ≤ 60 := by simp only [Int32.le_iff_toInt_le, Int32.lt_iff_toInt_lt, ← Int32.toInt_inj, zv_ia, zv_is_, zv_im, zv_ing, zv_iit, Int32.reduceToInt] at c4; omega
              have l2 : j + m ≤ 60 := by simp only [Int32.le_iff_toInt_le, Int32.lt_iff_toInt_lt, ← Int32.toInt_inj, zv_ia, zv_is_, zv_im, zv_ing, zv_iit, Int32.reduceToInt] at c5; omega
              simp only [c5, reduceIte, zv_nIcl (show m < 2147483648 by omega), zv_nIcl (show i < 2147483648 by omega), zv_nIcl (show j < 2147483648 by omega), zv_nI0 m (by omega), zv_nI0 i (by omega), zv_nI0 j (by omega), l1, l2, and_self]
              obtain ⟨M1, ⟨x1, x2, x3, x4⟩, e1⟩ := zv_sh1 t i m (by omega) l1 Sm (fun y6_31 T_31 => L_X8_shift_141 (nI o) (nI j) (nI m) (fun y6_32 T_32 => some (nI m, T_32)) 1000 (0 : Int32) T_31)
              obtain ⟨M2, ⟨y1, y2, y3, y4⟩, e2⟩ := zv_sh2 o j m (by omega) l2 M1 (fun y6_32 T_32 => some (nI m, T_32))
              rw [show nI 0 = 0 from rfl] at e1 e2
              rw [e1, e2]
              refine ⟨_, _, _, rfl, rfl, q, cs, ?_⟩
              simp only [zv_RW, zv_S0, zv_S1, zv_SR, y1, x1, zv_gI_f, zv_gI_i, gI_sI, zv_gJ_f, zv_gIc_f, zv_gIc_i, zv_kJ_sI, zv_kR_sI, zv_kI_sJ, zv_kR_sJ, zv_kI_sR, zv_kJ_sR, zv_kJ_cI, zv_kR_cI, zv_kI_cJ, zv_kR_cJ, ne_eq, Nat.reduceEqDiff, Nat.reduceMul, Nat.reduceAdd, not_false_eq_true, not_true_eq_false, false_and, and_false, and_true, true_and, and_self, reduceIte, Nat.one_ne_zero, Nat.zero_ne_one, Nat.zero_add, Nat.mul_zero]
              refine ⟨w1, w2, w3, w4, w5, ?_, w7, zv_w8, w9, w10, ⟨c, u1, u2, u3, u4, u5, u6, u7, u8, u9, u10, u11⟩, w12⟩
              intro t' ht'
              obtain ⟨g1, g2, g3, g4, g5, g6, g7, g9⟩ := w6 t' ht'
              refine ⟨g1, g2, g3, g4, g5, g6, g7, fun z hz => ?_⟩
              rw [gJ_cJ, y4, x3]
              by_cases hq : t' = o
              · rw [if_pos ⟨rfl, hq⟩]
                subst hq
                unfold va_cpy
                by_cases hr : j ≤ z ∧ z < j + m
                · rw [if_pos hr, if_pos (by omega), x4 _ (by omega), g8 _ (by omega)]
                  congr 1; omega
                · rw [if_neg hr, if_neg (by omega)]; exact g9 z hz
              · rw [if_neg (by omega), if_neg (by omega)]; exact g9 z hz
            · simp only [c5, reduceIte]; exact ⟨_, _, _, rfl, rfl, hR0⟩
          · simp only [b3, reduceIte]
            exact ⟨_, _, _, rfl, rfl, hR0⟩
    · simp only [if_neg h']
      exact ⟨_, _, _, rfl, rfl, hR0⟩
  · simp only [if_neg h]
    exact ⟨_, _, _, rfl, rfl, hR0⟩
theorem zv_jd1 (t sz c : Nat) (ht : t < 6) (hsz : sz ≤ 60) (hc : c ≤ 6) (a2 : Int32) (Sx Sm : St) (KX KM : Int32 → St → Option (Int32 × St)) (hk : KX (nI c) Sx = some (-5, Sx)) (hk' : KM (nI c) Sm = some (-5, Sm))
    (e1 : gI Sx 5 0 5 = nI c) (e2 : gI Sm 8 0 0 = nI c) (e3 : gI Sx 6 t 2 = nI sz) (e4 : gI Sm 53 0 t < 0 → sz = 0) (e5 : gI Sm 54 0 t = nI sz) (e6 : ∀ j, j < 60 → gJ Sx 18 t j = gJ Sm 55 0 (60 * t + j)) (e7 : ∀ j, j < c → gI Sx 3 j 4 = gI Sm 24 0 j) :
    ∀ m j n, j + m = c → m < n → ∃ r, L_X7_judge_36 (nI t) a2 KX n (nI j) Sx = some (r, Sx) ∧ L_X7_judge_36b (nI t) a2 KX n (nI j) Sx = some (r, Sx) ∧ L_X8_judge_24 (nI t) a2 KM n (nI j) Sm = some (r, Sm) := by
  intro m
  induction m with
  | zero =>
    intro j n hj hn
    obtain rfl : j = c := by omega
    obtain ⟨n', rfl⟩ : ∃ n', n = n' + 1 := ⟨n - 1, by omega⟩
    have := (zv_nIle (a := j) (b := j) (by omega) (by omega)).mpr (Nat.le_refl _)
    rw [L_X7_judge_36.eq_2, L_X7_judge_36b.eq_2, L_X8_judge_24.eq_2, e1, e2, if_pos this, if_pos this, if_pos this]
    exact ⟨-5, hk, hk, hk'⟩
  | succ m ih =>
    intro j n hj hn
    obtain ⟨n', rfl⟩ : ∃ n', n = n' + 1 := ⟨n - 1, by omega⟩
    have h0 : ¬ nI c ≤ nI j := by rw [zv_nIle (by omega) (by omega)]; omega
    rw [L_X7_judge_36.eq_2, L_X7_judge_36b.eq_2, L_X8_judge_24.eq_2]
    simp only [e1, e2, h0, zv_nIcl (show t < 2147483648 by omega), zv_nI0 t (by omega), ht, and_self, reduceIte, e3, e5]
    by_cases zv_hs : gI Sm 53 0 t < 0
    · have hz := e4 zv_hs
      subst hz
      simp only [zv_hs, reduceIte]
      by_cases h2 : a2 < 0
      · simp only [h2, reduceIte]; exact ⟨_, rfl, rfl, rfl⟩
      · have h3 : ¬ a2 < nI 0 - nI j := by
          have := zv_iN (show j < 2147483648 by omega)
          have := zv_iN (show 0 < 2147483648 by omega)
          simp only [Int32.le_iff_toInt_le, Int32.lt_iff_toInt_lt, ← Int32.toInt_inj, zv_ia, zv_is_, zv_im, zv_ing, zv_iit, Int32.reduceToInt] at *; omega
        simp only [h2, h3, reduceIte]; exact ⟨_, rfl, rfl, rfl⟩
    · simp only [zv_hs, reduceIte]
      by_cases h2 : a2 < 0
      · simp only [h2, reduceIte]; exact ⟨_, rfl, rfl, rfl⟩
      · simp only [h2, reduceIte]
        have j1 := zv_iN (show j < 2147483648 by omega)
        have j2 := zv_iN (show sz < 2147483648 by omega)
        have h4 : (a2 ≤ nI sz - nI j - 1) ↔ (a2 < nI sz - nI j) := by simp only [Int32.le_iff_toInt_le, Int32.lt_iff_toInt_lt, ← Int32.toInt_inj, zv_ia, zv_is_, zv_im, zv_ing, zv_iit, Int32.reduceToInt]; omega
        simp only [h4]
        by_cases h5 : a2 < nI sz - nI j
        · obtain ⟨i, hi, rfl⟩ := zv_asN (x := a2) (c := 60) (by simp only [Int32.le_iff_toInt_le, Int32.lt_iff_toInt_lt, ← Int32.toInt_inj, zv_ia, zv_is_, zv_im, zv_ing, zv_iit, Int32.reduceToInt] at *; omega) (by have := zv_iN (show 60 < 2147483648 by omega); simp only [Int32.le_iff_toInt_le, Int32.lt_iff_toInt_lt, ← Int32.toInt_inj, zv_ia, zv_is_, zv_im, zv_ing, zv_iit, Int32.reduceToInt] at *; omega) (by decide)
          have i1 := zv_iN (show i < 2147483648 by omega)
          have hl : i + j < sz := by simp only [Int32.le_iff_toInt_le, Int32.lt_iff_toInt_lt, ← Int32.toInt_inj, zv_ia, zv_is_, zv_im, zv_ing, zv_iit, Int32.reduceToInt] at h5; omega
          have ea : nI i + nI j = nI (i + j) := by
            apply zv_inI; simp only [Int32.le_iff_toInt_le, Int32.lt_iff_toInt_lt, ← Int32.toInt_inj, zv_ia, zv_is_, zv_im, zv_ing, zv_iit, Int32.reduceToInt]; omega
          simp only [h5, reduceIte, ea, zv_mx3 t i j ht (by omega) (by omega), zv_nIcl (show i + j < 2147483648 by omega), zv_nIcl (show 60 * t + i + j < 2147483648 by omega), zv_nIcl (show j < 2147483648 by omega), zv_nI0 (i + j) (by omega), zv_nI0 (60 * t + i + j) (by omega), zv_nI0 j (by omega), show i + j < 60 by omega, show 60 * t + i + j < 360 by omega, show j < 6 by omega, and_self, e6 (i + j) (by omega), Nat.mul_zero, Nat.zero_add, e7 j (by omega), ← Nat.add_assoc]
          split
          · rw [zv_nIs j (by omega)]
            exact ih (j + 1) n' (by omega) (by omega)
          · exact ⟨_, rfl, rfl, rfl⟩
        · simp only [h5, reduceIte]; exact ⟨_, rfl, rfl, rfl⟩
theorem m_judge {k : Nat} {Sx Sm : St} (hR : Rel k Sx Sm) (a1 : Int32) (a2 : Int32) : ∃ (r : Int32) (Sx' Sm' : St), F_X7_judge Sx a1 a2 = some (r, Sx') ∧ F_X8_judge Sm a1 a2 = some (r, Sm') ∧ Rel k Sx' Sm' := by
  have hR0 := hR
  obtain ⟨q, cs, w1, w2, w3, w4, w5, w6, w7, zv_w8, w9, w10, ⟨c, u1, u2, u3, u4, u5, u6, u7, u8, u9, u10, u11⟩, w12⟩ := hR
  simp only [F_X7_judge, F_X8_judge, zv_x7_isTp, zv_x8_isTp, zv_x6_holds, bnd, zv_if10, zv_if01]
  by_cases h : 0 ≤ a1 ∧ a1 ≤ 5
  · obtain ⟨t, ht, rfl⟩ := zv_asW (c := 5) h.1 (by have := h.2; simp only [Int32.le_iff_toInt_le, Int32.lt_iff_toInt_lt, ← Int32.toInt_inj, zv_ia, zv_is_, zv_im, zv_ing, zv_iit, Int32.reduceToInt] at this; omega)
    simp only [if_pos h]
    obtain ⟨g1, g2, g3, g4, g5, g6, g7, g8⟩ := w6 t (by omega)
    obtain ⟨sz, hsz, es⟩ := zv_asW (c := 60) g5 (by have := g6; simp only [Int32.le_iff_toInt_le, Int32.lt_iff_toInt_lt, ← Int32.toInt_inj, zv_ia, zv_is_, zv_im, zv_ing, zv_iit, Int32.reduceToInt] at this; omega)
    have hg : ∀ KX KM : Int32 → St → Option (Int32 × St), KX (nI c) Sx = some (-5, Sx) → KM (nI c) Sm = some (-5, Sm) → ∃ r, L_X7_judge_36 (nI t) a2 KX 1000 (nI 0) Sx = some (r, Sx) ∧ L_X7_judge_36b (nI t) a2 KX 1000 (nI 0) Sx = some (r, Sx) ∧ L_X8_judge_24 (nI t) a2 KM 1000 (nI 0) Sm = some (r, Sm) := by
      intro KX KM h1 h2
      have hc := u1.1
      refine zv_jd1 t sz c (by omega) hsz hc a2 Sx Sm KX KM h1 h2 u1.2.1 u1.2.2 (g2.trans es) (fun q => ?_) es g8 (fun j hj => ?_) c 0 1000 (by omega) (by omega)
      · have e0 : gI Sm 53 0 t = -1 := by simp only [Int32.le_iff_toInt_le, Int32.lt_iff_toInt_lt, ← Int32.toInt_inj, zv_ia, zv_is_, zv_im, zv_ing, zv_iit, Int32.reduceToInt] at *; omega
        exact (zv_nIeq (a := sz) (b := 0) (by omega) (by omega)).mp (es.symm.trans (g7 e0))
      · have := u2 j hj
        simp only [Nat.mul_zero, Nat.zero_add] at this
        exact this.2.2.1
    simp only [zv_nIcl (show t < 2147483648 by omega), zv_nI0 t (by omega), show t < 6 by omega, and_self, reduceIte, g1]
    by_cases b1 : gI Sm 53 0 t = -1
    · simp only [b1, show (-1 : Int32) ≤ 0 by decide, reduceIte]
      obtain ⟨r, e1, e2, e3⟩ := hg (fun y4_13 T_13 => some ((-5 : Int32), T_13)) (fun y3_9 T_9 => some ((-5 : Int32), T_9)) rfl rfl
      exact ⟨r, _, _, e1, e3, hR0⟩
    · simp only [b1, reduceIte]
      by_cases b2 : gI Sm 53 0 t = 0
      · simp only [b2, show (0 : Int32) ≤ 0 by decide, reduceIte]
        obtain ⟨r, e1, e2, e3⟩ := hg (fun y4_13 T_13 => some ((-5 : Int32), T_13)) (fun y3_9 T_9 => some ((-5 : Int32), T_9)) rfl rfl
        exact ⟨r, _, _, e2, e3, hR0⟩
      · have b3 : ¬ gI Sm 53 0 t ≤ 0 := by simp only [Int32.le_iff_toInt_le, Int32.lt_iff_toInt_lt, ← Int32.toInt_inj, zv_ia, zv_is_, zv_im, zv_ing, zv_iit, Int32.reduceToInt] at *; omega
        simp only [b2, b3, reduceIte]
        exact ⟨_, _, _, rfl, rfl, hR0⟩
  · simp only [if_neg h]
    exact ⟨_, _, _, rfl, rfl, hR0⟩
def zv_AI (Sx Sm : St) (n : Nat) (X M : St) : Prop := gI X 7 0 9 = nI n ∧ gI M 8 0 65 = nI n ∧ (∀ i, i < n → i < 20 → gI X 10 0 i = gI M 52 0 i) ∧ (∀ f i j, f ≠ 10 → ¬ (f = 7 ∧ i = 0 ∧ j = 9) → gI X f i j = gI Sx f i j) ∧ gJ X = gJ Sx ∧ gR X = gR Sx ∧ (∀ f i j, f ≠ 52 → ¬ (f = 8 ∧ i = 0 ∧ j = 65) → gI M f i j = gI Sm f i j) ∧ gJ M = gJ Sm
theorem zv_bg {Sx Sm X M : St} {n : Nat} (h : zv_AI Sx Sm n X M) (hn : n < 900) (b : Int32) : ∃ X' M', F_X7_begins X b = some ((), X') ∧ F_X8_body M b = some ((), M') ∧ zv_AI Sx Sm (n + 1) X' M' := by
  obtain ⟨h1, h2, h3, h4, h5, h6, h7, h8⟩ := h
  unfold F_X7_begins F_X8_body
  by_cases hk : n < 20
  · have q1 : ¬ (20 : Int32) ≤ nI n := by show ¬ nI 20 ≤ nI n; rw [zv_nIle (by omega) (by omega)]; omega
    simp only [h1, h2, q1, reduceIte, zv_nIcl (show n < 2147483648 by omega), zv_nI0 n (by omega), hk, and_self, gI_sI, zv_gI_f, zv_gI_i, gI_sI, zv_gJ_f, zv_gIc_f, zv_gIc_i, zv_kJ_sI, zv_kR_sI, zv_kI_sJ, zv_kR_sJ, zv_kI_sR, zv_kJ_sR, zv_kJ_cI, zv_kR_cI, zv_kI_cJ, zv_kR_cJ, ne_eq, Nat.reduceEqDiff, Nat.reduceMul, Nat.reduceAdd, not_false_eq_true, not_true_eq_false, false_and, and_false, and_true, true_and, and_self, reduceIte, Nat.one_ne_zero, Nat.zero_ne_one, Nat.zero_add, Nat.mul_zero, zv_nIs n (by omega)]
    refine ⟨_, _, rfl, rfl, ?_, ?_, fun i hi hi' => ?_, fun f i j hf hj => ?_, h5, h6, fun f i j hf hj => ?_, h8⟩
    · simp only [gI_sI, zv_gI_f, zv_gI_i, gI_sI, zv_gJ_f, zv_gIc_f, zv_gIc_i, zv_kJ_sI, zv_kR_sI, zv_kI_sJ, zv_kR_sJ, zv_kI_sR, zv_kJ_sR, zv_kJ_cI, zv_kR_cI, zv_kI_cJ, zv_kR_cJ, ne_eq, Nat.reduceEqDiff, Nat.reduceMul, Nat.reduceAdd, not_false_eq_true, not_true_eq_false, false_and, and_false, and_true, true_and, and_self, reduceIte, Nat.one_ne_zero, Nat.zero_ne_one, Nat.zero_add, Nat.mul_zero]
    · simp only [gI_sI, zv_gI_f, zv_gI_i, gI_sI, zv_gJ_f, zv_gIc_f, zv_gIc_i, zv_kJ_sI, zv_kR_sI, zv_kI_sJ, zv_kR_sJ, zv_kI_sR, zv_kJ_sR, zv_kJ_cI, zv_kR_cI, zv_kI_cJ, zv_kR_cJ, ne_eq, Nat.reduceEqDiff, Nat.reduceMul, Nat.reduceAdd, not_false_eq_true, not_true_eq_false, false_and, and_false, and_true, true_and, and_self, reduceIte, Nat.one_ne_zero, Nat.zero_ne_one, Nat.zero_add, Nat.mul_zero]
    · simp only [gI_sI, zv_gI_f, zv_gI_i, gI_sI, zv_gJ_f, zv_gIc_f, zv_gIc_i, zv_kJ_sI, zv_kR_sI, zv_kI_sJ, zv_kR_sJ, zv_kI_sR, zv_kJ_sR, zv_kJ_cI, zv_kR_cI, zv_kI_cJ, zv_kR_cJ, ne_eq, Nat.reduceEqDiff, Nat.reduceMul, Nat.reduceAdd, not_false_eq_true, not_true_eq_false, false_and, and_false, and_true, true_and, and_self, reduceIte, Nat.one_ne_zero, Nat.zero_ne_one, Nat.zero_add, Nat.mul_zero]
      by_cases hq : i = n
      · rw [if_pos hq, if_pos hq]
      · rw [if_neg hq, if_neg hq]; exact h3 i (by omega) hi'
    · rw [gI_sI, if_neg hj, gI_sI, if_neg (by omega)]; exact h4 f i j hf hj
    · rw [gI_sI, if_neg hj, gI_sI, if_neg (by omega)]; exact h7 f i j hf hj
  · have q1 : (20 : Int32) ≤ nI n := by show nI 20 ≤ nI n; rw [zv_nIle (by omega) (by omega)]; omega
    simp only [h1, h2, q1, reduceIte, zv_nIs n (by omega)]
    refine ⟨_, _, rfl, rfl, ?_, ?_, fun i hi hi' => ?_, fun f i j hf hj => ?_, h5, h6, fun f i j hf hj => ?_, h8⟩
    · simp only [gI_sI, zv_gI_f, zv_gI_i, gI_sI, zv_gJ_f, zv_gIc_f, zv_gIc_i, zv_kJ_sI, zv_kR_sI, zv_kI_sJ, zv_kR_sJ, zv_kI_sR, zv_kJ_sR, zv_kJ_cI, zv_kR_cI, zv_kI_cJ, zv_kR_cJ, ne_eq, Nat.reduceEqDiff, Nat.reduceMul, Nat.reduceAdd, not_false_eq_true, not_true_eq_false, false_and, and_false, and_true, true_and, and_self, reduceIte, Nat.one_ne_zero, Nat.zero_ne_one, Nat.zero_add, Nat.mul_zero]
    · simp only [gI_sI, zv_gI_f, zv_gI_i, gI_sI, zv_gJ_f, zv_gIc_f, zv_gIc_i, zv_kJ_sI, zv_kR_sI, zv_kI_sJ, zv_kR_sJ, zv_kI_sR, zv_kJ_sR, zv_kJ_cI, zv_kR_cI, zv_kI_cJ, zv_kR_cJ, ne_eq, Nat.reduceEqDiff, Nat.reduceMul, Nat.reduceAdd, not_false_eq_true, not_true_eq_false, false_and, and_false, and_true, true_and, and_self, reduceIte, Nat.one_ne_zero, Nat.zero_ne_one, Nat.zero_add, Nat.mul_zero]
    · simp only [gI_sI, zv_gI_f, zv_gI_i, gI_sI, zv_gJ_f, zv_gIc_f, zv_gIc_i, zv_kJ_sI, zv_kR_sI, zv_kI_sJ, zv_kR_sJ, zv_kI_sR, zv_kJ_sR, zv_kJ_cI, zv_kR_cI, zv_kI_cJ, zv_kR_cJ, ne_eq, Nat.reduceEqDiff, Nat.reduceMul, Nat.reduceAdd, not_false_eq_true, not_true_eq_false, false_and, and_false, and_true, true_and, and_self, reduceIte, Nat.one_ne_zero, Nat.zero_ne_one, Nat.zero_add, Nat.mul_zero]
      exact h3 i (by omega) hi'
    · rw [gI_sI, if_neg hj]; exact h4 f i j hf hj
    · rw [gI_sI, if_neg hj]; exact h7 f i j hf hj
def zv_AC (Sx Sm : St) (l x : Nat) : Prop := l < 6 ∧ x < 7 ∧ gI Sx 3 l 0 = nI l ∧ gI Sx 3 l 2 = nI x ∧ gI Sx 3 l 3 = gI Sm 23 0 l ∧ gI Sm 22 0 l = nI x
theorem zv_AIx {Sx Sm X M : St} {n : Nat} (h : zv_AI Sx Sm n X M) (l j : Nat) : gI X 3 l j = gI Sx 3 l j := h.2.2.2.1 3 l j (by decide) (by omega)
theorem zv_AIm {Sx Sm X M : St} {n : Nat} (h : zv_AI Sx Sm n X M) (f j : Nat) (hf : f = 22 ∨ f = 23) : gI M f 0 j = gI Sm f 0 j := h.2.2.2.2.2.2.1 f 0 j (by omega) (by omega)
theorem zv_t0 {Sx Sm X M : St} {l x n : Nat} (hc : zv_AC Sx Sm l x) (h : zv_AI Sx Sm n X M) (hn : n < 900) (m z : Nat) (hz : z = 0 ∨ z = 1 ∨ z = 3) (a : Int32) : ∃ X' M', F_X7_turns (m + 1) X l (nI z) a = some (a + nI l, X') ∧ F_X8_liftTurns M (nI l) a = some (a + nI l, M') ∧ zv_AI Sx Sm (n + 1) X' M' := by
  obtain ⟨hl, hx, e0, e2, e3, e4⟩ := hc
  obtain ⟨X', M', g1, g2, g3⟩ := zv_bg h hn 10
  refine ⟨X', M', ?_, ?_, g3⟩
  · rw [F_X7_turns.eq_2]
    have k1 : ¬ nI z = 2 := by rcases hz with rfl | rfl | rfl <;> decide
    have k2 : ¬ nI z = 4 := by rcases hz with rfl | rfl | rfl <;> decide
    have k3 : ¬ nI z = 5 := by rcases hz with rfl | rfl | rfl <;> decide
    have k4 : ¬ nI z = 6 := by rcases hz with rfl | rfl | rfl <;> decide
    simp only [k1, k2, k3, k4, reduceIte, g1, bnd]
    rw [zv_AIx g3, e0]
  · simp only [F_X8_liftTurns, g2, bnd]
theorem zv_tA {Sx Sm X M : St} {l x n : Nat} (hc : zv_AC Sx Sm l x) (h : zv_AI Sx Sm n X M) (hn : n < 800) (a : Int32) : ∃ r X' M' n', F_X7_turns 3 X l (nI x) a = some (r, X') ∧ F_X8_turnsAct M (nI l) a = some (r, M') ∧ zv_AI Sx Sm n' X' M' ∧ n' ≤ n + 2 := by
  have hc' := hc
  obtain ⟨hl, hx, e0, e2, e3, e4⟩ := hc
  have em := zv_AIm h 22 l (.inl rfl)
  rw [e4] at em
  have l0 := zv_nI0 l (by omega)
  have hx' : x = 0 ∨ x = 1 ∨ x = 2 ∨ x = 3 ∨ x = 4 ∨ x = 5 ∨ x = 6 := by omega
  unfold F_X8_turnsAct
  simp only [zv_nIcl (show l < 2147483648 by omega), l0, hl, and_self, reduceIte, em]
  rcases hx' with rfl | rfl | rfl | rfl | rfl | rfl | rfl
  · obtain ⟨X1, M1, g1, g2, g3⟩ := zv_t0 hc' h (by omega) 2 0 (by decide) a
    refine ⟨_, X1, M1, n + 1, g1, ?_, g3, by omega⟩
    simp only [show ¬ nI 0 = 2 by decide, show ¬ nI 0 = 4 by decide, show ¬ nI 0 = 5 by decide, show ¬ nI 0 = 6 by decide, reduceIte, g2, bnd]
  · obtain ⟨X1, M1, g1, g2, g3⟩ := zv_t0 hc' h (by omega) 2 1 (by decide) a
    refine ⟨_, X1, M1, n + 1, g1, ?_, g3, by omega⟩
    simp only [show ¬ nI 1 = 2 by decide, show ¬ nI 1 = 4 by decide, show ¬ nI 1 = 5 by decide, show ¬ nI 1 = 6 by decide, reduceIte, g2, bnd]
  · obtain ⟨X1, M1, g1, g2, g3⟩ := zv_bg h (by omega) 30
    obtain ⟨X2, M2, k1, k2, k3⟩ := zv_t0 hc' g3 (by omega) 1 0 (by decide) (a * 3)
    rw [show nI 0 = 0 from rfl] at k1
    refine ⟨a * 3 + nI l, X2, M2, n + 2, ?_, ?_, k3, by omega⟩
    rotate_left
    · simp only [eq_true (show nI 2 = 2 by decide), reduceIte, g2, k2, bnd]
    · rw [F_X7_turns.eq_2]
      simp only [eq_true (show nI 2 = 2 by decide), reduceIte, g1, k1, bnd]
  · obtain ⟨X1, M1, g1, g2, g3⟩ := zv_t0 hc' h (by omega) 2 3 (by decide) a
    refine ⟨_, X1, M1, n + 1, g1, ?_, g3, by omega⟩
    simp only [show ¬ nI 3 = 2 by decide, show ¬ nI 3 = 4 by decide, show ¬ nI 3 = 5 by decide, show ¬ nI 3 = 6 by decide, reduceIte, g2, bnd]
  · obtain ⟨X1, M1, g1, g2, g3⟩ := zv_bg h (by omega) 50
    obtain ⟨X2, M2, k1, k2, k3⟩ := zv_t0 hc' g3 (by omega) 1 1 (by decide) a
    rw [show nI 1 = 1 from rfl] at k1
    refine ⟨-(a + nI l), X2, M2, n + 2, ?_, ?_, k3, by omega⟩
    rotate_left
    · simp only [show ¬ nI 4 = 2 by decide, eq_true (show nI 4 = 4 by decide), reduceIte, g2, k2, bnd]
    · rw [F_X7_turns.eq_2]
      simp only [show ¬ nI 4 = 2 by decide, eq_true (show nI 4 = 4 by decide), reduceIte, g1, k1, bnd]
  · obtain ⟨X1, M1, g1, g2, g3⟩ := zv_bg h (by omega) 30
    obtain ⟨X2, M2, k1, k2, k3⟩ := zv_t0 hc' g3 (by omega) 1 0 (by decide) (a * 3)
    rw [show nI 0 = 0 from rfl] at k1
    refine ⟨a * 3 + nI l, X2, M2, n + 2, ?_, ?_, k3, by omega⟩
    rotate_left
    · simp only [show ¬ nI 5 = 2 by decide, show ¬ nI 5 = 4 by decide, eq_true (show nI 5 = 5 by decide), reduceIte, g2, k2, bnd]
    · rw [F_X7_turns.eq_2]
      simp only [show ¬ nI 5 = 2 by decide, show ¬ nI 5 = 4 by decide, eq_true (show nI 5 = 5 by decide), reduceIte, g1, k1, bnd]
  · obtain ⟨X1, M1, g1, g2, g3⟩ := zv_bg h (by omega) 71
    obtain ⟨X2, M2, k1, k2, k3⟩ := zv_t0 hc' g3 (by omega) 1 3 (by decide) a
    rw [show nI 3 = 3 from rfl] at k1
    have e5 : gI X2 3 l 3 = gI M2 23 0 l := by rw [zv_AIx k3, zv_AIm k3 23 l (.inr rfl), e3]
    refine ⟨(a + nI l) ^^^ gI X2 3 l 3, X2, M2, n + 2, ?_, ?_, k3, by omega⟩
    rotate_left
    · simp only [show ¬ nI 6 = 2 by decide, show ¬ nI 6 = 4 by decide, show ¬ nI 6 = 5 by decide, eq_true (show nI 6 = 6 by decide), reduceIte, g2, k2, bnd, ← e5]
    · rw [F_X7_turns.eq_2]
      simp only [show ¬ nI 6 = 2 by decide, show ¬ nI 6 = 4 by decide, show ¬ nI 6 = 5 by decide, eq_true (show nI 6 = 6 by decide), reduceIte, g1, k1, bnd]
theorem zv_c0 {Sx Sm X M : St} {l x n : Nat} (hc : zv_AC Sx Sm l x) (h : zv_AI Sx Sm n X M) (hn : n < 700) (m z : Nat) (hz : z = 0 ∨ z = 2 ∨ z = 3 ∨ z = 5) (a : Int32) : ∃ r X' M' n', F_X7_climbs (m + 1) X l (nI z) a = some (r, X') ∧ F_X8_liftClimbs M (nI l) a = some (r, M') ∧ zv_AI Sx Sm n' X' M' ∧ n' ≤ n + 3 := by
  have hc' := hc
  obtain ⟨hl, hx, e0, e2, e3, e4⟩ := hc
  obtain ⟨X1, M1, g1, g2, g3⟩ := zv_bg h (by omega) 11
  obtain ⟨r, X2, M2, n2, k1, k2, k3, k4⟩ := zv_tA hc' g3 (by omega) a
  have ek : gI X1 3 l 2 = nI x := by rw [zv_AIx g3, e2]
  have e5 : gI X2 3 l 3 = gI M2 23 0 l := by rw [zv_AIx k3, zv_AIm k3 23 l (.inr rfl), e3]
  have l0 := zv_nI0 l (by omega)
  have q1 : ¬ nI z = 1 := by rcases hz with rfl | rfl | rfl | rfl <;> decide
  have q2 : ¬ nI z = 4 := by rcases hz with rfl | rfl | rfl | rfl <;> decide
  have q3 : ¬ nI z = 6 := by rcases hz with rfl | rfl | rfl | rfl <;> decide
  refine ⟨r - gI X2 3 l 3, X2, M2, n2, ?_, ?_, k3, by omega⟩
  · rw [F_X7_climbs.eq_2]
    simp only [q1, q2, q3, reduceIte, g1, bnd, ek, k1]
  · unfold F_X8_liftClimbs
    simp only [g2, bnd, k2, zv_nIcl (show l < 2147483648 by omega), l0, hl, and_self, reduceIte, e5]
theorem zv_c1 {Sx Sm X M : St} {l x n : Nat} (hc : zv_AC Sx Sm l x) (h : zv_AI Sx Sm n X M) (hn : n < 600) (m : Nat) (a : Int32) : ∃ r X' M' n', F_X7_climbs (m + 2) X l (nI 1) a = some (r, X') ∧ F_X8_strongClimbs M (nI l) a = some (r, M') ∧ zv_AI Sx Sm n' X' M' ∧ n' ≤ n + 4 := by
  obtain ⟨X1, M1, g1, g2, g3⟩ := zv_bg h (by omega) 20
  obtain ⟨r, X2, M2, n2, k1, k2, k3, k4⟩ := zv_c0 hc g3 (by omega) m 0 (by decide) a
  rw [show nI 0 = 0 from rfl] at k1
  refine ⟨r ^^^ 6, X2, M2, n2, ?_, ?_, k3, by omega⟩
  · rw [F_X7_climbs.eq_2]
    simp only [eq_true (show nI 1 = 1 by decide), reduceIte, g1, bnd, k1]
  · unfold F_X8_strongClimbs
    simp only [g2, bnd, k2]
theorem zv_cA {Sx Sm X M : St} {l x n : Nat} (hc : zv_AC Sx Sm l x) (h : zv_AI Sx Sm n X M) (hn : n < 500) (a : Int32) : ∃ r X' M' n', F_X7_climbs 4 X l (nI x) a = some (r, X') ∧ F_X8_climbsAct M (nI l) a = some (r, M') ∧ zv_AI Sx Sm n' X' M' ∧ n' ≤ n + 5 := by
  have hc' := hc
  obtain ⟨hl, hx, e0, e2, e3, e4⟩ := hc
  have em := zv_AIm h 22 l (.inl rfl)
  rw [e4] at em
  have l0 := zv_nI0 l (by omega)
  have hx' : x = 0 ∨ x = 1 ∨ x = 2 ∨ x = 3 ∨ x = 4 ∨ x = 5 ∨ x = 6 := by omega
  unfold F_X8_climbsAct
  simp only [zv_nIcl (show l < 2147483648 by omega), l0, hl, and_self, reduceIte, em]
  have hd : ∀ z : Nat, z = 0 ∨ z = 2 ∨ z = 3 ∨ z = 5 → x = z → ∃ r X' M' n', F_X7_climbs 4 X l (nI z) a = some (r, X') ∧ (if nI z = 1 then (bnd (F_X8_strongClimbs M (nI l) a) (fun r4 S5 => some (r4, S5))) else (if nI z = 4 then (bnd (F_X8_body M (51 : Int32)) (fun r9 S10 => bnd (F_X8_strongClimbs S10 (nI l) (a + (1 : Int32))) (fun r13 S14 => some (r13, S14)))) else (if nI z = 6 then (bnd (F_X8_body M (70 : Int32)) (fun r18 S19 => bnd (F_X8_liftClimbs S19 (nI l) a) (fun r22 S23 => bnd (F_X8_liftTurns S23 (nI l) (2 : Int32)) (fun r26 S27 => some (r22 + r26, S27))))) else (bnd (F_X8_liftClimbs M (nI l) a) (fun r30 S31 => some (r30, S31)))))) = some (r, M') ∧ zv_AI Sx Sm n' X' M' ∧ n' ≤ n + 5 := by
    intro z hz _
    obtain ⟨r, X2, M2, n2, k1, k2, k3, k4⟩ := zv_c0 hc' h (by omega) 3 z hz a
    have q1 : ¬ nI z = 1 := by rcases hz with rfl | rfl | rfl | rfl <;> decide
    have q2 : ¬ nI z = 4 := by rcases hz with rfl | rfl | rfl | rfl <;> decide
    have q3 : ¬ nI z = 6 := by rcases hz with rfl | rfl | rfl | rfl <;> decide
    refine ⟨r, X2, M2, n2, k1, ?_, k3, by omega⟩
    simp only [q1, q2, q3, reduceIte, k2, bnd]
  rcases hx' with rfl | rfl | rfl | rfl | rfl | rfl | rfl
  · exact hd 0 (by decide) rfl
  · obtain ⟨r, X2, M2, n2, k1, k2, k3, k4⟩ := zv_c1 hc' h (by omega) 2 a
    refine ⟨r, X2, M2, n2, k1, ?_, k3, by omega⟩
    simp only [eq_true (show nI 1 = 1 by decide), reduceIte, k2, bnd]
  · exact hd 2 (by decide) rfl
  · exact hd 3 (by decide) rfl
  · obtain ⟨X1, M1, g1, g2, g3⟩ := zv_bg h (by omega) 51
    obtain ⟨r, X2, M2, n2, k1, k2, k3, k4⟩ := zv_c1 hc' g3 (by omega) 1 (a + 1)
    rw [show nI 1 = 1 from rfl] at k1
    refine ⟨r, X2, M2, n2, ?_, ?_, k3, by omega⟩
    · rw [F_X7_climbs.eq_2]
      simp only [show ¬ nI 4 = 1 by decide, eq_true (show nI 4 = 4 by decide), reduceIte, g1, bnd, k1]
    · simp only [show ¬ nI 4 = 1 by decide, eq_true (show nI 4 = 4 by decide), reduceIte, g2, bnd, k2]
  · exact hd 5 (by decide) rfl
  · obtain ⟨X1, M1, g1, g2, g3⟩ := zv_bg h (by omega) 70
    obtain ⟨r, X2, M2, n2, k1, k2, k3, k4⟩ := zv_c0 hc' g3 (by omega) 2 3 (by decide) a
    obtain ⟨X4, M4, j1, j2, j3⟩ := zv_t0 hc' k3 (by omega) 2 3 (by decide) 2
    rw [show nI 3 = 3 from rfl] at k1 j1
    refine ⟨r + (2 + nI l), X4, M4, n2 + 1, ?_, ?_, j3, by omega⟩
    · rw [F_X7_climbs.eq_2]
      simp only [show ¬ nI 6 = 1 by decide, show ¬ nI 6 = 4 by decide, eq_true (show nI 6 = 6 by decide), reduceIte, g1, bnd, k1, j1]
    · simp only [show ¬ nI 6 = 1 by decide, show ¬ nI 6 = 4 by decide, eq_true (show nI 6 = 6 by decide), reduceIte, g2, bnd, k2, j2]
theorem zv_l0_ {Sx Sm X M : St} {l x n : Nat} (hc : zv_AC Sx Sm l x) (h : zv_AI Sx Sm n X M) (hn : n < 400) (m z : Nat) (hz : z = 0 ∨ z = 1 ∨ z = 2 ∨ z = 4) (a : Int32) : ∃ r X' M' n', F_X7_tells (m + 1) X l (nI z) a = some (r, X') ∧ F_X8_liftTells M (nI l) a = some (r, M') ∧ zv_AI Sx Sm n' X' M' ∧ n' ≤ n + 6 := by
  obtain ⟨X1, M1, g1, g2, g3⟩ := zv_bg h (by omega) 12
  obtain ⟨r, X2, M2, n2, k1, k2, k3, k4⟩ := zv_cA hc g3 (by omega) a
  have ek : gI X1 3 l 2 = nI x := by rw [zv_AIx g3, hc.2.2.2.1]
  have q1 : ¬ nI z = 3 := by rcases hz with rfl | rfl | rfl | rfl <;> decide
  have q2 : ¬ nI z = 5 := by rcases hz with rfl | rfl | rfl | rfl <;> decide
  have q3 : ¬ nI z = 6 := by rcases hz with rfl | rfl | rfl | rfl <;> decide
  refine ⟨r * 2, X2, M2, n2, ?_, ?_, k3, by omega⟩
  · rw [F_X7_tells.eq_2]
    simp only [q1, q2, q3, reduceIte, g1, bnd, ek, k1]
  · unfold F_X8_liftTells
    simp only [g2, bnd, k2]
theorem zv_lA {Sx Sm X M : St} {l x n : Nat} (hc : zv_AC Sx Sm l x) (h : zv_AI Sx Sm n X M) (hn : n < 300) (a : Int32) : ∃ r X' M' n', F_X7_tells 3 X l (nI x) a = some (r, X') ∧ F_X8_tellsAct M (nI l) a = some (r, M') ∧ zv_AI Sx Sm n' X' M' ∧ n' ≤ n + 13 := by
  have hc' := hc
  obtain ⟨hl, hx, e0, e2, e3, e4⟩ := hc
  have em := zv_AIm h 22 l (.inl rfl)
  rw [e4] at em
  have l0 := zv_nI0 l (by omega)
  have hx' : (x = 0 ∨ x = 1 ∨ x = 2 ∨ x = 4) ∨ x = 3 ∨ x = 5 ∨ x = 6 := by omega
  unfold F_X8_tellsAct
  simp only [zv_nIcl (show l < 2147483648 by omega), l0, hl, and_self, reduceIte, em]
  rcases hx' with hz | rfl | rfl | rfl
  · obtain ⟨r, X2, M2, n2, k1, k2, k3, k4⟩ := zv_l0_ hc' h (by omega) 2 x hz a
    have q1 : ¬ nI x = 3 := by rcases hz with rfl | rfl | rfl | rfl <;> decide
    have q2 : ¬ nI x = 5 := by rcases hz with rfl | rfl | rfl | rfl <;> decide
    have q3 : ¬ nI x = 6 := by rcases hz with rfl | rfl | rfl | rfl <;> decide
    refine ⟨r, X2, M2, n2, k1, ?_, k3, by omega⟩
    simp only [q1, q2, q3, reduceIte, k2, bnd]
  · obtain ⟨X1, M1, g1, g2, g3⟩ := zv_bg h (by omega) 40
    obtain ⟨r, X2, M2, n2, k1, k2, k3, k4⟩ := zv_l0_ hc' g3 (by omega) 1 0 (by decide) a
    obtain ⟨r', X4, M4, n4, j1, j2, j3, j4⟩ := zv_cA hc' k3 (by omega) 1
    have ek : gI X2 3 l 2 = nI 3 := by rw [zv_AIx k3, e2]
    rw [show nI 0 = 0 from rfl] at k1
    refine ⟨r + r', X4, M4, n4, ?_, ?_, j3, by omega⟩
    · rw [F_X7_tells.eq_2]
      simp only [eq_true (show nI 3 = 3 by decide), reduceIte, g1, bnd, k1, ek, j1]
    · simp only [eq_true (show nI 3 = 3 by decide), reduceIte, g2, bnd, k2, j2]
  · obtain ⟨X1, M1, g1, g2, g3⟩ := zv_bg h (by omega) 60
    have en : gI X1 3 l 0 = nI l := by rw [zv_AIx g3, e0]
    obtain ⟨r, X2, M2, n2, k1, k2, k3, k4⟩ := zv_l0_ hc' g3 (by omega) 1 2 (by decide) (a - nI l)
    rw [show nI 2 = 2 from rfl] at k1
    refine ⟨r, X2, M2, n2, ?_, ?_, k3, by omega⟩
    · rw [F_X7_tells.eq_2]
      simp only [show ¬ nI 5 = 3 by decide, eq_true (show nI 5 = 5 by decide), reduceIte, g1, bnd, en, k1]
    · simp only [show ¬ nI 5 = 3 by decide, eq_true (show nI 5 = 5 by decide), reduceIte, g2, bnd, k2]
  · obtain ⟨X1, M1, g1, g2, g3⟩ := zv_bg h (by omega) 40
    obtain ⟨r, X2, M2, n2, k1, k2, k3, k4⟩ := zv_l0_ hc' g3 (by omega) 1 0 (by decide) a
    obtain ⟨r', X4, M4, n4, j1, j2, j3, j4⟩ := zv_cA hc' k3 (by omega) 1
    have ek : gI X2 3 l 2 = nI 6 := by rw [zv_AIx k3, e2]
    rw [show nI 0 = 0 from rfl] at k1
    refine ⟨r + r', X4, M4, n4, ?_, ?_, j3, by omega⟩
    · rw [F_X7_tells.eq_2]
      simp only [show ¬ nI 6 = 3 by decide, show ¬ nI 6 = 5 by decide, eq_true (show nI 6 = 6 by decide), reduceIte, g1, bnd, k1, ek, j1]
    · simp only [show ¬ nI 6 = 3 by decide, show ¬ nI 6 = 5 by decide, eq_true (show nI 6 = 6 by decide), reduceIte, g2, bnd, k2, j2]
theorem zv_act_R {k q : Nat} {cs : Nat → List zv_Cl} {Sx Sm X M : St} {n : Nat} (hW : zv_RW k q cs Sx Sm) (h : zv_AI Sx Sm n X M) (hn : n ≤ 1000) : zv_RW k q cs X M := by
  obtain ⟨w1, w2, w3, w4, w5, w6, w7, zv_w8, w9, w10, ⟨c, u1, u2, u3, u4, u5, u6, u7, u8, u9, u10, u11⟩, w12⟩ := hW
  obtain ⟨h1, h2, h3, h4, h5, h6, h7, h8⟩ := h
  have fx : ∀ f, f ≠ 10 → f ≠ 7 → gI X f = gI Sx f := fun f hf hf' => by funext i j; exact h4 f i j hf (by omega)
  have fm : ∀ f, f ≠ 52 → f ≠ 8 → gI M f = gI Sm f := fun f hf hf' => by funext i j; exact h7 f i j hf (by omega)
  have f8 : ∀ j, j ≠ 65 → gI M 8 0 j = gI Sm 8 0 j := fun j hj => h7 8 0 j (by decide) (by omega)
  have f7 : ∀ j, j ≠ 9 → gI X 7 0 j = gI Sx 7 0 j := fun j hj => h4 7 0 j (by decide) (by omega)
  simp only [zv_RW, zv_S0, zv_S1, zv_SR, fx, fm, f8, f7, h5, h6, h8, zv_gI_f, zv_gI_i, gI_sI, zv_gJ_f, zv_gIc_f, zv_gIc_i, zv_kJ_sI, zv_kR_sI, zv_kI_sJ, zv_kR_sJ, zv_kI_sR, zv_kJ_sR, zv_kJ_cI, zv_kR_cI, zv_kI_cJ, zv_kR_cJ, ne_eq, Nat.reduceEqDiff, Nat.reduceMul, Nat.reduceAdd, not_false_eq_true, not_true_eq_false, false_and, and_false, and_true, true_and, and_self, reduceIte, Nat.one_ne_zero, Nat.zero_ne_one, Nat.zero_add, Nat.mul_zero]
  exact ⟨w1, w2, w3, w4, ⟨n, hn, h1, h2, h3⟩, w6, w7, zv_w8, w9, w10, ⟨c, u1, u2, u3, u4, u5, u6, u7, u8, u9, u10, u11⟩, w12⟩
theorem m_act {k : Nat} {Sx Sm : St} (hR : Rel k Sx Sm) (a1 : Int32) (a2 : Int32) (a3 : Int32) : ∃ (r : Int32) (Sx' Sm' : St), F_X7_act Sx a1 a2 a3 = some (r, Sx') ∧ F_X8_act Sm a1 a2 a3 = some (r, Sm') ∧ Rel k Sx' Sm' := by
  obtain ⟨q, cs, hW⟩ := hR
  have hW0 := hW
  obtain ⟨w1, w2, w3, w4, w5, w6, w7, zv_w8, w9, w10, ⟨c, u1, u2, u3, u4, u5, u6, u7, u8, u9, u10, u11⟩, w12⟩ := hW
  have hA : zv_AI Sx Sm 0 (sI Sx 7 0 9 0) (sI Sm 8 0 65 0) := by
    refine ⟨by simp only [gI_sI, zv_gI_f, zv_gI_i, gI_sI, zv_gJ_f, zv_gIc_f, zv_gIc_i, zv_kJ_sI, zv_kR_sI, zv_kI_sJ, zv_kR_sJ, zv_kI_sR, zv_kJ_sR, zv_kJ_cI, zv_kR_cI, zv_kI_cJ, zv_kR_cJ, ne_eq, Nat.reduceEqDiff, Nat.reduceMul, Nat.reduceAdd, not_false_eq_true, not_true_eq_false, false_and, and_false, and_true, true_and, and_self, reduceIte, Nat.one_ne_zero, Nat.zero_ne_one, Nat.zero_add, Nat.mul_zero]; rfl, by simp only [gI_sI, zv_gI_f, zv_gI_i, gI_sI, zv_gJ_f, zv_gIc_f, zv_gIc_i, zv_kJ_sI, zv_kR_sI, zv_kI_sJ, zv_kR_sJ, zv_kI_sR, zv_kJ_sR, zv_kJ_cI, zv_kR_cI, zv_kI_cJ, zv_kR_cJ, ne_eq, Nat.reduceEqDiff, Nat.reduceMul, Nat.reduceAdd, not_false_eq_true, not_true_eq_false, false_and, and_false, and_true, true_and, and_self, reduceIte, Nat.one_ne_zero, Nat.zero_ne_one, Nat.zero_add, Nat.mul_zero]; rfl, fun i hi => absurd hi (Nat.not_lt_zero _), fun f i j hf hj => by rw [gI_sI, if_neg hj], rfl, rfl, fun f i j hf hj => by rw [gI_sI, if_neg hj], rfl⟩
  have hR0 : Rel k (sI Sx 7 0 9 0) (sI Sm 8 0 65 0) := ⟨q, cs, zv_act_R hW0 hA (by decide)⟩
  have e5 : gI (sI Sx 7 0 9 0) 5 0 5 = nI c := by simp only [gI_sI, zv_gI_f, zv_gI_i, gI_sI, zv_gJ_f, zv_gIc_f, zv_gIc_i, zv_kJ_sI, zv_kR_sI, zv_kI_sJ, zv_kR_sJ, zv_kI_sR, zv_kJ_sR, zv_kJ_cI, zv_kR_cI, zv_kI_cJ, zv_kR_cJ, ne_eq, Nat.reduceEqDiff, Nat.reduceMul, Nat.reduceAdd, not_false_eq_true, not_true_eq_false, false_and, and_false, and_true, true_and, and_self, reduceIte, Nat.one_ne_zero, Nat.zero_ne_one, Nat.zero_add, Nat.mul_zero]; exact u1.2.1
  have e8 : gI (sI Sm 8 0 65 0) 8 0 0 = nI c := by simp only [gI_sI, zv_gI_f, zv_gI_i, gI_sI, zv_gJ_f, zv_gIc_f, zv_gIc_i, zv_kJ_sI, zv_kR_sI, zv_kI_sJ, zv_kR_sJ, zv_kI_sR, zv_kJ_sR, zv_kJ_cI, zv_kR_cI, zv_kI_cJ, zv_kR_cJ, ne_eq, Nat.reduceEqDiff, Nat.reduceMul, Nat.reduceAdd, not_false_eq_true, not_true_eq_false, false_and, and_false, and_true, true_and, and_self, reduceIte, Nat.one_ne_zero, Nat.zero_ne_one, Nat.zero_add, Nat.mul_zero]; exact u1.2.2
  simp only [F_X7_act, F_X8_act, zv_x7_isL, zv_x8_isL e8 u1.1, zv_x8_in, bnd, zv_if10, e5]
  by_cases h1 : 0 ≤ a1 ∧ a1 < nI c
  · simp only [if_pos h1]
    have hc := u1.1
    obtain ⟨l, hl, rfl⟩ := zv_asN h1.1 h1.2 (by omega)
    have hb := u2 l hl
    simp only [Nat.mul_zero, Nat.zero_add] at hb
    obtain ⟨x, hx, ex⟩ := zv_asW (c := 6) hb.2.2.2.2.1 (by have := hb.2.2.2.2.2.1; simp only [Int32.le_iff_toInt_le, Int32.lt_iff_toInt_lt, ← Int32.toInt_inj, zv_ia, zv_is_, zv_im, zv_ing, zv_iit, Int32.reduceToInt] at this; omega)
    have en := w9 l (by omega)
    rw [Nat.mod_eq_of_lt (by omega)] at en
    have hC : zv_AC Sx Sm l x := ⟨by omega, by omega, en, hb.1.trans ex, hb.2.1, ex⟩
    have ek : gI (sI Sx 7 0 9 0) 3 l 2 = nI x := by simp only [gI_sI, zv_gI_f, zv_gI_i, gI_sI, zv_gJ_f, zv_gIc_f, zv_gIc_i, zv_kJ_sI, zv_kR_sI, zv_kI_sJ, zv_kR_sJ, zv_kI_sR, zv_kJ_sR, zv_kJ_cI, zv_kR_cI, zv_kI_cJ, zv_kR_cJ, ne_eq, Nat.reduceEqDiff, Nat.reduceMul, Nat.reduceAdd, not_false_eq_true, not_true_eq_false, false_and, and_false, and_true, true_and, and_self, reduceIte, Nat.one_ne_zero, Nat.zero_ne_one, Nat.zero_add, Nat.mul_zero]; exact hb.1.trans ex
    have l0 := zv_nI0 l (by omega)
    have l6 : l < 6 := by omega
    simp only [zv_nIcl (show l < 2147483648 by omega), l0, l6, and_self, reduceIte, Nat.mul_zero, Nat.zero_add, ek]
    by_cases a0 : a2 = 0
    · subst a0
      obtain ⟨r, X, M, n', g1, g2, g3, g4⟩ := zv_tA hC hA (by decide) a3
      simp only [g1, g2, bnd, show (0 : Int32) ≤ 0 ∧ (0 : Int32) ≤ 2 by decide, and_self, reduceIte]
      exact ⟨r, X, M, rfl, rfl, q, cs, zv_act_R hW0 g3 (by omega)⟩
    · by_cases a1 : a2 = 1
      · subst a1
        obtain ⟨r, X, M, n', g1, g2, g3, g4⟩ := zv_cA hC hA (by decide) a3
        simp only [g1, g2, bnd, show (0 : Int32) ≤ 1 ∧ (1 : Int32) ≤ 2 by decide, and_self, reduceIte, zv_z10]
        exact ⟨r, X, M, rfl, rfl, q, cs, zv_act_R hW0 g3 (by omega)⟩
      · by_cases a2' : a2 = 2
        · subst a2'
          obtain ⟨r, X, M, n', g1, g2, g3, g4⟩ := zv_lA hC hA (by decide) a3
          simp only [g1, g2, bnd, show (0 : Int32) ≤ 2 ∧ (2 : Int32) ≤ 2 by decide, and_self, reduceIte, a0, a1]
          exact ⟨r, X, M, rfl, rfl, q, cs, zv_act_R hW0 g3 (by omega)⟩
        · have hn : ¬ (0 ≤ a2 ∧ a2 ≤ 2) := by
            simp only [Int32.le_iff_toInt_le, Int32.lt_iff_toInt_lt, ← Int32.toInt_inj, zv_ia, zv_is_, zv_im, zv_ing, zv_iit, Int32.reduceToInt] at *; omega
          simp only [a0, a1, a2', hn, reduceIte]
          exact ⟨_, _, _, rfl, rfl, hR0⟩
  · simp only [if_neg h1]
    exact ⟨_, _, _, rfl, rfl, hR0⟩
