theorem zv_kJ_sI {S : St} {f i j : Nat} {x : Int32} : gJ (sI S f i j x) = gJ S := rfl
theorem zv_kR_sI {S : St} {f i j : Nat} {x : Int32} : gR (sI S f i j x) = gR S := rfl
theorem zv_kI_sJ {S : St} {f i j : Nat} {x : Int64} : gI (sJ S f i j x) = gI S := rfl
theorem zv_kR_sJ {S : St} {f i j : Nat} {x : Int64} : gR (sJ S f i j x) = gR S := rfl
theorem zv_kI_sR {S : St} {f i j : Nat} {x : Option Nat} : gI (sR S f i j x) = gI S := rfl
theorem zv_kJ_sR {S : St} {f i j : Nat} {x : Option Nat} : gJ (sR S f i j x) = gJ S := rfl
theorem zv_kJ_cI {S : St} {f i : Nat} {g : Nat → Int32} : gJ (cI S f i g) = gJ S := rfl
theorem zv_kR_cI {S : St} {f i : Nat} {g : Nat → Int32} : gR (cI S f i g) = gR S := rfl
theorem zv_kI_cJ {S : St} {f i : Nat} {g : Nat → Int64} : gI (cJ S f i g) = gI S := rfl
theorem zv_kR_cJ {S : St} {f i : Nat} {g : Nat → Int64} : gR (cJ S f i g) = gR S := rfl
theorem zv_gI_f {S : St} {f i j : Nat} {x : Int32} {a : Nat} (h : a ≠ f) : gI (sI S f i j x) a = gI S a := funext fun b => gI_ne (fun q => h q.1)
theorem zv_gI_i {S : St} {f i j : Nat} {x : Int32} {a b : Nat} (h : b ≠ i) : gI (sI S f i j x) a b = gI S a b := gI_ne (fun q => h q.2)
theorem zv_gJ_f {S : St} {f i j : Nat} {x : Int64} {a : Nat} (h : a ≠ f) : gJ (sJ S f i j x) a = gJ S a := funext fun b => gJ_ne (fun q => h q.1)
theorem zv_gR_f {S : St} {f i j : Nat} {x : Option Nat} {a : Nat} (h : a ≠ f) : gR (sR S f i j x) a = gR S a := funext fun b => gR_ne (fun q => h q.1)
theorem zv_gIc_f {S : St} {f i : Nat} {g : Nat → Int32} {a : Nat} (h : a ≠ f) : gI (cI S f i g) a = gI S a := funext fun b => gI_cI_ne (fun q => h q.1)
theorem zv_gIc_i {S : St} {f i : Nat} {g : Nat → Int32} {a b : Nat} (h : b ≠ i) : gI (cI S f i g) a b = gI S a b := gI_cI_ne (fun q => h q.2)
theorem zv_gJc_f {S : St} {f i : Nat} {g : Nat → Int64} {a : Nat} (h : a ≠ f) : gJ (cJ S f i g) a = gJ S a := funext fun b => gJ_cJ_ne (fun q => h q.1)
theorem zv_x8_in (S : St) (a b c : Int32) : F_X8_in S a b c = some (if b ≤ a ∧ a ≤ c then 1 else 0, S) := by
  unfold F_X8_in
  simp only [Int32.le_iff_toInt_le, Int32.lt_iff_toInt_lt]
  (repeat' split) <;> first | rfl | (exfalso; omega)
theorem zv_x7_in (S : St) (a b c : Int32) : F_X7_isWithin S a b c = some (if b ≤ a ∧ a ≤ c then 1 else 0, S) := by
  unfold F_X7_isWithin
  simp only [Int32.le_iff_toInt_le, Int32.lt_iff_toInt_lt]
  (repeat' split) <;> first | rfl | (exfalso; omega)
theorem zv_z10 : ¬ ((1 : Int32) = 0) := by decide
theorem zv_if10 {α : Type} (p : Prop) [Decidable p] (a b : α) : (if (if p then (1 : Int32) else 0) = 0 then a else b) = if p then b else a := by
  by_cases h : p
  · rw [if_pos h, if_pos h, if_neg zv_z10]
  · rw [if_neg h, if_neg h, if_pos rfl]
theorem m_home {k : Nat} {Sx Sm : St} (hR : Rel k Sx Sm) (a1 : Int32) : ∃ (r : Int32) (Sx' Sm' : St), F_X7_home Sx a1 = some (r, Sx') ∧ F_X8_home Sm a1 = some (r, Sm') ∧ Rel k Sx' Sm' := by
  have hR0 := hR
  obtain ⟨q, cs, w1, w2, w3, w4, w5, w6, w7, zv_w8, w9, w10, ⟨c, u1, u2, u3, u4, u5, u6, u7, u8, u9, u10, u11⟩, w12⟩ := hR
  simp only [F_X7_home, F_X8_home, F_X7_isMile, F_X8_isMile, zv_x7_in, zv_x8_in, bnd, zv_if10]
  by_cases h : 0 ≤ a1 ∧ a1 ≤ 99
  · simp only [if_pos h]
    refine ⟨_, _, _, rfl, by rw [u5.1], q, cs, ?_⟩
    simp only [zv_RW, zv_S0, zv_S1, zv_SR, zv_gI_f, zv_gI_i, gI_sI, zv_kJ_sI, zv_kR_sI, ne_eq, Nat.reduceEqDiff, Nat.reduceMul, Nat.reduceAdd, not_false_eq_true, false_and, and_false, and_true, true_and, reduceIte, Nat.one_ne_zero, Nat.zero_ne_one]
    exact ⟨w1, w2, w3, w4, w5, w6, w7, zv_w8, w9, w10, ⟨c, u1, u2, u3, u4, ⟨rfl, h⟩, u6, u7, u8, u9, u10, u11⟩, w12⟩
  · simp only [if_neg h]
    exact ⟨_, _, _, rfl, rfl, hR0⟩
theorem zv_nI0 (n : Nat) (h : n < 2147483648) : 0 ≤ nI n := by
  rw [Int32.le_iff_toInt_le, zv_iN h]; simp only [Int32.reduceToInt]; omega
theorem zv_nIlt {a b : Nat} (ha : a < 2147483648) (hb : b < 2147483648) : (nI a < nI b) ↔ a < b := by
  rw [Int32.lt_iff_toInt_lt, zv_iN ha, zv_iN hb]; omega
theorem zv_nIle {a b : Nat} (ha : a < 2147483648) (hb : b < 2147483648) : (nI a ≤ nI b) ↔ a ≤ b := by
  rw [Int32.le_iff_toInt_le, zv_iN ha, zv_iN hb]; omega
theorem zv_nIeq {a b : Nat} (ha : a < 2147483648) (hb : b < 2147483648) : (nI a = nI b) ↔ a = b := by
  rw [← Int32.toInt_inj, zv_iN ha, zv_iN hb]; omega
theorem zv_gd {l N : Nat} (h : l < N) (hN : N ≤ 100000 := by decide) : 0 ≤ nI l ∧ (nI l).toNatClampNeg < N := ⟨zv_nI0 l (by omega), by rw [zv_nIcl (by omega)]; exact h⟩
theorem zv_asN {x : Int32} {c : Nat} (h : 0 ≤ x) (h2 : x < nI c) (hc : c < 2147483648) : ∃ l, l < c ∧ x = nI l := by
  have := zv_icl x
  rw [Int32.lt_iff_toInt_lt, zv_iN hc] at h2
  rw [Int32.le_iff_toInt_le] at h
  simp only [Int32.reduceToInt] at h
  refine ⟨x.toNatClampNeg, ?_, zv_inI _ _ ?_⟩
  · split at this <;> omega
  · split at this <;> omega
theorem zv_x7_isL (S : St) (a : Int32) : F_X7_isLift S a = some (if 0 ≤ a ∧ a < gI S 5 0 5 then 1 else 0, S) := by
  unfold F_X7_isLift
  simp only [Int32.le_iff_toInt_le, Int32.lt_iff_toInt_lt]
  (repeat' split) <;> first | rfl | (exfalso; omega)
theorem zv_x8_isL {S : St} {c : Nat} (h : gI S 8 0 0 = nI c) (hc : c ≤ 6) (a : Int32) : F_X8_isLift S a = some (if 0 ≤ a ∧ a < nI c then 1 else 0, S) := by
  unfold F_X8_isLift
  rw [zv_x8_in, h]
  simp only [bnd]
  have e : (a ≤ nI c - 1) ↔ a < nI c := by
    simp only [Int32.le_iff_toInt_le, Int32.lt_iff_toInt_lt, ← Int32.toInt_inj, zv_ia, zv_is_, zv_im, zv_ing, zv_iit, Int32.reduceToInt]
    rw [zv_iN (by omega)]
    have := zv_iB a
    omega
  simp only [e]
theorem zv_x8_isM (S : St) (a : Int32) : F_X8_isMile S a = some (if 0 ≤ a ∧ a ≤ 99 then 1 else 0, S) := by simp only [F_X8_isMile, zv_x8_in, bnd]
theorem zv_x8_isP (S : St) (a : Int32) : F_X8_isPace S a = some (if 1 ≤ a ∧ a ≤ 9 then 1 else 0, S) := by simp only [F_X8_isPace, zv_x8_in, bnd]
theorem zv_x8_isT (S : St) (a : Int32) : F_X8_isTime S a = some (if 0 ≤ a ∧ a ≤ 60 then 1 else 0, S) := by simp only [F_X8_isTime, zv_x8_in, bnd]
theorem zv_x7_isM (S : St) (a : Int32) : F_X7_isMile S a = some (if 0 ≤ a ∧ a ≤ 99 then 1 else 0, S) := by simp only [F_X7_isMile, zv_x7_in, bnd]
theorem zv_x7_isP (S : St) (a : Int32) : F_X7_isPace S a = some (if 1 ≤ a ∧ a ≤ 9 then 1 else 0, S) := by simp only [F_X7_isPace, zv_x7_in, bnd]
theorem zv_x7_isK (S : St) (a : Int32) : F_X7_isKind S a = some (if 0 ≤ a ∧ a ≤ 6 then 1 else 0, S) := by simp only [F_X7_isKind, zv_x7_in, bnd]
theorem m_height {k : Nat} {Sx Sm : St} (hR : Rel k Sx Sm) (a1 : Int32) : ∃ (r : Int32) (Sx' Sm' : St), F_X7_height Sx a1 = some (r, Sx') ∧ F_X8_height Sm a1 = some (r, Sm') ∧ Rel k Sx' Sm' := by
  have hR0 := hR
  obtain ⟨q, cs, w1, w2, w3, w4, w5, w6, w7, zv_w8, w9, w10, ⟨c, u1, u2, u3, u4, u5, u6, u7, u8, u9, u10, u11⟩, w12⟩ := hR
  simp only [F_X7_height, F_X8_height, zv_x7_in, zv_x8_in, bnd, zv_if10]
  by_cases h : 0 ≤ a1 ∧ a1 ≤ 400
  · simp only [if_pos h]
    obtain ⟨g1, g2, g3, g4, g5, g6, g7, g8⟩ := u3
    refine ⟨_, _, _, rfl, by rw [g3], q, cs, ?_⟩
    simp only [zv_RW, zv_S0, zv_S1, zv_SR, zv_SG, zv_gI_f, zv_gI_i, gI_sI, zv_gJ_f, zv_gIc_f, zv_gIc_i, zv_kJ_sI, zv_kR_sI, zv_kI_sJ, zv_kR_sJ, zv_kI_sR, zv_kJ_sR, zv_kJ_cI, zv_kR_cI, zv_kI_cJ, zv_kR_cJ, ne_eq, Nat.reduceEqDiff, Nat.reduceMul, Nat.reduceAdd, not_false_eq_true, not_true_eq_false, false_and, and_false, and_true, true_and, and_self, reduceIte, Nat.one_ne_zero, Nat.zero_ne_one, Nat.zero_add, Nat.mul_zero]
    exact ⟨w1, w2, w3, w4, w5, w6, w7, zv_w8, w9, w10, ⟨c, u1, u2, ⟨g1, g2, g4, g5, g6, g7, h⟩, u4, u5, u6, u7, u8, u9, u10, u11⟩, w12⟩
  · simp only [if_neg h]
    exact ⟨_, _, _, rfl, rfl, hR0⟩
theorem m_count {k : Nat} {Sx Sm : St} (hR : Rel k Sx Sm) (a1 : Int32) : ∃ (r : Int32) (Sx' Sm' : St), F_X7_count Sx a1 = some (r, Sx') ∧ F_X8_count Sm a1 = some (r, Sm') ∧ Rel k Sx' Sm' := by
  have hR0 := hR
  obtain ⟨q, cs, w1, w2, w3, w4, w5, w6, w7, zv_w8, w9, w10, ⟨c, u1, u2, u3, u4, u5, u6, u7, u8, u9, u10, u11⟩, w12⟩ := hR
  simp only [F_X7_count, F_X8_count]
  obtain ⟨n7, -, e71, e72, -⟩ := u7
  obtain ⟨n9, -, e91, e92, -⟩ := u9
  obtain ⟨n10, -, e101, e102, -⟩ := u10
  obtain ⟨n4, -, e41, e42, -⟩ := w4
  obtain ⟨n5, -, e51, e52, -⟩ := w5
  rw [u1.2.1, u1.2.2, w1.2.2.2.1, w1.2.2.2.2, e41, e42, e51, e52, show gI Sx 4 0 2 = nI n7 from e71, e72, show gI Sx 4 1 2 = nI n9 from e91, e92, show gI Sx 4 2 2 = nI n10 from e101, e102]
  (repeat' split) <;> exact ⟨_, _, _, rfl, rfl, hR0⟩
theorem m_trace {k : Nat} {Sx Sm : St} (hR : Rel k Sx Sm) (a1 : Int32) : ∃ (r : Int32) (Sx' Sm' : St), F_X7_trace Sx a1 = some (r, Sx') ∧ F_X8_trace Sm a1 = some (r, Sm') ∧ Rel k Sx' Sm' := by
  have hR0 := hR
  obtain ⟨q, cs, w1, w2, w3, w4, w5, w6, w7, zv_w8, w9, w10, ⟨c, u1, u2, u3, u4, u5, u6, u7, u8, u9, u10, u11⟩, w12⟩ := hR
  obtain ⟨n5, hn, e51, e52, e53⟩ := w5
  simp only [F_X7_trace, F_X8_trace, zv_x8_in, bnd, zv_if10]
  rw [e51, e52]
  by_cases h1 : a1 < 0
  · rw [if_pos h1, if_neg (by simp only [Int32.le_iff_toInt_le, Int32.lt_iff_toInt_lt, ← Int32.toInt_inj, zv_ia, zv_is_, zv_im, zv_ing, zv_iit, Int32.reduceToInt] at *; omega)]
    exact ⟨_, _, _, rfl, rfl, hR0⟩
  · rw [if_neg h1]
    by_cases h2 : nI n5 ≤ a1
    · rw [if_pos h2]
      by_cases h3 : 0 ≤ a1 ∧ a1 ≤ 19
      · rw [if_pos h3, if_pos h2]
        exact ⟨_, _, _, rfl, rfl, hR0⟩
      · rw [if_neg h3]
        exact ⟨_, _, _, rfl, rfl, hR0⟩
    · rw [if_neg h2]
      by_cases h3 : 20 ≤ a1
      · rw [if_pos h3, if_neg (by simp only [Int32.le_iff_toInt_le, Int32.lt_iff_toInt_lt, ← Int32.toInt_inj, zv_ia, zv_is_, zv_im, zv_ing, zv_iit, Int32.reduceToInt] at *; omega)]
        exact ⟨_, _, _, rfl, rfl, hR0⟩
      · have a0 : 0 ≤ a1 := by simp only [Int32.le_iff_toInt_le, Int32.lt_iff_toInt_lt, ← Int32.toInt_inj, zv_ia, zv_is_, zv_im, zv_ing, zv_iit, Int32.reduceToInt] at *; omega
        obtain ⟨l, hl, rfl⟩ := zv_asN (c := 20) (x := a1) a0 (by show a1 < 20; simp only [Int32.le_iff_toInt_le, Int32.lt_iff_toInt_lt, ← Int32.toInt_inj, zv_ia, zv_is_, zv_im, zv_ing, zv_iit, Int32.reduceToInt] at *; omega) (by decide)
        rw [if_neg h3, if_pos (zv_gd hl), if_pos ⟨a0, by simp only [Int32.le_iff_toInt_le, Int32.lt_iff_toInt_lt, ← Int32.toInt_inj, zv_ia, zv_is_, zv_im, zv_ing, zv_iit, Int32.reduceToInt] at *; omega⟩, if_neg h2, if_pos (zv_gd hl), zv_nIcl (by omega), e53 l (by rw [zv_nIle (by omega) (by omega)] at h2; omega) hl]
        exact ⟨_, _, _, rfl, rfl, hR0⟩
theorem m_pull {k : Nat} {Sx Sm : St} (hR : Rel k Sx Sm) (a1 : Int32) (a2 : Int32) : ∃ (r : Int32) (Sx' Sm' : St), F_X7_pull Sx a1 a2 = some (r, Sx') ∧ F_X8_pull Sm a1 a2 = some (r, Sm') ∧ Rel k Sx' Sm' := by
  have hR0 := hR
  obtain ⟨q, cs, w1, w2, w3, w4, w5, w6, w7, zv_w8, w9, w10, ⟨c, u1, u2, u3, u4, u5, u6, u7, u8, u9, u10, u11⟩, w12⟩ := hR
  simp only [F_X7_pull, F_X8_pull, zv_x7_in, zv_x8_in, zv_x7_isL, zv_x8_isL u1.2.2 u1.1, bnd, zv_if10, u1.2.1]
  by_cases h : 0 ≤ a1 ∧ a1 < nI c
  · simp only [if_pos h]
    by_cases h2 : 0 ≤ a2 ∧ a2 ≤ 20
    · obtain ⟨l, hl, rfl⟩ := zv_asN h.1 h.2 (by have := u1.1; omega)
      have hc := u1.1
      have e0 := zv_nI0 l (by omega)
      have e6 : l < 6 := by omega
      simp only [if_pos h2, zv_nIcl (show l < 2147483648 by omega), e0, e6, and_self, reduceIte, Nat.mul_zero, Nat.zero_add]
      refine ⟨_, _, _, rfl, by rw [← (u2 l hl).2.2.2.1, Nat.mul_zero, Nat.zero_add], q, cs, ?_⟩
      simp only [zv_RW, zv_S0, zv_S1, zv_SR, zv_gI_f, zv_gI_i, gI_sI, zv_gJ_f, zv_gIc_f, zv_gIc_i, zv_kJ_sI, zv_kR_sI, zv_kI_sJ, zv_kR_sJ, zv_kI_sR, zv_kJ_sR, zv_kJ_cI, zv_kR_cI, zv_kI_cJ, zv_kR_cJ, ne_eq, Nat.reduceEqDiff, Nat.reduceMul, Nat.reduceAdd, not_false_eq_true, not_true_eq_false, false_and, and_false, and_true, true_and, and_self, reduceIte, Nat.one_ne_zero, Nat.zero_ne_one, Nat.zero_add, Nat.mul_zero]
      refine ⟨w1, w2, w3, w4, w5, w6, w7, zv_w8, ?_, ?_, ⟨c, u1, ?_, u3, u4, u5, u6, u7, u8, u9, u10, u11⟩, ?_⟩
      · intro i hi
        simp only [gI_sI, zv_gI_f, zv_gI_i, gI_sI, zv_gJ_f, zv_gIc_f, zv_gIc_i, zv_kJ_sI, zv_kR_sI, zv_kI_sJ, zv_kR_sJ, zv_kI_sR, zv_kJ_sR, zv_kJ_cI, zv_kR_cI, zv_kI_cJ, zv_kR_cJ, ne_eq, Nat.reduceEqDiff, Nat.reduceMul, Nat.reduceAdd, not_false_eq_true, not_true_eq_false, false_and, and_false, and_true, true_and, and_self, reduceIte, Nat.one_ne_zero, Nat.zero_ne_one, Nat.zero_add, Nat.mul_zero]
        exact w9 i hi
      · intro i hi a ha
        have := w10 i hi a ha
        simp only [gI_sI, zv_gI_f, zv_gI_i, gI_sI, zv_gJ_f, zv_gIc_f, zv_gIc_i, zv_kJ_sI, zv_kR_sI, zv_kI_sJ, zv_kR_sJ, zv_kI_sR, zv_kJ_sR, zv_kJ_cI, zv_kR_cI, zv_kI_cJ, zv_kR_cJ, ne_eq, Nat.reduceEqDiff, Nat.reduceMul, Nat.reduceAdd, not_false_eq_true, not_true_eq_false, false_and, and_false, and_true, true_and, and_self, reduceIte, Nat.one_ne_zero, Nat.zero_ne_one, Nat.zero_add, Nat.mul_zero]
        exact this
      · intro j hj
        have := u2 j hj
        simp only [gI_sI, zv_gI_f, zv_gI_i, gI_sI, zv_gJ_f, zv_gIc_f, zv_gIc_i, zv_kJ_sI, zv_kR_sI, zv_kI_sJ, zv_kR_sJ, zv_kI_sR, zv_kJ_sR, zv_kJ_cI, zv_kR_cI, zv_kI_cJ, zv_kR_cJ, ne_eq, Nat.reduceEqDiff, Nat.reduceMul, Nat.reduceAdd, not_false_eq_true, not_true_eq_false, false_and, and_false, and_true, true_and, and_self, reduceIte, Nat.one_ne_zero, Nat.zero_ne_one, Nat.zero_add, Nat.mul_zero] at this ⊢
        by_cases hq : j = l
        · simp only [hq, reduceIte] at this ⊢
          exact ⟨this.1, this.2.1, this.2.2.1, trivial, this.2.2.2.2.1, this.2.2.2.2.2.1, this.2.2.2.2.2.2.1, this.2.2.2.2.2.2.2.1, this.2.2.2.2.2.2.2.2.1, this.2.2.2.2.2.2.2.2.2.1, h2.1, h2.2, this.2.2.2.2.2.2.2.2.2.2.2.2⟩
        · simp only [hq, reduceIte] at this ⊢
          exact this
      · obtain ⟨d, v1, v2, v3⟩ := w12
        refine ⟨d, v1, ?_, v3⟩
        intro j hj
        have := v2 j hj
        simp only [gI_sI, show ¬ (6 * 1 + j = l) by omega, zv_gI_f, zv_gI_i, gI_sI, zv_gJ_f, zv_gIc_f, zv_gIc_i, zv_kJ_sI, zv_kR_sI, zv_kI_sJ, zv_kR_sJ, zv_kI_sR, zv_kJ_sR, zv_kJ_cI, zv_kR_cI, zv_kI_cJ, zv_kR_cJ, ne_eq, Nat.reduceEqDiff, Nat.reduceMul, Nat.reduceAdd, not_false_eq_true, not_true_eq_false, false_and, and_false, and_true, true_and, and_self, reduceIte, Nat.one_ne_zero, Nat.zero_ne_one, Nat.zero_add, Nat.mul_zero] at this ⊢
        exact this
    · simp only [if_neg h2]
      exact ⟨_, _, _, rfl, rfl, hR0⟩
  · simp only [if_neg h]
    exact ⟨_, _, _, rfl, rfl, hR0⟩
theorem zv_SV_add {mx n : Nat} {lo hi y : Int32} {x m : Int32} {X M X' M' : Nat → Int32} (h : zv_SV mx lo hi x m X M) (hx : x = nI n) (hmx : mx ≤ 100) (hn : n < mx) (hy : lo ≤ y ∧ y ≤ hi) (hX : ∀ r, X' r = if r = n then y else X r) (hM : ∀ r, M' r = if r = n then y else M r) : zv_SV mx lo hi (nI (n + 1)) (nI (n + 1)) X' M' := by
  obtain ⟨n', h1, h2, h3, h4⟩ := h
  have : n = n' := by
    rw [hx] at h2
    exact (zv_nIeq (by omega) (by omega)).mp h2
  subst this
  refine ⟨n + 1, by omega, rfl, rfl, fun r hr => ?_⟩
  rw [hX, hM]
  by_cases hq : r = n
  · rw [if_pos hq, if_pos hq]; exact ⟨rfl, hy⟩
  · rw [if_neg hq, if_neg hq]; exact h4 r (by omega)
theorem zv_SX_add {mx n c : Nat} {y : Int32} {x : Int32} {X M X' M' : Nat → Int32} (h : zv_SX mx c x X M) (hx : x = nI n) (hmx : mx ≤ 100) (hn : n < mx) (hy : 0 ≤ y ∧ y < nI c) (hX : ∀ r, X' r = if r = n then y else X r) (hM : ∀ r, M' r = if r = n then y else M r) : zv_SX mx c (nI (n + 1)) X' M' := by
  obtain ⟨n', h1, h2, h4⟩ := h
  have : n = n' := by
    rw [hx] at h2
    exact (zv_nIeq (by omega) (by omega)).mp h2
  subst this
  refine ⟨n + 1, by omega, rfl, fun r hr => ?_⟩
  rw [hX, hM]
  by_cases hq : r = n
  · rw [if_pos hq, if_pos hq]; exact ⟨rfl, hy⟩
  · rw [if_neg hq, if_neg hq]; exact h4 r (by omega)
theorem zv_SV_0 {mx : Nat} {lo hi : Int32} {X M : Nat → Int32} : zv_SV mx lo hi 0 0 X M := ⟨0, by omega, rfl, rfl, fun r hr => absurd hr (Nat.not_lt_zero _)⟩
theorem zv_SX_0 {mx c : Nat} {X M : Nat → Int32} : zv_SX mx c 0 X M := ⟨0, by omega, rfl, fun r hr => absurd hr (Nat.not_lt_zero _)⟩
theorem zv_x4_add {S : St} {i n : Nat} (hn : gI S 4 i 2 = nI n) (hk : n < 100) (hkl : kl 14 i = kl 15 i) (h100 : kl 15 i ≤ 100) (a b : Int32) : F_X4_add S i a b = some (if n < kl 15 i then (nI (n + 1), sI (sI (sI S 14 i n a) 15 i n b) 4 i 2 (nI (n + 1))) else (-4, S)) := by
  unfold F_X4_add
  simp only [gI_sI, zv_gI_f, zv_gI_i, gI_sI, zv_gJ_f, zv_gIc_f, zv_gIc_i, zv_kJ_sI, zv_kR_sI, zv_kI_sJ, zv_kR_sJ, zv_kI_sR, zv_kJ_sR, zv_kJ_cI, zv_kR_cI, zv_kI_cJ, zv_kR_cJ, ne_eq, Nat.reduceEqDiff, Nat.reduceMul, Nat.reduceAdd, not_false_eq_true, not_true_eq_false, false_and, and_false, and_true, true_and, and_self, reduceIte, Nat.one_ne_zero, Nat.zero_ne_one, Nat.zero_add, Nat.mul_zero, hn, zv_nIcl (show n < 2147483648 by omega), zv_nI0 n (by omega), zv_nIs n (by omega), hkl]
  by_cases h : n < kl 15 i
  · rw [if_pos (show nI n < Int32.ofNat (kl 15 i) from (zv_nIlt (by omega) (by omega)).mpr h)]
    simp only [h, reduceIte]
  · rw [if_neg (show ¬ nI n < Int32.ofNat (kl 15 i) from fun q => h ((zv_nIlt (by omega) (by omega)).mp q))]
    simp only [h, reduceIte]
theorem m_see {k : Nat} {Sx Sm : St} (hR : Rel k Sx Sm) (a1 : Int32) : ∃ (r : Int32) (Sx' Sm' : St), F_X7_see Sx a1 = some (r, Sx') ∧ F_X8_see Sm a1 = some (r, Sm') ∧ Rel k Sx' Sm' := by
  have hR0 := hR
  obtain ⟨q, cs, w1, w2, w3, w4, w5, w6, w7, zv_w8, w9, w10, ⟨c, u1, u2, u3, u4, u5, u6, u7, u8, u9, u10, u11⟩, w12⟩ := hR
  simp only [F_X7_see, F_X8_see]
  by_cases h : a1 = -100
  · rw [if_pos h, if_pos h]
    refine ⟨_, _, _, rfl, rfl, q, cs, ?_⟩
    simp only [zv_RW, zv_S0, zv_S1, zv_SR, gI_sI, zv_gI_f, zv_gI_i, gI_sI, zv_gJ_f, zv_gIc_f, zv_gIc_i, zv_kJ_sI, zv_kR_sI, zv_kI_sJ, zv_kR_sJ, zv_kI_sR, zv_kJ_sR, zv_kJ_cI, zv_kR_cI, zv_kI_cJ, zv_kR_cJ, ne_eq, Nat.reduceEqDiff, Nat.reduceMul, Nat.reduceAdd, not_false_eq_true, not_true_eq_false, false_and, and_false, and_true, true_and, and_self, reduceIte, Nat.one_ne_zero, Nat.zero_ne_one, Nat.zero_add, Nat.mul_zero]
    exact ⟨w1, w2, w3, w4, w5, w6, w7, zv_w8, w9, w10, ⟨c, u1, u2, u3, u4, u5, u6, u7, u8, zv_SV_0, u10, u11⟩, w12⟩
  · rw [if_neg h, if_neg h]
    simp only [zv_x7_in, zv_x8_in, bnd, zv_if10]
    by_cases h2 : -99 ≤ a1 ∧ a1 ≤ 99
    · have u9' := u9
      obtain ⟨n, hn, e1, e2, e3⟩ := u9'
      simp only [Nat.mul_zero, Nat.zero_add] at e1
      simp only [if_pos h2, zv_x4_add e1 (by omega) rfl (by decide), e2, show kl 15 1 = 5 from rfl, show (5 : Int32) = nI 5 from rfl]
      have hh := zv_nIeq (a := n) (b := 5) (by omega) (by decide)
      by_cases h3 : n < 5
      · simp only [gI_sI, zv_gI_f, zv_gI_i, gI_sI, zv_gJ_f, zv_gIc_f, zv_gIc_i, zv_kJ_sI, zv_kR_sI, zv_kI_sJ, zv_kR_sJ, zv_kI_sR, zv_kJ_sR, zv_kJ_cI, zv_kR_cI, zv_kI_cJ, zv_kR_cJ, ne_eq, Nat.reduceEqDiff, Nat.reduceMul, Nat.reduceAdd, not_false_eq_true, not_true_eq_false, false_and, and_false, and_true, true_and, and_self, reduceIte, Nat.one_ne_zero, Nat.zero_ne_one, Nat.zero_add, Nat.mul_zero, h3, zv_nIcl (show n < 2147483648 by omega), zv_nI0 n (by omega), zv_nIs n (by omega), e2, hh, show ¬ n = 5 by omega]
        refine ⟨_, _, _, rfl, rfl, q, cs, ?_⟩
        simp only [zv_RW, zv_S0, zv_S1, zv_SR, gI_sI, zv_gI_f, zv_gI_i, gI_sI, zv_gJ_f, zv_gIc_f, zv_gIc_i, zv_kJ_sI, zv_kR_sI, zv_kI_sJ, zv_kR_sJ, zv_kI_sR, zv_kJ_sR, zv_kJ_cI, zv_kR_cI, zv_kI_cJ, zv_kR_cJ, ne_eq, Nat.reduceEqDiff, Nat.reduceMul, Nat.reduceAdd, not_false_eq_true, not_true_eq_false, false_and, and_false, and_true, true_and, and_self, reduceIte, Nat.one_ne_zero, Nat.zero_ne_one, Nat.zero_add, Nat.mul_zero]
        refine ⟨w1, w2, w3, w4, w5, w6, w7, zv_w8, w9, w10, ⟨c, u1, u2, u3, u4, u5, u6, u7, u8, zv_SV_add u9 e1 (by decide) h3 h2 (fun r => ?_) (fun r => ?_), u10, u11⟩, w12⟩
        · simp only [gI_sI, zv_gI_f, zv_gI_i, gI_sI, zv_gJ_f, zv_gIc_f, zv_gIc_i, zv_kJ_sI, zv_kR_sI, zv_kI_sJ, zv_kR_sJ, zv_kI_sR, zv_kJ_sR, zv_kJ_cI, zv_kR_cI, zv_kI_cJ, zv_kR_cJ, ne_eq, Nat.reduceEqDiff, Nat.reduceMul, Nat.reduceAdd, not_false_eq_true, not_true_eq_false, false_and, and_false, and_true, true_and, and_self, reduceIte, Nat.one_ne_zero, Nat.zero_ne_one, Nat.zero_add, Nat.mul_zero]
        · simp only [gI_sI, zv_gI_f, zv_gI_i, gI_sI, zv_gJ_f, zv_gIc_f, zv_gIc_i, zv_kJ_sI, zv_kR_sI, zv_kI_sJ, zv_kR_sJ, zv_kI_sR, zv_kJ_sR, zv_kJ_cI, zv_kR_cI, zv_kI_cJ, zv_kR_cJ, ne_eq, Nat.reduceEqDiff, Nat.reduceMul, Nat.reduceAdd, not_false_eq_true, not_true_eq_false, false_and, and_false, and_true, true_and, and_self, reduceIte, Nat.one_ne_zero, Nat.zero_ne_one, Nat.zero_add, Nat.mul_zero]
      · simp only [h3, show n = 5 by omega, reduceIte]
        exact ⟨_, _, _, rfl, rfl, hR0⟩
    · simp only [if_neg h2]
      exact ⟨_, _, _, rfl, rfl, hR0⟩
theorem m_leg {k : Nat} {Sx Sm : St} (hR : Rel k Sx Sm) (a1 : Int32) (a2 : Int32) : ∃ (r : Int32) (Sx' Sm' : St), F_X7_leg Sx a1 a2 = some (r, Sx') ∧ F_X8_leg Sm a1 a2 = some (r, Sm') ∧ Rel k Sx' Sm' := by
  have hR0 := hR
  obtain ⟨q, cs, w1, w2, w3, w4, w5, w6, w7, zv_w8, w9, w10, ⟨c, u1, u2, u3, u4, u5, u6, u7, u8, u9, u10, u11⟩, w12⟩ := hR
  simp only [F_X7_leg, F_X8_leg, F_X7_tellRow]
  by_cases h : a1 = -1
  · rw [if_pos h, if_pos h]
    refine ⟨_, _, _, rfl, rfl, q, cs, ?_⟩
    simp only [zv_RW, zv_S0, zv_S1, zv_SR, gI_sI, zv_gI_f, zv_gI_i, gI_sI, zv_gJ_f, zv_gIc_f, zv_gIc_i, zv_kJ_sI, zv_kR_sI, zv_kI_sJ, zv_kR_sJ, zv_kI_sR, zv_kJ_sR, zv_kJ_cI, zv_kR_cI, zv_kI_cJ, zv_kR_cJ, ne_eq, Nat.reduceEqDiff, Nat.reduceMul, Nat.reduceAdd, not_false_eq_true, not_true_eq_false, false_and, and_false, and_true, true_and, and_self, reduceIte, Nat.one_ne_zero, Nat.zero_ne_one, Nat.zero_add, Nat.mul_zero]
    exact ⟨w1, w2, w3, w4, w5, w6, w7, zv_w8, w9, w10, ⟨c, u1, u2, u3, u4, u5, u6, zv_SV_0, zv_SX_0, u9, u10, u11⟩, w12⟩
  · rw [if_neg h, if_neg h]
    simp only [zv_x7_in, zv_x8_isT, zv_x7_isL, zv_x8_isL u1.2.2 u1.1, u1.2.1, bnd, zv_if10]
    by_cases h1 : 0 ≤ a1 ∧ a1 < nI c
    · by_cases h2 : 0 ≤ a2 ∧ a2 ≤ 60
      · have u7' := u7
        obtain ⟨n, hn, e1, e2, e3⟩ := u7'
        simp only [Nat.mul_zero, Nat.zero_add] at e1
        simp only [if_pos h1, if_pos h2, zv_x4_add e1 (by omega) rfl (by decide), e2, show kl 15 0 = 4 from rfl, show (4 : Int32) = nI 4 from rfl]
        have hh := zv_nIeq (a := n) (b := 4) (by omega) (by decide)
        by_cases h3 : n < 4
        · simp only [gI_sI, zv_gI_f, zv_gI_i, gI_sI, zv_gJ_f, zv_gIc_f, zv_gIc_i, zv_kJ_sI, zv_kR_sI, zv_kI_sJ, zv_kR_sJ, zv_kI_sR, zv_kJ_sR, zv_kJ_cI, zv_kR_cI, zv_kI_cJ, zv_kR_cJ, ne_eq, Nat.reduceEqDiff, Nat.reduceMul, Nat.reduceAdd, not_false_eq_true, not_true_eq_false, false_and, and_false, and_true, true_and, and_self, reduceIte, Nat.one_ne_zero, Nat.zero_ne_one, Nat.zero_add, Nat.mul_zero, h3, zv_nIcl (show n < 2147483648 by omega), zv_nI0 n (by omega), zv_nIs n (by omega), e2, hh, show ¬ n = 4 by omega]
          refine ⟨_, _, _, rfl, rfl, q, cs, ?_⟩
          simp only [zv_RW, zv_S0, zv_S1, zv_SR, gI_sI, zv_gI_f, zv_gI_i, gI_sI, zv_gJ_f, zv_gIc_f, zv_gIc_i, zv_kJ_sI, zv_kR_sI, zv_kI_sJ, zv_kR_sJ, zv_kI_sR, zv_kJ_sR, zv_kJ_cI, zv_kR_cI, zv_kI_cJ, zv_kR_cJ, ne_eq, Nat.reduceEqDiff, Nat.reduceMul, Nat.reduceAdd, not_false_eq_true, not_true_eq_false, false_and, and_false, and_true, true_and, and_self, reduceIte, Nat.one_ne_zero, Nat.zero_ne_one, Nat.zero_add, Nat.mul_zero]
          refine ⟨w1, w2, w3, w4, w5, w6, w7, zv_w8, w9, w10, ⟨c, u1, u2, u3, u4, u5, u6, zv_SV_add u7 e1 (by decide) h3 h2 (fun r => ?_) (fun r => ?_), zv_SX_add u8 e1 (by decide) h3 h1 (fun r => ?_) (fun r => ?_), u9, u10, u11⟩, w12⟩ <;> simp only [gI_sI, zv_gI_f, zv_gI_i, gI_sI, zv_gJ_f, zv_gIc_f, zv_gIc_i, zv_kJ_sI, zv_kR_sI, zv_kI_sJ, zv_kR_sJ, zv_kI_sR, zv_kJ_sR, zv_kJ_cI, zv_kR_cI, zv_kI_cJ, zv_kR_cJ, ne_eq, Nat.reduceEqDiff, Nat.reduceMul, Nat.reduceAdd, not_false_eq_true, not_true_eq_false, false_and, and_false, and_true, true_and, and_self, reduceIte, Nat.one_ne_zero, Nat.zero_ne_one, Nat.zero_add, Nat.mul_zero]
        · simp only [h3, show n = 4 by omega, reduceIte]
          exact ⟨_, _, _, rfl, rfl, hR0⟩
      · simp only [if_pos h1, if_neg h2]
        exact ⟨_, _, _, rfl, rfl, hR0⟩
    · simp only [if_neg h1]
      exact ⟨_, _, _, rfl, rfl, hR0⟩
theorem m_book {k : Nat} {Sx Sm : St} (hR : Rel k Sx Sm) (a1 : Int32) (a2 : Int32) : ∃ (r : Int32) (Sx' Sm' : St), F_X7_book Sx a1 a2 = some (r, Sx') ∧ F_X8_book Sm a1 a2 = some (r, Sm') ∧ Rel k Sx' Sm' := by
  have hR0 := hR
  obtain ⟨q, cs, w1, w2, w3, w4, w5, w6, w7, zv_w8, w9, w10, ⟨c, u1, u2, u3, u4, u5, u6, u7, u8, u9, u10, u11⟩, w12⟩ := hR
  simp only [F_X7_book, F_X8_book, F_X7_tellRow]
  by_cases h : a1 = -1
  · rw [if_pos h, if_pos h]
    refine ⟨_, _, _, rfl, rfl, q, cs, ?_⟩
    simp only [zv_RW, zv_S0, zv_S1, zv_SR, gI_sI, zv_gI_f, zv_gI_i, gI_sI, zv_gJ_f, zv_gIc_f, zv_gIc_i, zv_kJ_sI, zv_kR_sI, zv_kI_sJ, zv_kR_sJ, zv_kI_sR, zv_kJ_sR, zv_kJ_cI, zv_kR_cI, zv_kI_cJ, zv_kR_cJ, ne_eq, Nat.reduceEqDiff, Nat.reduceMul, Nat.reduceAdd, not_false_eq_true, not_true_eq_false, false_and, and_false, and_true, true_and, and_self, reduceIte, Nat.one_ne_zero, Nat.zero_ne_one, Nat.zero_add, Nat.mul_zero]
    exact ⟨w1, w2, w3, w4, w5, w6, w7, zv_w8, w9, w10, ⟨c, u1, u2, u3, u4, u5, u6, u7, u8, u9, zv_SV_0, zv_SX_0⟩, w12⟩
  · rw [if_neg h, if_neg h]
    simp only [zv_x7_in, zv_x8_in, zv_x7_isL, zv_x8_isL u1.2.2 u1.1, u1.2.1, bnd, zv_if10]
    by_cases h1 : 0 ≤ a1 ∧ a1 < nI c
    · by_cases h2 : -99 ≤ a2 ∧ a2 ≤ 99
      · have u10' := u10
        obtain ⟨n, hn, e1, e2, e3⟩ := u10'
        simp only [Nat.mul_zero, Nat.zero_add] at e1
        simp only [if_pos h1, if_pos h2, zv_x4_add e1 (by omega) rfl (by decide), e2, show kl 15 2 = 8 from rfl, show (8 : Int32) = nI 8 from rfl]
        have hh := zv_nIeq (a := n) (b := 8) (by omega) (by decide)
        by_cases h3 : n < 8
        · simp only [gI_sI, zv_gI_f, zv_gI_i, gI_sI, zv_gJ_f, zv_gIc_f, zv_gIc_i, zv_kJ_sI, zv_kR_sI, zv_kI_sJ, zv_kR_sJ, zv_kI_sR, zv_kJ_sR, zv_kJ_cI, zv_kR_cI, zv_kI_cJ, zv_kR_cJ, ne_eq, Nat.reduceEqDiff, Nat.reduceMul, Nat.reduceAdd, not_false_eq_true, not_true_eq_false, false_and, and_false, and_true, true_and, and_self, reduceIte, Nat.one_ne_zero, Nat.zero_ne_one, Nat.zero_add, Nat.mul_zero, h3, zv_nIcl (show n < 2147483648 by omega), zv_nI0 n (by omega), zv_nIs n (by omega), e2, hh, show ¬ n = 8 by omega]
          refine ⟨_, _, _, rfl, rfl, q, cs, ?_⟩
          simp only [zv_RW, zv_S0, zv_S1, zv_SR, gI_sI, zv_gI_f, zv_gI_i, gI_sI, zv_gJ_f, zv_gIc_f, zv_gIc_i, zv_kJ_sI, zv_kR_sI, zv_kI_sJ, zv_kR_sJ, zv_kI_sR, zv_kJ_sR, zv_kJ_cI, zv_kR_cI, zv_kI_cJ, zv_kR_cJ, ne_eq, Nat.reduceEqDiff, Nat.reduceMul, Nat.reduceAdd, not_false_eq_true, not_true_eq_false, false_and, and_false, and_true, true_and, and_self, reduceIte, Nat.one_ne_zero, Nat.zero_ne_one, Nat.zero_add, Nat.mul_zero]
          refine ⟨w1, w2, w3, w4, w5, w6, w7, zv_w8, w9, w10, ⟨c, u1, u2, u3, u4, u5, u6, u7, u8, u9, zv_SV_add u10 e1 (by decide) h3 h2 (fun r => ?_) (fun r => ?_), zv_SX_add u11 e1 (by decide) h3 h1 (fun r => ?_) (fun r => ?_)⟩, w12⟩ <;> simp only [gI_sI, zv_gI_f, zv_gI_i, gI_sI, zv_gJ_f, zv_gIc_f, zv_gIc_i, zv_kJ_sI, zv_kR_sI, zv_kI_sJ, zv_kR_sJ, zv_kI_sR, zv_kJ_sR, zv_kJ_cI, zv_kR_cI, zv_kI_cJ, zv_kR_cJ, ne_eq, Nat.reduceEqDiff, Nat.reduceMul, Nat.reduceAdd, not_false_eq_true, not_true_eq_false, false_and, and_false, and_true, true_and, and_self, reduceIte, Nat.one_ne_zero, Nat.zero_ne_one, Nat.zero_add, Nat.mul_zero]
        · simp only [h3, show n = 8 by omega, reduceIte]
          exact ⟨_, _, _, rfl, rfl, hR0⟩
      · simp only [if_pos h1, if_neg h2]
        exact ⟨_, _, _, rfl, rfl, hR0⟩
    · simp only [if_neg h1]
      exact ⟨_, _, _, rfl, rfl, hR0⟩
theorem zv_x8_isTp (S : St) (a : Int32) : F_X8_isTape S a = some (if 0 ≤ a ∧ a ≤ 5 then 1 else 0, S) := by simp only [F_X8_isTape, zv_x8_in, bnd]
theorem zv_x7_isTp (S : St) (a : Int32) : F_X7_isTape S a = some (if 0 ≤ a ∧ a ≤ 5 then 1 else 0, S) := by simp only [F_X7_isTape, zv_x7_in, bnd]
theorem zv_asW {x : Int32} {c : Nat} (h : 0 ≤ x) (h2 : x.toInt ≤ c) : ∃ l, l ≤ c ∧ x = nI l := by
  have := zv_icl x
  rw [Int32.le_iff_toInt_le] at h
  simp only [Int32.reduceToInt] at h
  refine ⟨x.toNatClampNeg, ?_, zv_inI _ _ ?_⟩
  · split at this <;> omega
  · split at this <;> omega
theorem zv_tk_ (K : Int32 → Int32 → St → Option (Int32 × St)) (S : St) (x y : Nat) (hx : x < 7) (hy : y < 7) : ∃ z w, L_X7_taken_37 (nI y) K 1000 (nI x) 0 S = K z w S ∧ (z = nI y ↔ (y = 0 ∨ y = x ∨ (y = 1 ∧ x = 4) ∨ (y = 2 ∧ x = 5) ∨ (y = 3 ∧ x = 6))) := by
  have hx : x = 0 ∨ x = 1 ∨ x = 2 ∨ x = 3 ∨ x = 4 ∨ x = 5 ∨ x = 6 := by omega
  have hy : y = 0 ∨ y = 1 ∨ y = 2 ∨ y = 3 ∨ y = 4 ∨ y = 5 ∨ y = 6 := by omega
  rcases hx with rfl | rfl | rfl | rfl | rfl | rfl | rfl <;> rcases hy with rfl | rfl | rfl | rfl | rfl | rfl | rfl <;> exact ⟨_, _, rfl, by decide⟩
theorem m_taken {k : Nat} {Sx Sm : St} (hR : Rel k Sx Sm) (a1 : Int32) (a2 : Int32) : ∃ (r : Int32) (Sx' Sm' : St), F_X7_taken Sx a1 a2 = some (r, Sx') ∧ F_X8_taken Sm a1 a2 = some (r, Sm') ∧ Rel k Sx' Sm' := by
  have hR0 := hR
  obtain ⟨q, cs, w1, w2, w3, w4, w5, w6, w7, zv_w8, w9, w10, ⟨c, u1, u2, u3, u4, u5, u6, u7, u8, u9, u10, u11⟩, w12⟩ := hR
  simp only [F_X7_taken, F_X8_taken, zv_x7_isK, zv_x7_isL, zv_x8_in, zv_x8_isL u1.2.2 u1.1, u1.2.1, bnd, zv_if10]
  by_cases h : 0 ≤ a2 ∧ a2 ≤ 6
  · simp only [if_pos h]
    by_cases h1 : 0 ≤ a1 ∧ a1 < nI c
    · simp only [if_pos h1]
      have hc := u1.1
      obtain ⟨l, hl, rfl⟩ := zv_asN h1.1 h1.2 (by omega)
      have hb := u2 l hl
      obtain ⟨y, hy, rfl⟩ := zv_asW (c := 6) h.1 (by have := h.2; simp only [Int32.le_iff_toInt_le, Int32.lt_iff_toInt_lt, ← Int32.toInt_inj, zv_ia, zv_is_, zv_im, zv_ing, zv_iit, Int32.reduceToInt] at this; omega)
      obtain ⟨x, hx, ex⟩ := zv_asW (c := 6) hb.2.2.2.2.1 (by have := hb.2.2.2.2.2.1; simp only [Int32.le_iff_toInt_le, Int32.lt_iff_toInt_lt, ← Int32.toInt_inj, zv_ia, zv_is_, zv_im, zv_ing, zv_iit, Int32.reduceToInt] at this; omega)
      have e0 := zv_nI0 l (by omega)
      have e6 : l < 6 := by omega
      have ek : gI Sx 3 l 2 = nI x := by rw [← ex, ← hb.1, Nat.mul_zero, Nat.zero_add]
      obtain ⟨z, w, e1, e2⟩ := zv_tk_ (fun y3_13 y4_13 T_13 => if y3_13 = nI y then (if 0 ≤ nI l ∧ (nI l).toNatClampNeg < 6 then (some (gI T_13 3 (6 * 0 + (nI l).toNatClampNeg) 2, T_13)) else none) else (some ((-12 : Int32), T_13))) Sx x y (by omega) (by omega)
      simp only [zv_nIcl (show l < 2147483648 by omega), e0, e6, and_self, reduceIte, Nat.mul_zero, Nat.zero_add] at e1 ⊢
      rw [ek, e1, ex]
      have hx' : x = 0 ∨ x = 1 ∨ x = 2 ∨ x = 3 ∨ x = 4 ∨ x = 5 ∨ x = 6 := by omega
      have hy' : y = 0 ∨ y = 1 ∨ y = 2 ∨ y = 3 ∨ y = 4 ∨ y = 5 ∨ y = 6 := by omega
      have e3 : ∀ j : Nat, j < 7 → (nI y = nI j) = (y = j) := fun j hj => propext (zv_nIeq (by omega) (by omega))
      have e4 : ∀ j : Nat, j < 7 → (nI x = nI j) = (x = j) := fun j hj => propext (zv_nIeq (by omega) (by omega))
      simp only [show (0 : Int32) = nI 0 from rfl, show (1 : Int32) = nI 1 from rfl, show (2 : Int32) = nI 2 from rfl, show (3 : Int32) = nI 3 from rfl, show (4 : Int32) = nI 4 from rfl, show (5 : Int32) = nI 5 from rfl, show (6 : Int32) = nI 6 from rfl, e3 0 (by decide), e3 1 (by decide), e3 2 (by decide), e3 3 (by decide), e4 4 (by decide), e4 5 (by decide), e4 6 (by decide), e4 y (by omega)]
      have ei : (if z = nI y then some (nI x, Sx) else some (-12, Sx)) = if (y = 0 ∨ y = x ∨ (y = 1 ∧ x = 4) ∨ (y = 2 ∧ x = 5) ∨ (y = 3 ∧ x = 6)) then some (nI x, Sx) else some (-12, Sx) := by simp only [e2]
      rw [ek, ei]
      by_cases hp : y = 0 ∨ y = x ∨ (y = 1 ∧ x = 4) ∨ (y = 2 ∧ x = 5) ∨ (y = 3 ∧ x = 6)
      · rw [if_pos hp]
        refine ⟨_, _, _, rfl, ?_, hR0⟩
        rcases hx' with rfl | rfl | rfl | rfl | rfl | rfl | rfl <;> rcases hy' with rfl | rfl | rfl | rfl | rfl | rfl | rfl <;> first | rfl | (exfalso; omega)
      · rw [if_neg hp]
        refine ⟨_, _, _, rfl, ?_, hR0⟩
        rcases hx' with rfl | rfl | rfl | rfl | rfl | rfl | rfl <;> rcases hy' with rfl | rfl | rfl | rfl | rfl | rfl | rfl <;> first | rfl | (exfalso; omega)
    · simp only [if_neg h1]
      exact ⟨_, _, _, rfl, rfl, hR0⟩
  · simp only [if_neg h]
    exact ⟨_, _, _, rfl, rfl, hR0⟩
theorem m_row {k : Nat} {Sx Sm : St} (hR : Rel k Sx Sm) (a1 : Int32) (a2 : Int32) (a3 : Int32) : ∃ (r : Int32) (Sx' Sm' : St), F_X7_row Sx a1 a2 a3 = some (r, Sx') ∧ F_X8_row Sm a1 a2 a3 = some (r, Sm') ∧ Rel k Sx' Sm' := by
  have hR0 := hR
  obtain ⟨q, cs, w1, w2, w3, w4, w5, w6, w7, zv_w8, w9, w10, ⟨c, u1, u2, u3, u4, u5, u6, u7, u8, u9, u10, u11⟩, w12⟩ := hR
  simp only [F_X7_row, F_X8_row, zv_x7_in, zv_x8_in, zv_x7_isL, zv_x8_isL u1.2.2 u1.1, bnd, zv_if10, u1.2.1]
  by_cases h : 0 ≤ a1 ∧ a1 < nI c
  · simp only [if_pos h]
    by_cases h2 : 0 ≤ a2 ∧ a2 ≤ 3
    · simp only [if_pos h2]
      by_cases h3 : 0 ≤ a3 ∧ a3 ≤ 9
      · simp only [if_pos h3]
        obtain ⟨l, hl, rfl⟩ := zv_asN h.1 h.2 (by have := u1.1; omega)
        obtain ⟨p, hp, rfl⟩ := zv_asW (c := 3) h2.1 (by have := h2.2; simp only [Int32.le_iff_toInt_le, Int32.lt_iff_toInt_lt, ← Int32.toInt_inj, zv_ia, zv_is_, zv_im, zv_ing, zv_iit, Int32.reduceToInt] at this; omega)
        have hc := u1.1
        have e0 := zv_nI0 l (by omega)
        have e6 : l < 6 := by omega
        have p0 := zv_nI0 p (by omega)
        have p4 : p < 4 := by omega
        have e4 : 4 * nI l + nI p = nI (4 * l + p) := by
          apply zv_inI
          simp only [Int32.le_iff_toInt_le, Int32.lt_iff_toInt_lt, ← Int32.toInt_inj, zv_ia, zv_is_, zv_im, zv_ing, zv_iit, Int32.reduceToInt]
          rw [zv_iN (by omega), zv_iN (by omega)]; omega
        have q0 := zv_nI0 (4 * l + p) (by omega)
        have q4 : 4 * l + p < 24 := by omega
        have hb := u2 l hl
        simp only [Nat.mul_zero, Nat.zero_add] at hb
        simp only [e4, zv_nIcl (show 4 * l + p < 2147483648 by omega), zv_nIcl (show l < 2147483648 by omega), zv_nIcl (show p < 2147483648 by omega), e0, e6, p0, p4, q0, q4, and_self, reduceIte, Nat.mul_zero, Nat.zero_add, hb.1]
        by_cases h6 : gI Sm 22 0 l = 6
        · simp only [if_pos h6]
          have hq := hb.2.2.2.2.2.2.2.2.2.2.2.2 p p4
          refine ⟨_, _, _, rfl, by rw [hq.1], q, cs, ?_⟩
          simp only [zv_RW, zv_S0, zv_S1, zv_SR, zv_gI_f, zv_gI_i, gI_sI, zv_gJ_f, zv_gIc_f, zv_gIc_i, zv_kJ_sI, zv_kR_sI, zv_kI_sJ, zv_kR_sJ, zv_kI_sR, zv_kJ_sR, zv_kJ_cI, zv_kR_cI, zv_kI_cJ, zv_kR_cJ, ne_eq, Nat.reduceEqDiff, Nat.reduceMul, Nat.reduceAdd, not_false_eq_true, not_true_eq_false, false_and, and_false, and_true, true_and, and_self, reduceIte, Nat.one_ne_zero, Nat.zero_ne_one, Nat.zero_add, Nat.mul_zero]
          refine ⟨w1, w2, w3, w4, w5, w6, w7, zv_w8, w9, w10, ⟨c, u1, ?_, u3, u4, u5, u6, u7, u8, u9, u10, u11⟩, ?_⟩
          · intro j hj
            have := u2 j hj
            simp only [Nat.mul_zero, Nat.zero_add] at this ⊢
            refine ⟨this.1, this.2.1, this.2.2.1, this.2.2.2.1, this.2.2.2.2.1, this.2.2.2.2.2.1, this.2.2.2.2.2.2.1, this.2.2.2.2.2.2.2.1, this.2.2.2.2.2.2.2.2.1, this.2.2.2.2.2.2.2.2.2.1, this.2.2.2.2.2.2.2.2.2.2.1, this.2.2.2.2.2.2.2.2.2.2.2.1, fun o ho => ?_⟩
            have := this.2.2.2.2.2.2.2.2.2.2.2.2 o ho
            simp only [gI_sI, zv_gI_f, zv_gI_i, gI_sI, zv_gJ_f, zv_gIc_f, zv_gIc_i, zv_kJ_sI, zv_kR_sI, zv_kI_sJ, zv_kR_sJ, zv_kI_sR, zv_kJ_sR, zv_kJ_cI, zv_kR_cI, zv_kI_cJ, zv_kR_cJ, ne_eq, Nat.reduceEqDiff, Nat.reduceMul, Nat.reduceAdd, not_false_eq_true, not_true_eq_false, false_and, and_false, and_true, true_and, and_self, reduceIte, Nat.one_ne_zero, Nat.zero_ne_one, Nat.zero_add, Nat.mul_zero]
            by_cases hjj : j = l ∧ o = p
            · rw [if_pos hjj, if_pos (by omega)]
              exact ⟨rfl, h3⟩
            · rw [if_neg hjj, if_neg (by omega)]
              exact this
          · obtain ⟨d, v1, v2, v3⟩ := w12
            refine ⟨d, v1, ?_, v3⟩
            intro j hj
            have := v2 j hj
            simp only [gI_sI, show ¬ (6 * 1 + j = l) by omega, zv_gI_f, zv_gI_i, gI_sI, zv_gJ_f, zv_gIc_f, zv_gIc_i, zv_kJ_sI, zv_kR_sI, zv_kI_sJ, zv_kR_sJ, zv_kI_sR, zv_kJ_sR, zv_kJ_cI, zv_kR_cI, zv_kI_cJ, zv_kR_cJ, ne_eq, Nat.reduceEqDiff, Nat.reduceMul, Nat.reduceAdd, not_false_eq_true, not_true_eq_false, false_and, and_false, and_true, true_and, and_self, reduceIte, Nat.one_ne_zero, Nat.zero_ne_one, Nat.zero_add, Nat.mul_zero] at this ⊢
            exact this
        · simp only [if_neg h6]
          exact ⟨_, _, _, rfl, rfl, hR0⟩
      · simp only [if_neg h3]
        exact ⟨_, _, _, rfl, rfl, hR0⟩
    · simp only [if_neg h2]
      exact ⟨_, _, _, rfl, rfl, hR0⟩
  · simp only [if_neg h]
    exact ⟨_, _, _, rfl, rfl, hR0⟩
theorem zv_lpI {ρ : Type} (L : Nat → Int32 → St → Option (ρ × St)) (K : Int32 → St → Option (ρ × St)) (N : Nat) (I : Nat → St → Prop)
    (zv_hs : ∀ n j S, j < N → I j S → ∃ S', I (j + 1) S' ∧ L (n + 1) (nI j) S = L n (nI (j + 1)) S')
    (he : ∀ n S, I N S → L (n + 1) (nI N) S = K (nI N) S) : ∀ m j n S, j + m = N → m < n → I j S → ∃ S', I N S' ∧ L n (nI j) S = K (nI N) S' := by
  intro m
  induction m with
  | zero =>
    intro j n S hj hn hI
    obtain rfl : j = N := by omega
    obtain ⟨n', rfl⟩ : ∃ n', n = n' + 1 := ⟨n - 1, by omega⟩
    exact ⟨S, hI, he n' S hI⟩
  | succ m ih =>
    intro j n S hj hn hI
    obtain ⟨n', rfl⟩ : ∃ n', n = n' + 1 := ⟨n - 1, by omega⟩
    obtain ⟨zv_S1, h1, e1⟩ := zv_hs n' j S (by omega) hI
    obtain ⟨S2, h2, e2⟩ := ih (j + 1) n' zv_S1 (by omega) (by omega) h1
    exact ⟨S2, h2, e1.trans e2⟩
theorem zv_mx60 (t j : Nat) (ht : t < 6) (hj : j ≤ 60) : 60 * nI t + nI j = nI (60 * t + j) := by
  apply zv_inI
  simp only [Int32.le_iff_toInt_le, Int32.lt_iff_toInt_lt, ← Int32.toInt_inj, zv_ia, zv_is_, zv_im, zv_ing, zv_iit, Int32.reduceToInt]
  rw [zv_iN (by omega), zv_iN (by omega)]; omega
theorem zv_le1 (a : Int32) (n : Nat) (hn : n < 1000) : (a ≤ nI n - 1) ↔ a < nI n := by
  simp only [Int32.le_iff_toInt_le, Int32.lt_iff_toInt_lt, ← Int32.toInt_inj, zv_ia, zv_is_, zv_im, zv_ing, zv_iit, Int32.reduceToInt]
  rw [zv_iN (by omega)]
  have := zv_iB a
  omega
theorem m_read {k : Nat} {Sx Sm : St} (hR : Rel k Sx Sm) (a1 : Int32) (a2 : Int32) : ∃ (r : Int64) (Sx' Sm' : St), F_X7_read Sx a1 a2 = some (r, Sx') ∧ F_X8_read Sm a1 a2 = some (r, Sm') ∧ Rel k Sx' Sm' := by
  have hR0 := hR
  obtain ⟨q, cs, w1, w2, w3, w4, w5, w6, w7, zv_w8, w9, w10, ⟨c, u1, u2, u3, u4, u5, u6, u7, u8, u9, u10, u11⟩, w12⟩ := hR
  simp only [F_X7_read, F_X8_read, zv_x7_isTp, zv_x8_isTp, zv_x8_in, bnd, zv_if10]
  by_cases h : 0 ≤ a1 ∧ a1 ≤ 5
  · obtain ⟨t, ht, rfl⟩ := zv_asW (c := 5) h.1 (by have := h.2; simp only [Int32.le_iff_toInt_le, Int32.lt_iff_toInt_lt, ← Int32.toInt_inj, zv_ia, zv_is_, zv_im, zv_ing, zv_iit, Int32.reduceToInt] at this; omega)
    obtain ⟨g1, g2, g3, g4, g5, g6, g7, g8⟩ := w6 t (by omega)
    obtain ⟨sz, hsz, es⟩ := zv_asW (c := 60) g5 (by have := g6; simp only [Int32.le_iff_toInt_le, Int32.lt_iff_toInt_lt, ← Int32.toInt_inj, zv_ia, zv_is_, zv_im, zv_ing, zv_iit, Int32.reduceToInt] at this; omega)
    simp only [if_pos h]
    simp only [zv_nIcl (show t < 2147483648 by omega), zv_nI0 t (by omega), show t < 6 by omega, and_self, reduceIte, g2, es, zv_le1 _ sz (by omega)]
    by_cases zv_hs : gI Sm 53 0 t < 0
    · have e0 : gI Sm 53 0 t = -1 := by simp only [Int32.le_iff_toInt_le, Int32.lt_iff_toInt_lt, ← Int32.toInt_inj, zv_ia, zv_is_, zv_im, zv_ing, zv_iit, Int32.reduceToInt] at *; omega
      have z : sz = 0 := (zv_nIeq (a := sz) (b := 0) (by omega) (by omega)).mp (es.symm.trans (g7 e0))
      subst z
      simp only [zv_hs, reduceIte]
      by_cases h2 : a2 < 0
      · simp only [h2, reduceIte]; exact ⟨_, _, _, rfl, rfl, hR0⟩
      · have h3 : ¬ a2 < nI 0 := h2
        simp only [h2, h3, reduceIte]; exact ⟨_, _, _, rfl, rfl, hR0⟩
    · simp only [zv_hs, reduceIte]
      by_cases h2 : 0 ≤ a2 ∧ a2 < nI sz
      · obtain ⟨j, hj, rfl⟩ := zv_asN h2.1 h2.2 (by omega)
        have n0 : ¬ nI j < 0 := by simp only [Int32.le_iff_toInt_le, Int32.lt_iff_toInt_lt, ← Int32.toInt_inj, zv_ia, zv_is_, zv_im, zv_ing, zv_iit, Int32.reduceToInt]; rw [zv_iN (by omega)]; omega
        simp only [n0, h2, zv_mx60 t j (by omega) (by omega), zv_nIcl (show j < 2147483648 by omega), zv_nIcl (show 60 * t + j < 2147483648 by omega), zv_nI0 j (by omega), zv_nI0 (60 * t + j) (by omega), show j < 60 by omega, show 60 * t + j < 360 by omega, and_self, reduceIte, g8 j (by omega)]
        exact ⟨_, _, _, rfl, rfl, hR0⟩
      · simp only [h2, reduceIte]
        by_cases h3 : a2 < 0
        · simp only [h3, reduceIte]; exact ⟨_, _, _, rfl, rfl, hR0⟩
        · have h4 : ¬ a2 < nI sz := fun q => h2 ⟨by simp only [Int32.le_iff_toInt_le, Int32.lt_iff_toInt_lt, ← Int32.toInt_inj, zv_ia, zv_is_, zv_im, zv_ing, zv_iit, Int32.reduceToInt] at *; omega, q⟩
          simp only [h3, h4, reduceIte]; exact ⟨_, _, _, rfl, rfl, hR0⟩
  · simp only [if_neg h]
    exact ⟨_, _, _, rfl, rfl, hR0⟩
theorem zv_x6_holds (S : St) (t : Nat) : F_X6_holds S t = some (if gI S 6 t 1 = -1 then 0 else 1, S) := by
  unfold F_X6_holds; split <;> rfl
def zv_cutF (s : Int32) (v : Int64) : Int64 := if s = 0 then v.toInt32.toInt8.toInt32.toInt64 else if s = 1 then v.toInt32.toInt16.toInt32.toInt64 else if s = 2 then v.toInt32.toInt64 else if s = 4 then (if lg_cmp v 0 = 0 then 0 else 1) else v
theorem zv_x6_cut (S : St) (t : Nat) (v : Int64) : F_X6_cut S t v = some (zv_cutF (gI S 6 t 1) v, S) := by
  unfold F_X6_cut zv_cutF; (repeat' split) <;> rfl
theorem zv_x8_narrow (S : St) (s : Int32) (v : Int64) : F_X8_narrow S s v = some (zv_cutF s v, S) := by
  unfold F_X8_narrow zv_cutF; (repeat' split) <;> rfl
theorem zv_if01 {α : Type} (p : Prop) [Decidable p] (a b : α) : (if (if p then (0 : Int32) else 1) = 0 then a else b) = if p then a else b := by
  by_cases h : p
  · rw [if_pos h, if_pos h, if_pos rfl]
  · rw [if_neg h, if_neg h, if_neg zv_z10]
theorem m_item {k : Nat} {Sx Sm : St} (hR : Rel k Sx Sm) (a1 : Int32) (a2 : Int32) (a3 : Int64) : ∃ (r : Int32) (Sx' Sm' : St), F_X7_item Sx a1 a2 a3 = some (r, Sx') ∧ F_X8_item Sm a1 a2 a3 = some (r, Sm') ∧ Rel k Sx' Sm' := by
  have hR0 := hR
  obtain ⟨q, cs, w1, w2, w3, w4, w5, w6, w7, zv_w8, w9, w10, ⟨c, u1, u2, u3, u4, u5, u6, u7, u8, u9, u10, u11⟩, w12⟩ := hR
  simp only [F_X7_item, F_X8_item, zv_x7_isTp, zv_x8_isTp, zv_x8_in, bnd, zv_if10, zv_x6_holds, zv_x6_cut, zv_x8_narrow, zv_if01]
  by_cases h : 0 ≤ a1 ∧ a1 ≤ 5
  · obtain ⟨t, ht, rfl⟩ := zv_asW (c := 5) h.1 (by have := h.2; simp only [Int32.le_iff_toInt_le, Int32.lt_iff_toInt_lt, ← Int32.toInt_inj, zv_ia, zv_is_, zv_im, zv_ing, zv_iit, Int32.reduceToInt] at this; omega)
    obtain ⟨g1, g2, g3, g4, g5, g6, g7, g8⟩ := w6 t (by omega)
    obtain ⟨sz, hsz, es⟩ := zv_asW (c := 60) g5 (by have := g6; simp only [Int32.le_iff_toInt_le, Int32.lt_iff_toInt_lt, ← Int32.toInt_inj, zv_ia, zv_is_, zv_im, zv_ing, zv_iit, Int32.reduceToInt] at this; omega)
    simp only [if_pos h]
    simp only [zv_nIcl (show t < 2147483648 by omega), zv_nI0 t (by omega), show t < 6 by omega, and_self, reduceIte, g1, g2, es, zv_le1 _ sz (by omega)]
    by_cases zv_hs : 0 ≤ gI Sm 53 0 t
    · have e0 : ¬ gI Sm 53 0 t = -1 := by simp only [Int32.le_iff_toInt_le, Int32.lt_iff_toInt_lt, ← Int32.toInt_inj, zv_ia, zv_is_, zv_im, zv_ing, zv_iit, Int32.reduceToInt] at *; omega
      simp only [zv_hs, e0, reduceIte]
      by_cases h2 : 0 ≤ a2 ∧ a2 < nI sz
      · obtain ⟨j, hj, rfl⟩ := zv_asN h2.1 h2.2 (by omega)
        have n0 : ¬ nI j < 0 := by simp only [Int32.le_iff_toInt_le, Int32.lt_iff_toInt_lt, ← Int32.toInt_inj, zv_ia, zv_is_, zv_im, zv_ing, zv_iit, Int32.reduceToInt]; rw [zv_iN (by omega)]; omega
        simp only [n0, h2, zv_mx60 t j (by omega) (by omega), zv_nIcl (show j < 2147483648 by omega), zv_nIcl (show 60 * t + j < 2147483648 by omega), zv_nI0 j (by omega), zv_nI0 (60 * t + j) (by omega), show j < 60 by omega, show 60 * t + j < 360 by omega, and_self, reduceIte]
        refine ⟨_, _, _, rfl, rfl, q, cs, ?_⟩
        simp only [zv_RW, zv_S0, zv_S1, zv_SR, zv_gI_f, zv_gI_i, gI_sI, zv_gJ_f, zv_gIc_f, zv_gIc_i, zv_kJ_sI, zv_kR_sI, zv_kI_sJ, zv_kR_sJ, zv_kI_sR, zv_kJ_sR, zv_kJ_cI, zv_kR_cI, zv_kI_cJ, zv_kR_cJ, ne_eq, Nat.reduceEqDiff, Nat.reduceMul, Nat.reduceAdd, not_false_eq_true, not_true_eq_false, false_and, and_false, and_true, true_and, and_self, reduceIte, Nat.one_ne_zero, Nat.zero_ne_one, Nat.zero_add, Nat.mul_zero]
        refine ⟨w1, w2, w3, w4, w5, ?_, w7, zv_w8, w9, w10, ⟨c, u1, u2, u3, u4, u5, u6, u7, u8, u9, u10, u11⟩, w12⟩
        intro t' ht'
        obtain ⟨g1, g2, g3, g4, g5, g6, g7, g8⟩ := w6 t' ht'
        refine ⟨g1, g2, g3, g4, g5, g6, g7, fun o ho => ?_⟩
        simp only [gJ_sJ, zv_gI_f, zv_gI_i, gI_sI, zv_gJ_f, zv_gIc_f, zv_gIc_i, zv_kJ_sI, zv_kR_sI, zv_kI_sJ, zv_kR_sJ, zv_kI_sR, zv_kJ_sR, zv_kJ_cI, zv_kR_cI, zv_kI_cJ, zv_kR_cJ, ne_eq, Nat.reduceEqDiff, Nat.reduceMul, Nat.reduceAdd, not_false_eq_true, not_true_eq_false, false_and, and_false, and_true, true_and, and_self, reduceIte, Nat.one_ne_zero, Nat.zero_ne_one, Nat.zero_add, Nat.mul_zero]
        by_cases hq : t' = t ∧ o = j
        · rw [if_pos hq, if_pos (by omega)]
        · rw [if_neg hq, if_neg (by omega)]; exact g8 o ho
      · simp only [h2, reduceIte]
        by_cases h3 : a2 < 0
        · simp only [h3, reduceIte]; exact ⟨_, _, _, rfl, rfl, hR0⟩
        · have h4 : ¬ a2 < nI sz := fun q => h2 ⟨by simp only [Int32.le_iff_toInt_le, Int32.lt_iff_toInt_lt, ← Int32.toInt_inj, zv_ia, zv_is_, zv_im, zv_ing, zv_iit, Int32.reduceToInt] at *; omega, q⟩
          simp only [h3, h4, reduceIte]; exact ⟨_, _, _, rfl, rfl, hR0⟩
    · have e0 : gI Sm 53 0 t = -1 := by simp only [Int32.le_iff_toInt_le, Int32.lt_iff_toInt_lt, ← Int32.toInt_inj, zv_ia, zv_is_, zv_im, zv_ing, zv_iit, Int32.reduceToInt] at *; omega
      simp only [zv_hs, reduceIte]
      simp only [e0, reduceIte]
      exact ⟨_, _, _, rfl, rfl, hR0⟩
  · simp only [if_neg h]
    exact ⟨_, _, _, rfl, rfl, hR0⟩
theorem zv_byt (a : Int32) (h : 0 ≤ a ∧ a ≤ 127) : vp_nar .byte a.toInt8.toInt32 = a := by
  show a.toInt8.toInt32.toInt8.toInt32 = a
  rw [← Int32.toInt_inj]
  simp only [Int8.toInt_toInt32, Int32.toInt_toInt8, Int.bmod_def, Int32.le_iff_toInt_le, Int32.lt_iff_toInt_lt, ← Int32.toInt_inj, zv_ia, zv_is_, zv_im, zv_ing, zv_iit, Int32.reduceToInt] at *
  omega
theorem m_feed {k : Nat} {Sx Sm : St} (hR : Rel k Sx Sm) (a1 : Int32) : ∃ (r : Int32) (Sx' Sm' : St), F_X7_feed Sx a1 = some (r, Sx') ∧ F_X8_feed Sm a1 = some (r, Sm') ∧ Rel k Sx' Sm' := by
  have hR0 := hR
  obtain ⟨q, cs, w1, w2, w3, w4, w5, w6, w7, zv_w8, w9, w10, ⟨c, u1, u2, u3, u4, u5, u6, u7, u8, u9, u10, u11⟩, w12⟩ := hR
  obtain ⟨n, hn, e1, e2, e3⟩ := w4
  simp only [F_X7_feed, F_X8_feed, zv_x7_in, zv_x8_in, bnd, zv_if10]
  by_cases h : 0 ≤ a1 ∧ a1 ≤ 127
  · simp only [if_pos h, zv_byt a1 h, e1, e2, show (100 : Int32) = nI 100 from rfl, zv_nIeq (show n < 2147483648 by omega) (show 100 < 2147483648 by omega), zv_nIlt (show n < 2147483648 by omega) (show 100 < 2147483648 by omega), zv_nIcl (show n < 2147483648 by omega), zv_nI0 n (by omega), gI_sI, zv_gI_f, zv_gI_i, gI_sI, zv_gJ_f, zv_gIc_f, zv_gIc_i, zv_kJ_sI, zv_kR_sI, zv_kI_sJ, zv_kR_sJ, zv_kI_sR, zv_kJ_sR, zv_kJ_cI, zv_kR_cI, zv_kI_cJ, zv_kR_cJ, ne_eq, Nat.reduceEqDiff, Nat.reduceMul, Nat.reduceAdd, not_false_eq_true, not_true_eq_false, false_and, and_false, and_true, true_and, and_self, reduceIte, Nat.one_ne_zero, Nat.zero_ne_one, Nat.zero_add, Nat.mul_zero]
    by_cases h2 : n < 100
    · simp only [h2, show ¬ n = 100 by omega, and_self, reduceIte, zv_nIs n (by omega)]
      refine ⟨_, _, _, rfl, rfl, q, cs, ?_⟩
      simp only [zv_RW, zv_S0, zv_S1, zv_SR, gI_sI, zv_gI_f, zv_gI_i, gI_sI, zv_gJ_f, zv_gIc_f, zv_gIc_i, zv_kJ_sI, zv_kR_sI, zv_kI_sJ, zv_kR_sJ, zv_kI_sR, zv_kJ_sR, zv_kJ_cI, zv_kR_cI, zv_kI_cJ, zv_kR_cJ, ne_eq, Nat.reduceEqDiff, Nat.reduceMul, Nat.reduceAdd, not_false_eq_true, not_true_eq_false, false_and, and_false, and_true, true_and, and_self, reduceIte, Nat.one_ne_zero, Nat.zero_ne_one, Nat.zero_add, Nat.mul_zero]
      refine ⟨w1, w2, w3, ⟨n + 1, by omega, rfl, rfl, fun i hi => ?_⟩, w5, w6, w7, zv_w8, w9, w10, ⟨c, u1, u2, u3, u4, u5, u6, u7, u8, u9, u10, u11⟩, w12⟩
      simp only [gI_sI, zv_gI_f, zv_gI_i, gI_sI, zv_gJ_f, zv_gIc_f, zv_gIc_i, zv_kJ_sI, zv_kR_sI, zv_kI_sJ, zv_kR_sJ, zv_kI_sR, zv_kJ_sR, zv_kJ_cI, zv_kR_cI, zv_kI_cJ, zv_kR_cJ, ne_eq, Nat.reduceEqDiff, Nat.reduceMul, Nat.reduceAdd, not_false_eq_true, not_true_eq_false, false_and, and_false, and_true, true_and, and_self, reduceIte, Nat.one_ne_zero, Nat.zero_ne_one, Nat.zero_add, Nat.mul_zero]
      by_cases hq : i = n
      · rw [if_pos hq, if_pos hq]; exact ⟨rfl, h⟩
      · rw [if_neg hq, if_neg hq]; exact e3 i (by omega)
    · simp only [h2, show n = 100 by omega, reduceIte]
      exact ⟨_, _, _, rfl, rfl, hR0⟩
  · simp only [if_neg h]
    exact ⟨_, _, _, rfl, rfl, hR0⟩
theorem zv_fillX (l : Nat) (zv_S0 : St) (K : Int32 → St → Option (Unit × St)) : ∃ S', ((∀ f i r, gI S' f i r = if f = 13 ∧ i = l ∧ r < 4 then 0 else gI zv_S0 f i r) ∧ gJ S' = gJ zv_S0 ∧ gR S' = gR zv_S0) ∧ L_J7_fill_53178_5 l 0 K 1000 (nI 0) zv_S0 = K (nI 4) S' := by
  refine zv_lpI (L_J7_fill_53178_5 l 0 K) K 4 (fun j S => (∀ f i r, gI S f i r = if f = 13 ∧ i = l ∧ r < j then 0 else gI zv_S0 f i r) ∧ gJ S = gJ zv_S0 ∧ gR S = gR zv_S0) ?_ ?_ 4 0 1000 zv_S0 rfl (by decide) ⟨fun f i r => by rw [if_neg (by omega)], rfl, rfl⟩
  · intro n j S hj ⟨h1, h2, h3⟩
    refine ⟨sI S 13 l j 0, ⟨fun f i r => ?_, h2, h3⟩, ?_⟩
    · rw [gI_sI, h1]
      by_cases hq : f = 13 ∧ i = l ∧ r = j
      · rw [if_pos hq, if_pos (by omega)]
      · rw [if_neg hq]
        by_cases hr : f = 13 ∧ i = l ∧ r < j
        · rw [if_pos hr, if_pos (by omega)]
        · rw [if_neg hr, if_neg (by omega)]
    · rw [L_J7_fill_53178_5.eq_2, if_neg (by show ¬ nI 4 ≤ nI j; rw [zv_nIle (by omega) (by omega)]; omega), if_pos (zv_gd hj), zv_nIcl (by omega), zv_nIs j (by omega)]
  · intro n S _
    rw [L_J7_fill_53178_5.eq_2, if_pos (by show nI 4 ≤ nI 4; rw [zv_nIle (by omega) (by omega)]; omega)]
theorem zv_fillM (l : Nat) (hl : l < 6) (zv_S0 : St) (hS : gI zv_S0 8 0 0 = nI l) (K : Int32 → St → Option (Int32 × St)) : ∃ S', ((∀ f i r, gI S' f i r = if f = 26 ∧ i = 0 ∧ 4 * l ≤ r ∧ r < 4 * l + 4 then 0 else gI zv_S0 f i r) ∧ gJ S' = gJ zv_S0 ∧ gR S' = gR zv_S0) ∧ L_X8_lift_103 K 1000 (nI 0) zv_S0 = K (nI 4) S' := by
  refine zv_lpI (L_X8_lift_103 K) K 4 (fun j S => (∀ f i r, gI S f i r = if f = 26 ∧ i = 0 ∧ 4 * l ≤ r ∧ r < 4 * l + j then 0 else gI zv_S0 f i r) ∧ gJ S = gJ zv_S0 ∧ gR S = gR zv_S0) ?_ ?_ 4 0 1000 zv_S0 rfl (by decide) ⟨fun f i r => by rw [if_neg (by omega)], rfl, rfl⟩
  · intro n j S hj ⟨h1, h2, h3⟩
    have e4 : 4 * nI l + nI j = nI (4 * l + j) := by
      apply zv_inI
      simp only [Int32.le_iff_toInt_le, Int32.lt_iff_toInt_lt, ← Int32.toInt_inj, zv_ia, zv_is_, zv_im, zv_ing, zv_iit, Int32.reduceToInt]
      rw [zv_iN (by omega), zv_iN (by omega)]; omega
    have e8 : gI S 8 0 0 = nI l := by rw [h1, if_neg (by omega)]; exact hS
    refine ⟨sI S 26 0 (4 * l + j) 0, ⟨fun f i r => ?_, h2, h3⟩, ?_⟩
    · rw [gI_sI, h1]
      by_cases hq : f = 26 ∧ i = 0 ∧ r = 4 * l + j
      · rw [if_pos hq, if_pos (by omega)]
      · rw [if_neg hq]
        by_cases hr : f = 26 ∧ i = 0 ∧ 4 * l ≤ r ∧ r < 4 * l + j
        · rw [if_pos hr, if_pos (by omega)]
        · rw [if_neg hr, if_neg (by omega)]
    · rw [L_X8_lift_103.eq_2, if_neg (by show ¬ nI 4 ≤ nI j; rw [zv_nIle (by omega) (by omega)]; omega), e8, e4, if_pos (zv_gd (by omega)), zv_nIcl (by omega), zv_nIs j (by omega)]
  · intro n S _
    rw [L_X8_lift_103.eq_2, if_pos (by show nI 4 ≤ nI 4; rw [zv_nIle (by omega) (by omega)]; omega)]
theorem zv_nIp (n : Nat) (h : n < 2147483647) : nI (n + 1) - 1 = nI n := by
  apply zv_inI; rw [zv_is_, zv_iN (by omega)]; simp only [Int32.reduceToInt]; omega
theorem zv_SX_mono {mx c c' : Nat} {x : Int32} {X M : Nat → Int32} (hc : c ≤ c') (h6 : c' < 100) (h : zv_SX mx c x X M) : zv_SX mx c' x X M := by
  obtain ⟨n, h1, h2, h3⟩ := h
  refine ⟨n, h1, h2, fun r hr => ⟨(h3 r hr).1, (h3 r hr).2.1, ?_⟩⟩
  have := (h3 r hr).2.2
  rw [Int32.lt_iff_toInt_lt, zv_iN (by omega)] at this ⊢
  omega
theorem zv_SI_mono {c c' : Nat} {x m : Int32} (hc : c ≤ c') (h6 : c' < 100) (h : zv_SI c x m) : zv_SI c' x m := by
  rcases h with h | h
  · exact .inl h
  · refine .inr ⟨h.1, h.2.1, ?_⟩
    have := h.2.2
    rw [Int32.lt_iff_toInt_lt, zv_iN (by omega)] at this ⊢
    omega
theorem m_lift {k : Nat} {Sx Sm : St} (hR : Rel k Sx Sm) (a1 : Int32) (a2 : Int32) (a3 : Int32) (a4 : Int32) : ∃ (r : Int32) (Sx' Sm' : St), F_X7_lift Sx a1 a2 a3 a4 = some (r, Sx') ∧ F_X8_lift Sm a1 a2 a3 a4 = some (r, Sm') ∧ Rel k Sx' Sm' := by
  have hR0 := hR
  obtain ⟨q, cs, w1, w2, w3, w4, w5, w6, w7, zv_w8, w9, w10, ⟨c, u1, u2, u3, u4, u5, u6, u7, u8, u9, u10, u11⟩, w12⟩ := hR
  simp only [F_X7_lift, F_X8_lift, F_X3_begin, F_J7_fill_53178, zv_x7_isK, zv_x7_in, zv_x7_isM, zv_x8_in, zv_x8_isM, bnd, zv_if10]
  by_cases h1 : 0 ≤ a1 ∧ a1 ≤ 6
  · simp only [if_pos h1]
    by_cases h2 : 0 ≤ a2 ∧ a2 ≤ 9
    · simp only [if_pos h2]
      by_cases h3 : 0 ≤ a3 ∧ a3 ≤ 99
      · simp only [if_pos h3]
        by_cases h4 : 0 ≤ a4 ∧ a4 ≤ 20
        · have hc := u1.1
          simp only [if_pos h4, u1.2.1, u1.2.2, gI_sI, zv_gI_f, zv_gI_i, gI_sI, zv_gJ_f, zv_gIc_f, zv_gIc_i, zv_kJ_sI, zv_kR_sI, zv_kI_sJ, zv_kR_sJ, zv_kI_sR, zv_kJ_sR, zv_kJ_cI, zv_kR_cI, zv_kI_cJ, zv_kR_cJ, ne_eq, Nat.reduceEqDiff, Nat.reduceMul, Nat.reduceAdd, not_false_eq_true, not_true_eq_false, false_and, and_false, and_true, true_and, and_self, reduceIte, Nat.one_ne_zero, Nat.zero_ne_one, Nat.zero_add, Nat.mul_zero, zv_nIcl (show c < 2147483648 by omega), zv_nI0 c (by omega), show (6 : Int32) = nI 6 from rfl, zv_nIeq (show c < 2147483648 by omega) (show 6 < 2147483648 by omega), zv_nIlt (show c < 2147483648 by omega) (show 6 < 2147483648 by omega)]
          by_cases h6 : c < 6
          · simp only [h6, show ¬ c = 6 by omega, reduceIte]
            obtain ⟨X, ⟨x1, x2, x3⟩, ex⟩ := zv_fillX c (sI (sI (sI (sI Sx 3 c 2 a1) 3 c 3 a2) 3 c 4 a3) 3 c 5 a4) (fun y2_1 T_1 => some ((), T_1))
            obtain ⟨M, ⟨y1, y2, y3⟩, ey⟩ := zv_fillM c h6 (sI (sI (sI (sI Sm 22 0 c a1) 23 0 c a2) 24 0 c a3) 25 0 c a4) (by simp only [gI_sI, zv_gI_f, zv_gI_i, gI_sI, zv_gJ_f, zv_gIc_f, zv_gIc_i, zv_kJ_sI, zv_kR_sI, zv_kI_sJ, zv_kR_sJ, zv_kI_sR, zv_kJ_sR, zv_kJ_cI, zv_kR_cI, zv_kI_cJ, zv_kR_cJ, ne_eq, Nat.reduceEqDiff, Nat.reduceMul, Nat.reduceAdd, not_false_eq_true, not_true_eq_false, false_and, and_false, and_true, true_and, and_self, reduceIte, Nat.one_ne_zero, Nat.zero_ne_one, Nat.zero_add, Nat.mul_zero]; exact u1.2.2) (fun y5_30 T_30 => some ((gI (sI T_30 8 0 0 ((gI T_30 8 0 0) + (1 : Int32))) 8 0 0) - (1 : Int32), (sI T_30 8 0 0 ((gI T_30 8 0 0) + (1 : Int32)))))
            have ex' := ex
            rw [show nI 0 = 0 from rfl] at ex' ey
            simp only [gI_sI, zv_gI_f, zv_gI_i, gI_sI, zv_gJ_f, zv_gIc_f, zv_gIc_i, zv_kJ_sI, zv_kR_sI, zv_kI_sJ, zv_kR_sJ, zv_kI_sR, zv_kJ_sR, zv_kJ_cI, zv_kR_cI, zv_kI_cJ, zv_kR_cJ, ne_eq, Nat.reduceEqDiff, Nat.reduceMul, Nat.reduceAdd, not_false_eq_true, not_true_eq_false, false_and, and_false, and_true, true_and, and_self, reduceIte, Nat.one_ne_zero, Nat.zero_ne_one, Nat.zero_add, Nat.mul_zero] at ey
            rw [ex', ey]
            have fx : ∀ f, f ≠ 13 → f ≠ 3 → gI X f = gI Sx f := by
              intro f h h'
              funext i r
              rw [x1, if_neg (by omega), zv_gI_f h', zv_gI_f h', zv_gI_f h', zv_gI_f h']
            have fm : ∀ f, f ≠ 26 → f ≠ 22 → f ≠ 23 → f ≠ 24 → f ≠ 25 → gI M f = gI Sm f := by
              intro f h g1 g2 g3 g4
              funext i r
              rw [y1, if_neg (by omega), zv_gI_f g4, zv_gI_f g3, zv_gI_f g2, zv_gI_f g1]
            have kx : gR X = gR Sx := x3
            have jx : gJ X = gJ Sx := x2
            have jm : gJ M = gJ Sm := y2
            simp only [gI_sI, zv_gI_f, zv_gI_i, gI_sI, zv_gJ_f, zv_gIc_f, zv_gIc_i, zv_kJ_sI, zv_kR_sI, zv_kI_sJ, zv_kR_sJ, zv_kI_sR, zv_kJ_sR, zv_kJ_cI, zv_kR_cI, zv_kI_cJ, zv_kR_cJ, ne_eq, Nat.reduceEqDiff, Nat.reduceMul, Nat.reduceAdd, not_false_eq_true, not_true_eq_false, false_and, and_false, and_true, true_and, and_self, reduceIte, Nat.one_ne_zero, Nat.zero_ne_one, Nat.zero_add, Nat.mul_zero, fx 5 (by decide) (by decide), fm 8 (by decide) (by decide) (by decide) (by decide) (by decide), u1.2.1, u1.2.2, zv_nIs c (by omega), zv_nIp c (by omega)]
            refine ⟨_, _, _, rfl, rfl, q, cs, ?_⟩
            simp only [zv_RW, zv_S0, zv_S1, zv_SR, gI_sI, zv_gI_f, zv_gI_i, gI_sI, zv_gJ_f, zv_gIc_f, zv_gIc_i, zv_kJ_sI, zv_kR_sI, zv_kI_sJ, zv_kR_sJ, zv_kI_sR, zv_kJ_sR, zv_kJ_cI, zv_kR_cI, zv_kI_cJ, zv_kR_cJ, ne_eq, Nat.reduceEqDiff, Nat.reduceMul, Nat.reduceAdd, not_false_eq_true, not_true_eq_false, false_and, and_false, and_true, true_and, and_self, reduceIte, Nat.one_ne_zero, Nat.zero_ne_one, Nat.zero_add, Nat.mul_zero, zv_gR_f, jx, kx, jm, fx 7 (by decide) (by decide), fx 0 (by decide) (by decide), fx 1 (by decide) (by decide), fx 2 (by decide) (by decide), fx 4 (by decide) (by decide), fx 5 (by decide) (by decide), fx 6 (by decide) (by decide), fx 10 (by decide) (by decide), fx 14 (by decide) (by decide), fx 15 (by decide) (by decide), fx 16 (by decide) (by decide), fx 17 (by decide) (by decide), fm]
            refine ⟨w1, w2, w3, w4, w5, w6, w7, zv_w8, ?_, ?_, ⟨c + 1, ⟨by omega, rfl, rfl⟩, ?_, u3, zv_SI_mono (by omega) (by omega) u4, u5, u6, u7, zv_SX_mono (by omega) (by omega) u8, u9, u10, zv_SX_mono (by omega) (by omega) u11⟩, ?_⟩
            · intro i hi
              rw [x1]
              simp only [gI_sI, zv_gI_f, zv_gI_i, gI_sI, zv_gJ_f, zv_gIc_f, zv_gIc_i, zv_kJ_sI, zv_kR_sI, zv_kI_sJ, zv_kR_sJ, zv_kI_sR, zv_kJ_sR, zv_kJ_cI, zv_kR_cI, zv_kI_cJ, zv_kR_cJ, ne_eq, Nat.reduceEqDiff, Nat.reduceMul, Nat.reduceAdd, not_false_eq_true, not_true_eq_false, false_and, and_false, and_true, true_and, and_self, reduceIte, Nat.one_ne_zero, Nat.zero_ne_one, Nat.zero_add, Nat.mul_zero]
              exact w9 i hi
            · intro i hi a ha
              rw [gR_sR, kx] at ha
              by_cases hq : i = c
              · rw [if_pos (by omega)] at ha; cases ha
              · rw [if_neg (by omega)] at ha
                have := w10 i hi a ha
                simp only [x1, gI_sI, hq, zv_gI_f, zv_gI_i, gI_sI, zv_gJ_f, zv_gIc_f, zv_gIc_i, zv_kJ_sI, zv_kR_sI, zv_kI_sJ, zv_kR_sJ, zv_kI_sR, zv_kJ_sR, zv_kJ_cI, zv_kR_cI, zv_kI_cJ, zv_kR_cJ, ne_eq, Nat.reduceEqDiff, Nat.reduceMul, Nat.reduceAdd, not_false_eq_true, not_true_eq_false, false_and, and_false, and_true, true_and, and_self, reduceIte, Nat.one_ne_zero, Nat.zero_ne_one, Nat.zero_add, Nat.mul_zero]
                exact this
            · intro j hj
              simp only [x1, y1, gI_sI, zv_gI_f, zv_gI_i, gI_sI, zv_gJ_f, zv_gIc_f, zv_gIc_i, zv_kJ_sI, zv_kR_sI, zv_kI_sJ, zv_kR_sJ, zv_kI_sR, zv_kJ_sR, zv_kJ_cI, zv_kR_cI, zv_kI_cJ, zv_kR_cJ, ne_eq, Nat.reduceEqDiff, Nat.reduceMul, Nat.reduceAdd, not_false_eq_true, not_true_eq_false, false_and, and_false, and_true, true_and, and_self, reduceIte, Nat.one_ne_zero, Nat.zero_ne_one, Nat.zero_add, Nat.mul_zero]
              by_cases hq : j = c
              · subst hq
                simp only [reduceIte]
                refine ⟨trivial, trivial, trivial, trivial, h1.1, h1.2, h2.1, h2.2, h3.1, h3.2, h4.1, h4.2, fun p hp => ?_⟩
                simp only [hp, show 4 * j ≤ 4 * j + p by omega, show 4 * j + p < 4 * j + 4 by omega, and_self, reduceIte]
                exact ⟨trivial, by decide, by decide⟩
              · have := u2 j (by omega)
                simp only [Nat.mul_zero, Nat.zero_add] at this
                simp only [hq, reduceIte, false_and]
                refine ⟨this.1, this.2.1, this.2.2.1, this.2.2.2.1, this.2.2.2.2.1, this.2.2.2.2.2.1, this.2.2.2.2.2.2.1, this.2.2.2.2.2.2.2.1, this.2.2.2.2.2.2.2.2.1, this.2.2.2.2.2.2.2.2.2.1, this.2.2.2.2.2.2.2.2.2.2.1, this.2.2.2.2.2.2.2.2.2.2.2.1, fun p hp => ?_⟩
                rw [if_neg (by omega)]
                exact this.2.2.2.2.2.2.2.2.2.2.2.2 p hp
            · obtain ⟨d, v1, v2, v3⟩ := w12
              refine ⟨d, v1, ?_, v3⟩
              intro j hj
              have := v2 j hj
              simp only [x1, gI_sI, show ¬ (6 * 1 + j = c) by omega, zv_gI_f, zv_gI_i, gI_sI, zv_gJ_f, zv_gIc_f, zv_gIc_i, zv_kJ_sI, zv_kR_sI, zv_kI_sJ, zv_kR_sJ, zv_kI_sR, zv_kJ_sR, zv_kJ_cI, zv_kR_cI, zv_kI_cJ, zv_kR_cJ, ne_eq, Nat.reduceEqDiff, Nat.reduceMul, Nat.reduceAdd, not_false_eq_true, not_true_eq_false, false_and, and_false, and_true, true_and, and_self, reduceIte, Nat.one_ne_zero, Nat.zero_ne_one, Nat.zero_add, Nat.mul_zero] at this ⊢
              exact this
          · simp only [h6, show c = 6 by omega, reduceIte]
            exact ⟨_, _, _, rfl, rfl, hR0⟩
        · simp only [if_neg h4]
          exact ⟨_, _, _, rfl, rfl, hR0⟩
      · simp only [if_neg h3]
        exact ⟨_, _, _, rfl, rfl, hR0⟩
    · simp only [if_neg h2]
      exact ⟨_, _, _, rfl, rfl, hR0⟩
  · simp only [if_neg h1]
    exact ⟨_, _, _, rfl, rfl, hR0⟩
