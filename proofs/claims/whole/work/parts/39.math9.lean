theorem zv_TF28 {q : Nat} {S : St} (x : Int32) : zv_TF q S (sI S 28 0 q x) := ⟨rfl, rfl, fun g a b => by rw [zv_gI_f (by omega)], fun a b z => by rw [zv_gI_f (by decide)], fun r hr => by rw [gI_sI, if_neg (by omega)], fun g r a b z => by rw [zv_gI_f (by omega)], fun r _ => by rw [zv_gI_f (by decide)]⟩
theorem zv_TD28 {q : Nat} {cs : List zv_Cl} {S : St} (h : zv_TD q cs S) (x : Int32) : zv_TD q cs (sI S 28 0 q x) := by
  obtain ⟨h1, h2, h3⟩ := h
  unfold zv_TD
  rw [zv_gI_f (by decide), zv_gI_f (by decide), zv_gI_f (by decide), zv_gI_f (by decide), zv_gI_f (by decide), zv_gI_f (by decide)]
  exact ⟨h1, h2, h3⟩
theorem zv_TDat {q : Nat} {cs : List zv_Cl} {S : St} (h : zv_TD q cs S) (x : Int32) : zv_TD q cs (sI S 8 0 14 x) := zv_TDn h (zv_NFs (zv_NFr S) (.inl rfl) x)
/-- a clause and what follows -/
def zv_ctP (T : Nat → Int32) (n m i : Nat) : Bool × Nat × List zv_Cl := ((zv_clsP T n i).1 && (zv_txtL T n m (zv_clsP T n i).2.1).1, (if (zv_clsP T n i).1 then (zv_txtL T n m (zv_clsP T n i).2.1).2.1 else (zv_clsP T n i).2.1), (zv_clsP T n i).2.2 :: (zv_txtL T n m (zv_clsP T n i).2.1).2.2)
theorem zv_txtN {T : Nat → Int32} {n : Nat} (m : Nat) : zv_txtL T n m n = (true, n, []) := by
  have e128 : zv_pk T n n = 128 := by unfold zv_pk; rw [if_neg (by omega)]
  cases m with
  | zero => unfold zv_txtL; rw [decide_eq_true rfl]
  | succ m => unfold zv_txtL; rw [if_neg (by rw [e128]; decide), decide_eq_true rfl]
theorem zv_m_txL {T : Nat → Int32} {n q : Nat} (hq : q ≤ 5) : ∀ (m fuel : Nat) (cs : List zv_Cl) (i : Nat) (S : St), cs.length + m = 9 → m < fuel → zv_PB T n S → zv_LTr S → zv_TD q cs S → gI S 8 0 14 = nI i → i ≤ n → (zv_toks cs).length ≤ i →
    ∃ S', L_X8_goesText_15 (nI q) (fun y2_1 T_1 => some ((0 : Int32), T_1)) fuel (nI cs.length) S = some (zv_bI (zv_ctP T n m i).1, S') ∧ zv_TF q S S' ∧ gI S' 8 0 14 = nI (zv_ctP T n m i).2.1 ∧ ((zv_ctP T n m i).1 = true → zv_TD q (cs ++ (zv_ctP T n m i).2.2) S' ∧ gI S' 28 0 q = nI (cs ++ (zv_ctP T n m i).2.2).length) := by
  intro m
  induction m with
  | zero =>
    intro fuel cs i S hm hf hP hL hT he hi hl
    have hn := hP.1.1
    obtain ⟨fu, rfl⟩ : ∃ z, fuel = z + 1 := ⟨fuel - 1, by omega⟩
    obtain ⟨zv_S1, e1, f1, g1, d1⟩ := zv_m_cls hP hL hT he hi hl (by omega) hq
    obtain ⟨zv_c1, c2, c3⟩ := zv_clsB (T := T) (n := n) hi
    rw [L_X8_goesText_15.eq_2, zv_nIm10 q (by omega), zv_nIa _ _ (by omega) (by omega), e1, zv_bndS]
    unfold zv_ctP
    cases hr : (zv_clsP T n i).1 with
    | false =>
      rw [if_pos (show zv_bI false = 0 from rfl)]
      exact ⟨zv_S1, rfl, f1, g1, fun z => (nomatch z)⟩
    | true =>
      have hd := d1 hr
      have f2 : zv_TF q S (sI zv_S1 28 0 q (nI (cs.length + 1))) := zv_TFt f1 (zv_TF28 _)
      have e14 : gI (sI zv_S1 28 0 q (nI (cs.length + 1))) 8 0 14 = nI (zv_clsP T n i).2.1 := by rw [zv_gI_f (by decide)]; exact g1
      have e13 : gI (sI zv_S1 28 0 q (nI (cs.length + 1))) 8 0 13 = nI n := (zv_PBt hP f2).2.1
      have e28 : gI (sI zv_S1 28 0 q (nI (cs.length + 1))) 28 0 q = nI (cs.length + 1) := by rw [gI_sI, if_pos ⟨rfl, rfl, rfl⟩]
      rw [if_neg (show ¬ zv_bI true = 0 by decide), if_pos (zv_gd (show q < 6 by omega)), zv_nIcl (by omega), zv_nIs _ (by omega), e14, e13]
      simp only [Bool.true_and, reduceIte]
      unfold zv_txtL
      by_cases ha : (zv_clsP T n i).2.1 = n
      · rw [if_pos (by rw [ha]), decide_eq_true ha]
        exact ⟨_, rfl, f2, e14, fun _ => ⟨zv_TD28 hd _, by rw [List.length_append]; exact e28⟩⟩
      · rw [if_neg (fun z => ha ((zv_nIeq (by omega) (by omega)).mp z)), if_pos (by rw [show cs.length + 1 = 10 by omega]; rfl), decide_eq_false ha]
        exact ⟨_, rfl, f2, e14, fun z => (nomatch z)⟩
  | succ m ih =>
    intro fuel cs i S hm hf hP hL hT he hi hl
    have hn := hP.1.1
    obtain ⟨fu, rfl⟩ : ∃ z, fuel = z + 1 := ⟨fuel - 1, by omega⟩
    obtain ⟨zv_S1, e1, f1, g1, d1⟩ := zv_m_cls hP hL hT he hi hl (by omega) hq
    obtain ⟨zv_c1, c2, c3⟩ := zv_clsB (T := T) (n := n) hi
    rw [L_X8_goesText_15.eq_2, zv_nIm10 q (by omega), zv_nIa _ _ (by omega) (by omega), e1, zv_bndS]
    unfold zv_ctP
    cases hr : (zv_clsP T n i).1 with
    | false =>
      rw [if_pos (show zv_bI false = 0 from rfl)]
      exact ⟨zv_S1, rfl, f1, g1, fun z => (nomatch z)⟩
    | true =>
      have hd := d1 hr
      obtain ⟨-, v2, -, v4⟩ := c3 hr
      have f2 : zv_TF q S (sI zv_S1 28 0 q (nI (cs.length + 1))) := zv_TFt f1 (zv_TF28 _)
      have e14 : gI (sI zv_S1 28 0 q (nI (cs.length + 1))) 8 0 14 = nI (zv_clsP T n i).2.1 := by rw [zv_gI_f (by decide)]; exact g1
      have e13 : gI (sI zv_S1 28 0 q (nI (cs.length + 1))) 8 0 13 = nI n := (zv_PBt hP f2).2.1
      have e28 : gI (sI zv_S1 28 0 q (nI (cs.length + 1))) 28 0 q = nI (cs.length + 1) := by rw [gI_sI, if_pos ⟨rfl, rfl, rfl⟩]
      have hd2 := zv_TD28 hd (nI (cs.length + 1))
      rw [if_neg (show ¬ zv_bI true = 0 by decide), if_pos (zv_gd (show q < 6 by omega)), zv_nIcl (by omega), zv_nIs _ (by omega), e14, e13]
      generalize sI zv_S1 28 0 q (nI (cs.length + 1)) = S2 at *
      simp only [Bool.true_and, reduceIte]
      by_cases ha : (zv_clsP T n i).2.1 = n
      · rw [if_pos (by rw [ha]), ha, zv_txtN]
        exact ⟨_, rfl, f2, by rw [e14, ha], fun _ => ⟨hd2, by rw [List.length_append]; exact e28⟩⟩
      · rw [if_neg (fun z => ha ((zv_nIeq (by omega) (by omega)).mp z)), if_neg (show ¬ nI (cs.length + 1) = 10 by rw [show (10 : Int32) = nI 10 from rfl, zv_nIeq (by omega) (by omega)]; omega)]
        obtain ⟨t1, t2⟩ := zv_p_tk (zv_PBt hP f2) e14 c2 (ch := 59) (by decide)
        unfold zv_txtL
        by_cases h59 : zv_pk T n (zv_clsP T n i).2.1 = 59
        · have hin := zv_pkB h59 (by decide)
          have f3 : zv_TF q S (sI S2 8 0 14 (nI ((zv_clsP T n i).2.1 + 1))) := zv_TFt f2 (zv_TF8 _ (.inl rfl))
          rw [t1 h59, zv_bndS, if_neg zv_z10, if_pos h59]
          obtain ⟨S3, e3, f4, g4, d4⟩ := ih fu (cs ++ [(zv_clsP T n i).2.2]) ((zv_clsP T n i).2.1 + 1) _ (by rw [List.length_append, List.length_singleton]; omega) (by omega) (zv_PBt hP f3) (zv_LTt hL f3) (zv_TDat hd2 _) (by rw [gI_sI, if_pos ⟨rfl, rfl, rfl⟩]) (by omega) (by rw [zv_toksA, zv_toks1, List.length_append]; omega)
          rw [List.length_append, List.length_singleton] at e3
          rw [e3]
          refine ⟨S3, rfl, zv_TFt f3 f4, g4, fun z => ?_⟩
          have := d4 z
          rw [List.append_assoc] at this
          exact this
        · rw [t2 h59, zv_bndS, if_pos rfl, if_neg h59, decide_eq_false ha]
          exact ⟨S2, rfl, f2, e14, fun z => (nomatch z)⟩
theorem zv_m_txt {T : Nat → Int32} {n q : Nat} {S : St} (hq : q ≤ 5) (hP : zv_PB T n S) (hL : zv_LTr S) :
    ∃ S', F_X8_goesText S (nI q) = some (zv_bI (zv_txtP T n).1, S') ∧ zv_TF q S S' ∧ gI S' 8 0 14 = nI (zv_txtP T n).2.1 ∧ ((zv_txtP T n).1 = true → zv_TD q (zv_txtP T n).2.2 S' ∧ gI S' 28 0 q = nI (zv_txtP T n).2.2.length) := by
  have f0 : zv_TF q S (sI (sI S 8 0 14 0) 8 0 24 (nI (100 * q))) := zv_TFt (zv_TF8 _ (.inl rfl)) (zv_TF8 _ (.inr (.inr (.inl rfl))))
  have hT : zv_TD q [] (sI (sI S 8 0 14 0) 8 0 24 (nI (100 * q))) := ⟨by rw [gI_sI, if_pos ⟨rfl, rfl, rfl⟩]; rfl, fun r hr => absurd hr (Nat.not_lt_zero _), fun c hc => absurd hc (Nat.not_lt_zero _)⟩
  unfold F_X8_goesText
  rw [show (100 : Int32) * nI q = nI (100 * q) from zv_nIm' (a := 100) (by omega) (by omega) (by omega)]
  obtain ⟨S', e, f, g, d⟩ := zv_m_txL hq 9 1000 [] 0 _ rfl (by omega) (zv_PBt hP f0) (zv_LTt hL f0) hT (by rw [gI_sI, if_neg (by omega), gI_sI, if_pos ⟨rfl, rfl, rfl⟩]; rfl) (Nat.zero_le _) (Nat.zero_le _)
  rw [show nI ([] : List zv_Cl).length = (0 : Int32) from rfl] at e
  exact ⟨S', e, zv_TFt f0 f, g, fun z => by have := d z; rw [List.nil_append] at this; exact this⟩
def zv_AF (q : Nat) (Sx zv_S1 : St) : Prop := gJ zv_S1 = gJ Sx ∧ (∀ f, f ≠ 0 → f ≠ 16 → gI zv_S1 f = gI Sx f) ∧ (∀ a, a ≠ 1 + q → gI zv_S1 0 a = gI Sx 0 a ∧ gI zv_S1 16 a = gI Sx 16 a) ∧ (∀ f, f ≠ 9 → gR zv_S1 f = gR Sx f) ∧ (∀ j, gR zv_S1 9 0 j = if j = q then some (1 + q) else gR Sx 9 0 j)
theorem zv_x7_fresh {k q : Nat} {Sx : St} (h8 : gI Sx 7 0 8 = nI q) (hq : q < 6) (hRA : zv_RA k (gR Sx 9 0)) (h1 : q ≤ k) (h2 : k ≤ q + 1) : ∃ zv_S1, F_X7_air k Sx = F_air_rest (q + 1) zv_S1 ∧ zv_AF q Sx zv_S1 := by
  unfold F_X7_air
  rw [h8, if_pos (show nI q < 6 from (zv_nIlt (b := 6) (by omega) (by omega)).mpr hq), if_pos (zv_gd hq), zv_nIcl (by omega), hRA q hq]
  by_cases hk : q < k
  · obtain rfl : k = q + 1 := by omega
    rw [if_pos hk]
    refine ⟨Sx, rfl, rfl, fun _ _ _ => rfl, fun _ _ => ⟨rfl, rfl⟩, fun _ _ => rfl, fun j => ?_⟩
    by_cases hj : j = q
    · rw [if_pos hj, hj, hRA q hq, if_pos hk]
    · rw [if_neg hj]
  · obtain rfl : k = q := by omega
    rw [if_neg hk]
    refine ⟨_, rfl, rfl, fun f h0 h16 => ?_, fun a ha => ⟨?_, ?_⟩, fun f hf => ?_, fun j => ?_⟩
    · rw [zv_kI_sR]
      unfold newAir
      rw [zv_gI_f h0, zv_gI_f h0, zv_gI_f h0, zv_gIc_f h16]
    · rw [zv_kI_sR]
      unfold newAir
      rw [zv_gI_i ha, zv_gI_i ha, zv_gI_i ha, zv_gIc_f (by decide)]
    · rw [zv_kI_sR]
      unfold newAir
      rw [zv_gI_f (by decide), zv_gI_f (by decide), zv_gI_f (by decide), zv_gIc_i ha]
    · rw [zv_gR_f hf]
      unfold newAir
      simp only [zv_kR_sI, zv_kR_cI]
    · rw [gR_sR]
      by_cases hj : j = k
      · rw [if_pos ⟨rfl, rfl, hj⟩, if_pos hj]
      · rw [if_neg (fun z => hj z.2.2), if_neg hj]
        unfold newAir
        simp only [zv_kR_sI, zv_kR_cI]
def zv_XA (q : Nat) (Sx X : St) : Prop := gJ X = gJ Sx ∧ (∀ f, f ≠ 0 → f ≠ 1 → f ≠ 16 → gI X f = gI Sx f) ∧ (∀ a, a ≠ 1 + q → gI X 0 a = gI Sx 0 a ∧ gI X 16 a = gI Sx 16 a) ∧ (∀ f, f ≠ 9 → f ≠ 1 → gR X f = gR Sx f) ∧ (∀ j, gR X 9 0 j = if j = q then some (1 + q) else gR Sx 9 0 j) ∧ gI X 1 0 1 = 0
theorem zv_x7_air {k q n : Nat} {T : Nat → Int32} {Sx : St} (hT : zv_TB T n) (h1 : gI Sx 1 0 1 = nI n) (hb : ∀ i, i < n → gI Sx 17 0 i = T i) (h8 : gI Sx 7 0 8 = nI q) (hq : q < 6) (hRA : zv_RA k (gR Sx 9 0)) (hk1 : q ≤ k) (hk2 : k ≤ q + 1) :
    ((zv_txtP T n).1 = false → ∃ X, F_X7_air k Sx = some ((-10 - nI (zv_txtP T n).2.1, q + 1), X) ∧ zv_XA q Sx X) ∧
    ((zv_txtP T n).1 = true → ∃ X, F_X7_air k Sx = some ((nI q, q + 1), sI (sR X 5 0 8 (some (1 + q))) 7 0 8 (nI (q + 1))) ∧ zv_XA q Sx X ∧ zv_RV1 (zv_txtP T n).2.2 (gI X 0 (1 + q)) (gI X 16 (1 + q))) := by
  obtain ⟨zv_S1, e0, a1, a2, a3, a4, a5⟩ := zv_x7_fresh h8 hq hRA hk1 hk2
  have hn := hT.1
  obtain ⟨S2, e2, k1, k2⟩ := zv_c_txt (p := 1 + q) (S := zv_S1) hT (by rw [a2 1 (by decide) (by decide)]; exact h1) (fun i hi => by rw [a2 17 (by decide) (by decide)]; exact hb i hi)
  have fr : ∀ F b z i, zv_CTf (1 + q) (sR zv_S1 1 0 3 (some (1 + q))) F b z i S2 → zv_XA q Sx (sI S2 1 0 1 0) := by
    intro F b z i h
    obtain ⟨s1, s2, s3, s4, s5, s6, s7, s8, s9⟩ := h
    refine ⟨s1.trans a1, fun f h0 h1 h16 => ?_, fun a ha => ⟨?_, ?_⟩, fun f h9 h1 => ?_, fun j => ?_, by rw [gI_sI, if_pos ⟨rfl, rfl, rfl⟩]⟩
    · rw [zv_gI_f h1, s3 f h0 h1 h16, zv_kI_sR, a2 f h0 h16]
    · rw [zv_gI_f (by decide), (s4 a ha).1, zv_kI_sR, (a3 a ha).1]
    · rw [zv_gI_f (by decide), (s4 a ha).2, zv_kI_sR, (a3 a ha).2]
    · rw [zv_kR_sI, s2, zv_gR_f h1, a4 f h9]
    · rw [zv_kR_sI, s2, zv_gR_f (by decide)]; exact a5 j
  have e8 : gI (sI S2 1 0 1 0) 7 0 8 = nI q ∧ gI (sI S2 1 0 1 0) 1 0 2 = gI S2 1 0 2 := by
    have h : ∃ F b z i, zv_CTf (1 + q) (sR zv_S1 1 0 3 (some (1 + q))) F b z i S2 := by
      cases hr : (zv_txtP T n).1 with
      | false => obtain ⟨F, b, z, h⟩ := k2 hr; exact ⟨F, b, z, _, h⟩
      | true => exact ⟨_, _, _, _, k1 hr⟩
    obtain ⟨F, b, z, i, h⟩ := h
    exact ⟨by rw [(fr F b z i h).2.1 7 (by decide) (by decide) (by decide)]; exact h8, by rw [gI_sI, if_neg (by omega)]⟩
  have er : F_air_rest (q + 1) zv_S1 = (if zv_bI (zv_txtP T n).1 = 0 then some (((-10 : Int32) - gI S2 1 0 2, q + 1), sI S2 1 0 1 0) else some ((nI q, q + 1), sI (sR (sI S2 1 0 1 0) 5 0 8 (some (1 + q))) 7 0 8 (nI (q + 1)))) := by
    have y8 : gI (sI (sR (sI S2 1 0 1 0) 5 0 8 (some (1 + q))) 7 0 8 (nI (q + 1))) 7 0 8 = nI (q + 1) := by rw [gI_sI, if_pos ⟨rfl, rfl, rfl⟩]
    unfold F_air_rest
    rw [a2 7 (by decide) (by decide), h8, if_pos (zv_gd hq), zv_nIcl (by omega), a5 q, if_pos rfl, zv_elS, e2, zv_bndS, e8.2, zv_kI_sR, e8.1, zv_nIs q (by omega), y8, zv_nIp q (by omega)]
  rw [e0, er]
  constructor
  · intro hr
    obtain ⟨F, b, z, h⟩ := k2 hr
    rw [hr, if_pos (show zv_bI false = 0 from rfl), h.2.2.2.2.2.2.1]
    exact ⟨_, rfl, fr _ _ _ _ h⟩
  · intro hr
    have h := k1 hr
    obtain ⟨-, hB⟩ := zv_tpB (T := T) (n := n)
    obtain ⟨-, -, hB3⟩ := hB hr
    rw [hr, if_neg (show ¬ zv_bI true = 0 by decide)]
    refine ⟨_, rfl, fr _ _ _ _ h, ?_, by omega, fun i hi => ?_, ?_, ?_⟩
    · rw [zv_gI_f (by decide)]; exact h.2.2.2.2.2.2.2.1
    · rw [zv_gI_f (by decide)]; exact h.2.2.2.2.2.2.2.2 i hi
    · rw [zv_gI_f (by decide)]; exact h.2.2.2.2.1.1
    · rw [zv_gI_f (by decide)]; exact h.2.2.2.2.1.2
theorem zv_x8_air {q n : Nat} {T : Nat → Int32} {Sm : St} (hP : zv_PB T n Sm) (hL : zv_LTr Sm) (h11 : gI Sm 8 0 11 = nI q) (hq : q < 6) :
    ((zv_txtP T n).1 = false → ∃ M, F_X8_air Sm = some (-10 - nI (zv_txtP T n).2.1, sI M 8 0 13 0) ∧ zv_TF q Sm M) ∧
    ((zv_txtP T n).1 = true → ∃ M, F_X8_air Sm = some (nI q, sI (sI (sI M 8 0 13 0) 8 0 12 (nI q)) 8 0 11 (nI (q + 1))) ∧ zv_TF q Sm M ∧ zv_TD q (zv_txtP T n).2.2 M ∧ gI M 28 0 q = nI (zv_txtP T n).2.2.length) := by
  obtain ⟨M, e, f, g, d⟩ := zv_m_txt (q := q) (by omega) hP hL
  have e11 : gI M 8 0 11 = nI q := by rw [f.2.2.2.1 0 11 (by omega)]; exact h11
  have er : F_X8_air Sm = (if zv_bI (zv_txtP T n).1 = 0 then some (-10 - nI (zv_txtP T n).2.1, sI M 8 0 13 0) else some (nI q, sI (sI (sI M 8 0 13 0) 8 0 12 (nI q)) 8 0 11 (nI (q + 1)))) := by
    have a14 : gI (sI M 8 0 13 0) 8 0 14 = nI (zv_txtP T n).2.1 := by rw [gI_sI, if_neg (by omega)]; exact g
    have a11 : gI (sI M 8 0 13 0) 8 0 11 = nI q := by rw [gI_sI, if_neg (by omega)]; exact e11
    have b11 : gI (sI (sI M 8 0 13 0) 8 0 12 (nI q)) 8 0 11 = nI q := by rw [gI_sI, if_neg (by omega)]; exact a11
    have b12 : gI (sI (sI (sI M 8 0 13 0) 8 0 12 (nI q)) 8 0 11 (nI (q + 1))) 8 0 12 = nI q := by rw [gI_sI, if_neg (by omega), gI_sI, if_pos ⟨rfl, rfl, rfl⟩]
    unfold F_X8_air
    rw [h11, if_neg (show ¬ nI q = 6 by rw [show (6 : Int32) = nI 6 from rfl, zv_nIeq (by omega) (by omega)]; omega), e, zv_bndS, a14, a11, b11, zv_nIs q (by omega), b12]
  rw [er]
  constructor
  · intro hr
    rw [hr, if_pos (show zv_bI false = 0 from rfl)]
    exact ⟨M, rfl, f⟩
  · intro hr
    obtain ⟨d1, d2⟩ := d hr
    rw [hr, if_neg (show ¬ zv_bI true = 0 by decide)]
    exact ⟨M, rfl, f, d1, d2⟩
theorem zv_tkB {T : Nat → Int32} {n : Nat} : ∀ (m i : Nat), i ≤ n → (zv_txtL T n m i).1 = true → (zv_toks (zv_txtL T n m i).2.2).length + i ≤ n := by
  intro m
  induction m with
  | zero => intro i hi _; show (zv_toks []).length + i ≤ n; show 0 + i ≤ n; omega
  | succ m ih =>
    intro i hi h
    unfold zv_txtL at h ⊢
    by_cases h1 : zv_pk T n i = 59
    · have hin := zv_pkB h1 (by decide)
      rw [if_pos h1] at h ⊢
      simp only [Bool.and_eq_true] at h
      obtain ⟨zv_c1, c2, c3⟩ := zv_clsB (T := T) (n := n) (i := i + 1) (by omega)
      obtain ⟨-, -, -, c4⟩ := c3 h.1
      have := ih _ c2 h.2
      rw [show (zv_clsP T n (i + 1)).2.2 :: (zv_txtL T n m (zv_clsP T n (i + 1)).2.1).2.2 = [(zv_clsP T n (i + 1)).2.2] ++ (zv_txtL T n m (zv_clsP T n (i + 1)).2.1).2.2 from rfl, zv_toksA, zv_toks1, List.length_append]
      omega
    · rw [if_neg h1]
      show 0 + i ≤ n; omega
theorem zv_tkP {T : Nat → Int32} {n : Nat} (h : (zv_txtP T n).1 = true) : (zv_toks (zv_txtP T n).2.2).length ≤ n := by
  unfold zv_txtP at h ⊢
  simp only [Bool.and_eq_true] at h
  obtain ⟨zv_c1, c2, c3⟩ := zv_clsB (T := T) (n := n) (i := 0) (Nat.zero_le _)
  obtain ⟨-, -, -, c4⟩ := c3 h.1
  have := zv_tkB 9 _ c2 h.2
  rw [show (zv_clsP T n 0).2.2 :: (zv_txtL T n 9 (zv_clsP T n 0).2.1).2.2 = [(zv_clsP T n 0).2.2] ++ (zv_txtL T n 9 (zv_clsP T n 0).2.1).2.2 from rfl, zv_toksA, zv_toks1, List.length_append]
  omega
theorem zv_toksS {cs : List zv_Cl} {c : Nat} (h : c < cs.length) : zv_toks cs = zv_toks (cs.take c) ++ ((cs.getD c zv_d0).2.2 ++ zv_toks (cs.drop (c + 1))) := by
  have e : cs = cs.take c ++ ([cs.getD c zv_d0] ++ cs.drop (c + 1)) := by
    rw [List.getD_eq_getElem?_getD, List.getElem?_eq_getElem h]
    simp only [Option.getD_some, List.singleton_append]
    rw [← List.drop_eq_getElem_cons h, List.take_append_drop]
  conv => lhs; rw [e]
  rw [zv_toksA, zv_toksA, zv_toks1]
theorem zv_getDr {l r : List Int32} {j : Nat} : (l ++ r).getD (l.length + j) 0 = r.getD j 0 := zv_getD_app_r
/-- the new AIR's clauses -/
theorem zv_RV2new {q : Nat} {cs : List zv_Cl} {M : St} (h : zv_TD q cs M) (h28 : gI M 28 0 q = nI cs.length) (hl : (zv_toks cs).length ≤ 100) (hq : q ≤ 5) : zv_RV2 q cs (gI M 28 0) (gI M 29 0) (gI M 30 0) (gI M 31 0) (gI M 32 0) (gI M 33 0) := by
  obtain ⟨h1, h2, h3⟩ := h
  refine ⟨h28, fun c hc => ?_⟩
  obtain ⟨g1, g2, g3⟩ := h3 c hc
  have es := zv_toksS hc
  refine ⟨g1, g2, fun y => ?_⟩
  obtain ⟨g4, g5⟩ := g3 y
  have el : (zv_toks cs).length = (zv_toks (cs.take c)).length + ((cs.getD c zv_d0).2.2.length + (zv_toks (cs.drop (c + 1))).length) := by
    conv => lhs; rw [es]
    rw [List.length_append, List.length_append]
  refine ⟨100 * q + (zv_toks (cs.take c)).length, 100 * q + (zv_toks (cs.take c)).length + (cs.getD c zv_d0).2.2.length, by omega, by omega, g4, g5, rfl, fun i hi => ?_⟩
  have hi' : i < (cs.getD c zv_d0).2.2.length := hi
  rw [Nat.add_assoc, h2 _ (by omega), es, zv_getDr, zv_getD_app_l hi']
  rfl
/-- what older AIRS left stays -/
theorem zv_RVold {q : Nat} {cs : Nat → List zv_Cl} {Sx Sm X M : St} (hq : q ≤ 5) (h : zv_RV q cs (gI Sx 0) (gI Sx 16) (gI Sm 28 0) (gI Sm 29 0) (gI Sm 30 0) (gI Sm 31 0) (gI Sm 32 0) (gI Sm 33 0)) (hX : ∀ a, a ≠ 1 + q → gI X 0 a = gI Sx 0 a ∧ gI X 16 a = gI Sx 16 a) (hM : zv_TF q Sm M) (a : Nat) (ha : a ≤ q) :
    (∀ c, c ∈ cs a → zv_okC c) ∧ (cs a).length ≤ 10 ∧ zv_RV1 (cs a) (gI X 0 a) (gI X 16 a) ∧ (1 ≤ a → zv_RV2 (a - 1) (cs a) (gI M 28 0) (gI M 29 0) (gI M 30 0) (gI M 31 0) (gI M 32 0) (gI M 33 0)) := by
  obtain ⟨h1, h2, h3, h4⟩ := h.2 a ha
  obtain ⟨e0, e16⟩ := hX a (by omega)
  refine ⟨h1, h2, by rw [e0, e16]; exact h3, fun h1a => ?_⟩
  obtain ⟨k1, k2⟩ := h4 h1a
  refine ⟨by rw [hM.2.2.2.2.1 (a - 1) (by omega)]; exact k1, fun c hc => ?_⟩
  obtain ⟨g1, g2, g3⟩ := k2 c hc
  rw [hM.2.2.2.2.2.1 29 _ (by omega) (by omega) (by omega), hM.2.2.2.2.2.1 30 _ (by omega) (by omega) (by omega), hM.2.2.2.2.2.1 31 _ (by omega) (by omega) (by omega), hM.2.2.2.2.2.1 32 _ (by omega) (by omega) (by omega)]
  refine ⟨g1, g2, fun y => ?_⟩
  obtain ⟨p, b, p1, p2, p3, p4, p5, p6⟩ := g3 y
  exact ⟨p, b, p1, p2, p3, p4, p5, fun i hi => by rw [hM.2.2.2.2.2.2 _ (by omega)]; exact p6 i hi⟩
theorem zv_SRy {q q' s : Nat} {Sx X : St} {lf mi ml hi is hm the the' lg sn bk : Int32} {kd v wh pl rw lw ln sm bw bc : Nat → Int32} (h : zv_SR q s Sx lf mi ml hi is hm the lg sn bk kd v wh pl rw lw ln sm bw bc)
    (e : ∀ f, f ≠ 0 → f ≠ 1 → f ≠ 7 → f ≠ 16 → gI X f = gI Sx f) (hA : zv_SA q' (gR X 5 s 8) the') : zv_SR q' s X lf mi ml hi is hm the' lg sn bk kd v wh pl rw lw ln sm bw bc := by
  obtain ⟨c, u1, u2, u3, u4, u5, u6, u7⟩ := h
  unfold zv_SR
  rw [e 5 (by decide) (by decide) (by decide) (by decide), e 4 (by decide) (by decide) (by decide) (by decide), e 14 (by decide) (by decide) (by decide) (by decide), e 15 (by decide) (by decide) (by decide) (by decide), e 3 (by decide) (by decide) (by decide) (by decide), e 13 (by decide) (by decide) (by decide) (by decide), e 2 (by decide) (by decide) (by decide) (by decide)]
  exact ⟨c, u1, u2, u3, u4, u5, hA, u7⟩
theorem zv_SAof {q s : Nat} {Sx : St} {lf mi ml hi is hm the lg sn bk : Int32} {kd v wh pl rw lw ln sm bw bc : Nat → Int32} (h : zv_SR q s Sx lf mi ml hi is hm the lg sn bk kd v wh pl rw lw ln sm bw bc) : zv_SA q (gR Sx 5 s 8) the := by
  obtain ⟨c, u1, u2, u3, u4, u5, u6, u7⟩ := h
  exact u6
theorem zv_RAn {k q : Nat} {Sx X : St} (hRA : zv_RA k (gR Sx 9 0)) (h1 : q ≤ k) (h2 : k ≤ q + 1) (e : ∀ j, gR X 9 0 j = if j = q then some (1 + q) else gR Sx 9 0 j) : zv_RA (q + 1) (gR X 9 0) := by
  intro j hj
  rw [e j]
  by_cases hq : j = q
  · rw [if_pos hq, if_pos (by omega), hq]
  · rw [if_neg hq, hRA j hj]
    by_cases hk : j < k
    · rw [if_pos hk, if_pos (by omega)]
    · rw [if_neg hk, if_neg (by omega)]
theorem m_air {k : Nat} {Sx Sm : St} (hR : Rel k Sx Sm) : ∃ (r : Int32) (k' : Nat) (Sx' Sm' : St), F_X7_air k Sx = some ((r, k'), Sx') ∧ F_X8_air Sm = some (r, Sm') ∧ Rel k' Sx' Sm' := by
  have hR0 := hR
  obtain ⟨q, cs, w1, w2, w3, w4, w5, w6, w7, zv_w8, w9, w10, w11, w12⟩ := hR
  obtain ⟨b1, b2, b3, b4, b5⟩ := w1
  by_cases hq6 : q = 6
  · subst hq6
    refine ⟨-4, k, Sx, Sm, ?_, ?_, hR0⟩
    · unfold F_X7_air
      rw [b4, if_neg (show ¬ nI 6 < 6 by decide)]
    · unfold F_X8_air
      rw [b5, if_pos (show nI 6 = 6 from rfl)]
  have hq : q < 6 := by omega
  obtain ⟨n, n1, n2, n3, n4⟩ := w4
  have hT : zv_TB (gI Sm 27 0) n := ⟨n1, fun i hi => (n4 i hi).2⟩
  have hP : zv_PB (gI Sm 27 0) n Sm := ⟨hT, n3, fun _ _ => rfl⟩
  obtain ⟨x1, x2⟩ := zv_x7_air (k := k) (T := gI Sm 27 0) hT n2 (fun i hi => (n4 i hi).1) b4 hq w2 b1 b2
  obtain ⟨y1, y2⟩ := zv_x8_air (q := q) hP zv_w8 b5 hq
  have tail : ∀ (X M : St), gJ X = gJ Sx → (∀ f, f ≠ 0 → f ≠ 1 → f ≠ 7 → f ≠ 16 → gI X f = gI Sx f) → gI X 7 0 9 = gI Sx 7 0 9 → gI X 7 0 10 = gI Sx 7 0 10 → gI X 1 0 1 = 0 → (∀ f, f ≠ 1 → f ≠ 5 → f ≠ 9 → gR X f = gR Sx f) →
      gJ M = gJ Sm → (∀ f, f ≠ 8 → f < 28 ∨ 34 < f → gI M f = gI Sm f) → (∀ b, b ≠ 11 → b ≠ 12 → b ≠ 13 → ¬ (b = 14 ∨ b = 15 ∨ b = 24 ∨ b = 25 ∨ b = 26) → gI M 8 0 b = gI Sm 8 0 b) → gI M 8 0 13 = 0 →
      ∀ (q' : Nat) (cs' : Nat → List zv_Cl), q ≤ q' → (∀ a, a ≤ q → cs' a = cs a) → zv_RB (q + 1) q' (gI X 7 0 8) (gI M 8 0 11) → zv_RA (q + 1) (gR X 9 0) → zv_RV q' cs' (gI X 0) (gI X 16) (gI M 28 0) (gI M 29 0) (gI M 30 0) (gI M 31 0) (gI M 32 0) (gI M 33 0) → zv_SA q' (gR X 5 0 8) (gI M 8 0 12) → zv_SA q' (gR X 5 1 8) (gI M 8 0 45) → zv_RW (q + 1) q' cs' X M := by
    intro X M eJ eI e79 e710 e11 eR mJ mI m8 m13 q' cs' hqq hcs hRB hRA hRV hA0 hA1
    refine ⟨hRB, hRA, hRV, ?_, ?_, ?_, ?_, ?_, ?_, ?_, ?_, ?_⟩
    · rw [e11, m13]
      exact ⟨0, by decide, rfl, rfl, fun i hi => absurd hi (Nat.not_lt_zero _)⟩
    · rw [e79, m8 65 (by decide) (by decide) (by decide) (by omega), eI 10 (by decide) (by decide) (by decide) (by decide), mI 52 (by decide) (by omega)]
      exact w5
    · rw [eI 6 (by decide) (by decide) (by decide) (by decide), eJ, mJ, mI 53 (by decide) (by omega), mI 54 (by decide) (by omega)]
      exact w6
    · rw [e710, m8 44 (by decide) (by decide) (by decide) (by omega)]
      exact w7
    · rw [mI 35 (by decide) (by omega)]; exact zv_w8
    · rw [eI 3 (by decide) (by decide) (by decide) (by decide)]; exact w9
    · rw [eI 3 (by decide) (by decide) (by decide) (by decide), eR 3 (by decide) (by decide) (by decide)]
      intro i hi a ha
      obtain ⟨z1, z2⟩ := w10 i hi a ha
      exact ⟨by omega, by rw [hcs a z1]; exact z2⟩
    · unfold zv_S0 at *
      rw [m8 0 (by decide) (by decide) (by decide) (by omega), m8 1 (by decide) (by decide) (by decide) (by omega), m8 2 (by decide) (by decide) (by decide) (by omega), m8 3 (by decide) (by decide) (by decide) (by omega), m8 4 (by decide) (by decide) (by decide) (by omega), m8 5 (by decide) (by decide) (by decide) (by omega), m8 36 (by decide) (by decide) (by decide) (by omega), m8 39 (by decide) (by decide) (by decide) (by omega), m8 41 (by decide) (by decide) (by decide) (by omega),
        mI 22 (by decide) (by omega), mI 23 (by decide) (by omega), mI 24 (by decide) (by omega), mI 25 (by decide) (by omega), mI 26 (by decide) (by omega), mI 37 (by decide) (by omega), mI 38 (by decide) (by omega), mI 39 (by decide) (by omega), mI 40 (by decide) (by omega), mI 41 (by decide) (by omega)]
      exact zv_SRy w11 eI hA0
    · unfold zv_S1 at *
      rw [m8 45 (by decide) (by decide) (by decide) (by omega)] at hA1
      rw [m8 45 (by decide) (by decide) (by decide) (by omega), m8 46 (by decide) (by decide) (by decide) (by omega), m8 47 (by decide) (by decide) (by decide) (by omega), m8 48 (by decide) (by decide) (by decide) (by omega), m8 49 (by decide) (by decide) (by decide) (by omega), m8 50 (by decide) (by decide) (by decide) (by omega), m8 51 (by decide) (by decide) (by decide) (by omega), m8 52 (by decide) (by decide) (by decide) (by omega), m8 53 (by decide) (by decide) (by decide) (by omega), m8 54 (by decide) (by decide) (by decide) (by omega),
        mI 42 (by decide) (by omega), mI 43 (by decide) (by omega), mI 44 (by decide) (by omega), mI 45 (by decide) (by omega), mI 46 (by decide) (by omega), mI 47 (by decide) (by omega), mI 48 (by decide) (by omega), mI 49 (by decide) (by omega), mI 50 (by decide) (by omega), mI 51 (by decide) (by omega)]
      exact zv_SRy w12 eI hA1
  cases hr : (zv_txtP (gI Sm 27 0) n).1 with
  | false =>
    obtain ⟨X, e1, g1, g2, g3, g4, g5, g6⟩ := x1 hr
    obtain ⟨M, e2, f⟩ := y1 hr
    obtain ⟨f1, f2, f3, f4, f5, f6, f7⟩ := f
    refine ⟨_, q + 1, X, _, e1, e2, q, cs, ?_⟩
    have mI : ∀ f, f ≠ 8 → gI (sI M 8 0 13 0) f = gI M f := fun f hf => zv_gI_f hf
    refine tail X (sI M 8 0 13 0) g1 (fun f h0 h1 _ h16 => g2 f h0 h1 h16) (by rw [g2 7 (by decide) (by decide) (by decide)]) (by rw [g2 7 (by decide) (by decide) (by decide)]) g6 (fun f h1 _ h9 => g4 f h9 h1) f1 (fun f h8 h => by rw [mI f h8]; exact f3 f h8 h) (fun b h11 h12 h13 hb => by rw [gI_sI, if_neg (by omega)]; exact f4 0 b (fun z => hb z.2)) (by rw [gI_sI, if_pos ⟨rfl, rfl, rfl⟩]) q cs (Nat.le_refl _) (fun _ _ => rfl) ?_ (zv_RAn w2 b1 b2 g5) ?_ ?_ ?_
    · refine ⟨by omega, by omega, by omega, ?_, ?_⟩
      · rw [g2 7 (by decide) (by decide) (by decide)]; exact b4
      · rw [gI_sI, if_neg (by omega), f4 0 11 (by omega)]; exact b5
    · rw [mI 28 (by decide), mI 29 (by decide), mI 30 (by decide), mI 31 (by decide), mI 32 (by decide), mI 33 (by decide)]
      exact ⟨w3.1, fun a ha => zv_RVold (by omega) w3 g3 ⟨f1, f2, f3, f4, f5, f6, f7⟩ a ha⟩
    · rw [g4 5 (by decide) (by decide), gI_sI, if_neg (by omega), f4 0 12 (by omega)]
      exact zv_SAof w11
    · rw [g4 5 (by decide) (by decide), gI_sI, if_neg (by omega), f4 0 45 (by omega)]
      exact zv_SAof w12
  | true =>
    obtain ⟨X, e1, ⟨g1, g2, g3, g4, g5, g6⟩, hV1⟩ := x2 hr
    obtain ⟨M, e2, f, d, d28⟩ := y2 hr
    obtain ⟨-, hB⟩ := zv_tpB (T := gI Sm 27 0) (n := n)
    obtain ⟨hB1, hB2, hB3⟩ := hB hr
    have htk := zv_tkP hr
    obtain ⟨f1, f2, f3, f4, f5, f6, f7⟩ := f
    generalize (zv_txtP (gI Sm 27 0) n).2.2 = nw at *
    refine ⟨_, q + 1, _, _, e1, e2, q + 1, (fun a => if a = q + 1 then nw else cs a), ?_⟩
    have xI : ∀ f, f ≠ 7 → gI (sI (sR X 5 0 8 (some (1 + q))) 7 0 8 (nI (q + 1))) f = gI X f := fun f hf => by rw [zv_gI_f hf]; rfl
    have mI : ∀ f, f ≠ 8 → gI (sI (sI (sI M 8 0 13 0) 8 0 12 (nI q)) 8 0 11 (nI (q + 1))) f = gI M f := fun f hf => by rw [zv_gI_f hf, zv_gI_f hf, zv_gI_f hf]
    have m8 : ∀ b, b ≠ 11 → b ≠ 12 → b ≠ 13 → gI (sI (sI (sI M 8 0 13 0) 8 0 12 (nI q)) 8 0 11 (nI (q + 1))) 8 0 b = gI M 8 0 b := fun b h1 h2 h3 => by rw [gI_sI, if_neg (by omega), gI_sI, if_neg (by omega), gI_sI, if_neg (by omega)]
    have x7 : ∀ j, j ≠ 8 → gI (sI (sR X 5 0 8 (some (1 + q))) 7 0 8 (nI (q + 1))) 7 0 j = gI Sx 7 0 j := fun j hj => by rw [gI_sI, if_neg (by omega), zv_kI_sR, g2 7 (by decide) (by decide) (by decide)]
    refine tail (sI (sR X 5 0 8 (some (1 + q))) 7 0 8 (nI (q + 1))) (sI (sI (sI M 8 0 13 0) 8 0 12 (nI q)) 8 0 11 (nI (q + 1))) g1 (fun f h0 h1 h7 h16 => by rw [xI f h7]; exact g2 f h0 h1 h16) (x7 9 (by decide)) (x7 10 (by decide)) (by rw [xI 1 (by decide)]; exact g6) (fun f h1 h5 h9 => by rw [zv_kR_sI, zv_gR_f h5]; exact g4 f h9 h1) f1 (fun f h8 h => by rw [mI f h8]; exact f3 f h8 h) (fun b h11 h12 h13 hb => by rw [m8 b h11 h12 h13]; exact f4 0 b (fun z => hb z.2)) (by rw [gI_sI, if_neg (by omega), gI_sI, if_neg (by omega), gI_sI, if_pos ⟨rfl, rfl, rfl⟩]) (q + 1) _ (by omega) (fun a ha => if_neg (by omega)) ?_ ?_ ?_ ?_ ?_
    · refine ⟨by omega, by omega, by omega, ?_, ?_⟩
      · rw [gI_sI, if_pos ⟨rfl, rfl, rfl⟩]
      · rw [gI_sI, if_pos ⟨rfl, rfl, rfl⟩]
    · refine zv_RAn w2 b1 b2 (fun j => ?_)
      rw [zv_kR_sI, zv_gR_f (by decide)]; exact g5 j
    · rw [xI 0 (by decide), xI 16 (by decide), mI 28 (by decide), mI 29 (by decide), mI 30 (by decide), mI 31 (by decide), mI 32 (by decide), mI 33 (by decide)]
      refine ⟨by simp only []; rw [if_neg (by omega)]; exact w3.1, fun a ha => ?_⟩
      by_cases hq1 : a = q + 1
      · subst hq1
        simp only [reduceIte]
        rw [show 1 + q = q + 1 by omega] at hV1
        exact ⟨hB1, hB2, hV1, fun _ => zv_RV2new d d28 (by omega) (by omega)⟩
      · simp only [hq1, reduceIte]
        exact zv_RVold (by omega) w3 g3 ⟨f1, f2, f3, f4, f5, f6, f7⟩ a (by omega)
    · refine ⟨1 + q, by omega, ?_, ?_⟩
      · rw [zv_kR_sI, gR_sR, if_pos ⟨rfl, rfl, rfl⟩]
      · rw [gI_sI, if_neg (by omega), gI_sI, if_pos ⟨rfl, rfl, rfl⟩, show 1 + q = q + 1 by omega, zv_nIp q (by omega)]
    · obtain ⟨a, a1, a2, a3⟩ := zv_SAof w12
      refine ⟨a, by omega, ?_, ?_⟩
      · rw [zv_kR_sI, gR_sR, if_neg (by omega), g4 5 (by decide) (by decide)]; exact a2
      · rw [m8 45 (by decide) (by decide) (by decide), f4 0 45 (by omega)]; exact a3
