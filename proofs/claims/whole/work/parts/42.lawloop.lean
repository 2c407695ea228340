theorem nM_fam {f i : Nat} (hi : i < nM f) : f ≠ 0 ∧ f ≠ 16 := by
  refine ⟨?_, ?_⟩ <;> rintro rfl <;> exact absurd hi (Nat.not_lt_zero _)
theorem ct_M {cy : Nat → ClassId} {ad ad' : Nat → Nat → Nat} {S : St} {f i : Nat} (hi : i < nM f) (h : ∀ f i, f ≠ 0 → f ≠ 16 → ad' f i = ad f i) : ct cy ad' S f i = ct cy ad S f i := by
  have hk : ∀ j, j < 71 → kf 8 j = 0 ∨ (kf 8 j = 1 ∧ (kg 8 j 0).1 ≠ 0 ∧ (kg 8 j 0).1 ≠ 16) := by decide +kernel
  have h8 : ∀ j, j < 71 → fv ad' 8 0 (gI S 8 0) (gR S 8 0) j = fv ad 8 0 (gI S 8 0) (gR S 8 0) j := by
    intro j hj
    unfold fv
    rcases hk j hj with e | ⟨e, n0, n1⟩
    · rw [e]; rfl
    · rw [e]
      show Value.ref _ = Value.ref _
      rw [h _ _ n0 n1]
  by_cases hf : f = 8
  · subst hf
    have hi : i < 1 := hi
    have h0 : i = 0 := by omega
    subst h0
    rw [ct_obj rfl, ct_obj rfl]
    exact congrArg (fun z => (Sum.inr (8, z) : va_E)) (List.map_congr_left (fun j hj => h8 j (List.mem_range.mp hj)))
  · unfold nM at hi
    split at hi <;> first
      | exact absurd hi (Nat.not_lt_zero _)
      | exact absurd rfl hf
      | rfl
section LAIR
variable {p : Program} {l : Launch} {e : Env} {s : State} {m : MethodId} {below : List Frame} {meth : Method} {c : Code} {b L : Nat} {xs : Nat → Int32} {D : va_G} {cy : Nat → ClassId} {cells slots : Nat} {ad : Nat → Nat → Nat} {k : Nat} {Sx Sm : St} {pc q : Nat} {ls : List (Nat × Value)} {st rest : List Value}
theorem L_case {P : Prop} [Decidable P] (h1 : P → LT p l e s m below meth c b D cy cells slots ad k Sx Sm pc ls st) (h2 : ¬ P → LT p l e s m below meth c b D cy cells slots ad k Sx Sm pc ls st) : LT p l e s m below meth c b D cy cells slots ad k Sx Sm pc ls st := by
  by_cases h : P
  · exact h1 h
  · exact h2 h
theorem L_callA {r : Int32} {k' : Nat} {Sx' : St} {index : Nat} (cx : CL p s m meth c b L xs D cy cells slots) (lj : LJ ad k s) (hk : k ≤ 14) (hc1 : cells + 2 ≤ 600000) (hc2 : slots + 104 ≤ 7302250) (hd : decode cL_law pc = .ok (.invokevirtual index, 3)) (hq : pc + 3 = q) (hml : ML RL index yX7_air RX7 cX7_air 3 (some .int) 0) (hw : (rest.map fun v => v.category).sum ≤ 8)
    (hres : F_X7_air k Sx = some ((r, k'), Sx')) (kk : ∀ ad' : Nat → Nat → Nat, LJ ad' k' s → ad' 7 0 = ad 7 0 → ad' 8 0 = ad 8 0 → LT p l e s m below meth c b D cy (cells + 2) (slots + 104) ad' k' Sx' Sm q ls (.int r :: rest)) : LT p l e s m below meth c b D cy cells slots ad k Sx Sm pc ls (.ref (ad 7 0) :: rest) := by
  subst hq
  intro H locs la hl hP hM hS
  obtain ⟨⟨hx, hb, hr, hml0, hown, hts, hX, hbl, hlocks, hgv⟩, hK, -, -⟩ := cx
  obtain ⟨m1, m2, m3, m4, m5, m6, m7⟩ := hml
  obtain ⟨j1, j2, j3, j4, j5, hE⟩ := lj
  have htG : ∀ w ∈ lwG, w.before #[Value.ref b] s = true := fun w h => hts w (List.mem_filter.mp h).1
  have h1 := wP_one hP (show 7 < 64 by decide) (show 0 < nX k 7 from Nat.zero_lt_one)
  rw [ct_obj rfl] at h1
  have cw : CallW room_1 s #[Value.ref b] RL RX7 index yX7_air cX7_air 3 (some .int) (.code yX7_air cX7_air 3 (some .int) :: lwG) RAir 2 104 0 := ⟨callB_of 0 htG (lwG_good (fun w h => (List.mem_cons.mp h).elim (fun e => e ▸ m5) id)) rfl rfl rfl (htG _ m4) (htG _ m1) ⟨m6.1, m6.2, m7⟩ ⟨Nat.le_of_ble_eq_true rfl, Nat.le_of_ble_eq_true rfl⟩, htG _ m2, htG _ m3⟩
  have run := va_runV (As := []) (rest := rest) (b := ad 7 0) (g := F0 m pc la (.ref (ad 7 0) :: rest)) (locs := locs) (cells := cells) (slots := slots) (below := below) (meth := meth) (e := e) ⟨hx, hb, hml0, hown, htG⟩ (c_X7_air l j1 hk Sx _ _ hres H.size) cw ⟨wB_blind, va_recv hK h1 (cf_7).1 (q0 := 0) rfl, fun U hU hW => ⟨rfl, wB_law hK hE j4 hP hS hU hW⟩⟩ rfl rfl hl.1 rfl (lv_room hw) hd ⟨hc1, hc2⟩
  intro T hT X
  obtain ⟨v, st₀, t, T', Lc, h0, X', hL, e1, e2, ⟨⟨hv, ad', a1, a2, a3, a4, hP'⟩, hF1, hF2⟩, go⟩ := run T hT X
  have hv2 : v = some (.int r) := by injection hv
  subst hv2
  rw [h0] at hF1 hF2
  have hin : ∀ q, wA ad (nX k) H.size q → lwB s q := fun q h => by
    rcases h with ⟨f, i, hf, hi, rfl⟩ | h
    · exact j4 f i hf hi
    · exact Nat.le_trans hS.1 h
  have hM1 : wP D cy ad nM Sm T'.heap := by
    refine wP_frame (A := wA ad (nX k) H.size) hM (fun f i hf hi h => ?_) (fun q h1 h2 => by rw [e1]; exact hF2 q h1 h2)
    rcases h with ⟨f', i', hf', hi', e⟩ | h
    · exact j3 f' i' f i hf' hi' hf hi e.symm
    · exact absurd (hM.1 f i hf hi).lt (Nat.not_lt.mpr h)
  have hM' : wP D cy ad' nM Sm T'.heap := by
    refine ⟨fun f i hf hi => ?_, hM1.2⟩
    obtain ⟨n0, n1⟩ := nM_fam hi
    rw [a2 f i n0 n1, ct_M hi a2]
    exact hM1.1 f i hf hi
  have lj' : LJ ad' k' s := by
    refine ⟨a3, ⟨j2.1, fun f i f' i' hf hf' hi hi' he => ?_⟩, fun f i f' i' hf hi hf' hi' he => ?_, fun f i hf hi => ?_, fun f i hf hi => ?_, ?_⟩
    · rw [a2 f i (nM_fam hi).1 (nM_fam hi).2, a2 f' i' (nM_fam hi').1 (nM_fam hi').2] at he
      exact j2.2 f i f' i' hf hf' hi hi' he
    · rw [a2 f' i' (nM_fam hi').1 (nM_fam hi').2] at he
      rcases a4 f i hf hi with ⟨h1, h2⟩ | h
      · rw [h2] at he; exact j3 f i f' i' hf h1 hf' hi' he
      · have h3 := (hM.1 f' i' hf' hi').lt
        have h4 : ad f' i' < H.size := h3
        omega
    · rcases a4 f i hf hi with ⟨h1, h2⟩ | h
      · rw [h2]; exact j4 f i hf h1
      · exact Nat.le_trans hS.1 h
    · rw [a2 f i (nM_fam hi).1 (nM_fam hi).2]; exact j5 f i hf hi
    · have e1 : ad' 19 = ad 19 := by funext i; exact a2 19 i (by decide) (by decide)
      have e2 : ad' 20 = ad 20 := by funext i; exact a2 20 i (by decide) (by decide)
      have e3 : ad' 21 = ad 21 := by funext i; exact a2 21 i (by decide) (by decide)
      unfold EX
      rw [e1, e2, e3]
      exact hE
  obtain ⟨t2, b1, b2⟩ := kk ad' lj' (a2 7 0 (by decide) (by decide)) (a2 8 0 (by decide) (by decide)) T'.heap (locs ++ Lc) la hl (by rw [e1]; exact hP') hM' ⟨Nat.le_trans hS.1 (by rw [e1]; exact hF1), fun q h1 h2 => by
      rw [e1, hF2 q (Nat.lt_of_lt_of_le h1 hS.1) (fun z => h2 (hin q z))]
      exact hS.2.1 q h1 h2, fun q hq => by
      rcases List.mem_append.mp hq with h | h
      · exact hS.2.2 q h
      · exact hin _ (hL q h)⟩ T' rfl X'
  exact ⟨t2, go t2 b1, b2⟩
theorem k_air (cx : CL p s m meth c b L xs D cy cells slots) (lj : LJ ad k s) (hRel : Rel k Sx Sm) {i : Int32} (hc1 : cells + 2 ≤ 600000) (hc2 : slots + 104 ≤ 7302250) (kk : ∀ (ad' : Nat → Nat → Nat) (k' : Nat) (Sx' Sm' : St), Rel k' Sx' Sm' → LJ ad' k' s → ad' 7 0 = ad 7 0 → ad' 8 0 = ad 8 0 → LT p l e s m below meth c b D cy (cells + 2) (slots + 104) ad' k' Sx' Sm' 1542 [(0, .ref b), (1, .ref (ad 7 0)), (2, .ref (ad 8 0)), (3, .int i)] []) : LT p l e s m below meth c b D cy cells slots ad k Sx Sm 405 [(0, .ref b), (1, .ref (ad 7 0)), (2, .ref (ad 8 0)), (3, .int i)] [] := by
  obtain ⟨r, k', Sx', Sm', hx, hm, hq⟩ := m_air hRel
  refine L_aload_n (q := 406) cx dL_law_405 rfl rfl ?_
  refine L_callA (q := 409) cx lj (Nat.le_trans (Rel_k hRel) (by decide)) hc1 hc2 dL_law_406 rfl ml_RL_37 (Nat.zero_le _) hx (fun ad' lj' e7 e8 => ?_)
  have cx' : CL p s m meth c b L xs D cy (cells + 2) (slots + 104) := ⟨cx.1, cx.2.1, hc1, hc2⟩
  refine L_aload_n (q := 410) cx' dL_law_409 rfl rfl ?_
  rw [← e8]
  refine L_callM (q := 413) (d' := 7) (As := []) (rest := [.int r]) (st' := [.int r, .int r]) cx' lj' dL_law_410 rfl ml_RL_41 rfl rfl (Nat.le_of_ble_eq_true rfl) (Nat.le_of_ble_eq_true rfl) (Nat.le_of_ble_eq_true rfl) (c_X8_air l lj'.2.1 _) hm rfl ?_
  refine L_eqy (t := 1542) cx' dL_law_413 (by decide) ?_
  rw [e8]
  exact kk ad' k' _ _ hq lj' e7 e8
set_option maxRecDepth 20000 in
set_option maxHeartbeats 8000000 in
theorem law_loop (CL0 : lw_At p s m meth c b L xs) (hL : L ≤ 3072) (hK : va_K D vwCl (tyl cy) s) : ∀ (n i : Nat) (ad : Nat → Nat → Nat) (k cells slots : Nat) (Sx Sm : St), i ≤ L → L < i + 6 * n → Rel k Sx Sm → LJ ad k s → cells + 2 * n ≤ 600000 → slots + 104 * n ≤ 7302250 → LT p l e s m below meth c b D cy cells slots ad k Sx Sm 18 [(0, .ref b), (1, .ref (ad 7 0)), (2, .ref (ad 8 0)), (3, .int (nI i))] [] := by
  intro n
  induction n with
  | zero => intro i ad k cells slots Sx Sm h1 h2; omega
  | succ n ih =>
    intro i ad k cells slots Sx Sm hi hn hRel lj hc1 hc2
    have cx : CL p s m meth c b L xs D cy cells slots := ⟨CL0, hK, by omega, by omega⟩
    refine L_iload_n (q := 19) cx dL_law_18 rfl rfl ?_
    refine L_aload_n (q := 20) cx dL_law_19 rfl rfl ?_
    refine L_slen (q := 21) cx dL_law_20 rfl ?_
    refine L_bipush (q := 23) (v := (6 : Int32)) cx dL_law_21 rfl (by decide) ?_
    refine L_isub (q := 24) cx dL_law_23 rfl ?_
    have hT : (Int32.ofNat L - 6).toInt = (L : Int) - 6 := pk_sub_toInt (a := L) (b := 6) (by omega) (by omega)
    have hI : (nI i).toInt = (i : Int) := nI_toInt (by omega)
    refine L_gt (q := 27) (t := 1548) cx dL_law_24 rfl (by decide) (fun c1 => ?_) (fun c1 => ?_)
    · refine L_iconst (q := 1549) (v := (1 : Int32)) cx dL_law_1548 rfl (by decide) ?_
      exact L_end cx dL_law_1549
    have h6 : i + 6 ≤ L := by
      have h := Int32.not_lt.mp c1
      rw [Int32.le_iff_toInt_le, hT, hI] at h
      omega
    have vv : ∀ j : Nat, j ≤ 5 → vp_in (nI i + nI j) L := fun j hj => by rw [nI_add]; exact vp_in_nI (by omega) (by omega)
    have v0 : vp_in (nI i) L := vp_in_nI (by omega) (by omega)
    have v1 : vp_in (nI i + (1 : Int32)) L := vv 1 (by decide)
    have v2 : vp_in (nI i + (2 : Int32)) L := vv 2 (by decide)
    have v3 : vp_in (nI i + (3 : Int32)) L := vv 3 (by decide)
    have v4 : vp_in (nI i + (4 : Int32)) L := vv 4 (by decide)
    have v5 : vp_in (nI i + (5 : Int32)) L := vv 5 (by decide)
    have next : ∀ (ad2 : Nat → Nat → Nat) (k2 cells2 slots2 : Nat) (Sx2 Sm2 : St), Rel k2 Sx2 Sm2 → LJ ad2 k2 s → cells2 + 2 * n ≤ 600000 → slots2 + 104 * n ≤ 7302250 → LT p l e s m below meth c b D cy cells2 slots2 ad2 k2 Sx2 Sm2 1542 [(0, .ref b), (1, .ref (ad2 7 0)), (2, .ref (ad2 8 0)), (3, .int (nI i))] [] := by
      intro ad2 k2 cells2 slots2 Sx2 Sm2 hRel2 lj2 hc1 hc2
      have cx : CL p s m meth c b L xs D cy cells2 slots2 := ⟨CL0, hK, by omega, by omega⟩
      refine L_iinc (q := 1545) (j := 3) (v := nI (i + 6)) (ls' := [(3, .int (nI (i + 6))), (0, .ref b), (1, .ref (ad2 7 0)), (2, .ref (ad2 8 0))]) cx dL_law_1542 rfl rfl (nI_add i 6) (by decide) rfl ?_
      refine L_goto (t := 18) cx dL_law_1545 (by decide) ?_
      exact L_loc [1, 2, 3, 0] rfl (ih (i + 6) ad2 k2 cells2 slots2 Sx2 Sm2 h6 (by omega) hRel2 lj2 hc1 hc2)
    refine L_aload_n (q := 28) cx dL_law_27 rfl rfl ?_
    refine L_iload_n (q := 29) cx dL_law_28 rfl rfl ?_
    refine L_sld (q := 30) cx dL_law_29 rfl v0 ?_
    refine L_bipush (q := 32) (v := (63 : Int32)) cx dL_law_30 rfl (by decide) ?_
    refine L_iand (q := 33) cx dL_law_32 rfl ?_
    refine L_case (P := xs (nI i).toNatClampNeg &&& 63 = 0) (fun w => ?_) (fun w0 => ?_)
    · refine L_tsw (t := 220) (off := 187) cx dL_law_33 w (by decide) (by decide) (by decide) (by decide) ?_
      exact k_lift cx lj hRel v1 v2 v3 v4 v5 (fun Sx2 Sm2 hRel2 => next ad k cells slots Sx2 Sm2 hRel2 lj (by omega) (by omega))
    refine L_case (P := xs (nI i).toNatClampNeg &&& 63 = 1) (fun w => ?_) (fun w1 => ?_)
    · refine L_tsw (t := 273) (off := 240) cx dL_law_33 w (by decide) (by decide) (by decide) (by decide) ?_
      exact k_of cx lj hRel v1 v2 v3 v4 v5 (fun Sx2 Sm2 hRel2 => next ad k cells slots Sx2 Sm2 hRel2 lj (by omega) (by omega))
    refine L_case (P := xs (nI i).toNatClampNeg &&& 63 = 2) (fun w => ?_) (fun w2 => ?_)
    · refine L_tsw (t := 306) (off := 273) cx dL_law_33 w (by decide) (by decide) (by decide) (by decide) ?_
      exact k_pull cx lj hRel v1 v2 v3 v4 v5 (fun Sx2 Sm2 hRel2 => next ad k cells slots Sx2 Sm2 hRel2 lj (by omega) (by omega))
    refine L_case (P := xs (nI i).toNatClampNeg &&& 63 = 3) (fun w => ?_) (fun w3 => ?_)
    · refine L_tsw (t := 339) (off := 306) cx dL_law_33 w (by decide) (by decide) (by decide) (by decide) ?_
      exact k_row cx lj hRel v1 v2 v3 v4 v5 (fun Sx2 Sm2 hRel2 => next ad k cells slots Sx2 Sm2 hRel2 lj (by omega) (by omega))
    refine L_case (P := xs (nI i).toNatClampNeg &&& 63 = 4) (fun w => ?_) (fun w4 => ?_)
    · refine L_tsw (t := 382) (off := 349) cx dL_law_33 w (by decide) (by decide) (by decide) (by decide) ?_
      exact k_feed cx lj hRel v1 v2 v3 v4 v5 (fun Sx2 Sm2 hRel2 => next ad k cells slots Sx2 Sm2 hRel2 lj (by omega) (by omega))
    refine L_case (P := xs (nI i).toNatClampNeg &&& 63 = 5) (fun w => ?_) (fun w5 => ?_)
    · refine L_tsw (t := 405) (off := 372) cx dL_law_33 w (by decide) (by decide) (by decide) (by decide) ?_
      exact k_air cx lj hRel (by omega) (by omega) (fun ad2 k2 Sx2 Sm2 hRel2 lj2 e7 e8 => by rw [← e7, ← e8]; exact next ad2 k2 (cells + 2) (slots + 104) Sx2 Sm2 hRel2 lj2 (by omega) (by omega))
    refine L_case (P := xs (nI i).toNatClampNeg &&& 63 = 6) (fun w => ?_) (fun w6 => ?_)
    · refine L_tsw (t := 418) (off := 385) cx dL_law_33 w (by decide) (by decide) (by decide) (by decide) ?_
      exact k_home cx lj hRel v1 v2 v3 v4 v5 (fun Sx2 Sm2 hRel2 => next ad k cells slots Sx2 Sm2 hRel2 lj (by omega) (by omega))
    refine L_case (P := xs (nI i).toNatClampNeg &&& 63 = 7) (fun w => ?_) (fun w7 => ?_)
    · refine L_tsw (t := 441) (off := 408) cx dL_law_33 w (by decide) (by decide) (by decide) (by decide) ?_
      exact k_height cx lj hRel v1 v2 v3 v4 v5 (fun Sx2 Sm2 hRel2 => next ad k cells slots Sx2 Sm2 hRel2 lj (by omega) (by omega))
    refine L_case (P := xs (nI i).toNatClampNeg &&& 63 = 8) (fun w => ?_) (fun w8 => ?_)
    · refine L_tsw (t := 464) (off := 431) cx dL_law_33 w (by decide) (by decide) (by decide) (by decide) ?_
      exact k_told cx lj hRel v1 v2 v3 v4 v5 (fun Sx2 Sm2 hRel2 => next ad k cells slots Sx2 Sm2 hRel2 lj (by omega) (by omega))
    refine L_case (P := xs (nI i).toNatClampNeg &&& 63 = 9) (fun w => ?_) (fun w9 => ?_)
    · refine L_tsw (t := 487) (off := 454) cx dL_law_33 w (by decide) (by decide) (by decide) (by decide) ?_
      exact k_enter cx lj hRel v1 v2 v3 v4 v5 (fun Sx2 Sm2 hRel2 => next ad k cells slots Sx2 Sm2 hRel2 lj (by omega) (by omega))
    refine L_case (P := xs (nI i).toNatClampNeg &&& 63 = 10) (fun w => ?_) (fun w10 => ?_)
    · refine L_tsw (t := 510) (off := 477) cx dL_law_33 w (by decide) (by decide) (by decide) (by decide) ?_
      exact k_turn cx lj hRel v1 v2 v3 v4 v5 (fun Sx2 Sm2 hRel2 => next ad k cells slots Sx2 Sm2 hRel2 lj (by omega) (by omega))
    refine L_case (P := xs (nI i).toNatClampNeg &&& 63 = 11) (fun w => ?_) (fun w11 => ?_)
    · refine L_tsw (t := 533) (off := 500) cx dL_law_33 w (by decide) (by decide) (by decide) (by decide) ?_
      exact k_glide cx lj hRel v1 v2 v3 v4 v5 (fun Sx2 Sm2 hRel2 => next ad k cells slots Sx2 Sm2 hRel2 lj (by omega) (by omega))
    refine L_case (P := xs (nI i).toNatClampNeg &&& 63 = 12) (fun w => ?_) (fun w12 => ?_)
    · refine L_tsw (t := 566) (off := 533) cx dL_law_33 w (by decide) (by decide) (by decide) (by decide) ?_
      exact k_up cx lj hRel v1 v2 v3 v4 v5 (fun Sx2 Sm2 hRel2 => next ad k cells slots Sx2 Sm2 hRel2 lj (by omega) (by omega))
    refine L_case (P := xs (nI i).toNatClampNeg &&& 63 = 13) (fun w => ?_) (fun w13 => ?_)
    · refine L_tsw (t := 599) (off := 566) cx dL_law_33 w (by decide) (by decide) (by decide) (by decide) ?_
      exact k_top cx lj hRel v1 v2 v3 v4 v5 (fun Sx2 Sm2 hRel2 => next ad k cells slots Sx2 Sm2 hRel2 lj (by omega) (by omega))
    refine L_case (P := xs (nI i).toNatClampNeg &&& 63 = 14) (fun w => ?_) (fun w14 => ?_)
    · refine L_tsw (t := 632) (off := 599) cx dL_law_33 w (by decide) (by decide) (by decide) (by decide) ?_
      exact k_arrives cx lj hRel v1 v2 v3 v4 v5 (fun Sx2 Sm2 hRel2 => next ad k cells slots Sx2 Sm2 hRel2 lj (by omega) (by omega))
    refine L_case (P := xs (nI i).toNatClampNeg &&& 63 = 15) (fun w => ?_) (fun w15 => ?_)
    · refine L_tsw (t := 665) (off := 632) cx dL_law_33 w (by decide) (by decide) (by decide) (by decide) ?_
      exact k_outed cx lj hRel v1 v2 v3 v4 v5 (fun Sx2 Sm2 hRel2 => next ad k cells slots Sx2 Sm2 hRel2 lj (by omega) (by omega))
    refine L_case (P := xs (nI i).toNatClampNeg &&& 63 = 16) (fun w => ?_) (fun w16 => ?_)
    · refine L_tsw (t := 698) (off := 665) cx dL_law_33 w (by decide) (by decide) (by decide) (by decide) ?_
      exact k_reach cx lj hRel v1 v2 v3 v4 v5 (fun Sx2 Sm2 hRel2 => next ad k cells slots Sx2 Sm2 hRel2 lj (by omega) (by omega))
    refine L_case (P := xs (nI i).toNatClampNeg &&& 63 = 17) (fun w => ?_) (fun w17 => ?_)
    · refine L_tsw (t := 721) (off := 688) cx dL_law_33 w (by decide) (by decide) (by decide) (by decide) ?_
      exact k_next cx lj hRel v1 v2 v3 v4 v5 (fun Sx2 Sm2 hRel2 => next ad k cells slots Sx2 Sm2 hRel2 lj (by omega) (by omega))
    refine L_case (P := xs (nI i).toNatClampNeg &&& 63 = 18) (fun w => ?_) (fun w18 => ?_)
    · refine L_tsw (t := 744) (off := 711) cx dL_law_33 w (by decide) (by decide) (by decide) (by decide) ?_
      exact k_lowest cx lj hRel v1 v2 v3 v4 v5 (fun Sx2 Sm2 hRel2 => next ad k cells slots Sx2 Sm2 hRel2 lj (by omega) (by omega))
    refine L_case (P := xs (nI i).toNatClampNeg &&& 63 = 19) (fun w => ?_) (fun w19 => ?_)
    · refine L_tsw (t := 777) (off := 744) cx dL_law_33 w (by decide) (by decide) (by decide) (by decide) ?_
      exact k_by cx lj hRel v1 v2 v3 v4 v5 (fun Sx2 Sm2 hRel2 => next ad k cells slots Sx2 Sm2 hRel2 lj (by omega) (by omega))
    refine L_case (P := xs (nI i).toNatClampNeg &&& 63 = 20) (fun w => ?_) (fun w20 => ?_)
    · refine L_tsw (t := 820) (off := 787) cx dL_law_33 w (by decide) (by decide) (by decide) (by decide) ?_
      exact k_straight cx lj hRel v1 v2 v3 v4 v5 (fun Sx2 Sm2 hRel2 => next ad k cells slots Sx2 Sm2 hRel2 lj (by omega) (by omega))
    refine L_case (P := xs (nI i).toNatClampNeg &&& 63 = 21) (fun w => ?_) (fun w21 => ?_)
    · refine L_tsw (t := 843) (off := 810) cx dL_law_33 w (by decide) (by decide) (by decide) (by decide) ?_
      exact k_best cx lj hRel v1 v2 v3 v4 v5 (fun Sx2 Sm2 hRel2 => next ad k cells slots Sx2 Sm2 hRel2 lj (by omega) (by omega))
    refine L_case (P := xs (nI i).toNatClampNeg &&& 63 = 22) (fun w => ?_) (fun w22 => ?_)
    · refine L_tsw (t := 866) (off := 833) cx dL_law_33 w (by decide) (by decide) (by decide) (by decide) ?_
      exact k_two cx lj hRel v1 v2 v3 v4 v5 (fun Sx2 Sm2 hRel2 => next ad k cells slots Sx2 Sm2 hRel2 lj (by omega) (by omega))
    refine L_case (P := xs (nI i).toNatClampNeg &&& 63 = 23) (fun w => ?_) (fun w23 => ?_)
    · refine L_tsw (t := 899) (off := 866) cx dL_law_33 w (by decide) (by decide) (by decide) (by decide) ?_
      exact k_worth cx lj hRel v1 v2 v3 v4 v5 (fun Sx2 Sm2 hRel2 => next ad k cells slots Sx2 Sm2 hRel2 lj (by omega) (by omega))
    refine L_case (P := xs (nI i).toNatClampNeg &&& 63 = 24) (fun w => ?_) (fun w24 => ?_)
    · refine L_tsw (t := 922) (off := 889) cx dL_law_33 w (by decide) (by decide) (by decide) (by decide) ?_
      exact k_leg cx lj hRel v1 v2 v3 v4 v5 (fun Sx2 Sm2 hRel2 => next ad k cells slots Sx2 Sm2 hRel2 lj (by omega) (by omega))
    refine L_case (P := xs (nI i).toNatClampNeg &&& 63 = 25) (fun w => ?_) (fun w25 => ?_)
    · refine L_tsw (t := 955) (off := 922) cx dL_law_33 w (by decide) (by decide) (by decide) (by decide) ?_
      exact k_flown cx lj hRel v1 v2 v3 v4 v5 (fun Sx2 Sm2 hRel2 => next ad k cells slots Sx2 Sm2 hRel2 lj (by omega) (by omega))
    refine L_case (P := xs (nI i).toNatClampNeg &&& 63 = 26) (fun w => ?_) (fun w26 => ?_)
    · refine L_tsw (t := 988) (off := 955) cx dL_law_33 w (by decide) (by decide) (by decide) (by decide) ?_
      exact k_see cx lj hRel v1 v2 v3 v4 v5 (fun Sx2 Sm2 hRel2 => next ad k cells slots Sx2 Sm2 hRel2 lj (by omega) (by omega))
    refine L_case (P := xs (nI i).toNatClampNeg &&& 63 = 27) (fun w => ?_) (fun w27 => ?_)
    · refine L_tsw (t := 1011) (off := 978) cx dL_law_33 w (by decide) (by decide) (by decide) (by decide) ?_
      exact k_who cx lj hRel v1 v2 v3 v4 v5 (fun Sx2 Sm2 hRel2 => next ad k cells slots Sx2 Sm2 hRel2 lj (by omega) (by omega))
    refine L_case (P := xs (nI i).toNatClampNeg &&& 63 = 28) (fun w => ?_) (fun w28 => ?_)
    · refine L_tsw (t := 1024) (off := 991) cx dL_law_33 w (by decide) (by decide) (by decide) (by decide) ?_
      exact k_odds cx lj hRel v1 v2 v3 v4 v5 (fun Sx2 Sm2 hRel2 => next ad k cells slots Sx2 Sm2 hRel2 lj (by omega) (by omega))
    refine L_case (P := xs (nI i).toNatClampNeg &&& 63 = 29) (fun w => ?_) (fun w29 => ?_)
    · refine L_tsw (t := 1068) (off := 1035) cx dL_law_33 w (by decide) (by decide) (by decide) (by decide) ?_
      exact k_mean cx lj hRel v1 v2 v3 v4 v5 (fun Sx2 Sm2 hRel2 => next ad k cells slots Sx2 Sm2 hRel2 lj (by omega) (by omega))
    refine L_case (P := xs (nI i).toNatClampNeg &&& 63 = 30) (fun w => ?_) (fun w30 => ?_)
    · refine L_tsw (t := 1102) (off := 1069) cx dL_law_33 w (by decide) (by decide) (by decide) (by decide) ?_
      exact k_book cx lj hRel v1 v2 v3 v4 v5 (fun Sx2 Sm2 hRel2 => next ad k cells slots Sx2 Sm2 hRel2 lj (by omega) (by omega))
    refine L_case (P := xs (nI i).toNatClampNeg &&& 63 = 31) (fun w => ?_) (fun w31 => ?_)
    · refine L_tsw (t := 1135) (off := 1102) cx dL_law_33 w (by decide) (by decide) (by decide) (by decide) ?_
      exact k_looked cx lj hRel v1 v2 v3 v4 v5 (fun Sx2 Sm2 hRel2 => next ad k cells slots Sx2 Sm2 hRel2 lj (by omega) (by omega))
    refine L_case (P := xs (nI i).toNatClampNeg &&& 63 = 32) (fun w => ?_) (fun w32 => ?_)
    · refine L_tsw (t := 1148) (off := 1115) cx dL_law_33 w (by decide) (by decide) (by decide) (by decide) ?_
      exact k_judge cx lj hRel v1 v2 v3 v4 v5 (fun Sx2 Sm2 hRel2 => next ad k cells slots Sx2 Sm2 hRel2 lj (by omega) (by omega))
    refine L_case (P := xs (nI i).toNatClampNeg &&& 63 = 33) (fun w => ?_) (fun w33 => ?_)
    · refine L_tsw (t := 1181) (off := 1148) cx dL_law_33 w (by decide) (by decide) (by decide) (by decide) ?_
      exact k_image cx lj hRel v1 v2 v3 v4 v5 (fun Sx2 Sm2 hRel2 => next ad k cells slots Sx2 Sm2 hRel2 lj (by omega) (by omega))
    refine L_case (P := xs (nI i).toNatClampNeg &&& 63 = 34) (fun w => ?_) (fun w34 => ?_)
    · refine L_tsw (t := 1194) (off := 1161) cx dL_law_33 w (by decide) (by decide) (by decide) (by decide) ?_
      exact k_undo cx lj hRel v1 v2 v3 v4 v5 (fun Sx2 Sm2 hRel2 => next ad k cells slots Sx2 Sm2 hRel2 lj (by omega) (by omega))
    refine L_case (P := xs (nI i).toNatClampNeg &&& 63 = 35) (fun w => ?_) (fun w35 => ?_)
    · refine L_tsw (t := 1207) (off := 1174) cx dL_law_33 w (by decide) (by decide) (by decide) (by decide) ?_
      exact k_act cx lj hRel v1 v2 v3 v4 v5 (fun Sx2 Sm2 hRel2 => next ad k cells slots Sx2 Sm2 hRel2 lj (by omega) (by omega))
    refine L_case (P := xs (nI i).toNatClampNeg &&& 63 = 36) (fun w => ?_) (fun w36 => ?_)
    · refine L_tsw (t := 1250) (off := 1217) cx dL_law_33 w (by decide) (by decide) (by decide) (by decide) ?_
      exact k_trace cx lj hRel v1 v2 v3 v4 v5 (fun Sx2 Sm2 hRel2 => next ad k cells slots Sx2 Sm2 hRel2 lj (by omega) (by omega))
    refine L_case (P := xs (nI i).toNatClampNeg &&& 63 = 37) (fun w => ?_) (fun w37 => ?_)
    · refine L_tsw (t := 1273) (off := 1240) cx dL_law_33 w (by decide) (by decide) (by decide) (by decide) ?_
      exact k_taken cx lj hRel v1 v2 v3 v4 v5 (fun Sx2 Sm2 hRel2 => next ad k cells slots Sx2 Sm2 hRel2 lj (by omega) (by omega))
    refine L_case (P := xs (nI i).toNatClampNeg &&& 63 = 38) (fun w => ?_) (fun w38 => ?_)
    · refine L_tsw (t := 1306) (off := 1273) cx dL_law_33 w (by decide) (by decide) (by decide) (by decide) ?_
      exact k_count cx lj hRel v1 v2 v3 v4 v5 (fun Sx2 Sm2 hRel2 => next ad k cells slots Sx2 Sm2 hRel2 lj (by omega) (by omega))
    refine L_case (P := xs (nI i).toNatClampNeg &&& 63 = 39) (fun w => ?_) (fun w39 => ?_)
    · refine L_tsw (t := 1329) (off := 1296) cx dL_law_33 w (by decide) (by decide) (by decide) (by decide) ?_
      exact k_tape cx lj hRel v1 v2 v3 v4 v5 (fun Sx2 Sm2 hRel2 => next ad k cells slots Sx2 Sm2 hRel2 lj (by omega) (by omega))
    refine L_case (P := xs (nI i).toNatClampNeg &&& 63 = 40) (fun w => ?_) (fun w40 => ?_)
    · refine L_tsw (t := 1372) (off := 1339) cx dL_law_33 w (by decide) (by decide) (by decide) (by decide) ?_
      exact k_item cx lj hRel v1 v2 v3 v4 v5 (fun Sx2 Sm2 hRel2 => next ad k cells slots Sx2 Sm2 hRel2 lj (by omega) (by omega))
    refine L_case (P := xs (nI i).toNatClampNeg &&& 63 = 41) (fun w => ?_) (fun w41 => ?_)
    · refine L_tsw (t := 1445) (off := 1412) cx dL_law_33 w (by decide) (by decide) (by decide) (by decide) ?_
      exact k_read cx lj hRel v1 v2 v3 v4 v5 (fun Sx2 Sm2 hRel2 => next ad k cells slots Sx2 Sm2 hRel2 lj (by omega) (by omega))
    refine L_case (P := xs (nI i).toNatClampNeg &&& 63 = 42) (fun w => ?_) (fun w42 => ?_)
    · refine L_tsw (t := 1479) (off := 1446) cx dL_law_33 w (by decide) (by decide) (by decide) (by decide) ?_
      exact k_shift cx lj hRel v1 v2 v3 v4 v5 (fun Sx2 Sm2 hRel2 => next ad k cells slots Sx2 Sm2 hRel2 lj (by omega) (by omega))
    have z0 := lv_neT w0 (show (0 : Int32).toInt = 0 by decide)
    have z1 := lv_neT w1 (show (1 : Int32).toInt = 1 by decide)
    have z2 := lv_neT w2 (show (2 : Int32).toInt = 2 by decide)
    have z3 := lv_neT w3 (show (3 : Int32).toInt = 3 by decide)
    have z4 := lv_neT w4 (show (4 : Int32).toInt = 4 by decide)
    have z5 := lv_neT w5 (show (5 : Int32).toInt = 5 by decide)
    have z6 := lv_neT w6 (show (6 : Int32).toInt = 6 by decide)
    have z7 := lv_neT w7 (show (7 : Int32).toInt = 7 by decide)
    have z8 := lv_neT w8 (show (8 : Int32).toInt = 8 by decide)
    have z9 := lv_neT w9 (show (9 : Int32).toInt = 9 by decide)
    have z10 := lv_neT w10 (show (10 : Int32).toInt = 10 by decide)
    have z11 := lv_neT w11 (show (11 : Int32).toInt = 11 by decide)
    have z12 := lv_neT w12 (show (12 : Int32).toInt = 12 by decide)
    have z13 := lv_neT w13 (show (13 : Int32).toInt = 13 by decide)
    have z14 := lv_neT w14 (show (14 : Int32).toInt = 14 by decide)
    have z15 := lv_neT w15 (show (15 : Int32).toInt = 15 by decide)
    have z16 := lv_neT w16 (show (16 : Int32).toInt = 16 by decide)
    have z17 := lv_neT w17 (show (17 : Int32).toInt = 17 by decide)
    have z18 := lv_neT w18 (show (18 : Int32).toInt = 18 by decide)
    have z19 := lv_neT w19 (show (19 : Int32).toInt = 19 by decide)
    have z20 := lv_neT w20 (show (20 : Int32).toInt = 20 by decide)
    have z21 := lv_neT w21 (show (21 : Int32).toInt = 21 by decide)
    have z22 := lv_neT w22 (show (22 : Int32).toInt = 22 by decide)
    have z23 := lv_neT w23 (show (23 : Int32).toInt = 23 by decide)
    have z24 := lv_neT w24 (show (24 : Int32).toInt = 24 by decide)
    have z25 := lv_neT w25 (show (25 : Int32).toInt = 25 by decide)
    have z26 := lv_neT w26 (show (26 : Int32).toInt = 26 by decide)
    have z27 := lv_neT w27 (show (27 : Int32).toInt = 27 by decide)
    have z28 := lv_neT w28 (show (28 : Int32).toInt = 28 by decide)
    have z29 := lv_neT w29 (show (29 : Int32).toInt = 29 by decide)
    have z30 := lv_neT w30 (show (30 : Int32).toInt = 30 by decide)
    have z31 := lv_neT w31 (show (31 : Int32).toInt = 31 by decide)
    have z32 := lv_neT w32 (show (32 : Int32).toInt = 32 by decide)
    have z33 := lv_neT w33 (show (33 : Int32).toInt = 33 by decide)
    have z34 := lv_neT w34 (show (34 : Int32).toInt = 34 by decide)
    have z35 := lv_neT w35 (show (35 : Int32).toInt = 35 by decide)
    have z36 := lv_neT w36 (show (36 : Int32).toInt = 36 by decide)
    have z37 := lv_neT w37 (show (37 : Int32).toInt = 37 by decide)
    have z38 := lv_neT w38 (show (38 : Int32).toInt = 38 by decide)
    have z39 := lv_neT w39 (show (39 : Int32).toInt = 39 by decide)
    have z40 := lv_neT w40 (show (40 : Int32).toInt = 40 by decide)
    have z41 := lv_neT w41 (show (41 : Int32).toInt = 41 by decide)
    have z42 := lv_neT w42 (show (42 : Int32).toInt = 42 by decide)
    refine L_tswO (t := 1542) cx dL_law_33 (by omega) (by decide) ?_
    exact next ad k cells slots Sx Sm hRel lj (by omega) (by omega)
end LAIR
