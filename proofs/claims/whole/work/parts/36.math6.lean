def zv_rs (B : Nat) (C : Nat → Nat → Int) (E : Nat) : Nat → Nat × Nat → Nat × Nat
  | 0, s => s
  | n + 1, s => if E ≤ s.1 then s else zv_rs B C E n (zv_mn B C s)
theorem zv_rsB {B : Nat} {C : Nat → Nat → Int} {E : Nat} (hB : B ≤ 400) : ∀ n (s : Nat × Nat), s.1 ≤ 400 → (zv_rs B C E n s).1 ≤ 400 ∧ s.2 ≤ (zv_rs B C E n s).2 ∧ (zv_rs B C E n s).2 ≤ s.2 + n := by
  intro n
  induction n with
  | zero => intro s h; exact ⟨h, Nat.le_refl _, Nat.le_refl _⟩
  | succ n ih =>
    intro s h
    unfold zv_rs
    by_cases hE : E ≤ s.1
    · rw [if_pos hE]; exact ⟨h, Nat.le_refl _, by omega⟩
    · rw [if_neg hE]
      obtain ⟨h1, h2, h3⟩ := ih (zv_mn B C s) (zv_hsB hB h)
      have e2 : (zv_mn B C s).2 = s.2 + 1 := rfl
      exact ⟨h1, by omega, by omega⟩
theorem zv_rsX {q : Nat} {cs : Nat → List zv_Cl} {a c : Nat} {Sx Sm : St} (hF : zv_FLY q cs a c Sx Sm) {l : Nat} (hl : l < c) {m : Nat} {B : Nat} (hB : B ≤ 400) (eB : zv_baseA (cs a) = nI B) {E N : Nat} (hN : N ≤ 100) (hE : E ≤ 100000) (K : Int32 → St → Option (Int32 × St)) : ∀ (r j fuel : Nat) (X : St) (h t : Nat), j + r = N → r < fuel → h ≤ 400 → t + r ≤ 40000 → zv_XT 2 q cs Sx X → zv_GC X 2 m h t →
    ∃ y X', zv_XT 2 q cs Sx X' ∧ zv_GC X' 2 m (zv_rs B (zv_CI (cs a) Sm l) E r (h, t)).1 (zv_rs B (zv_CI (cs a) Sm l) E r (h, t)).2 ∧ L_X7_risesToLeave_32 l (nI N) (nI E) K fuel (nI j) X = K y X' := by
  intro r
  induction r with
  | zero =>
    intro j fuel X h t hj hf hh ht hX hG
    obtain ⟨n, rfl⟩ : ∃ n, fuel = n + 1 := ⟨fuel - 1, by omega⟩
    obtain rfl : j = N := by omega
    refine ⟨nI j, X, hX, hG, ?_⟩
    rw [L_X7_risesToLeave_32.eq_2, if_pos (Int32.le_refl _)]
  | succ r ih =>
    intro j fuel X h t hj hf hh ht hX hG
    obtain ⟨n, rfl⟩ : ∃ n, fuel = n + 1 := ⟨fuel - 1, by omega⟩
    rw [L_X7_risesToLeave_32.eq_2, if_neg (show ¬ nI N ≤ nI j by rw [zv_nIle (by omega) (by omega)]; omega), hG.2.1]
    unfold zv_rs
    by_cases hE' : E ≤ h
    · rw [if_pos ((zv_nIle (by omega) (by omega)).mpr hE'), if_pos hE']
      exact ⟨nI j, X, hX, hG, rfl⟩
    · rw [if_neg (fun z => hE' ((zv_nIle (by omega) (by omega)).mp z)), if_neg hE', hX.2.2.2.2.1 5 (by decide), hF.2.2.2.2.2.2.1]
      simp only [Option.elim]
      obtain ⟨X1, x1, g1, e1⟩ := zv_xc_circ hF hX hl hh hG hB eB (n := 1) (by omega) (by omega)
      rw [show (1 : Int32) = nI 1 from rfl, e1, zv_bndS, show nI j + nI 1 = nI (j + 1) from zv_nIs j (by omega)]
      exact ih (j + 1) n X1 (zv_hs B h (zv_CI (cs a) Sm l h t)) (t + 1) (by omega) (by omega) (zv_hsB hB hh) (by omega) x1 g1
theorem zv_rsM {q : Nat} {cs : Nat → List zv_Cl} {a c : Nat} {Sx Sm : St} (hF : zv_FLY q cs a c Sx Sm) {l : Nat} (hl : l < c) {m : Nat} {B : Nat} (hB : B ≤ 400) (eB : zv_baseA (cs a) = nI B) {E N : Nat} {r3 r7 : Int32} (e37 : r3 + r7 = nI E) (hN : N ≤ 100) (hE : E ≤ 100000) (K : Int32 → St → Option (Int32 × St)) : ∀ (r j fuel : Nat) (M : St) (h t : Nat), j + r = N → r < fuel → h ≤ 400 → t + r ≤ 40000 → zv_MT Sm M → zv_GM M m h t →
    ∃ y M', zv_MT Sm M' ∧ zv_GM M' m (zv_rs B (zv_CI (cs a) Sm l) E r (h, t)).1 (zv_rs B (zv_CI (cs a) Sm l) E r (h, t)).2 ∧ (∀ j, 29 ≤ j → gI M' 8 0 j = gI M 8 0 j) ∧ L_X8_rises_22 (nI l) (nI N) r3 r7 K fuel (nI j) M = K y M' := by
  intro r
  induction r with
  | zero =>
    intro j fuel X h t hj hf hh ht hX hG
    obtain ⟨n, rfl⟩ : ∃ n, fuel = n + 1 := ⟨fuel - 1, by omega⟩
    obtain rfl : j = N := by omega
    refine ⟨nI j, X, hX, hG, fun _ _ => rfl, ?_⟩
    rw [L_X8_rises_22.eq_2, if_pos (Int32.le_refl _)]
  | succ r ih =>
    intro j fuel X h t hj hf hh ht hX hG
    obtain ⟨n, rfl⟩ : ∃ n, fuel = n + 1 := ⟨fuel - 1, by omega⟩
    rw [L_X8_rises_22.eq_2, if_neg (show ¬ nI N ≤ nI j by rw [zv_nIle (by omega) (by omega)]; omega), hG.2.1, e37]
    unfold zv_rs
    by_cases hE' : E ≤ h
    · rw [if_pos ((zv_nIle (by omega) (by omega)).mpr hE'), if_pos hE']
      exact ⟨nI j, X, hX, hG, fun _ _ => rfl, rfl⟩
    · rw [if_neg (fun z => hE' ((zv_nIle (by omega) (by omega)).mp z)), if_neg hE']
      obtain ⟨X1, x1, g1, k1, e1⟩ := zv_mg_min hF hX hl hh (by omega) hG hB eB
      rw [e1, zv_bndS, zv_nIs j (by omega)]
      obtain ⟨y, M', z1, z2, z3, z4⟩ := ih (j + 1) n X1 (zv_hs B h (zv_CI (cs a) Sm l h t)) (t + 1) (by omega) (by omega) (zv_hsB hB hh) (by omega) x1 g1
      exact ⟨y, M', z1, z2, fun i hi => by rw [z3 i hi, k1 i hi], z4⟩
/-- rises to leave: what is left of it -/
def zv_rl (B : Nat) (C : Nat → Nat → Int) (Z m h t w p to_ mx : Nat) : Option (Nat × Nat) :=
  if zv_dst m w * (5 + p) ≤ h then
    (if zv_dst w to_ * (5 + p) + Z ≤ (zv_rs B C (zv_dst w to_ * (5 + p) + Z) mx (h - zv_dst m w * (5 + p), t + zv_dst m w * (10 - p))).1 then some (zv_rs B C (zv_dst w to_ * (5 + p) + Z) mx (h - zv_dst m w * (5 + p), t + zv_dst m w * (10 - p))) else none)
  else none
theorem zv_rlB {B : Nat} {C : Nat → Nat → Int} {Z m h t w p to_ mx : Nat} {s : Nat × Nat} (e : zv_rl B C Z m h t w p to_ mx = some s) (hB : B ≤ 400) (hh : h ≤ 400) (hm : m ≤ 99) (hw : w ≤ 99) (hp : p ≤ 9) : s.1 ≤ 400 ∧ t ≤ s.2 ∧ s.2 ≤ t + 990 + mx ∧ zv_dst w to_ * (5 + p) + Z ≤ s.1 := by
  unfold zv_rl at e
  have hb := zv_dB hm hw hp
  split at e
  · split at e
    · rename_i h1 h2
      obtain ⟨b1, b2, b3⟩ := zv_rsB (C := C) (E := zv_dst w to_ * (5 + p) + Z) hB mx (h - zv_dst m w * (5 + p), t + zv_dst m w * (10 - p)) (by show h - _ ≤ 400; omega)
      simp only [Option.some.injEq] at e
      rw [e] at b1 b2 b3 h2
      simp only [] at b2 b3
      exact ⟨b1, by omega, by omega, h2⟩
    · cases e
  · cases e
theorem zv_rlX {k q : Nat} {cs : Nat → List zv_Cl} {a c m0 h0 zv_t0 hm B Z : Nat} {Sx Sm X : St} (hL : zv_FL0 k q cs a c m0 h0 zv_t0 hm B Z Sx Sm) (hX : zv_XT 2 q cs Sx X) {m h t l w p to_ mx : Nat} (hG : zv_GC X 2 m h t) (hl : l < c) (m9 : m ≤ 99) (h4 : h ≤ 400) (t4 : t ≤ 20000) (w9 : w ≤ 99) (ew : gI Sm 24 0 l = nI w) (p9 : p ≤ 9) (zv_to9 : to_ ≤ 99) (hmx : mx ≤ 100) :
    (∀ s, zv_rl B (zv_CI (cs a) Sm l) Z m h t w p to_ mx = some s → ∃ X', F_X7_risesToLeave X l (nI p) (nI to_) (nI mx) = some (1, X') ∧ zv_XT 2 q cs Sx X' ∧ zv_GC X' 2 w s.1 s.2) ∧ (zv_rl B (zv_CI (cs a) Sm l) Z m h t w p to_ mx = none → ∃ X', F_X7_risesToLeave X l (nI p) (nI to_) (nI mx) = some (0, X') ∧ zv_XT 2 q cs Sx X') := by
  have hL' := hL
  obtain ⟨hW, hF, -, -, -, -, -, -, ⟨B4, eB⟩, ⟨Z9, eZ⟩⟩ := hL'
  obtain ⟨w', w9', ew', ex⟩ := zv_mlW hL hl
  obtain rfl : w = w' := (zv_nIeq (by omega) (by omega)).mp (by rw [← ew, ew'])
  obtain ⟨y1, y2⟩ := zv_glC hX hG m9 w9 p9 h4 (by omega)
  have hB := zv_dB m9 w9 p9
  have hB2 := zv_dB w9 zv_to9 p9
  unfold F_X7_risesToLeave zv_rl
  rw [ex 2 X hX]
  by_cases hd : zv_dst m w * (5 + p) ≤ h
  · obtain ⟨X1, e1, x1, g1⟩ := y1 hd
    rw [e1, zv_bndS, if_neg zv_z10, ex 2 X1 x1, zv_hfX hL x1 w9 zv_to9 p9, zv_bndS, if_pos hd]
    obtain ⟨y, X2, x2, g2, e2⟩ := zv_rsX hF hl B4 eB (E := zv_dst w to_ * (5 + p) + Z) (N := mx) hmx (by omega) (fun y6_10 T_10 => if (gI T_10 2 2 1) < nI (zv_dst w to_ * (5 + p) + Z) then (some ((0 : Int32), T_10)) else (some ((1 : Int32), T_10))) mx 0 1000 X1 (h - zv_dst m w * (5 + p)) (t + zv_dst m w * (10 - p)) (by omega) (by omega) (by omega) (by omega) x1 g1
    rw [show nI 0 = (0 : Int32) from rfl] at e2
    rw [e2, g2.2.1]
    obtain ⟨b1, b2, b3⟩ := zv_rsB (C := zv_CI (cs a) Sm l) (E := zv_dst w to_ * (5 + p) + Z) B4 mx (h - zv_dst m w * (5 + p), t + zv_dst m w * (10 - p)) (by show h - _ ≤ 400; omega)
    generalize (zv_rs B (zv_CI (cs a) Sm l) (zv_dst w to_ * (5 + p) + Z) mx (h - zv_dst m w * (5 + p), t + zv_dst m w * (10 - p))) = s at *
    by_cases hE : zv_dst w to_ * (5 + p) + Z ≤ s.1
    · rw [if_neg (show ¬ nI s.1 < nI (zv_dst w to_ * (5 + p) + Z) by rw [zv_nIlt (by omega) (by omega)]; omega), if_pos hE]
      exact ⟨fun s' e => by cases e; exact ⟨X2, rfl, x2, g2⟩, fun e => by cases e⟩
    · rw [if_pos (show nI s.1 < nI (zv_dst w to_ * (5 + p) + Z) by rw [zv_nIlt (by omega) (by omega)]; omega), if_neg hE]
      exact ⟨fun s' e => by (cases e), fun _ => ⟨X2, rfl, x2⟩⟩
  · rw [y2 hd, zv_bndS, if_pos rfl, if_neg hd]
    exact ⟨fun s' e => by (cases e), fun _ => ⟨X, rfl, hX⟩⟩
/-- the model's glide and rise, one behind the other -/
theorem zv_riM {k q : Nat} {cs : Nat → List zv_Cl} {a c m0 h0 zv_t0 hm B Z : Nat} {Sx Sm M : St} (hL : zv_FL0 k q cs a c m0 h0 zv_t0 hm B Z Sx Sm) (hM : zv_MT Sm M) {h t l w p to_ mx : Nat} (hG : zv_GM M w h t) (hl : l < c) (h4 : h ≤ 400) (t4 : t ≤ 30000) (w9 : w ≤ 99) (ew : gI Sm 24 0 l = nI w) (p9 : p ≤ 9) (zv_to9 : to_ ≤ 99) (hmx : mx ≤ 100) :
    ∃ M', F_X8_rises M (nI l) (nI to_) (nI p) (nI mx) = some (if zv_dst w to_ * (5 + p) + Z ≤ (zv_rs B (zv_CI (cs a) Sm l) (zv_dst w to_ * (5 + p) + Z) mx (h, t)).1 then 1 else 0, M') ∧ zv_MT Sm M' ∧ zv_GM M' w (zv_rs B (zv_CI (cs a) Sm l) (zv_dst w to_ * (5 + p) + Z) mx (h, t)).1 (zv_rs B (zv_CI (cs a) Sm l) (zv_dst w to_ * (5 + p) + Z) mx (h, t)).2 ∧ gI M' 8 0 29 = gI M 8 0 29 ∧ gI M' 8 0 30 = gI M 8 0 30 ∧ gI M' 8 0 31 = gI M 8 0 31 ∧ gI M' 8 0 32 = nI (zv_rs B (zv_CI (cs a) Sm l) (zv_dst w to_ * (5 + p) + Z) mx (h, t)).1 ∧ (∀ j, 33 ≤ j → gI M' 8 0 j = gI M 8 0 j) := by
  have hL' := hL
  obtain ⟨hW, hF, -, -, -, -, -, -, ⟨B4, eB⟩, ⟨Z9, eZ⟩⟩ := hL'
  have hc := hF.2.1
  have hB2 := zv_dB w9 zv_to9 p9
  unfold F_X8_rises
  rw [if_pos (zv_gd (by omega)), zv_nIcl (by omega), hM.2.2.1 24 (by decide) (by decide), ew, zv_x8_falls M w9 zv_to9 p9, zv_bndS, zv_m_safe (zv_AVt hM hF.2.2.2.1), zv_bndS, eZ]
  have e37 : nI (zv_dst w to_ * (5 + p)) + nI Z = nI (zv_dst w to_ * (5 + p) + Z) := zv_nIa _ _ (by omega) (by omega)
  obtain ⟨y, M2, m2, g2, k2, e2⟩ := zv_rsM hF hl B4 eB (E := zv_dst w to_ * (5 + p) + Z) (N := mx) e37 hmx (by omega) (fun y6_11 T_11 => if (gI (sI T_11 8 0 32 (gI T_11 8 0 3)) 8 0 3) < (nI (zv_dst w to_ * (5 + p)) + nI Z) then (some ((0 : Int32), (sI T_11 8 0 32 (gI T_11 8 0 3))))
  else (some ((1 : Int32), (sI T_11 8 0 32 (gI T_11 8 0 3))))) mx 0 1000 M h t (by omega) (by omega) h4 (by omega) hM hG
  obtain ⟨b1, b2, b3⟩ := zv_rsB (C := zv_CI (cs a) Sm l) (E := zv_dst w to_ * (5 + p) + Z) B4 mx (h, t) h4
  rw [show nI 0 = (0 : Int32) from rfl] at e2
  have gi : gI (sI M2 8 0 32 (gI M2 8 0 3)) 8 0 3 = gI M2 8 0 3 := by rw [gI_sI, if_neg (by omega)]
  rw [e2, gi, g2.2.1, e37]
  generalize (zv_rs B (zv_CI (cs a) Sm l) (zv_dst w to_ * (5 + p) + Z) mx (h, t)) = s at *
  have fin : zv_MT Sm (sI M2 8 0 32 (nI s.1)) ∧ zv_GM (sI M2 8 0 32 (nI s.1)) w s.1 s.2 ∧ gI (sI M2 8 0 32 (nI s.1)) 8 0 29 = gI M 8 0 29 ∧ gI (sI M2 8 0 32 (nI s.1)) 8 0 30 = gI M 8 0 30 ∧ gI (sI M2 8 0 32 (nI s.1)) 8 0 31 = gI M 8 0 31 ∧ gI (sI M2 8 0 32 (nI s.1)) 8 0 32 = nI s.1 ∧ (∀ j, 33 ≤ j → gI (sI M2 8 0 32 (nI s.1)) 8 0 j = gI M 8 0 j) := by
    refine ⟨zv_MTs m2 _ (by omega), ?_, ?_, ?_, ?_, ?_, fun j hj => ?_⟩
    · unfold zv_GM
      rw [gI_sI, if_neg (by omega), gI_sI, if_neg (by omega), gI_sI, if_neg (by omega)]
      exact g2
    · rw [gI_sI, if_neg (by omega), k2 29 (by omega)]
    · rw [gI_sI, if_neg (by omega), k2 30 (by omega)]
    · rw [gI_sI, if_neg (by omega), k2 31 (by omega)]
    · rw [gI_sI, if_pos ⟨rfl, rfl, rfl⟩]
    · rw [gI_sI, if_neg (by omega), k2 j (by omega)]
  by_cases hE : zv_dst w to_ * (5 + p) + Z ≤ s.1
  · rw [if_neg (show ¬ nI s.1 < nI (zv_dst w to_ * (5 + p) + Z) by rw [zv_nIlt (by omega) (by omega)]; omega), if_pos hE]
    exact ⟨_, rfl, fin⟩
  · rw [if_pos (show nI s.1 < nI (zv_dst w to_ * (5 + p) + Z) by rw [zv_nIlt (by omega) (by omega)]; omega), if_neg hE]
    exact ⟨_, rfl, fin⟩
def zv_by1 (B : Nat) (C : Nat → Nat → Int) (Z hm m h t w p : Nat) : Option Nat := (zv_rl B C Z m h t w p hm 60).map (fun s => s.2 + zv_dst w hm * (10 - p) - t)
def zv_by2 (B : Nat) (C C2 : Nat → Nat → Int) (Z hm m h t w w2 p : Nat) : Option Nat := (zv_rl B C Z m h t w p w2 40).bind (fun s => (zv_rl B C2 Z w s.1 s.2 w2 p hm 40).map (fun s2 => s2.2 + zv_dst w2 hm * (10 - p) - t))
def zv_oI (x : Option Nat) : Int32 := x.elim (-5) nI
theorem zv_mhX {k q : Nat} {cs : Nat → List zv_Cl} {a c m0 h0 zv_t0 hm B Z : Nat} {Sx Sm X : St} (hL : zv_FL0 k q cs a c m0 h0 zv_t0 hm B Z Sx Sm) (hX : zv_XT 2 q cs Sx X) {w h t p : Nat} (hG : zv_GC X 2 w h t) (w9 : w ≤ 99) (h4 : h ≤ 400) (t4 : t ≤ 30000) (p9 : p ≤ 9) (tt : zv_t0 ≤ t) (hE : zv_dst w hm * (5 + p) ≤ h) :
    ∃ X', F_X7_minutesHome X (nI p) = some (nI (t + zv_dst w hm * (10 - p) - zv_t0), X') ∧ zv_XT 2 q cs Sx X' := by
  obtain ⟨hW, hF, g0, -, -, -, -, ⟨i1, i2, i3⟩, -⟩ := hL
  obtain ⟨y1, -⟩ := zv_glC hX hG w9 i3 p9 h4 (by omega)
  obtain ⟨X1, e1, x1, g1⟩ := y1 hE
  have hB := zv_dB w9 i3 p9
  unfold F_X7_minutesHome
  rw [hX.2.1 5 (by decide) (by decide), i1, e1, zv_bndS, if_neg zv_z10, g1.2.2, x1.2.2.1 0 (by decide), g0.2.2, zv_nIsb (by omega) (by omega)]
  exact ⟨X1, rfl, x1⟩
/-- the rest of the model's way: it glides home and is put back -/
theorem zv_hoM {k q : Nat} {cs : Nat → List zv_Cl} {a c m h t hm B Z : Nat} {Sx Sm M : St} (hL : zv_FL0 k q cs a c m h t hm B Z Sx Sm) (hM : zv_MT Sm M) {w h1 t1 p : Nat} (hG : zv_GM M w h1 t1) (hK : gI M 8 0 29 = nI t ∧ gI M 8 0 30 = nI m ∧ gI M 8 0 31 = nI h) (w9 : w ≤ 99) (h4 : h1 ≤ 400) (t4 : t1 ≤ 30000) (p9 : p ≤ 9) (tt : t ≤ t1) (hE : zv_dst w hm * (5 + p) ≤ h1) :
    ∃ M', bnd (F_X8_goGlide M (gI M 8 0 5) (nI p)) (fun r49 S50 =>
      if r49 = 0 then (bnd (F_X8_putBack S50) (fun r54 S55 => some ((-5 : Int32), S55)))
      else (bnd (F_X8_putBack S50) (fun r58 S59 => some ((gI S50 8 0 1) - (gI S50 8 0 29), S59)))) = some (nI (t1 + zv_dst w hm * (10 - p) - t), M') ∧ zv_MT Sm M' ∧ zv_GM M' m h t ∧ (∀ j, 32 ≤ j → gI M' 8 0 j = gI M 8 0 j) := by
  obtain ⟨hW, hF, -, -, -, -, -, ⟨i1, i2, i3⟩, -⟩ := hL
  obtain ⟨y1, -⟩ := zv_glM (p := p) hM hG w9 i3 p9 h4 (by omega)
  obtain ⟨M1, e1, m1, g1, k1⟩ := y1 hE
  obtain ⟨M2, e2, m2, g2, k2⟩ := zv_pbM m1 (m := m) (h := h) (t := t) (by rw [k1 29 (by omega), k1 30 (by omega), k1 31 (by omega)]; exact hK)
  have hB := zv_dB w9 i3 p9
  rw [hM.2.2.2 0 5 (by omega), i2, e1, zv_bndS, if_neg zv_z10, e2, zv_bndS, g1.2.2, k1 29 (by omega), hK.1, zv_nIsb (by omega) (by omega)]
  exact ⟨M2, rfl, m2, g2, fun j hj => by rw [k2 j (by omega), k1 j (by omega)]⟩
theorem zv_pb5 {Sm M : St} {m h t : Nat} (hM : zv_MT Sm M) (hK : gI M 8 0 29 = nI t ∧ gI M 8 0 30 = nI m ∧ gI M 8 0 31 = nI h) : ∃ M', bnd (F_X8_putBack M) (fun r54 S55 => some ((-5 : Int32), S55)) = some (-5, M') ∧ zv_MT Sm M' ∧ zv_GM M' m h t ∧ (∀ j, 32 ≤ j → gI M' 8 0 j = gI M 8 0 j) := by
  obtain ⟨M2, e2, m2, g2, k2⟩ := zv_pbM hM hK
  rw [e2, zv_bndS]
  exact ⟨M2, rfl, m2, g2, fun j hj => k2 j (by omega)⟩
theorem zv_byM {k q : Nat} {cs : Nat → List zv_Cl} {a c m h t hm B Z : Nat} {Sx Sm M : St} (hL : zv_FL0 k q cs a c m h t hm B Z Sx Sm) (hM : zv_MT Sm M) (hG : zv_GM M m h t) {l w p : Nat} (hl : l < c) (w9 : w ≤ 99) (ew : gI Sm 24 0 l = nI w) (p9 : p ≤ 9) :
    ∃ M', F_X8_byOf M (-1) (nI l) (nI p) = some (zv_oI (zv_by1 B (zv_CI (cs a) Sm l) Z hm m h t w p), M') ∧ zv_MT Sm M' ∧ zv_GM M' m h t ∧ (∀ s, zv_rl B (zv_CI (cs a) Sm l) Z m h t w p hm 60 = some s → gI M' 8 0 32 = nI s.1) ∧ (∀ j, 33 ≤ j → gI M' 8 0 j = gI M 8 0 j) := by
  have hL' := hL
  obtain ⟨hW, hF, -, -, m9, h4, t9, ⟨i1, i2, i3⟩, ⟨B4, -⟩, -⟩ := hL'
  have hc := hF.2.1
  obtain ⟨M1, e1, m1, g1, k1, l1⟩ := zv_svM hM hG
  obtain ⟨y1, y2⟩ := zv_glM (p := p) m1 g1 m9 w9 p9 h4 (by omega)
  have hB := zv_dB m9 w9 p9
  unfold F_X8_byOf
  rw [e1, zv_bndS, if_pos (show (-1 : Int32) < 0 by decide), if_pos (zv_gd (by omega)), zv_nIcl (by omega), m1.2.2.1 24 (by decide) (by decide), ew]
  unfold zv_by1 zv_rl
  by_cases hd : zv_dst m w * (5 + p) ≤ h
  · obtain ⟨M2, e2, m2, g2, k2⟩ := y1 hd
    rw [e2, zv_bndS, if_neg zv_z10, if_neg (show ¬ (0 : Int32) ≤ -1 by decide), m2.2.2.2 0 5 (by omega), i2, if_pos hd]
    obtain ⟨M3, e3, m3, g3, q1, q2, q3, q4, q5⟩ := zv_riM hL m2 g2 hl (by omega) (by omega) w9 ew p9 i3 (show 60 ≤ 100 by decide)
    obtain ⟨b1, b2, b3⟩ := zv_rsB (C := zv_CI (cs a) Sm l) (E := zv_dst w hm * (5 + p) + Z) B4 60 (h - zv_dst m w * (5 + p), t + zv_dst m w * (10 - p)) (by show h - _ ≤ 400; omega)
    rw [show (60 : Int32) = nI 60 from rfl, e3, zv_bndS]
    have hK : gI M3 8 0 29 = nI t ∧ gI M3 8 0 30 = nI m ∧ gI M3 8 0 31 = nI h := by
      rw [q1, q2, q3, k2 29 (by omega), k2 30 (by omega), k2 31 (by omega)]; exact k1
    generalize (zv_rs B (zv_CI (cs a) Sm l) (zv_dst w hm * (5 + p) + Z) 60 (h - zv_dst m w * (5 + p), t + zv_dst m w * (10 - p))) = s at *
    simp only [] at b2 b3
    by_cases hE : zv_dst w hm * (5 + p) + Z ≤ s.1
    · obtain ⟨M4, e4, m4, g4, k4⟩ := zv_hoM hL m3 g3 hK w9 b1 (by omega) p9 (by omega) (by omega)
      rw [if_pos hE, if_neg zv_z10, e4, if_pos hE]
      exact ⟨M4, rfl, m4, g4, fun s' e => by cases e; rw [k4 32 (by omega), q4], fun j hj => by rw [k4 j (by omega), q5 j (by omega), k2 j (by omega), l1 j (by omega)]⟩
    · obtain ⟨M4, e4, m4, g4, k4⟩ := zv_pb5 m3 hK
      rw [if_neg hE, if_pos rfl, e4, if_neg hE]
      exact ⟨M4, rfl, m4, g4, fun s' e => by (cases e), fun j hj => by rw [k4 j (by omega), q5 j (by omega), k2 j (by omega), l1 j (by omega)]⟩
  · obtain ⟨M4, e4, m4, g4, k4⟩ := zv_pb5 m1 k1
    rw [y2 hd, zv_bndS, if_pos rfl, e4, if_neg hd]
    exact ⟨M4, rfl, m4, g4, fun s' e => by (cases e), fun j hj => by rw [k4 j (by omega), l1 j (by omega)]⟩
theorem zv_byM2 {k q : Nat} {cs : Nat → List zv_Cl} {a c m h t hm B Z : Nat} {Sx Sm M : St} (hL : zv_FL0 k q cs a c m h t hm B Z Sx Sm) (hM : zv_MT Sm M) (hG : zv_GM M m h t) {l w l2 w2 p : Nat} (hl : l < c) (w9 : w ≤ 99) (ew : gI Sm 24 0 l = nI w) (hl2 : l2 < c) (w29 : w2 ≤ 99) (ew2 : gI Sm 24 0 l2 = nI w2) (p9 : p ≤ 9) :
    ∃ M', F_X8_byOf M (nI l) (nI l2) (nI p) = some (zv_oI (zv_by2 B (zv_CI (cs a) Sm l) (zv_CI (cs a) Sm l2) Z hm m h t w w2 p), M') ∧ zv_MT Sm M' ∧ zv_GM M' m h t := by
  have hL' := hL
  obtain ⟨hW, hF, -, -, m9, h4, t9, ⟨i1, i2, i3⟩, ⟨B4, -⟩, -⟩ := hL'
  have hc := hF.2.1
  obtain ⟨M1, e1, m1, g1, k1, l1⟩ := zv_svM hM hG
  obtain ⟨y1, y2⟩ := zv_glM (p := p) m1 g1 m9 w9 p9 h4 (by omega)
  have hB := zv_dB m9 w9 p9
  have hB2 := zv_dB w9 w29 p9
  have hB3 := zv_dB w29 i3 p9
  have hl0 : (0 : Int32) ≤ nI l := zv_nI0 l (by omega)
  unfold F_X8_byOf
  rw [e1, zv_bndS, if_neg (show ¬ nI l < 0 by rw [Int32.lt_iff_toInt_lt]; rw [Int32.le_iff_toInt_le] at hl0; omega), if_pos (zv_gd (by omega)), zv_nIcl (by omega), m1.2.2.1 24 (by decide) (by decide), ew]
  unfold zv_by2
  have r1 : zv_rl B (zv_CI (cs a) Sm l) Z m h t w p w2 40 = zv_rl B (zv_CI (cs a) Sm l) Z m h t w p w2 40 := rfl
  conv at r1 => rhs; unfold zv_rl
  by_cases hd : zv_dst m w * (5 + p) ≤ h
  · obtain ⟨M2, e2, m2, g2, k2⟩ := y1 hd
    rw [if_pos hd] at r1
    rw [e2, zv_bndS, if_neg zv_z10, if_pos (zv_gd (by omega)), zv_nIcl (by omega), m2.2.2.1 24 (by decide) (by decide), ew2]
    obtain ⟨M3, e3, m3, g3, q1, q2, q3, q4, q5⟩ := zv_riM hL m2 g2 hl (by omega) (by omega) w9 ew p9 w29 (show 40 ≤ 100 by decide)
    obtain ⟨b1, b2, b3⟩ := zv_rsB (C := zv_CI (cs a) Sm l) (E := zv_dst w w2 * (5 + p) + Z) B4 40 (h - zv_dst m w * (5 + p), t + zv_dst m w * (10 - p)) (by show h - _ ≤ 400; omega)
    have hK : gI M3 8 0 29 = nI t ∧ gI M3 8 0 30 = nI m ∧ gI M3 8 0 31 = nI h := by
      rw [q1, q2, q3, k2 29 (by omega), k2 30 (by omega), k2 31 (by omega)]; exact k1
    rw [show (40 : Int32) = nI 40 from rfl, e3, zv_bndS]
    generalize (zv_rs B (zv_CI (cs a) Sm l) (zv_dst w w2 * (5 + p) + Z) 40 (h - zv_dst m w * (5 + p), t + zv_dst m w * (10 - p))) = s at *
    simp only [] at b2 b3
    by_cases hE : zv_dst w w2 * (5 + p) + Z ≤ s.1
    · rw [if_pos hE] at r1
      obtain ⟨o1, -⟩ := zv_glM (p := p) m3 g3 w9 w29 p9 b1 (by omega)
      obtain ⟨M4, e4, m4, g4, k4⟩ := o1 (by omega)
      obtain ⟨M5, e5, m5, g5, p1, p2, p3, p4, p5⟩ := zv_riM hL m4 g4 hl2 (by omega) (by omega) w29 ew2 p9 i3 (show 40 ≤ 100 by decide)
      have r2 : zv_rl B (zv_CI (cs a) Sm l2) Z w s.1 s.2 w2 p hm 40 = zv_rl B (zv_CI (cs a) Sm l2) Z w s.1 s.2 w2 p hm 40 := rfl
      conv at r2 => rhs; unfold zv_rl
      rw [if_pos (show zv_dst w w2 * (5 + p) ≤ s.1 by omega)] at r2
      obtain ⟨d1, d2, d3⟩ := zv_rsB (C := zv_CI (cs a) Sm l2) (E := zv_dst w2 hm * (5 + p) + Z) B4 40 (s.1 - zv_dst w w2 * (5 + p), s.2 + zv_dst w w2 * (10 - p)) (by show s.1 - _ ≤ 400; omega)
      have hK5 : gI M5 8 0 29 = nI t ∧ gI M5 8 0 30 = nI m ∧ gI M5 8 0 31 = nI h := by
        rw [p1, p2, p3, k4 29 (by omega), k4 30 (by omega), k4 31 (by omega)]; exact hK
      rw [if_pos hE, if_neg zv_z10, if_pos (zv_ge' (show l2 < 6 by omega) (by omega)), m3.2.2.1 24 (by decide) (by decide), ew2, e4, zv_bndS, if_neg zv_z10, if_pos hl0, m4.2.2.2 0 5 (by omega), i2, e5, zv_bndS, r1]
      generalize (zv_rs B (zv_CI (cs a) Sm l2) (zv_dst w2 hm * (5 + p) + Z) 40 (s.1 - zv_dst w w2 * (5 + p), s.2 + zv_dst w w2 * (10 - p))) = s2 at *
      simp only [] at d2 d3
      by_cases hE2 : zv_dst w2 hm * (5 + p) + Z ≤ s2.1
      · rw [if_pos hE2] at r2
        obtain ⟨M6, e6, m6, g6, -⟩ := zv_hoM hL m5 g5 hK5 w29 d1 (by omega) p9 (by omega) (by omega)
        rw [if_pos hE2, if_neg zv_z10, e6]
        refine ⟨M6, ?_, m6, g6⟩
        rw [Option.bind_some, r2]; rfl
      · rw [if_neg hE2] at r2
        obtain ⟨M6, e6, m6, g6, -⟩ := zv_pb5 m5 hK5
        rw [if_neg hE2, if_pos rfl, e6]
        refine ⟨M6, ?_, m6, g6⟩
        rw [Option.bind_some, r2]; rfl
    · rw [if_neg hE] at r1
      obtain ⟨M4, e4, m4, g4, -⟩ := zv_pb5 m3 hK
      rw [if_neg hE, if_pos rfl, e4, r1]
      exact ⟨M4, rfl, m4, g4⟩
  · rw [if_neg hd] at r1
    obtain ⟨M4, e4, m4, g4, -⟩ := zv_pb5 m1 k1
    rw [y2 hd, zv_bndS, if_pos rfl, e4, r1]
    exact ⟨M4, rfl, m4, g4⟩
theorem zv_byX {k q : Nat} {cs : Nat → List zv_Cl} {a c m h t hm B Z : Nat} {Sx Sm X : St} (hL : zv_FL0 k q cs a c m h t hm B Z Sx Sm) (hX : zv_XT 2 q cs Sx X) {l w p : Nat} (hl : l < c) (w9 : w ≤ 99) (ew : gI Sm 24 0 l = nI w) (p9 : p ≤ 9) :
    ∃ X1, F_X2_copyFrom X 2 0 = some ((), X1) ∧ gI X1 5 0 7 = nI hm ∧ ((zv_rl B (zv_CI (cs a) Sm l) Z m h t w p hm 60 = none ∧ ∃ X2, F_X7_risesToLeave X1 l (nI p) (nI hm) 60 = some (0, X2) ∧ zv_XT 2 q cs Sx X2) ∨
      (∃ s, zv_rl B (zv_CI (cs a) Sm l) Z m h t w p hm 60 = some s ∧ ∃ X2 X3, F_X7_risesToLeave X1 l (nI p) (nI hm) 60 = some (1, X2) ∧ zv_XT 2 q cs Sx X2 ∧ gI X2 2 2 1 = nI s.1 ∧ F_X7_minutesHome X2 (nI p) = some (nI (s.2 + zv_dst w hm * (10 - p) - t), X3) ∧ zv_XT 2 q cs Sx X3)) := by
  have hL' := hL
  obtain ⟨hW, hF, hG, -, m9, h4, t9, ⟨i1, i2, i3⟩, ⟨B4, -⟩, -⟩ := hL'
  obtain ⟨X1, e1, x1, g1⟩ := zv_cpC hX hG
  refine ⟨X1, e1, by rw [x1.2.1 5 (by decide) (by decide), i1], ?_⟩
  obtain ⟨y1, y2⟩ := zv_rlX hL x1 g1 hl m9 h4 (by omega) w9 ew p9 i3 (show 60 ≤ 100 by decide)
  cases hr : zv_rl B (zv_CI (cs a) Sm l) Z m h t w p hm 60 with
  | none => exact .inl ⟨rfl, y2 hr⟩
  | some s =>
    obtain ⟨b1, b2, b3, b4⟩ := zv_rlB hr B4 h4 m9 w9 p9
    obtain ⟨X2, e2, x2, g2⟩ := y1 s hr
    obtain ⟨X3, e3, x3⟩ := zv_mhX hL x2 g2 w9 b1 (by omega) p9 (by omega) (by omega)
    exact .inr ⟨s, rfl, X2, X3, e2, x2, g2.2.1, e3, x3⟩
theorem zv_by1B {B : Nat} {C : Nat → Nat → Int} {Z hm m h t w p n : Nat} (e : zv_by1 B C Z hm m h t w p = some n) (hB : B ≤ 400) (hh : h ≤ 400) (hm9 : m ≤ 99) (hw : w ≤ 99) (hp : p ≤ 9) (i3 : hm ≤ 99) : n ≤ 3000 := by
  unfold zv_by1 at e
  cases hr : zv_rl B C Z m h t w p hm 60 with
  | none => rw [hr] at e; cases e
  | some s =>
    rw [hr] at e
    obtain ⟨b1, b2, b3, b4⟩ := zv_rlB hr hB hh hm9 hw hp
    have := zv_dB hw i3 hp
    simp only [Option.map_some, Option.some.injEq] at e
    omega
theorem zv_by2B {B : Nat} {C C2 : Nat → Nat → Int} {Z hm m h t w w2 p n : Nat} (e : zv_by2 B C C2 Z hm m h t w w2 p = some n) (hB : B ≤ 400) (hh : h ≤ 400) (hm9 : m ≤ 99) (hw : w ≤ 99) (hw2 : w2 ≤ 99) (hp : p ≤ 9) (i3 : hm ≤ 99) : n ≤ 5000 := by
  unfold zv_by2 at e
  cases hr : zv_rl B C Z m h t w p w2 40 with
  | none => rw [hr] at e; cases e
  | some s =>
    rw [hr] at e
    obtain ⟨b1, b2, b3, b4⟩ := zv_rlB hr hB hh hm9 hw hp
    rw [Option.bind_some] at e
    cases hr2 : zv_rl B C2 Z w s.1 s.2 w2 p hm 40 with
    | none => rw [hr2] at e; cases e
    | some s2 =>
      rw [hr2] at e
      obtain ⟨d1, d2, d3, d4⟩ := zv_rlB hr2 hB b1 hw hw2 hp
      have := zv_dB hw2 i3 hp
      simp only [Option.map_some, Option.some.injEq] at e
      omega
theorem zv_byX2 {k q : Nat} {cs : Nat → List zv_Cl} {a c m h t hm B Z : Nat} {Sx Sm X : St} (hL : zv_FL0 k q cs a c m h t hm B Z Sx Sm) (hX : zv_XT 2 q cs Sx X) {l w l2 w2 p : Nat} (hl : l < c) (w9 : w ≤ 99) (ew : gI Sm 24 0 l = nI w) (hl2 : l2 < c) (w29 : w2 ≤ 99) (ew2 : gI Sm 24 0 l2 = nI w2) (p9 : p ≤ 9) :
    ∃ X', F_X7_minutesByTwo X l l2 (nI p) = some ((zv_by2 B (zv_CI (cs a) Sm l) (zv_CI (cs a) Sm l2) Z hm m h t w w2 p).elim 1000000000 nI, X') ∧ zv_XT 2 q cs Sx X' := by
  have hL' := hL
  obtain ⟨hW, hF, hG, -, m9, h4, t9, ⟨i1, i2, i3⟩, ⟨B4, -⟩, -⟩ := hL'
  obtain ⟨X1, e1, x1, g1⟩ := zv_cpC hX hG
  obtain ⟨w', w9', ew', ex⟩ := zv_mlW hL hl2
  obtain rfl : w2 = w' := (zv_nIeq (by omega) (by omega)).mp (by rw [← ew2, ew'])
  obtain ⟨y1, y2⟩ := zv_rlX hL x1 g1 hl m9 h4 (by omega) w9 ew p9 w29 (show 40 ≤ 100 by decide)
  unfold F_X7_minutesByTwo
  rw [e1, zv_bndS, ex 2 X1 x1, show (40 : Int32) = nI 40 from rfl]
  unfold zv_by2
  cases hr : zv_rl B (zv_CI (cs a) Sm l) Z m h t w p w2 40 with
  | none =>
    obtain ⟨X2, e2, x2⟩ := y2 hr
    rw [e2, zv_bndS, if_pos rfl]
    exact ⟨X2, rfl, x2⟩
  | some s =>
    obtain ⟨b1, b2, b3, b4⟩ := zv_rlB hr B4 h4 m9 w9 p9
    obtain ⟨X2, e2, x2, g2⟩ := y1 s hr
    obtain ⟨z1, z2⟩ := zv_rlX hL x2 g2 hl2 w9 b1 (by omega) w29 ew2 p9 i3 (show 40 ≤ 100 by decide)
    rw [e2, zv_bndS, if_neg zv_z10, x2.2.1 5 (by decide) (by decide), i1, Option.bind_some]
    cases hr2 : zv_rl B (zv_CI (cs a) Sm l2) Z w s.1 s.2 w2 p hm 40 with
    | none =>
      obtain ⟨X3, e3, x3⟩ := z2 hr2
      rw [e3, zv_bndS, if_pos rfl]
      exact ⟨X3, rfl, x3⟩
    | some s2 =>
      obtain ⟨d1, d2, d3, d4⟩ := zv_rlB hr2 B4 b1 w9 w29 p9
      obtain ⟨X3, e3, x3, g3⟩ := z1 s2 hr2
      obtain ⟨X4, e4, x4⟩ := zv_mhX hL x3 g3 w29 d1 (by omega) p9 (by omega) (by omega)
      rw [e3, zv_bndS, if_neg zv_z10, e4, zv_bndS]
      exact ⟨X4, rfl, x4⟩
theorem zv_nIneg {n : Nat} (h : n < 2147483648) : ¬ nI n < 0 := by
  rw [Int32.lt_iff_toInt_lt, zv_iN h]; simp only [Int32.reduceToInt]; omega
theorem m_by {k : Nat} {Sx Sm : St} (hR : Rel k Sx Sm) (a1 : Int32) (a2 : Int32) (a3 : Int32) : ∃ (r : Int32) (Sx' Sm' : St), F_X7_by Sx a1 a2 a3 = some (r, Sx') ∧ F_X8_by Sm a1 a2 a3 = some (r, Sm') ∧ Rel k Sx' Sm' := by
  obtain ⟨q, cs, a, c, m, h, t, hm, B, Z, hL⟩ := zv_Rel_F hR
  have hL' := hL
  obtain ⟨hW, hF, hG, hGM, m9, h4, t1, ⟨i1, i2, i3⟩, ⟨B4, -⟩, -⟩ := hL'
  have hc := hF.2.1
  simp only [F_X7_by, F_X8_by, zv_isLx hF rfl, zv_isLm hF rfl, zv_x7_in, zv_x8_in, zv_x7_isP, zv_x8_isP, zv_bndS, zv_if10]
  by_cases hq : 0 ≤ a1 ∧ a1 < nI c
  · obtain ⟨l, hl, rfl⟩ := zv_asN hq.1 hq.2 (by omega)
    obtain ⟨w, w9, ew, ex⟩ := zv_mlW hL hl
    rw [if_pos hq, if_pos hq]
    by_cases hn : 0 ≤ a3 ∧ a3 ≤ 1
    · rw [if_pos hn, if_pos hn]
      by_cases hp : 1 ≤ a2 ∧ a2 ≤ 9
      · obtain ⟨p, p9, p1, rfl⟩ := zv_to9 hp
        rw [if_pos hp, if_pos hp]
        obtain ⟨X1, e1, y1, y2⟩ := zv_byX hL (zv_FLxr hL) hl w9 ew p9
        obtain ⟨M1, e2, m1, g1, k1, -⟩ := zv_byM hL (zv_MTr _) hGM hl w9 ew p9
        rw [e1, zv_bndS, if_pos (zv_gd (by omega)), zv_nIcl (by omega), Nat.mul_zero, Nat.zero_add, y1, e2, zv_bndS]
        rcases y2 with ⟨z1, X2, z2, z3⟩ | ⟨s, z1, X2, X3, z2, z3, z4, z5, z6⟩
        · have eo : zv_by1 B (zv_CI (cs a) Sm l) Z hm m h t w p = none := by unfold zv_by1; rw [z1]; rfl
          rw [z2, zv_bndS, if_pos rfl, eo, if_pos (show zv_oI none < 0 by decide)]
          exact ⟨_, _, _, rfl, rfl, zv_FLend hL z3 m1 g1⟩
        · have eo : zv_by1 B (zv_CI (cs a) Sm l) Z hm m h t w p = some (s.2 + zv_dst w hm * (10 - p) - t) := by unfold zv_by1; rw [z1]; rfl
          have hb := zv_by1B eo B4 h4 m9 w9 p9 i3
          have en : zv_oI (some (s.2 + zv_dst w hm * (10 - p) - t)) = nI (s.2 + zv_dst w hm * (10 - p) - t) := rfl
          rw [z2, zv_bndS, if_neg zv_z10, eo, en, if_neg (zv_nIneg (by omega)), k1 s z1, z4]
          by_cases h0 : a3 = 0
          · rw [if_pos h0, if_pos h0, z5, zv_bndS]
            exact ⟨_, _, _, rfl, rfl, zv_FLend hL z6 m1 g1⟩
          · rw [if_neg h0, if_neg h0]
            exact ⟨_, _, _, rfl, rfl, zv_FLend hL z3 m1 g1⟩
      · rw [if_neg hp, if_neg hp]
        exact ⟨_, _, _, rfl, rfl, hR⟩
    · rw [if_neg hn, if_neg hn]
      exact ⟨_, _, _, rfl, rfl, hR⟩
  · rw [if_neg hq, if_neg hq]
    exact ⟨_, _, _, rfl, rfl, hR⟩
def zv_twI (y z z' : Int32) : Prop := (y = -5 ∧ z = 1000000000 ∧ z' = -5) ∨ (0 ≤ y ∧ ∃ n, n ≤ 5000 ∧ z = nI n ∧ z' = nI n)
theorem zv_twIz {y z z' : Int32} (hy : zv_twI y z z') : z ≤ 1000000000 := by
  rcases hy with ⟨-, rfl, -⟩ | ⟨-, u, u5, rfl, -⟩
  · exact Int32.le_refl _
  · rw [Int32.le_iff_toInt_le, zv_iN (by omega)]; simp only [Int32.reduceToInt]; omega
theorem m_two {k : Nat} {Sx Sm : St} (hR : Rel k Sx Sm) (a1 : Int32) (a2 : Int32) : ∃ (r : Int32) (Sx' Sm' : St), F_X7_two Sx a1 a2 = some (r, Sx') ∧ F_X8_two Sm a1 a2 = some (r, Sm') ∧ Rel k Sx' Sm' := by
  obtain ⟨q, cs, a, c, m, h, t, hm, B, Z, hL⟩ := zv_Rel_F hR
  have hL' := hL
  obtain ⟨hW, hF, hG, hGM, m9, h4, t1, ⟨i1, i2, i3⟩, ⟨B4, -⟩, -⟩ := hL'
  have hc := hF.2.1
  show zv_RQ k _ _
  simp only [F_X7_two, F_X8_two, zv_x7_in, zv_x8_in, zv_x7_isP, zv_x8_isP, zv_bndS, zv_if10]
  by_cases hn : 0 ≤ a2 ∧ a2 ≤ 1
  · rw [if_pos hn, if_pos hn]
    by_cases hp : 1 ≤ a1 ∧ a1 ≤ 9
    · obtain ⟨p, p9, p1, rfl⟩ := zv_to9 hp
      rw [if_pos hp, if_pos hp]
      generalize eKx : (fun (y3_11 y4_11 y5_11 : Int32) (T_11 : St) => if a2 = 0 then (some (y3_11, T_11)) else (if y3_11 = (-5 : Int32) then (some (y3_11, T_11)) else (some (y4_11, T_11)))) = Kx
      generalize eKm : (fun (y3_11 y4_11 y5_11 : Int32) (T_11 : St) => if a2 = 0 then (some (y3_11, T_11)) else (some (y4_11, T_11))) = Km
      refine zv_lp2 (fun n (z : Int32 × Int32 × Int32 × St) => L_X7_two_31 (nI p) Kx n z.1 z.2.1 z.2.2.1 z.2.2.2) (fun n (z : Int32 × Int32 × Int32 × St) => L_X8_two_33 (nI p) Km n z.1 z.2.1 z.2.2.1 z.2.2.2) c
        (fun j a_ b_ => ∃ y z z' X M, a_ = (y, z, nI j, X) ∧ b_ = (y, z', nI j, M) ∧ zv_twI y z z' ∧ zv_RJ q cs Sx Sm m h t X M) (zv_RQ k) ?_ ?_ c 0 1000 1000 (-5, 1000000000, 0, Sx) (-5, -5, 0, Sm) (by omega) (by omega) (by omega) ⟨-5, 1000000000, -5, Sx, Sm, rfl, rfl, .inl ⟨rfl, rfl, rfl⟩, zv_RJ0 hL⟩
      · rintro n n' j _ _ hj ⟨y, z, z', X, M, rfl, rfl, hy, hX, hM, hGM'⟩
        left
        have hcj : ¬ nI c ≤ nI j := by rw [zv_nIle (by omega) (by omega)]; omega
        obtain ⟨w, w9, ew, ex⟩ := zv_mlW hL hj
        simp only []
        rw [L_X7_two_31.eq_2, L_X8_two_33.eq_2, hX.2.1 5 (by decide) (by decide), hF.2.2.2.2.2.2.2.1, hM.2.2.2 0 0 (by omega), hF.2.2.2.2.2.2.2.2, if_neg hcj, if_neg hcj, zv_nIs j (by omega)]
        refine zv_lp2 (fun n1 (z : Int32 × Int32 × Int32 × St) => L_X7_two_46 (nI p) (nI j) (fun y3_15 y4_15 y6_15 T_15 => L_X7_two_31 (nI p) Kx n y3_15 y4_15 (nI (j + 1)) T_15) n1 z.1 z.2.1 z.2.2.1 z.2.2.2) (fun n1 (z : Int32 × Int32 × Int32 × St) => L_X8_two_45 (nI p) (nI j) (fun y3_14 y4_14 y6_14 T_14 => L_X8_two_33 (nI p) Km n' y3_14 y4_14 (nI (j + 1)) T_14) n1 z.1 z.2.1 z.2.2.1 z.2.2.2) c
          (fun i a_ b_ => ∃ y z z' X M, a_ = (y, z, nI i, X) ∧ b_ = (y, z', nI i, M) ∧ zv_twI y z z' ∧ zv_RJ q cs Sx Sm m h t X M)
          (fun x_ y_ => ∃ a' b', (∃ y z z' X M, a' = (y, z, nI (j + 1), X) ∧ b' = (y, z', nI (j + 1), M) ∧ zv_twI y z z' ∧ zv_RJ q cs Sx Sm m h t X M) ∧ x_ = L_X7_two_31 (nI p) Kx n a'.1 a'.2.1 a'.2.2.1 a'.2.2.2 ∧ y_ = L_X8_two_33 (nI p) Km n' b'.1 b'.2.1 b'.2.2.1 b'.2.2.2) ?_ ?_ c 0 1000 1000 (y, z, 0, X) (y, z', 0, M) (by omega) (by omega) (by omega) ⟨y, z, z', X, M, rfl, rfl, hy, hX, hM, hGM'⟩
        · rintro n1 n1' i _ _ hi ⟨y, z, z', X, M, rfl, rfl, hy, hX, hM, hGM'⟩
          left
          have hci : ¬ nI c ≤ nI i := by rw [zv_nIle (by omega) (by omega)]; omega
          obtain ⟨w2, w29, ew2, ex2⟩ := zv_mlW hL hi
          simp only []
          rw [L_X7_two_46.eq_2, L_X8_two_45.eq_2, hX.2.1 5 (by decide) (by decide), hF.2.2.2.2.2.2.2.1, hM.2.2.2 0 0 (by omega), hF.2.2.2.2.2.2.2.2, if_neg hci, if_neg hci, zv_nIs i (by omega)]
          by_cases hji : nI j = nI i
          · have hz : z ≤ 1000000000 := zv_twIz hy
            rw [if_pos hji, if_pos hji, if_pos hz]
            exact ⟨(y, z, nI (i + 1), X), (y, z', nI (i + 1), M), ⟨y, z, z', X, M, rfl, rfl, hy, hX, hM, hGM'⟩, rfl, rfl⟩
          · obtain ⟨X1, e1, x1⟩ := zv_byX2 hL hX hj w9 ew hi w29 ew2 p9
            obtain ⟨M1, e2, m1, g1⟩ := zv_byM2 hL hM hGM' hj w9 ew hi w29 ew2 p9
            rw [if_neg hji, if_neg hji, if_pos (zv_gd (by omega)), if_pos (zv_gd (by omega)), zv_nIcl (by omega), zv_nIcl (by omega), Nat.mul_zero, Nat.zero_add, Nat.zero_add, e1, e2, zv_bndS, zv_bndS, zv_nIm10 j (by omega), zv_nIa _ _ (by omega) (by omega)]
            cases hv : zv_by2 B (zv_CI (cs a) Sm j) (zv_CI (cs a) Sm i) Z hm m h t w w2 p with
            | none =>
              have hz : z ≤ (Option.elim (none : Option Nat) 1000000000 nI) := zv_twIz hy
              rw [if_pos hz, if_pos (show zv_oI none < 0 by decide)]
              exact ⟨(y, z, nI (i + 1), X1), (y, z', nI (i + 1), M1), ⟨y, z, z', X1, M1, rfl, rfl, hy, x1, m1, g1⟩, rfl, rfl⟩
            | some v =>
              have hb := zv_by2B hv B4 h4 m9 w9 w29 p9 i3
              have eo : zv_oI (some v) = nI v := rfl
              have ee : Option.elim (some v) 1000000000 nI = nI v := rfl
              rw [eo, ee, if_neg (zv_nIneg (by omega))]
              rcases hy with ⟨rfl, rfl, rfl⟩ | ⟨hy, u, u5, rfl, rfl⟩
              · rw [if_neg (show ¬ (1000000000 : Int32) ≤ nI v by rw [Int32.le_iff_toInt_le, zv_iN (by omega)]; simp only [Int32.reduceToInt]; omega), if_pos (by decide)]
                exact ⟨(nI (10 * j + i), nI v, nI (i + 1), X1), (nI (10 * j + i), nI v, nI (i + 1), M1), ⟨_, _, _, X1, M1, rfl, rfl, .inr ⟨zv_nI0 _ (by omega), v, hb, rfl, rfl⟩, x1, m1, g1⟩, rfl, rfl⟩
              · have hy' : ¬ y < 0 := by rw [Int32.lt_iff_toInt_lt]; rw [Int32.le_iff_toInt_le] at hy; omega
                rw [if_neg hy']
                by_cases huv : nI u ≤ nI v
                · rw [if_pos huv, if_neg (show ¬ nI v < nI u by rw [Int32.lt_iff_toInt_lt]; rw [Int32.le_iff_toInt_le] at huv; omega)]
                  exact ⟨(y, nI u, nI (i + 1), X1), (y, nI u, nI (i + 1), M1), ⟨_, _, _, X1, M1, rfl, rfl, .inr ⟨hy, u, u5, rfl, rfl⟩, x1, m1, g1⟩, rfl, rfl⟩
                · rw [if_neg huv, if_pos (show nI v < nI u by rw [Int32.lt_iff_toInt_lt]; rw [Int32.le_iff_toInt_le] at huv; omega)]
                  exact ⟨(nI (10 * j + i), nI v, nI (i + 1), X1), (nI (10 * j + i), nI v, nI (i + 1), M1), ⟨_, _, _, X1, M1, rfl, rfl, .inr ⟨zv_nI0 _ (by omega), v, hb, rfl, rfl⟩, x1, m1, g1⟩, rfl, rfl⟩
        · rintro n1 n1' _ _ ⟨y, z, z', X, M, rfl, rfl, hy, hX, hM, hGM'⟩
          simp only []
          rw [L_X7_two_46.eq_2, L_X8_two_45.eq_2, hX.2.1 5 (by decide) (by decide), hF.2.2.2.2.2.2.2.1, hM.2.2.2 0 0 (by omega), hF.2.2.2.2.2.2.2.2, if_pos (Int32.le_refl _), if_pos (Int32.le_refl _)]
          exact ⟨(y, z, nI (j + 1), X), (y, z', nI (j + 1), M), ⟨y, z, z', X, M, rfl, rfl, hy, hX, hM, hGM'⟩, rfl, rfl⟩
      · rintro n n' _ _ ⟨y, z, z', X, M, rfl, rfl, hy, hX, hM, hGM'⟩
        simp only []
        rw [L_X7_two_31.eq_2, L_X8_two_33.eq_2, hX.2.1 5 (by decide) (by decide), hF.2.2.2.2.2.2.2.1, hM.2.2.2 0 0 (by omega), hF.2.2.2.2.2.2.2.2, if_pos (Int32.le_refl _), if_pos (Int32.le_refl _)]
        subst eKx eKm
        simp only []
        by_cases h0 : a2 = 0
        · rw [if_pos h0, if_pos h0]; exact ⟨_, _, _, rfl, rfl, zv_FLend hL hX hM hGM'⟩
        · rw [if_neg h0, if_neg h0]
          rcases hy with ⟨rfl, rfl, rfl⟩ | ⟨hy, u, u5, rfl, rfl⟩
          · rw [if_pos rfl]; exact ⟨_, _, _, rfl, rfl, zv_FLend hL hX hM hGM'⟩
          · rw [if_neg (by rintro rfl; exact absurd hy (by decide))]; exact ⟨_, _, _, rfl, rfl, zv_FLend hL hX hM hGM'⟩
    · rw [if_neg hp, if_neg hp]
      exact ⟨_, _, _, rfl, rfl, hR⟩
  · rw [if_neg hn, if_neg hn]
    exact ⟨_, _, _, rfl, rfl, hR⟩
def zv_bst (y : Int32) (M : St) (pos : Nat) : Prop := (y = 1000000000 ∧ gI M 8 0 33 = -5 ∧ gI M 8 0 34 = -5 ∧ gI M 8 0 35 = -5) ∨ ∃ n L p : Nat, n ≤ 3000 ∧ L ≤ 6 ∧ 1 ≤ p ∧ p ≤ 9 ∧ y = nI (100 * n + 10 * L + p) ∧ gI M 8 0 33 = nI L - 1 ∧ gI M 8 0 34 = nI p ∧ gI M 8 0 35 = nI n ∧ 10 * L + p < pos
theorem zv_bstC {y : Int32} {M M' : St} {pos pos' : Nat} (h : zv_bst y M pos) (e : ∀ j, 33 ≤ j → gI M' 8 0 j = gI M 8 0 j) (hp : pos ≤ pos') : zv_bst y M' pos' := by
  unfold zv_bst at *
  rw [e 33 (by omega), e 34 (by omega), e 35 (by omega)]
  rcases h with h | ⟨n, L, p, h1, h2, h3, h4, h5, h6, h7, h8, h9⟩
  · exact .inl h
  · exact .inr ⟨n, L, p, h1, h2, h3, h4, h5, h6, h7, h8, by omega⟩
theorem zv_tb0 (M : St) (a1 a2 : Int32) : F_X8_takesBest M a1 a2 (-5) = some ((), M) := by
  unfold F_X8_takesBest
  rw [if_pos (by decide)]
theorem zv_tb1 {Sm M : St} {m h t : Nat} (hM : zv_MT Sm M) (hG : zv_GM M m h t) {y : Int32} {L p n : Nat} (hb : zv_bst y M (10 * L + p)) (hn : n ≤ 3000) (hL : L ≤ 6) (p1 : 1 ≤ p) (p9 : p ≤ 9) :
    ∃ M', F_X8_takesBest M (nI L - 1) (nI p) (nI n) = some ((), M') ∧ zv_MT Sm M' ∧ zv_GM M' m h t ∧ zv_bst (if nI (100 * n + 10 * L + p) < y then nI (100 * n + 10 * L + p) else y) M' (10 * L + p + 1) := by
  have put : zv_MT Sm (sI (sI (sI M 8 0 33 (nI L - 1)) 8 0 34 (nI p)) 8 0 35 (nI n)) ∧ zv_GM (sI (sI (sI M 8 0 33 (nI L - 1)) 8 0 34 (nI p)) 8 0 35 (nI n)) m h t ∧ zv_bst (nI (100 * n + 10 * L + p)) (sI (sI (sI M 8 0 33 (nI L - 1)) 8 0 34 (nI p)) 8 0 35 (nI n)) (10 * L + p + 1) := by
    refine ⟨zv_MTs (zv_MTs (zv_MTs hM _ (by omega)) _ (by omega)) _ (by omega), ?_, .inr ⟨n, L, p, hn, hL, p1, p9, rfl, ?_, ?_, ?_, by omega⟩⟩
    · unfold zv_GM
      simp only [gI_sI, zv_gI_f, zv_gI_i, gI_sI, zv_gJ_f, zv_gIc_f, zv_gIc_i, zv_kJ_sI, zv_kR_sI, zv_kI_sJ, zv_kR_sJ, zv_kI_sR, zv_kJ_sR, zv_kJ_cI, zv_kR_cI, zv_kI_cJ, zv_kR_cJ, ne_eq, Nat.reduceEqDiff, Nat.reduceMul, Nat.reduceAdd, not_false_eq_true, not_true_eq_false, false_and, and_false, and_true, true_and, and_self, reduceIte, Nat.one_ne_zero, Nat.zero_ne_one, Nat.zero_add, Nat.mul_zero]
      exact hG
    · simp only [gI_sI, zv_gI_f, zv_gI_i, gI_sI, zv_gJ_f, zv_gIc_f, zv_gIc_i, zv_kJ_sI, zv_kR_sI, zv_kI_sJ, zv_kR_sJ, zv_kI_sR, zv_kJ_sR, zv_kJ_cI, zv_kR_cI, zv_kI_cJ, zv_kR_cJ, ne_eq, Nat.reduceEqDiff, Nat.reduceMul, Nat.reduceAdd, not_false_eq_true, not_true_eq_false, false_and, and_false, and_true, true_and, and_self, reduceIte, Nat.one_ne_zero, Nat.zero_ne_one, Nat.zero_add, Nat.mul_zero]
    · simp only [gI_sI, zv_gI_f, zv_gI_i, gI_sI, zv_gJ_f, zv_gIc_f, zv_gIc_i, zv_kJ_sI, zv_kR_sI, zv_kI_sJ, zv_kR_sJ, zv_kI_sR, zv_kJ_sR, zv_kJ_cI, zv_kR_cI, zv_kI_cJ, zv_kR_cJ, ne_eq, Nat.reduceEqDiff, Nat.reduceMul, Nat.reduceAdd, not_false_eq_true, not_true_eq_false, false_and, and_false, and_true, true_and, and_self, reduceIte, Nat.one_ne_zero, Nat.zero_ne_one, Nat.zero_add, Nat.mul_zero]
    · simp only [gI_sI, zv_gI_f, zv_gI_i, gI_sI, zv_gJ_f, zv_gIc_f, zv_gIc_i, zv_kJ_sI, zv_kR_sI, zv_kI_sJ, zv_kR_sJ, zv_kI_sR, zv_kJ_sR, zv_kJ_cI, zv_kR_cI, zv_kI_cJ, zv_kR_cJ, ne_eq, Nat.reduceEqDiff, Nat.reduceMul, Nat.reduceAdd, not_false_eq_true, not_true_eq_false, false_and, and_false, and_true, true_and, and_self, reduceIte, Nat.one_ne_zero, Nat.zero_ne_one, Nat.zero_add, Nat.mul_zero]
  unfold F_X8_takesBest
  rw [if_neg (zv_nIneg (by omega))]
  rcases hb with ⟨rfl, b1, b2, b3⟩ | ⟨n', L', p', h1, h2, h3, h4, rfl, h6, h7, h8, h9⟩
  · rw [b3, if_pos (show (-5 : Int32) < 0 by decide), if_pos (show nI (100 * n + 10 * L + p) < 1000000000 by rw [Int32.lt_iff_toInt_lt, zv_iN (by omega)]; simp only [Int32.reduceToInt]; omega)]
    exact ⟨_, rfl, put⟩
  · rw [h8, if_neg (zv_nIneg (by omega))]
    by_cases hlt : n < n'
    · rw [if_pos ((zv_nIlt (by omega) (by omega)).mpr hlt), if_pos ((zv_nIlt (by omega) (by omega)).mpr (by omega))]
      exact ⟨_, rfl, put⟩
    · rw [if_neg (show ¬ nI n < nI n' by rw [zv_nIlt (by omega) (by omega)]; omega), if_neg (show ¬ nI (100 * n + 10 * L + p) < nI (100 * n' + 10 * L' + p') by rw [zv_nIlt (by omega) (by omega)]; omega)]
      exact ⟨M, rfl, hM, hG, .inr ⟨n', L', p', h1, h2, h3, h4, rfl, h6, h7, h8, by omega⟩⟩
theorem zv_nIm' {a b : Nat} (h : a * b < 2147483648) (ha : a < 2147483648) (hb : b < 2147483648) : nI a * nI b = nI (a * b) := by
  apply zv_inI
  rw [zv_im, zv_iN ha, zv_iN hb, ← Int.natCast_mul, Int.emod_eq_of_lt (by omega) (by omega)]
  omega
theorem zv_nIa' {a b : Nat} (h : a + b < 2147483648) : nI a + nI b = nI (a + b) := by
  apply zv_inI
  rw [zv_ia, zv_iN (by omega), zv_iN (by omega), Int.emod_eq_of_lt (by omega) (by omega)]
  omega
theorem zv_key1 {n p : Nat} (hn : n ≤ 3000) (hp : p ≤ 9) : nI n * 100 + nI p = nI (100 * n + 10 * 0 + p) := by
  rw [show (100 : Int32) = nI 100 from rfl, zv_nIm' (by omega) (by omega) (by omega), zv_nIa' (by omega)]
  congr 1; omega
theorem zv_key2 {n i p : Nat} (hn : n ≤ 3000) (hi : i < 6) (hp : p ≤ 9) : nI n * 100 + (nI i + 1) * 10 + nI p = nI (100 * n + 10 * (i + 1) + p) := by
  rw [zv_nIs i (by omega), show (100 : Int32) = nI 100 from rfl, show (10 : Int32) = nI 10 from rfl, zv_nIm' (by omega) (by omega) (by omega), zv_nIm' (by omega) (by omega) (by omega), zv_nIa' (by omega), zv_nIa' (by omega)]
  congr 1; omega
theorem zv_quick {k q : Nat} {cs : Nat → List zv_Cl} {a c m h t hm B Z : Nat} {Sx Sm X0 M0 : St} (hL : zv_FL0 k q cs a c m h t hm B Z Sx Sm) (hJ : zv_RJ q cs Sx Sm m h t X0 M0) {a1 a1' : Int32} (hab : ∀ i, i < 6 → (nI i = a1 ↔ nI i = a1')) :
    ∃ y X M, F_X7_quickest X0 a1 = some (y, X) ∧ F_X8_layBest M0 a1' = some ((), M) ∧ zv_RJ q cs Sx Sm m h t X M ∧ zv_bst y M 1000 := by
  have hL' := hL
  obtain ⟨hW, hF, hG, hGM, m9, h4, t1, ⟨i1, i2, i3⟩, ⟨B4, -⟩, -⟩ := hL'
  have hc := hF.2.1
  obtain ⟨hX0, hM0, hG0⟩ := hJ
  unfold F_X7_quickest F_X8_layBest
  have st0 : zv_MT Sm (sI (sI (sI M0 8 0 33 (-5)) 8 0 34 (-5)) 8 0 35 (-5)) ∧ zv_GM (sI (sI (sI M0 8 0 33 (-5)) 8 0 34 (-5)) 8 0 35 (-5)) m h t ∧ zv_bst 1000000000 (sI (sI (sI M0 8 0 33 (-5)) 8 0 34 (-5)) 8 0 35 (-5)) 1 := by
    refine ⟨zv_MTs (zv_MTs (zv_MTs hM0 _ (by omega)) _ (by omega)) _ (by omega), ?_, .inl ⟨rfl, ?_, ?_, ?_⟩⟩
    · unfold zv_GM
      simp only [gI_sI, zv_gI_f, zv_gI_i, gI_sI, zv_gJ_f, zv_gIc_f, zv_gIc_i, zv_kJ_sI, zv_kR_sI, zv_kI_sJ, zv_kR_sJ, zv_kI_sR, zv_kJ_sR, zv_kJ_cI, zv_kR_cI, zv_kI_cJ, zv_kR_cJ, ne_eq, Nat.reduceEqDiff, Nat.reduceMul, Nat.reduceAdd, not_false_eq_true, not_true_eq_false, false_and, and_false, and_true, true_and, and_self, reduceIte, Nat.one_ne_zero, Nat.zero_ne_one, Nat.zero_add, Nat.mul_zero]
      exact hG0
    · simp only [gI_sI, zv_gI_f, zv_gI_i, gI_sI, zv_gJ_f, zv_gIc_f, zv_gIc_i, zv_kJ_sI, zv_kR_sI, zv_kI_sJ, zv_kR_sJ, zv_kI_sR, zv_kJ_sR, zv_kJ_cI, zv_kR_cI, zv_kI_cJ, zv_kR_cJ, ne_eq, Nat.reduceEqDiff, Nat.reduceMul, Nat.reduceAdd, not_false_eq_true, not_true_eq_false, false_and, and_false, and_true, true_and, and_self, reduceIte, Nat.one_ne_zero, Nat.zero_ne_one, Nat.zero_add, Nat.mul_zero]
    · simp only [gI_sI, zv_gI_f, zv_gI_i, gI_sI, zv_gJ_f, zv_gIc_f, zv_gIc_i, zv_kJ_sI, zv_kR_sI, zv_kI_sJ, zv_kR_sJ, zv_kI_sR, zv_kJ_sR, zv_kJ_cI, zv_kR_cI, zv_kI_cJ, zv_kR_cJ, ne_eq, Nat.reduceEqDiff, Nat.reduceMul, Nat.reduceAdd, not_false_eq_true, not_true_eq_false, false_and, and_false, and_true, true_and, and_self, reduceIte, Nat.one_ne_zero, Nat.zero_ne_one, Nat.zero_add, Nat.mul_zero]
    · simp only [gI_sI, zv_gI_f, zv_gI_i, gI_sI, zv_gJ_f, zv_gIc_f, zv_gIc_i, zv_kJ_sI, zv_kR_sI, zv_kI_sJ, zv_kR_sJ, zv_kI_sR, zv_kJ_sR, zv_kJ_cI, zv_kR_cI, zv_kI_cJ, zv_kR_cJ, ne_eq, Nat.reduceEqDiff, Nat.reduceMul, Nat.reduceAdd, not_false_eq_true, not_true_eq_false, false_and, and_false, and_true, true_and, and_self, reduceIte, Nat.one_ne_zero, Nat.zero_ne_one, Nat.zero_add, Nat.mul_zero]
  generalize (sI (sI (sI M0 8 0 33 (-5)) 8 0 34 (-5)) 8 0 35 (-5)) = M1 at *
  refine zv_lp2 (fun n (z : Int32 × Int32 × St) => L_X7_quickest_5 (fun y2_1 y3_1 T_1 => L_X7_quickest_62 a1 (fun y2_2 y3_2 T_2 => some (y2_2, T_2)) 1000 y2_1 (0 : Int32) T_1) n z.1 z.2.1 z.2.2) (fun n (z : Int32 × St) => L_X8_layBest_20 (fun y2_1 T_1 => L_X8_layBest_45 a1' (fun y2_2 T_2 => some ((), T_2)) 1000 (0 : Int32) T_1) n z.1 z.2) 9
    (fun j a_ b_ => ∃ y X M, a_ = (y, nI (j + 1), X) ∧ b_ = (nI (j + 1), M) ∧ zv_bst y M (j + 1) ∧ zv_RJ q cs Sx Sm m h t X M)
    (fun x_ y_ => ∃ y X M, x_ = some (y, X) ∧ y_ = some ((), M) ∧ zv_RJ q cs Sx Sm m h t X M ∧ zv_bst y M 1000) ?_ ?_ 9 0 1000 1000 (1000000000, 1, X0) (1, M1) (by omega) (by omega) (by omega) ⟨1000000000, X0, M1, rfl, rfl, st0.2.2, hX0, st0.1, st0.2.1⟩
  · rintro n n' j _ _ hj ⟨y, X, M, rfl, rfl, hb, hX, hM, hGM'⟩
    left
    have hpj : j + 1 ≤ 9 := by omega
    have hB := zv_dB m9 i3 hpj
    obtain ⟨y1, y2⟩ := zv_asX hL hX i3 hpj
    simp only []
    rw [L_X7_quickest_5.eq_2, L_X8_layBest_20.eq_2, hX.2.1 5 (by decide) (by decide), i1, if_neg (show ¬ (9 : Int32) < nI (j + 1) by rw [show (9 : Int32) = nI 9 from rfl, zv_nIlt (by omega) (by omega)]; omega), if_neg (show ¬ (10 : Int32) ≤ nI (j + 1) by rw [show (10 : Int32) = nI 10 from rfl, zv_nIle (by omega) (by omega)]; omega), zv_soM hL hM hGM' hpj, zv_bndS, zv_nIs (j + 1) (by omega)]
    by_cases zv_hs : zv_sfe m h Z hm (j + 1)
    · obtain ⟨X2, e, x, g⟩ := y1 zv_hs
      rw [e, zv_bndS, if_neg zv_z10, if_pos zv_hs, g.2.2, x.2.2.1 0 (by decide), hG.2.2, zv_nIsb (by omega) (by omega), Nat.add_sub_cancel_left, zv_key1 (by omega) hpj]
      obtain ⟨M2, e2, m2, g2, b2⟩ := zv_tb1 hM hGM' (L := 0) (p := j + 1) (n := zv_dst m hm * (10 - (j + 1))) (zv_bstC hb (fun _ _ => rfl) (by omega)) (by omega) (by omega) (by omega) hpj
      rw [show (-1 : Int32) = nI 0 - 1 by decide, e2, zv_bndS]
      exact ⟨(_, nI (j + 1 + 1), X2), (nI (j + 1 + 1), M2), ⟨_, X2, M2, rfl, rfl, zv_bstC b2 (fun _ _ => rfl) (by omega), x, m2, g2⟩, rfl, rfl⟩
    · obtain ⟨X2, e, x⟩ := y2 zv_hs
      rw [e, zv_bndS, if_pos rfl, if_neg zv_hs, zv_tb0, zv_bndS]
      exact ⟨(y, nI (j + 1 + 1), X2), (nI (j + 1 + 1), M), ⟨_, X2, M, rfl, rfl, zv_bstC hb (fun _ _ => rfl) (by omega), x, hM, hGM'⟩, rfl, rfl⟩
  · rintro n n' _ _ ⟨y, X, M, rfl, rfl, hb, hX, hM, hGM'⟩
    simp only []
    rw [L_X7_quickest_5.eq_2, L_X8_layBest_20.eq_2, if_pos (show (9 : Int32) < nI (9 + 1) by decide), if_pos (show (10 : Int32) ≤ nI (9 + 1) by decide)]
    refine zv_lp2 (fun n (z : Int32 × Int32 × St) => L_X7_quickest_62 a1 (fun y2_2 y3_2 T_2 => some (y2_2, T_2)) n z.1 z.2.1 z.2.2) (fun n (z : Int32 × St) => L_X8_layBest_45 a1' (fun y2_2 T_2 => some ((), T_2)) n z.1 z.2) c
      (fun j a_ b_ => ∃ y X M, a_ = (y, nI j, X) ∧ b_ = (nI j, M) ∧ zv_bst y M (10 * (j + 1)) ∧ zv_RJ q cs Sx Sm m h t X M)
      (fun x_ y_ => ∃ y X M, x_ = some (y, X) ∧ y_ = some ((), M) ∧ zv_RJ q cs Sx Sm m h t X M ∧ zv_bst y M 1000) ?_ ?_ c 0 1000 1000 (y, 0, X) (0, M) (by omega) (by omega) (by omega) ⟨y, X, M, rfl, rfl, zv_bstC hb (fun _ _ => rfl) (by omega), hX, hM, hGM'⟩
    · rintro n n' j _ _ hj ⟨y, X, M, rfl, rfl, hb, hX, hM, hGM'⟩
      left
      have hcj : ¬ nI c ≤ nI j := by rw [zv_nIle (by omega) (by omega)]; omega
      obtain ⟨w, w9, ew, ex⟩ := zv_mlW hL hj
      simp only []
      rw [L_X7_quickest_62.eq_2, L_X8_layBest_45.eq_2, hX.2.1 5 (by decide) (by decide), hF.2.2.2.2.2.2.2.1, hM.2.2.2 0 0 (by omega), hF.2.2.2.2.2.2.2.2, if_neg hcj, if_neg hcj, zv_nIs j (by omega)]
      refine zv_lp2 (fun n1 (z : Int32 × Int32 × St) => L_X7_quickest_76 a1 (nI j) (fun y2_4 y4_4 T_4 => L_X7_quickest_62 a1 (fun y2_2 y3_2 T_2 => some (y2_2, T_2)) n y2_4 (nI (j + 1)) T_4) n1 z.1 z.2.1 z.2.2) (fun n1 (z : Int32 × St) => L_X8_layBest_55 a1' (nI j) (fun y3_4 T_4 => L_X8_layBest_45 a1' (fun y2_2 T_2 => some ((), T_2)) n' (nI (j + 1)) T_4) n1 z.1 z.2) 9
        (fun i a_ b_ => ∃ y X M, a_ = (y, nI (i + 1), X) ∧ b_ = (nI (i + 1), M) ∧ zv_bst y M (10 * (j + 1) + (i + 1)) ∧ zv_RJ q cs Sx Sm m h t X M)
        (fun x_ y_ => ∃ a' b', (∃ y X M, a' = (y, nI (j + 1), X) ∧ b' = (nI (j + 1), M) ∧ zv_bst y M (10 * (j + 1 + 1)) ∧ zv_RJ q cs Sx Sm m h t X M) ∧ x_ = L_X7_quickest_62 a1 (fun y2_2 y3_2 T_2 => some (y2_2, T_2)) n a'.1 a'.2.1 a'.2.2 ∧ y_ = L_X8_layBest_45 a1' (fun y2_2 T_2 => some ((), T_2)) n' b'.1 b'.2) ?_ ?_ 9 0 1000 1000 (y, 1, X) (1, M) (by omega) (by omega) (by omega) ⟨y, X, M, rfl, rfl, zv_bstC hb (fun _ _ => rfl) (by omega), hX, hM, hGM'⟩
      · rintro n1 n1' i _ _ hi ⟨y, X, M, rfl, rfl, hb, hX, hM, hGM'⟩
        have hpi : i + 1 ≤ 9 := by omega
        simp only []
        rw [L_X7_quickest_76.eq_2, L_X8_layBest_55.eq_2, if_neg (show ¬ (9 : Int32) < nI (i + 1) by rw [show (9 : Int32) = nI 9 from rfl, zv_nIlt (by omega) (by omega)]; omega), if_neg (show ¬ (10 : Int32) ≤ nI (i + 1) by rw [show (10 : Int32) = nI 10 from rfl, zv_nIle (by omega) (by omega)]; omega)]
        by_cases hja : nI j = a1
        · right
          rw [if_pos hja, if_pos ((hab j (by omega)).mp hja)]
          exact ⟨(y, nI (j + 1), X), (nI (j + 1), M), ⟨y, X, M, rfl, rfl, zv_bstC hb (fun _ _ => rfl) (by omega), hX, hM, hGM'⟩, rfl, rfl⟩
        · left
          obtain ⟨X1, e1, y1, y2⟩ := zv_byX hL hX hj w9 ew hpi
          obtain ⟨M1, e2, m1, g1, -, k1⟩ := zv_byM hL hM hGM' hj w9 ew hpi
          rw [if_neg hja, if_neg (fun z => hja ((hab j (by omega)).mpr z)), e1, e2, zv_bndS, zv_bndS, if_pos (zv_gd (by omega)), zv_nIcl (by omega), Nat.mul_zero, Nat.zero_add, y1, zv_nIs (i + 1) (by omega)]
          rcases y2 with ⟨z1, X2, z2, z3⟩ | ⟨s, z1, X2, X3, z2, z3, z4, z5, z6⟩
          · have eo : zv_by1 B (zv_CI (cs a) Sm j) Z hm m h t w (i + 1) = none := by unfold zv_by1; rw [z1]; rfl
            rw [z2, zv_bndS, if_pos rfl, eo, show zv_oI none = -5 from rfl, zv_tb0, zv_bndS]
            exact ⟨(y, nI (i + 1 + 1), X2), (nI (i + 1 + 1), M1), ⟨y, X2, M1, rfl, rfl, zv_bstC hb k1 (by omega), z3, m1, g1⟩, rfl, rfl⟩
          · have eo : zv_by1 B (zv_CI (cs a) Sm j) Z hm m h t w (i + 1) = some (s.2 + zv_dst w hm * (10 - (i + 1)) - t) := by unfold zv_by1; rw [z1]; rfl
            have hbn := zv_by1B eo B4 h4 m9 w9 hpi i3
            have en : zv_oI (some (s.2 + zv_dst w hm * (10 - (i + 1)) - t)) = nI (s.2 + zv_dst w hm * (10 - (i + 1)) - t) := rfl
            generalize s.2 + zv_dst w hm * (10 - (i + 1)) - t = v at *
            obtain ⟨M2, e3, m2, g2, b2⟩ := zv_tb1 m1 g1 (L := j + 1) (p := i + 1) (n := v) (zv_bstC hb k1 (by omega)) (by omega) (by omega) (by omega) hpi
            have ej : nI (j + 1) - 1 = nI j := zv_nIp j (by omega)
            rw [ej] at e3
            rw [z2, zv_bndS, if_neg zv_z10, z5, zv_bndS, eo, en, e3, zv_bndS, zv_key2 (by omega) (by omega) hpi]
            exact ⟨(_, nI (i + 1 + 1), X3), (nI (i + 1 + 1), M2), ⟨_, X3, M2, rfl, rfl, zv_bstC b2 (fun _ _ => rfl) (by omega), z6, m2, g2⟩, rfl, rfl⟩
      · rintro n1 n1' _ _ ⟨y, X, M, rfl, rfl, hb, hX, hM, hGM'⟩
        simp only []
        rw [L_X7_quickest_76.eq_2, L_X8_layBest_55.eq_2, if_pos (show (9 : Int32) < nI (9 + 1) by decide), if_pos (show (10 : Int32) ≤ nI (9 + 1) by decide)]
        exact ⟨(y, nI (j + 1), X), (nI (j + 1), M), ⟨y, X, M, rfl, rfl, zv_bstC hb (fun _ _ => rfl) (by omega), hX, hM, hGM'⟩, rfl, rfl⟩
    · rintro n n' _ _ ⟨y, X, M, rfl, rfl, hb, hX, hM, hGM'⟩
      simp only []
      rw [L_X7_quickest_62.eq_2, L_X8_layBest_45.eq_2, hX.2.1 5 (by decide) (by decide), hF.2.2.2.2.2.2.2.1, hM.2.2.2 0 0 (by omega), hF.2.2.2.2.2.2.2.2, if_pos (Int32.le_refl _), if_pos (Int32.le_refl _)]
      exact ⟨y, X, M, rfl, rfl, ⟨hX, hM, hGM'⟩, zv_bstC hb (fun _ _ => rfl) (by omega)⟩
theorem zv_nIdiv {a b : Nat} (hb : 0 < b) (ha : a < 2147483648) (hb2 : b < 2147483648) : nI a / nI b = nI (a / b) := by
  apply zv_inI
  rw [zv_idv _ _ (by rw [zv_iN hb2]; omega) (by rw [zv_iN ha]; omega), zv_iN ha, zv_iN hb2]
  exact (Int.natCast_ediv a b).symm
theorem zv_nImod {a b : Nat} (hb : 0 < b) (ha : a < 100000000) (hb2 : b < 100000000) : nI a - nI a / nI b * nI b = nI (a % b) := by
  have h1 : a / b * b ≤ a := Nat.div_mul_le_self a b
  rw [zv_nIdiv hb (by omega) (by omega), zv_nIm' (by omega) (by have := Nat.div_le_self a b; omega) (by omega)]
  apply zv_inI
  rw [zv_is_, zv_iN (by omega), zv_iN (by omega)]
  have h2 : a % b = a - a / b * b := by rw [Nat.mul_comm]; have := Nat.div_add_mod a b; omega
  have h3 : a % b ≤ a := Nat.mod_le a b
  omega
theorem zv_m1000 (p : Nat) : True := trivial
theorem m_best {k : Nat} {Sx Sm : St} (hR : Rel k Sx Sm) (a1 : Int32) : ∃ (r : Int32) (Sx' Sm' : St), F_X7_best Sx a1 = some (r, Sx') ∧ F_X8_best Sm a1 = some (r, Sm') ∧ Rel k Sx' Sm' := by
  obtain ⟨q, cs, a, c, m, h, t, hm, B, Z, hL⟩ := zv_Rel_F hR
  simp only [F_X7_best, F_X8_best, zv_x7_in, zv_x8_in, zv_bndS, zv_if10]
  by_cases hq : 0 ≤ a1 ∧ a1 ≤ 2
  · rw [if_pos hq, if_pos hq]
    obtain ⟨y, X, M, e1, e2, hJ, hb⟩ := zv_quick hL (zv_RJ0 hL) (a1 := -5) (a1' := -1) (fun i hi => ⟨fun z => absurd (z ▸ zv_nI0 i (by omega)) (by decide), fun z => absurd (z ▸ zv_nI0 i (by omega)) (by decide)⟩)
    rw [e1, e2, zv_bndS, zv_bndS]
    rcases hb with ⟨rfl, b1, b2, b3⟩ | ⟨n, L, p, h1, h2, h3, h4, rfl, h6, h7, h8, -⟩
    · rw [if_pos rfl, b1, b2, b3, ite_self, ite_self]
      exact ⟨_, _, _, rfl, rfl, zv_RJe hL hJ⟩
    · rw [if_neg (show ¬ nI (100 * n + 10 * L + p) = 1000000000 by rw [← Int32.toInt_inj, zv_iN (by omega)]; simp only [Int32.reduceToInt]; omega), h6, h7, h8]
      have e10 : nI (100 * n + 10 * L + p) / 10 - nI (100 * n + 10 * L + p) / 10 / 10 * 10 = nI L := by
        rw [show (10 : Int32) = nI 10 from rfl, zv_nIdiv (by decide) (by omega) (by decide), zv_nImod (by decide) (by omega) (by decide)]
        congr 1; omega
      have e1' : nI (100 * n + 10 * L + p) - nI (100 * n + 10 * L + p) / 10 * 10 = nI p := by
        rw [show (10 : Int32) = nI 10 from rfl, zv_nImod (by decide) (by omega) (by decide)]
        congr 1; omega
      have e100 : nI (100 * n + 10 * L + p) / 100 = nI n := by
        rw [show (100 : Int32) = nI 100 from rfl, zv_nIdiv (by decide) (by omega) (by decide)]
        congr 1; omega
      rw [e10, e1', e100]
      (repeat' split) <;> exact ⟨_, _, _, rfl, rfl, zv_RJe hL hJ⟩
  · rw [if_neg hq, if_neg hq]
    exact ⟨_, _, _, rfl, rfl, hR⟩
theorem zv_mfw {y : Int32} {M : St} {pos : Nat} (hb : zv_bst y M pos) (S : St) : ∃ n, n ≤ 3000 ∧ F_X7_minutesForWorth S y = some (nI n, S) ∧ ((0 ≤ gI M 8 0 35 ∧ gI M 8 0 35 = nI n) ∨ (¬ 0 ≤ gI M 8 0 35 ∧ n = 999)) := by
  unfold F_X7_minutesForWorth
  rcases hb with ⟨rfl, b1, b2, b3⟩ | ⟨n, L, p, h1, h2, h3, h4, rfl, h6, h7, h8, -⟩
  · rw [if_pos rfl, b3]
    exact ⟨999, by decide, rfl, .inr ⟨by decide, rfl⟩⟩
  · rw [if_neg (show ¬ nI (100 * n + 10 * L + p) = 1000000000 by rw [← Int32.toInt_inj, zv_iN (by omega)]; simp only [Int32.reduceToInt]; omega), h8]
    have e100 : nI (100 * n + 10 * L + p) / 100 = nI n := by
      rw [show (100 : Int32) = nI 100 from rfl, zv_nIdiv (by decide) (by omega) (by decide)]
      congr 1; omega
    rw [e100]
    exact ⟨n, h1, rfl, .inl ⟨zv_nI0 n (by omega), rfl⟩⟩
theorem m_worth {k : Nat} {Sx Sm : St} (hR : Rel k Sx Sm) (a1 : Int32) : ∃ (r : Int32) (Sx' Sm' : St), F_X7_worth Sx a1 = some (r, Sx') ∧ F_X8_worth Sm a1 = some (r, Sm') ∧ Rel k Sx' Sm' := by
  obtain ⟨q, cs, a, c, m, h, t, hm, B, Z, hL⟩ := zv_Rel_F hR
  have hF := hL.2.1
  have hc := hF.2.1
  simp only [F_X7_worth, F_X8_worth, zv_isLx hF rfl, zv_isLm hF rfl, zv_bndS, zv_if10]
  by_cases hq : 0 ≤ a1 ∧ a1 < nI c
  · rw [if_pos hq, if_pos hq]
    have hab : ∀ i, i < 6 → (nI i = (-5 : Int32) ↔ nI i = (-1 : Int32)) := fun i hi => ⟨fun z => absurd (z ▸ zv_nI0 i (by omega)) (by decide), fun z => absurd (z ▸ zv_nI0 i (by omega)) (by decide)⟩
    obtain ⟨y1, X1, M1, e1, e2, hJ1, hb1⟩ := zv_quick hL (zv_RJ0 hL) hab
    obtain ⟨y2, X2, M2, e3, e4, hJ2, hb2⟩ := zv_quick hL (X0 := Sx) (M0 := M1) ⟨zv_FLxr hL, hJ1.2⟩ (a1 := a1) (a1' := a1) (fun _ _ => Iff.rfl)
    obtain ⟨y3, X3, M3, e5, e6, hJ3, hb3⟩ := zv_quick hL (X0 := X2) (M0 := Sm) ⟨hJ2.1, (zv_RJ0 hL).2⟩ hab
    have eM : M3 = M1 := by rw [e2] at e6; cases e6; rfl
    subst eM
    obtain ⟨n2, l2, f2, g2⟩ := zv_mfw hb2 X2
    obtain ⟨n3, l3, f3, g3⟩ := zv_mfw hb3 X3
    rw [e3, zv_bndS, f2, zv_bndS, e5, zv_bndS, f3, zv_bndS, e2, zv_bndS, e4, zv_bndS]
    refine ⟨_, _, M2, rfl, ?_, zv_RJe hL ⟨hJ3.1, hJ2.2⟩⟩
    rcases g2 with ⟨p2, q2⟩ | ⟨p2, rfl⟩ <;> rcases g3 with ⟨p3, q3⟩ | ⟨p3, rfl⟩
    · rw [if_pos p3, if_pos p2, q2, q3]
    · rw [if_neg p3, zv_bndS, if_pos p2, q2]; rfl
    · rw [if_pos p3, if_neg p2, q3]; rfl
    · rw [if_neg p3, zv_bndS, if_neg p2]; rfl
  · rw [if_neg hq, if_neg hq]
    exact ⟨_, _, _, rfl, rfl, hR⟩
/-! fractions -/
theorem zv_gcdM (K : Int32 → Int32 → St → Option (Int32 × St)) (S : St) : ∀ (y x fuel : Nat), y < fuel → x < 100000000 → y < 100000000 → L_X8_divisor_5 K fuel (nI x) (nI y) S = K (nI (Nat.gcd x y)) 0 S := by
  intro y
  induction y using Nat.strongRecOn with
  | _ y ih =>
    intro x fuel hf hx hy
    obtain ⟨n, rfl⟩ : ∃ n, fuel = n + 1 := ⟨fuel - 1, by omega⟩
    rw [L_X8_divisor_5.eq_2]
    rcases Nat.eq_zero_or_pos y with rfl | h0
    · rw [if_pos (show nI 0 = 0 from rfl), Nat.gcd_zero_right]; rfl
    · have hne : ¬ nI y = 0 := by rw [show (0 : Int32) = nI 0 from rfl, zv_nIeq (by omega) (by omega)]; omega
      have hlt : x % y < y := Nat.mod_lt x h0
      rw [if_neg hne, if_neg hne, zv_nImod h0 hx hy, ih (x % y) hlt y n (by omega) hy (by omega)]
      congr 2
      rw [Nat.gcd_comm y, ← Nat.gcd_rec, Nat.gcd_comm]
theorem zv_nIz {n : Nat} (h : n < 2147483648) : (nI n = 0) ↔ n = 0 := zv_nIeq (b := 0) h (by decide)
theorem zv_frX (A c : Nat) (hA : A ≤ 100000) (hc : 1 ≤ c) (hc6 : c ≤ 6) (S : St) : ∀ (d fuel : Nat), d < fuel → d ≤ 6 → Nat.gcd A c ≤ d →
    L_X7_partOfFraction_30 (nI A) (nI c) (fun y4_8 T_8 => some ((nI c).toInt64, T_8)) fuel (nI d) S = some ((nI (c / Nat.gcd A c)).toInt64, S) ∧ L_X7_partOfFraction_30b (nI A) (nI c) (fun y4_15 T_15 => some ((nI A).toInt64, T_15)) fuel (nI d) S = some ((nI (A / Nat.gcd A c)).toInt64, S) := by
  have g1 : 1 ≤ Nat.gcd A c := Nat.gcd_pos_of_pos_right A hc
  intro d
  induction d with
  | zero => intro fuel _ _ h; omega
  | succ d ih =>
    intro fuel hf h6 hg
    obtain ⟨n, rfl⟩ : ∃ n, fuel = n + 1 := ⟨fuel - 1, by omega⟩
    rw [L_X7_partOfFraction_30.eq_2, L_X7_partOfFraction_30b.eq_2]
    by_cases h1 : d + 1 ≤ 1
    · have h1' : nI (d + 1) ≤ 1 := (zv_nIle (b := 1) (by omega) (by decide)).mpr h1
      rw [if_pos h1', if_pos h1']
      have e : Nat.gcd A c = 1 := by omega
      rw [e, Nat.div_one, Nat.div_one]
      exact ⟨rfl, rfl⟩
    · have h1' : ¬ nI (d + 1) ≤ 1 := fun z => h1 ((zv_nIle (b := 1) (by omega) (by decide)).mp z)
      have h0 : ¬ nI (d + 1) = 0 := by rw [zv_nIz (by omega)]; omega
      have hm1 : A % (d + 1) < 7 := by have := Nat.mod_lt A (show d + 1 > 0 by omega); omega
      have hm2 : c % (d + 1) < 7 := by have := Nat.mod_lt c (show d + 1 > 0 by omega); omega
      rw [if_neg h1', if_neg h1']
      simp only [h0, reduceIte]
      rw [zv_nImod (by omega) (by omega) (by omega), zv_nImod (by omega) (by omega) (by omega)]
      have em : nI (d + 1) + (-1) = nI d := zv_nIpm d (by omega)
      by_cases hA0 : A % (d + 1) = 0
      · have hA0' : nI (A % (d + 1)) = 0 := (zv_nIz (by omega)).mpr hA0
        rw [if_pos hA0', if_pos hA0']
        by_cases hc0 : c % (d + 1) = 0
        · have hc0' : nI (c % (d + 1)) = 0 := (zv_nIz (by omega)).mpr hc0
          have hd : d + 1 ∣ Nat.gcd A c := Nat.dvd_gcd (Nat.dvd_of_mod_eq_zero hA0) (Nat.dvd_of_mod_eq_zero hc0)
          have e : Nat.gcd A c = d + 1 := by have := Nat.le_of_dvd (by omega) hd; omega
          rw [if_pos hc0', if_pos hc0', zv_nIdiv (by omega) (by omega) (by omega), zv_nIdiv (by omega) (by omega) (by omega), e]
          exact ⟨rfl, rfl⟩
        · have hc0' : ¬ nI (c % (d + 1)) = 0 := fun z => hc0 ((zv_nIz (by omega)).mp z)
          rw [if_neg hc0', if_neg hc0', em]
          refine ih n (by omega) (by omega) ?_
          have : Nat.gcd A c ≠ d + 1 := fun e => hc0 (Nat.mod_eq_zero_of_dvd (e ▸ Nat.gcd_dvd_right A c))
          omega
      · have hA0' : ¬ nI (A % (d + 1)) = 0 := fun z => hA0 ((zv_nIz (by omega)).mp z)
        rw [if_neg hA0', if_neg hA0', em]
        refine ih n (by omega) (by omega) ?_
        have : Nat.gcd A c ≠ d + 1 := fun e => hA0 (Nat.mod_eq_zero_of_dvd (e ▸ Nat.gcd_dvd_left A c))
        omega
theorem zv_frac {A c : Nat} (hA : A ≤ 100000) (hc : 1 ≤ c) (hc6 : c ≤ 6) (X M : St) {a3 : Int32} (h3 : 0 ≤ a3 ∧ a3 ≤ 1) : ∃ r, F_X7_partOfFraction X (nI A) (nI c) a3 = some (r, X) ∧ F_X8_lowestTerms M (nI A) (nI c) a3 = some (r, M) := by
  have g1 : 1 ≤ Nat.gcd A c := Nat.gcd_pos_of_pos_right A hc
  have gle : Nat.gcd A c ≤ c := Nat.gcd_le_right A hc
  obtain ⟨f1, f2⟩ := zv_frX A c hA hc hc6 X c 1000 (by omega) hc6 gle
  unfold F_X7_partOfFraction F_X8_lowestTerms F_X8_divisor
  have hg0 : ¬ nI (Nat.gcd A c) = 0 := by rw [zv_nIz (by omega)]; omega
  rw [if_neg (show ¬ nI c ≤ 0 by rw [show (0 : Int32) = nI 0 from rfl, zv_nIle (by omega) (by decide)]; omega), zv_x7_in, zv_bndS, zv_if10, if_pos h3, zv_gcdM _ M c A 1000 (by omega) (by omega) (by omega), zv_bndS, if_neg hg0, if_neg hg0, f1, f2, zv_nIdiv (by omega) (by omega) (by omega), zv_nIdiv (by omega) (by omega) (by omega)]
  by_cases h0 : a3 = 0
  · rw [if_pos h0, if_pos h0]; exact ⟨_, rfl, rfl⟩
  · rw [if_neg h0, if_neg h0]; exact ⟨_, rfl, rfl⟩
theorem zv_frN {A c : Nat} (X : St) {a3 : Int32} (h : ¬ (0 ≤ a3 ∧ a3 ≤ 1) ∨ c = 0) (hc6 : c ≤ 6) : F_X7_partOfFraction X (nI A) (nI c) a3 = some (-9223372036854775808, X) := by
  unfold F_X7_partOfFraction
  rcases Nat.eq_zero_or_pos c with rfl | h0
  · rw [if_pos (show nI 0 ≤ 0 by decide)]
  · rcases h with h | h
    · rw [if_neg (show ¬ nI c ≤ 0 by rw [show (0 : Int32) = nI 0 from rfl, zv_nIle (by omega) (by decide)]; omega), zv_x7_in, zv_bndS, zv_if10, if_neg h]
    · omega
theorem zv_lp3 {α β ρ σ : Type} (Lx : Nat → α → Option ρ) (Lm : Nat → β → Option σ) (N : Nat) (I : Nat → α → β → Prop) (Q : Option ρ → Option σ → Prop)
    (zv_hs : ∀ n n' j a b, j < N → 0 < n → 0 < n' → I j a b → (∃ a' b', I (j + 1) a' b' ∧ Lx (n + 1) a = Lx n a' ∧ Lm (n' + 1) b = Lm n' b') ∨ Q (Lx (n + 1) a) (Lm (n' + 1) b))
    (he : ∀ n n' a b, I N a b → Q (Lx (n + 1) a) (Lm (n' + 1) b)) : ∀ m j n n' a b, j + m = N → m < n → m < n' → I j a b → Q (Lx n a) (Lm n' b) := by
  intro m
  induction m with
  | zero =>
    intro j n n' a b hj hn hn' hI
    obtain rfl : j = N := by omega
    obtain ⟨n, rfl⟩ : ∃ z, n = z + 1 := ⟨n - 1, by omega⟩
    obtain ⟨n', rfl⟩ : ∃ z, n' = z + 1 := ⟨n' - 1, by omega⟩
    exact he _ _ _ _ hI
  | succ m ih =>
    intro j n n' a b hj hn hn' hI
    obtain ⟨n, rfl⟩ : ∃ z, n = z + 1 := ⟨n - 1, by omega⟩
    obtain ⟨n', rfl⟩ : ∃ z, n' = z + 1 := ⟨n' - 1, by omega⟩
    rcases zv_hs n n' j a b (by omega) (by omega) (by omega) hI with ⟨a', b', h1, h2, h3⟩ | h
    · rw [h2, h3]
      exact ih (j + 1) n n' a' b' (by omega) (by omega) (by omega) h1
    · exact h
theorem zv_hbJ {k q : Nat} {cs : Nat → List zv_Cl} {a c m h t hm B Z : Nat} {Sx Sm X M : St} (hL : zv_FL0 k q cs a c m h t hm B Z Sx Sm) (hJ : zv_RJ q cs Sx Sm m h t X M) {l n : Nat} (hl : l < c) (hn : n ≤ 60) : ∃ r X' M', r ≤ 400 ∧ F_X7_heightBehind X (nI l) (nI n) = some (nI r, X') ∧ F_X8_upOf M (nI l) (nI n) = some (nI r, M') ∧ zv_RJ q cs Sx Sm m h t X' M' := by
  obtain ⟨X', e1, x1⟩ := zv_hbX hL hJ.1 hl hn
  obtain ⟨M', e2, m1, g1⟩ := zv_mgUp hL hJ.2.1 hJ.2.2 hl hn
  exact ⟨_, X', M', zv_gm1 n hL.2.2.2.2.2.2.2.2.1.1 hL.2.2.2.2.2.1, e1, e2, x1, m1, g1⟩
theorem m_odds {k : Nat} {Sx Sm : St} (hR : Rel k Sx Sm) (a1 : Int32) (a2 : Int32) (a3 : Int32) : ∃ (r : Int64) (Sx' Sm' : St), F_X7_odds Sx a1 a2 a3 = some (r, Sx') ∧ F_X8_odds Sm a1 a2 a3 = some (r, Sm') ∧ Rel k Sx' Sm' := by
  obtain ⟨q, cs, a, c, m, h, t, hm, B, Z, hL⟩ := zv_Rel_F hR
  have hF := hL.2.1
  have hc := hF.2.1
  show zv_RQ k _ _
  simp only [F_X7_odds, F_X8_odds, zv_x7_in, zv_x8_in, zv_x8_isT, zv_bndS, zv_if10]
  by_cases h1 : 0 ≤ a1 ∧ a1 ≤ 400
  · rw [if_pos h1, if_pos h1]
    by_cases h2 : 0 ≤ a2 ∧ a2 ≤ 60
    · obtain ⟨n, n6, rfl⟩ := zv_to60 h2
      rw [if_pos h2, if_pos h2, hF.2.2.2.2.2.2.2.2]
      generalize eKx : (fun (y4_11 y5_11 : Int32) (T_11 : St) => bnd (F_X7_partOfFraction T_11 y4_11 (gI T_11 5 0 5) a3) (fun r12 S13 => some (r12, S13))) = Kx
      generalize eKm : (fun (y4_17 y5_17 : Int32) (T_17 : St) => bnd (F_X8_lowestTerms T_17 y4_17 (gI T_17 8 0 0) a3) (fun r18 S19 => some (r18, S19))) = Km
      have fin : ∀ (R : Option (Int64 × St) → Option (Int64 × St) → Prop), (∀ (A : Nat) X M, A ≤ 100000 → zv_RJ q cs Sx Sm m h t X M → R (Kx (nI A) (nI c) X) (Km (nI A) (nI c) M)) → R (L_X7_odds_31 a1 (nI n) Kx 1000 0 0 Sx) (L_X8_odds_47 a1 (nI n) Km 1000 0 0 Sm) := by
        intro R hfin
        refine zv_lp3 (fun i (z : Int32 × Int32 × St) => L_X7_odds_31 a1 (nI n) Kx i z.1 z.2.1 z.2.2) (fun i (z : Int32 × Int32 × St) => L_X8_odds_47 a1 (nI n) Km i z.1 z.2.1 z.2.2) c
          (fun j a_ b_ => ∃ y X M, a_ = (nI y, nI j, X) ∧ b_ = (nI y, nI j, M) ∧ y ≤ j ∧ zv_RJ q cs Sx Sm m h t X M) R ?_ ?_ c 0 1000 1000 (0, 0, Sx) (0, 0, Sm) (by omega) (by omega) (by omega) ⟨0, Sx, Sm, rfl, rfl, by omega, zv_RJ0 hL⟩
        · rintro i i' j _ _ hj - - ⟨y, X, M, rfl, rfl, hy, hJ⟩
          left
          have hcj : ¬ nI c ≤ nI j := by rw [zv_nIle (by omega) (by omega)]; omega
          obtain ⟨r, X', M', r4, e1, e2, hJ'⟩ := zv_hbJ hL hJ hj n6
          simp only []
          rw [L_X7_odds_31.eq_2, L_X8_odds_47.eq_2, hJ.1.2.1 5 (by decide) (by decide), hF.2.2.2.2.2.2.2.1, hJ.2.1.2.2.2 0 0 (by omega), hF.2.2.2.2.2.2.2.2, if_neg hcj, if_neg hcj, e1, e2, zv_bndS, zv_bndS, zv_nIs j (by omega)]
          by_cases hr : nI r < a1
          · rw [if_pos hr, if_pos hr, Int32.add_zero]
            exact ⟨(nI y, nI (j + 1), X'), (nI y, nI (j + 1), M'), ⟨y, X', M', rfl, rfl, by omega, hJ'⟩, rfl, rfl⟩
          · rw [if_neg hr, if_neg hr, zv_nIs y (by omega)]
            exact ⟨(nI (y + 1), nI (j + 1), X'), (nI (y + 1), nI (j + 1), M'), ⟨y + 1, X', M', rfl, rfl, by omega, hJ'⟩, rfl, rfl⟩
        · rintro i i' _ _ ⟨y, X, M, rfl, rfl, hy, hJ⟩
          simp only []
          rw [L_X7_odds_31.eq_2, L_X8_odds_47.eq_2, hJ.1.2.1 5 (by decide) (by decide), hF.2.2.2.2.2.2.2.1, hJ.2.1.2.2.2 0 0 (by omega), hF.2.2.2.2.2.2.2.2, if_pos (Int32.le_refl _), if_pos (Int32.le_refl _)]
          exact hfin y X M (by omega) hJ
      by_cases h3 : 0 ≤ a3 ∧ a3 ≤ 1
      · rw [if_pos h3]
        by_cases h4 : nI c = 0
        · rw [if_pos h4]
          have hc0 : c = 0 := (zv_nIz (by omega)).mp h4
          refine fin (fun x y => zv_RQ k x (some (-9223372036854775808, Sm))) (fun A X M hA hJ => ?_)
          subst eKx
          simp only []
          rw [hJ.1.2.1 5 (by decide) (by decide), hF.2.2.2.2.2.2.2.1, zv_frN X (.inr hc0) hc, zv_bndS]
          exact ⟨_, _, _, rfl, rfl, zv_RJe hL ⟨hJ.1, (zv_RJ0 hL).2⟩⟩
        · rw [if_neg h4]
          have hc0 : ¬ c = 0 := fun z => h4 ((zv_nIz (by omega)).mpr z)
          refine fin (zv_RQ k) (fun A X M hA hJ => ?_)
          subst eKx eKm
          obtain ⟨r, f1, f2⟩ := zv_frac hA (show 1 ≤ c by omega) hc X M h3
          simp only []
          rw [hJ.1.2.1 5 (by decide) (by decide), hF.2.2.2.2.2.2.2.1, hJ.2.1.2.2.2 0 0 (by omega), hF.2.2.2.2.2.2.2.2, f1, f2]
          exact ⟨_, _, _, rfl, rfl, zv_RJe hL hJ⟩
      · rw [if_neg h3]
        refine fin (fun x y => zv_RQ k x (some (-9223372036854775808, Sm))) (fun A X M hA hJ => ?_)
        subst eKx
        simp only []
        rw [hJ.1.2.1 5 (by decide) (by decide), hF.2.2.2.2.2.2.2.1, zv_frN X (.inl h3) hc, zv_bndS]
        exact ⟨_, _, _, rfl, rfl, zv_RJe hL ⟨hJ.1, (zv_RJ0 hL).2⟩⟩
    · rw [if_neg h2, if_neg h2]
      exact ⟨_, _, _, rfl, rfl, hR⟩
  · rw [if_neg h1, if_neg h1]
    exact ⟨_, _, _, rfl, rfl, hR⟩
theorem m_mean {k : Nat} {Sx Sm : St} (hR : Rel k Sx Sm) (a1 : Int32) (a2 : Int32) : ∃ (r : Int64) (Sx' Sm' : St), F_X7_mean Sx a1 a2 = some (r, Sx') ∧ F_X8_mean Sm a1 a2 = some (r, Sm') ∧ Rel k Sx' Sm' := by
  obtain ⟨q, cs, a, c, m, h, t, hm, B, Z, hL⟩ := zv_Rel_F hR
  have hF := hL.2.1
  have hc := hF.2.1
  show zv_RQ k _ _
  simp only [F_X7_mean, F_X8_mean, zv_x7_in, zv_x8_in, zv_x8_isT, zv_bndS, zv_if10]
  by_cases h2 : 0 ≤ a1 ∧ a1 ≤ 60
  · obtain ⟨n, n6, rfl⟩ := zv_to60 h2
    rw [if_pos h2, if_pos h2, hF.2.2.2.2.2.2.2.2]
    generalize eKx : (fun (y4_11 y5_11 : Int32) (T_11 : St) => bnd (F_X7_partOfFraction T_11 y4_11 (gI T_11 5 0 5) a2) (fun r12 S13 => some (r12, S13))) = Kx
    generalize eKm : (fun (y4_17 y5_17 : Int32) (T_17 : St) => bnd (F_X8_lowestTerms T_17 y4_17 (gI T_17 8 0 0) a2) (fun r18 S19 => some (r18, S19))) = Km
    have fin : ∀ (R : Option (Int64 × St) → Option (Int64 × St) → Prop), (∀ (A : Nat) X M, A ≤ 100000 → zv_RJ q cs Sx Sm m h t X M → R (Kx (nI A) (nI c) X) (Km (nI A) (nI c) M)) → R (L_X7_mean_19 (nI n) Kx 1000 0 0 Sx) (L_X8_mean_34 (nI n) Km 1000 0 0 Sm) := by
      intro R hfin
      refine zv_lp3 (fun i (z : Int32 × Int32 × St) => L_X7_mean_19 (nI n) Kx i z.1 z.2.1 z.2.2) (fun i (z : Int32 × Int32 × St) => L_X8_mean_34 (nI n) Km i z.1 z.2.1 z.2.2) c
        (fun j a_ b_ => ∃ y X M, a_ = (nI y, nI j, X) ∧ b_ = (nI y, nI j, M) ∧ y ≤ 400 * j ∧ zv_RJ q cs Sx Sm m h t X M) R ?_ ?_ c 0 1000 1000 (0, 0, Sx) (0, 0, Sm) (by omega) (by omega) (by omega) ⟨0, Sx, Sm, rfl, rfl, by omega, zv_RJ0 hL⟩
      · rintro i i' j _ _ hj - - ⟨y, X, M, rfl, rfl, hy, hJ⟩
        left
        have hcj : ¬ nI c ≤ nI j := by rw [zv_nIle (by omega) (by omega)]; omega
        obtain ⟨r, X', M', r4, e1, e2, hJ'⟩ := zv_hbJ hL hJ hj n6
        simp only []
        rw [L_X7_mean_19.eq_2, L_X8_mean_34.eq_2, hJ.1.2.1 5 (by decide) (by decide), hF.2.2.2.2.2.2.2.1, hJ.2.1.2.2.2 0 0 (by omega), hF.2.2.2.2.2.2.2.2, if_neg hcj, if_neg hcj, e1, e2, zv_bndS, zv_bndS, zv_nIs j (by omega), zv_nIa' (show y + r < 2147483648 by omega)]
        exact ⟨(nI (y + r), nI (j + 1), X'), (nI (y + r), nI (j + 1), M'), ⟨y + r, X', M', rfl, rfl, by omega, hJ'⟩, rfl, rfl⟩
      · rintro i i' _ _ ⟨y, X, M, rfl, rfl, hy, hJ⟩
        simp only []
        rw [L_X7_mean_19.eq_2, L_X8_mean_34.eq_2, hJ.1.2.1 5 (by decide) (by decide), hF.2.2.2.2.2.2.2.1, hJ.2.1.2.2.2 0 0 (by omega), hF.2.2.2.2.2.2.2.2, if_pos (Int32.le_refl _), if_pos (Int32.le_refl _)]
        exact hfin y X M (by omega) hJ
    by_cases h3 : 0 ≤ a2 ∧ a2 ≤ 1
    · rw [if_pos h3]
      by_cases h4 : nI c = 0
      · rw [if_pos h4]
        have hc0 : c = 0 := (zv_nIz (by omega)).mp h4
        refine fin (fun x y => zv_RQ k x (some (-9223372036854775808, Sm))) (fun A X M hA hJ => ?_)
        subst eKx
        simp only []
        rw [hJ.1.2.1 5 (by decide) (by decide), hF.2.2.2.2.2.2.2.1, zv_frN X (.inr hc0) hc, zv_bndS]
        exact ⟨_, _, _, rfl, rfl, zv_RJe hL ⟨hJ.1, (zv_RJ0 hL).2⟩⟩
      · rw [if_neg h4]
        have hc0 : ¬ c = 0 := fun z => h4 ((zv_nIz (by omega)).mpr z)
        refine fin (zv_RQ k) (fun A X M hA hJ => ?_)
        subst eKx eKm
        obtain ⟨r, f1, f2⟩ := zv_frac hA (show 1 ≤ c by omega) hc X M h3
        simp only []
        rw [hJ.1.2.1 5 (by decide) (by decide), hF.2.2.2.2.2.2.2.1, hJ.2.1.2.2.2 0 0 (by omega), hF.2.2.2.2.2.2.2.2, f1, f2]
        exact ⟨_, _, _, rfl, rfl, zv_RJe hL hJ⟩
    · rw [if_neg h3]
      refine fin (fun x y => zv_RQ k x (some (-9223372036854775808, Sm))) (fun A X M hA hJ => ?_)
      subst eKx
      simp only []
      rw [hJ.1.2.1 5 (by decide) (by decide), hF.2.2.2.2.2.2.2.1, zv_frN X (.inl h3) hc, zv_bndS]
      exact ⟨_, _, _, rfl, rfl, zv_RJe hL ⟨hJ.1, (zv_RJ0 hL).2⟩⟩
  · rw [if_neg h2, if_neg h2]
    exact ⟨_, _, _, rfl, rfl, hR⟩
theorem zv_rowsL {k q : Nat} {cs : Nat → List zv_Cl} {a c m h t hm B Z : Nat} {Sx Sm : St} (hL : zv_FL0 k q cs a c m h t hm B Z Sx Sm) :
    (∃ n, n ≤ 4 ∧ gI Sx 4 0 2 = nI n ∧ gI Sm 8 0 36 = nI n ∧ ∀ r, r < n → ∃ l v, l < c ∧ v ≤ 60 ∧ gI Sx 14 0 r = nI l ∧ gI Sm 37 0 r = nI l ∧ gI Sx 15 0 r = nI v ∧ gI Sm 38 0 r = nI v) ∧
    (∃ n, n ≤ 5 ∧ gI Sx 4 1 2 = nI n ∧ gI Sm 8 0 39 = nI n ∧ ∀ r, r < n → gI Sx 15 1 r = gI Sm 39 0 r) ∧
    (∃ n, n ≤ 8 ∧ gI Sx 4 2 2 = nI n ∧ gI Sm 8 0 41 = nI n ∧ ∀ r, r < n → ∃ l, l < c ∧ gI Sx 14 2 r = nI l ∧ gI Sm 40 0 r = nI l ∧ gI Sx 15 2 r = gI Sm 41 0 r) := by
  obtain ⟨hW, hF, -⟩ := hL
  have hc := hF.2.1
  obtain ⟨c', u1, u2, u3, u4, u5, u6, u7, u8, u9, u10, u11⟩ := hW.2.2.2.2.2.2.2.2.2.2.1
  have ec : nI c' = nI c := by rw [← u1.2.1]; exact hF.2.2.2.2.2.2.2.1
  obtain rfl : c = c' := Eq.symm <| (zv_nIeq (by have := u1.1; omega) (by omega)).mp ec
  obtain ⟨n1, x1, x2, x3, x4⟩ := u7
  obtain ⟨n1', y1, y2, y4⟩ := u8
  obtain ⟨n2, z1, z2, z3, z4⟩ := u9
  obtain ⟨n3, p1, p2, p3, p4⟩ := u10
  obtain ⟨n3', q1, q2, q4⟩ := u11
  obtain rfl : n1 = n1' := (zv_nIeq (by omega) (by omega)).mp (x2.symm.trans y2)
  obtain rfl : n3 = n3' := (zv_nIeq (by omega) (by omega)).mp (p2.symm.trans q2)
  simp only [Nat.mul_zero, Nat.zero_add] at *
  refine ⟨⟨n1, x1, x2, x3, fun r hr => ?_⟩, ⟨n2, z1, z2, z3, fun r hr => (z4 r hr).1⟩, ⟨n3, p1, p2, p3, fun r hr => ?_⟩⟩
  · obtain ⟨b1, b2, b3⟩ := y4 r hr
    obtain ⟨d1, d2, d3⟩ := x4 r hr
    obtain ⟨l, hl, el⟩ := zv_asN b2 b3 (by omega)
    obtain ⟨v, hv, ev⟩ := zv_to60 ⟨d2, d3⟩
    exact ⟨l, v, hl, hv, by rw [b1, el], el, by rw [d1, ev], ev⟩
  · obtain ⟨b1, b2, b3⟩ := q4 r hr
    obtain ⟨l, hl, el⟩ := zv_asN b2 b3 (by omega)
    exact ⟨l, hl, by rw [b1, el], el, (p4 r hr).1⟩
theorem m_looked {k : Nat} {Sx Sm : St} (hR : Rel k Sx Sm) : ∃ (r : Int32) (Sx' Sm' : St), F_X7_looked Sx  = some (r, Sx') ∧ F_X8_looked Sm  = some (r, Sm') ∧ Rel k Sx' Sm' := by
  obtain ⟨q, cs, a, c, m, h, t, hm, B, Z, hL⟩ := zv_Rel_F hR
  have hL' := hL
  obtain ⟨hW, hF, ⟨g1, g2, g3⟩, hGM, m9, h4, t1, -⟩ := hL'
  have hc := hF.2.1
  obtain ⟨-, -, n, n8, e1, e2, e3⟩ := zv_rowsL hL
  show zv_RQ k _ _
  unfold F_X7_looked F_X8_looked
  refine zv_lp3 (fun i (z : Int32 × St) => L_X7_looked_2 (fun y1_1 T_1 => some ((-5 : Int32), T_1)) i z.1 z.2) (fun i (z : Int32 × St) => L_X8_looked_2 (fun y1_1 T_1 => some ((-5 : Int32), T_1)) i z.1 z.2) n
    (fun j a_ b_ => ∃ X M, a_ = (nI j, X) ∧ b_ = (nI j, M) ∧ zv_RJ q cs Sx Sm m h t X M) (zv_RQ k) ?_ ?_ n 0 1000 1000 (0, Sx) (0, Sm) (by omega) (by omega) (by omega) ⟨Sx, Sm, rfl, rfl, zv_RJ0 hL⟩
  · rintro i i' j _ _ hj - - ⟨X, M, rfl, rfl, hX, hM, hGM'⟩
    have hcj : ¬ nI n ≤ nI j := by rw [zv_nIle (by omega) (by omega)]; omega
    obtain ⟨l, hl, k1, k2, k3⟩ := e3 j hj
    simp only []
    obtain ⟨r, X', M', f1, f2, -, f3, f4⟩ := zv_cxm hF hX hM hl (h := h) (t := t) (by omega) hGM'.2.1 hGM'.2.2
    have hX' := zv_XTc hX f3
    have hM' := zv_MTc hM f4
    rw [L_X7_looked_2.eq_2, L_X8_looked_2.eq_2, hX.2.1 4 (by decide) (by decide), e1, hM.2.2.2 0 41 (by omega), e2, if_neg hcj, if_neg hcj, if_pos (zv_gd (by omega)), zv_nIcl (by omega), hX.2.1 14 (by decide) (by decide), k1, if_pos (zv_gd (show l < 6 by omega)), zv_nIcl (by omega), hX.2.2.2.2.1 5 (by decide), hF.2.2.2.2.2.2.1, Nat.mul_zero, Nat.zero_add, hX.2.2.1 0 (by decide), g2, g3, hM.2.2.1 40 (by decide) (by decide), k2]
    simp only [Option.elim]
    rw [f1, f2, zv_bndS, zv_bndS, if_pos (zv_ge' (show j < 8 by omega) (by omega)), if_pos (zv_ge' (show j < 8 by omega) (by omega)), if_pos (zv_ge' (show j < 8 by omega) (by omega)), hX'.2.1 15 (by decide) (by decide), hM'.2.2.1 41 (by decide) (by decide), k3, zv_nIs j (by omega)]
    have hJ' : zv_RJ q cs Sx Sm m h t X' M' := ⟨hX', hM', by unfold zv_GM; rw [f4.2.2 8 (by decide)]; exact hGM'⟩
    by_cases hr : r = gI Sm 41 0 j
    · left
      rw [if_pos hr, if_pos hr]
      exact ⟨(nI (j + 1), X'), (nI (j + 1), M'), ⟨X', M', rfl, rfl, hJ'⟩, rfl, rfl⟩
    · right
      rw [if_neg hr, if_neg hr]
      exact ⟨_, _, _, rfl, rfl, zv_RJe hL hJ'⟩
  · rintro i i' _ _ ⟨X, M, rfl, rfl, hX, hM, hGM'⟩
    simp only []
    rw [L_X7_looked_2.eq_2, L_X8_looked_2.eq_2, hX.2.1 4 (by decide) (by decide), e1, hM.2.2.2 0 41 (by omega), e2, if_pos (Int32.le_refl _), if_pos (Int32.le_refl _)]
    exact ⟨_, _, _, rfl, rfl, zv_RJe hL ⟨hX, hM, hGM'⟩⟩
theorem zv_seenJ {k q : Nat} {cs : Nat → List zv_Cl} {a c m h t hm B Z : Nat} {Sx Sm X M : St} (hL : zv_FL0 k q cs a c m h t hm B Z Sx Sm) (hJ : zv_RJ q cs Sx Sm m h t X M) {l : Nat} (hl : l < c) : ∃ b X' M', F_X7_wouldBeAsSeen X l = some (zv_bI b, X') ∧ F_X8_isSeen M (nI l) = some (zv_bI b, M') ∧ zv_RJ q cs Sx Sm m h t X' M' := by
  have hL' := hL
  obtain ⟨hW, hF, hG, hGM, m9, h4, t1, -, ⟨B4, eB⟩, -⟩ := hL'
  have hc := hF.2.1
  obtain ⟨-, ⟨n, n5, e1, e2, e3⟩, -⟩ := zv_rowsL hL
  obtain ⟨X1, f1, x1, g1⟩ := zv_cpC hJ.1 hG
  obtain ⟨M1, f2, m1, k1, r1, -⟩ := zv_svM hJ.2.1 hJ.2.2
  unfold F_X7_wouldBeAsSeen F_X8_isSeen
  rw [f1, f2, zv_bndS, zv_bndS]
  generalize eKm : (fun (y2_5 y3_5 : Int32) (T_5 : St) => bnd (F_X8_putBack T_5) (fun r6 S7 => if y2_5 = 0 ∨ y2_5 = 1 then some (y2_5, S7) else none)) = Km
  refine zv_lp3 (fun i (z : Int32 × St) => L_X7_wouldBeAsSeen_16 l (fun y2_5 T_5 => some ((1 : Int32), T_5)) i z.1 z.2) (fun i (z : Int32 × Int32 × St) => L_X8_isSeen_8 (nI l) Km i z.1 z.2.1 z.2.2) n
    (fun j a_ b_ => ∃ X M, a_ = (nI j, X) ∧ b_ = (1, nI j, M) ∧ zv_XT 2 q cs Sx X ∧ zv_GC X 2 m (zv_gm B (zv_CI (cs a) Sm l) j (h, t)).1 (t + j) ∧ zv_MT Sm M ∧ zv_GM M m (zv_gm B (zv_CI (cs a) Sm l) j (h, t)).1 (t + j) ∧ (gI M 8 0 29 = nI t ∧ gI M 8 0 30 = nI m ∧ gI M 8 0 31 = nI h))
    (fun x_ y_ => ∃ b X' M', x_ = some (zv_bI b, X') ∧ y_ = some (zv_bI b, M') ∧ zv_RJ q cs Sx Sm m h t X' M') ?_ ?_ n 0 1000 1000 (0, X1) (1, 0, M1) (by omega) (by omega) (by omega) ⟨X1, M1, rfl, rfl, x1, g1, m1, k1, r1⟩
  · rintro i i' j _ _ hj hi hi' ⟨X, M, rfl, rfl, hX, hGX, hM, hGM', hK⟩
    have hcj : ¬ nI n ≤ nI j := by rw [zv_nIle (by omega) (by omega)]; omega
    have b4 := zv_gm1 (B := B) (C := zv_CI (cs a) Sm l) j (s := (h, t)) B4 h4
    have b2 := zv_gm2 B (zv_CI (cs a) Sm l) j (h, t)
    obtain ⟨X2, x2, g2, e4⟩ := zv_xc_circ hF hX hl b4 hGX B4 eB (n := 1) (by omega) (by omega)
    obtain ⟨M2, m2, g3, g4, e5⟩ := zv_mg_min hF hM hl b4 (by omega) hGM' B4 eB
    have es : (zv_gm B (zv_CI (cs a) Sm l) 1 ((zv_gm B (zv_CI (cs a) Sm l) j (h, t)).1, t + j)).1 = (zv_gm B (zv_CI (cs a) Sm l) (j + 1) (h, t)).1 := by
      show zv_hs B (zv_gm B (zv_CI (cs a) Sm l) j (h, t)).1 (zv_CI (cs a) Sm l (zv_gm B (zv_CI (cs a) Sm l) j (h, t)).1 (t + j)) = zv_hs B (zv_gm B (zv_CI (cs a) Sm l) j (h, t)).1 (zv_CI (cs a) Sm l (zv_gm B (zv_CI (cs a) Sm l) j (h, t)).1 (zv_gm B (zv_CI (cs a) Sm l) j (h, t)).2)
      rw [b2]
    have es' : zv_hs B (zv_gm B (zv_CI (cs a) Sm l) j (h, t)).1 (zv_CI (cs a) Sm l (zv_gm B (zv_CI (cs a) Sm l) j (h, t)).1 (t + j)) = (zv_gm B (zv_CI (cs a) Sm l) (j + 1) (h, t)).1 := es
    rw [es] at g2
    rw [es'] at g3
    have hK2 : gI M2 8 0 29 = nI t ∧ gI M2 8 0 30 = nI m ∧ gI M2 8 0 31 = nI h := by rw [g4 29 (by omega), g4 30 (by omega), g4 31 (by omega)]; exact hK
    simp only []
    rw [L_X7_wouldBeAsSeen_16.eq_2, L_X8_isSeen_8.eq_2, hX.2.1 4 (by decide) (by decide), e1, hM.2.2.2 0 39 (by omega), e2, if_neg hcj, if_neg hcj, if_neg zv_z10, hX.2.2.2.2.1 5 (by decide), hF.2.2.2.2.2.2.1]
    simp only [Option.elim]
    rw [show (1 : Int32) = nI 1 from rfl, e4, e5, zv_bndS, zv_bndS, if_pos (zv_gd (show j < 5 by omega)), if_pos (zv_gd (show j < 5 by omega)), zv_nIcl (by omega), g2.2.1, hGX.2.1, g3.2.1, hGM'.2.1, x2.2.1 15 (by decide) (by decide), m2.2.2.1 39 (by decide) (by decide), e3 j hj, show nI j + nI 1 = nI (j + 1) from zv_nIs j (by omega)]
    by_cases hv : nI (zv_gm B (zv_CI (cs a) Sm l) (j + 1) (h, t)).1 - nI (zv_gm B (zv_CI (cs a) Sm l) j (h, t)).1 = gI Sm 39 0 j
    · left
      rw [if_pos hv, if_pos hv]
      exact ⟨(nI (j + 1), X2), (1, nI (j + 1), M2), ⟨X2, M2, rfl, rfl, x2, g2, m2, g3, hK2⟩, rfl, rfl⟩
    · right
      rw [if_neg hv, if_neg hv]
      obtain ⟨z, rfl⟩ : ∃ z, i' = z + 1 := ⟨i' - 1, by omega⟩
      obtain ⟨M3, e6, m3, g5, -⟩ := zv_pbM m2 hK2
      rw [L_X8_isSeen_8.eq_2, if_pos rfl, ite_self]
      subst eKm
      simp only []
      rw [e6, zv_bndS, if_pos (.inl trivial)]
      exact ⟨false, X2, M3, rfl, rfl, x2, m3, g5⟩
  · rintro i i' _ _ ⟨X, M, rfl, rfl, hX, hGX, hM, hGM', hK⟩
    obtain ⟨M3, e6, m3, g5, -⟩ := zv_pbM hM hK
    simp only []
    rw [L_X7_wouldBeAsSeen_16.eq_2, L_X8_isSeen_8.eq_2, hX.2.1 4 (by decide) (by decide), e1, hM.2.2.2 0 39 (by omega), e2, if_pos (Int32.le_refl _), if_pos (Int32.le_refl _)]
    subst eKm
    simp only []
    rw [e6, zv_bndS, if_pos (.inr trivial)]
    exact ⟨true, X, M3, rfl, rfl, hX, m3, g5⟩
theorem m_who {k : Nat} {Sx Sm : St} (hR : Rel k Sx Sm) : ∃ (r : Int32) (Sx' Sm' : St), F_X7_who Sx  = some (r, Sx') ∧ F_X8_who Sm  = some (r, Sm') ∧ Rel k Sx' Sm' := by
  obtain ⟨q, cs, a, c, m, h, t, hm, B, Z, hL⟩ := zv_Rel_F hR
  have hF := hL.2.1
  have hc := hF.2.1
  show zv_RQ k _ _
  unfold F_X7_who F_X8_who
  refine zv_lp3 (fun n (z : Int32 × Int32 × St) => L_X7_who_4 (fun y1_1 y2_1 T_1 => some (y1_1, T_1)) n z.1 z.2.1 z.2.2) (fun n (z : Int32 × Int32 × St) => L_X8_who_4 (fun y1_1 y2_1 T_1 => some (y1_1, T_1)) n z.1 z.2.1 z.2.2) c
    (fun j a_ b_ => ∃ y X M, a_ = (y, nI j, X) ∧ b_ = (y, nI j, M) ∧ zv_RJ q cs Sx Sm m h t X M) (zv_RQ k) ?_ ?_ c 0 1000 1000 (0, 0, Sx) (0, 0, Sm) (by omega) (by omega) (by omega) ⟨0, Sx, Sm, rfl, rfl, zv_RJ0 hL⟩
  · rintro n n' j _ _ hj - - ⟨y, X, M, rfl, rfl, hJ⟩
    left
    have hcj : ¬ nI c ≤ nI j := by rw [zv_nIle (by omega) (by omega)]; omega
    obtain ⟨b, X', M', e1, e2, hJ'⟩ := zv_seenJ hL hJ hj
    simp only []
    rw [L_X7_who_4.eq_2, L_X8_who_4.eq_2, hJ.1.2.1 5 (by decide) (by decide), hF.2.2.2.2.2.2.2.1, hJ.2.1.2.2.2 0 0 (by omega), hF.2.2.2.2.2.2.2.2, if_neg hcj, if_neg hcj, if_pos (zv_gd (by omega)), zv_nIcl (by omega), Nat.mul_zero, Nat.zero_add, e1, e2, zv_bndS, zv_bndS, zv_nIs j (by omega), zv_or0]
    cases b
    · exact ⟨(y, nI (j + 1), X'), (y, nI (j + 1), M'), ⟨_, X', M', rfl, rfl, hJ'⟩, rfl, rfl⟩
    · exact ⟨(_, nI (j + 1), X'), (_, nI (j + 1), M'), ⟨_, X', M', rfl, rfl, hJ'⟩, rfl, rfl⟩
  · rintro n n' _ _ ⟨y, X, M, rfl, rfl, hJ⟩
    simp only []
    rw [L_X7_who_4.eq_2, L_X8_who_4.eq_2, hJ.1.2.1 5 (by decide) (by decide), hF.2.2.2.2.2.2.2.1, hJ.2.1.2.2.2 0 0 (by omega), hF.2.2.2.2.2.2.2.2, if_pos (Int32.le_refl _), if_pos (Int32.le_refl _)]
    exact ⟨_, _, _, rfl, rfl, zv_RJe hL hJ⟩
theorem zv_flIn {k q : Nat} {cs : Nat → List zv_Cl} {a c m0 h0 zv_t0 hm B Z : Nat} {Sx Sm : St} (hL : zv_FL0 k q cs a c m0 h0 zv_t0 hm B Z Sx Sm) {l : Nat} (hl : l < c) {w j v : Nat} (hj : j < 4) (hv : v ≤ 60) (e37 : gI Sm 37 0 j = nI l) (e38 : gI Sm 38 0 j = nI v) (K : Int32 → St → Option (Int32 × St)) {h t : Nat} (h4 : h ≤ 400) (t9 : t ≤ 20000) {M : St} (hM : zv_MT Sm M) (hG : zv_GM M w h t) :
    ∃ M', zv_MT Sm M' ∧ zv_GM M' w (zv_gm B (zv_CI (cs a) Sm l) v (h, t)).1 (t + v) ∧ (∀ j, 29 ≤ j → gI M' 8 0 j = gI M 8 0 j) ∧ L_X8_flown_66 (nI j) 1 K 1000 0 M = K (nI v) M' := by
  obtain ⟨hW, hF, -, -, -, -, -, -, ⟨B4, eB⟩, -⟩ := hL
  have hc := hF.2.1
  obtain ⟨M', ⟨i1, i2, i3⟩, e2⟩ := zv_lpI (L_X8_flown_66 (nI j) 1 K) K v
    (fun i T => zv_MT Sm T ∧ zv_GM T w (zv_gm B (zv_CI (cs a) Sm l) i (h, t)).1 (t + i) ∧ ∀ j, 29 ≤ j → gI T 8 0 j = gI M 8 0 j)
    (fun fuel i T hi hI => by
      obtain ⟨T', y1, y2, y4, y3⟩ := zv_mg_min hF hI.1 hl (zv_gm1 i B4 h4) (by omega) hI.2.1 B4 eB
      refine ⟨T', ⟨y1, ?_, fun r hr => by rw [y4 r hr, hI.2.2 r hr]⟩, ?_⟩
      · have e2 := zv_gm2 B (zv_CI (cs a) Sm l) i (h, t)
        show zv_GM T' w (zv_hs B (zv_gm B (zv_CI (cs a) Sm l) i (h, t)).1 (zv_CI (cs a) Sm l (zv_gm B (zv_CI (cs a) Sm l) i (h, t)).1 (zv_gm B (zv_CI (cs a) Sm l) i (h, t)).2)) (t + (i + 1))
        rw [e2]
        exact y2
      · have hiv : ¬ nI v ≤ nI i := by rw [zv_nIle (by omega) (by omega)]; omega
        rw [L_X8_flown_66.eq_2, if_pos (zv_gd hj), zv_nIcl (by omega), hI.1.2.2.1 38 (by decide) (by decide), e38, if_neg hiv, if_neg zv_z10, if_pos (zv_ge' hj (by omega)), hI.1.2.2.1 37 (by decide) (by decide), e37, y3, zv_nIs i (by omega)]; rfl)
    (fun fuel T hI => by rw [L_X8_flown_66.eq_2, if_pos (zv_gd hj), zv_nIcl (by omega), hI.1.2.2.1 38 (by decide) (by decide), e38, if_pos (Int32.le_refl _)]) v 0 1000 M (by omega) (by omega) ⟨hM, hG, fun _ _ => rfl⟩
  exact ⟨M', i1, i2, i3, e2⟩
theorem m_flown {k : Nat} {Sx Sm : St} (hR : Rel k Sx Sm) (a1 : Int32) (a2 : Int32) : ∃ (r : Int32) (Sx' Sm' : St), F_X7_flown Sx a1 a2 = some (r, Sx') ∧ F_X8_flown Sm a1 a2 = some (r, Sm') ∧ Rel k Sx' Sm' := by
  obtain ⟨q, cs, a, c, m, h, t, hm, B, Z, hL⟩ := zv_Rel_F hR
  have hL' := hL
  obtain ⟨hW, hF, hG, hGM, m9, h4, t1, ⟨i1, i2, i3⟩, ⟨B4, eB⟩, -⟩ := hL'
  have hc := hF.2.1
  obtain ⟨⟨n, n4, e1, e2, e3⟩, -, -⟩ := zv_rowsL hL
  show zv_RQ k _ _
  simp only [F_X7_flown, F_X8_flown, zv_x7_in, zv_x8_in, zv_x7_isP, zv_x8_isP, zv_bndS, zv_if10]
  by_cases hn : 0 ≤ a2 ∧ a2 ≤ 1
  · rw [if_pos hn, if_pos hn]
    by_cases hp : 1 ≤ a1 ∧ a1 ≤ 9
    · obtain ⟨p, p9, p1, rfl⟩ := zv_to9 hp
      rw [if_pos hp, if_pos hp]
      obtain ⟨X1, f1, x1, g1⟩ := zv_cpC (zv_FLxr hL) hG
      obtain ⟨M1, f2, m1, k1, r1, -⟩ := zv_svM (zv_MTr Sm) hGM
      rw [f1, f2, zv_bndS, zv_bndS]
      generalize eKx : (fun (y3_15 : Int32) (T_15 : St) => bnd (F_X2_glides T_15 2 (gI T_15 5 0 7) (nI p)) (fun r16 S17 => if r16 = 0 then (some ((-5 : Int32), S17)) else (if a2 = 0 then (some (gI S17 2 2 1, S17)) else (some ((gI S17 2 2 2) - (gI S17 2 0 2), S17))))) = Kx
      generalize eKm : (fun (y3_15 y4_15 : Int32) (T_15 : St) => if y3_15 = 0 then (if a2 = 0 then (bnd (F_X8_putBack T_15) (fun r22 S23 => some ((-5 : Int32), S23))) else (bnd (F_X8_putBack T_15) (fun r18 S19 => some ((-5 : Int32), S19))))
        else (bnd (F_X8_goGlide T_15 (gI T_15 8 0 5) (nI p)) (fun r26 S27 => if r26 = 0 then (if a2 = 0 then (bnd (F_X8_putBack S27) (fun r36 S37 => some ((-5 : Int32), S37))) else (bnd (F_X8_putBack S27) (fun r32 S33 => some ((-5 : Int32), S33))))
          else (if a2 = 0 then (bnd (F_X8_putBack S27) (fun r45 S46 => some (gI S27 8 0 3, S46))) else (bnd (F_X8_putBack S27) (fun r41 S42 => some ((gI S27 8 0 1) - (gI S27 8 0 29), S42))))))) = Km
      have out : ∀ y M, zv_MT Sm M → (gI M 8 0 29 = nI t ∧ gI M 8 0 30 = nI m ∧ gI M 8 0 31 = nI h) → ∃ M', Km 0 y M = some (-5, M') ∧ zv_MT Sm M' ∧ zv_GM M' m h t := by
        intro y M hM hK
        obtain ⟨M2, f3, m2, g2, -⟩ := zv_pbM hM hK
        subst eKm
        simp only []
        rw [f3, zv_bndS, ite_self, if_pos trivial]
        exact ⟨M2, rfl, m2, g2⟩
      refine zv_lp3 (fun i (z : Int32 × St) => L_X7_flown_37 (nI p) Kx i z.1 z.2) (fun i (z : Int32 × Int32 × St) => L_X8_flown_32 (nI p) Km i z.1 z.2.1 z.2.2) n
        (fun j a_ b_ => ∃ X M m' h' t', a_ = (nI j, X) ∧ b_ = (1, nI j, M) ∧ zv_XT 2 q cs Sx X ∧ zv_GC X 2 m' h' t' ∧ zv_MT Sm M ∧ zv_GM M m' h' t' ∧ (gI M 8 0 29 = nI t ∧ gI M 8 0 30 = nI m ∧ gI M 8 0 31 = nI h) ∧ m' ≤ 99 ∧ h' ≤ 400 ∧ t ≤ t' ∧ t' ≤ 9999 + 1050 * j) (zv_RQ k) ?_ ?_ n 0 1000 1000 (0, X1) (1, 0, M1) (by omega) (by omega) (by omega) ⟨X1, M1, m, h, t, rfl, rfl, x1, g1, m1, k1, r1, m9, h4, Nat.le_refl _, by omega⟩
      · rintro i i' j _ _ hj hi hi' ⟨X, M, m', h', t', rfl, rfl, hX, hGX, hM, hGM', hK, q9, q4, qt, qt'⟩
        have hcj : ¬ nI n ≤ nI j := by rw [zv_nIle (by omega) (by omega)]; omega
        obtain ⟨l, v, hl, hv, k14, k37, k15, k38⟩ := e3 j hj
        obtain ⟨w, w9, ew, ex⟩ := zv_mlW hL hl
        have hB := zv_dB q9 w9 p9
        obtain ⟨y1, y2⟩ := zv_glC (p := p) hX hGX q9 w9 p9 q4 (by omega)
        obtain ⟨o1, o2⟩ := zv_glM (p := p) hM hGM' q9 w9 p9 q4 (by omega)
        simp only []
        rw [L_X7_flown_37.eq_2, L_X8_flown_32.eq_2, hX.2.1 4 (by decide) (by decide), e1, hM.2.2.2 0 36 (by omega), e2, if_neg hcj, if_neg hcj, if_neg zv_z10, if_pos (zv_gd (show j < 4 by omega)), zv_nIcl (by omega), hX.2.1 14 (by decide) (by decide), k14, if_pos (zv_gd (show l < 6 by omega)), zv_nIcl (by omega), Nat.mul_zero, Nat.zero_add, ex 2 X hX,
          if_pos (zv_ge' (show j < 4 by omega) (by omega)), if_pos (zv_ge' (show j < 4 by omega) (by omega)), hM.2.2.1 37 (by decide) (by decide), k37, if_pos (zv_gd (show l < 6 by omega)), zv_nIcl (by omega), hM.2.2.1 24 (by decide) (by decide), ew]
        by_cases hd : zv_dst m' w * (5 + p) ≤ h'
        · left
          obtain ⟨X2, f3, x2, g2⟩ := y1 hd
          obtain ⟨M2, f4, m2, g3, s3⟩ := o1 hd
          obtain ⟨X3, x3, g4, f5⟩ := zv_xc_circ hF x2 hl (show h' - zv_dst m' w * (5 + p) ≤ 400 by omega) g2 B4 eB (n := v) (by omega) (by omega)
          obtain ⟨M3, m3, g5, s5, f6⟩ := zv_flIn hL hl (show j < 4 by omega) hv k37 k38 (fun y5_59 T_59 => L_X8_flown_32 (nI p) Km i' 1 (nI j + 1) T_59) (show h' - zv_dst m' w * (5 + p) ≤ 400 by omega) (by omega) m2 g3
          rw [f3, zv_bndS, if_neg zv_z10, f4, zv_bndS, f6, x2.2.2.2.2.1 5 (by decide), hF.2.2.2.2.2.2.1]
          simp only [Option.elim]
          rw [if_pos (zv_ge' (show j < 4 by omega) (by omega)), x2.2.1 15 (by decide) (by decide), k15, f5, zv_bndS, zv_nIs j (by omega)]
          exact ⟨(nI (j + 1), X3), (1, nI (j + 1), M3), ⟨X3, M3, w, _, _, rfl, rfl, x3, g4, m3, g5, by rw [s5 29 (by omega), s5 30 (by omega), s5 31 (by omega), s3 29 (by omega), s3 30 (by omega), s3 31 (by omega)]; exact hK, w9, zv_gm1 v B4 (show h' - zv_dst m' w * (5 + p) ≤ 400 by omega), by omega, by omega⟩, rfl, rfl⟩
        · right
          obtain ⟨z, rfl⟩ : ∃ z, i' = z + 1 := ⟨i' - 1, by omega⟩
          obtain ⟨M2, f3, m2, g2⟩ := out (nI j + 1) M hM hK
          rw [y2 hd, zv_bndS, if_pos rfl, o2 hd, zv_bndS, L_X8_flown_66.eq_2, if_pos (zv_gd (show j < 4 by omega)), if_pos rfl, ite_self, L_X8_flown_32.eq_2, if_pos rfl, ite_self, f3]
          exact ⟨_, _, _, rfl, rfl, zv_FLend hL hX m2 g2⟩
      · rintro i i' _ _ ⟨X, M, m', h', t', rfl, rfl, hX, hGX, hM, hGM', hK, q9, q4, qt, qt'⟩
        simp only []
        rw [L_X7_flown_37.eq_2, L_X8_flown_32.eq_2, hX.2.1 4 (by decide) (by decide), e1, hM.2.2.2 0 36 (by omega), e2, if_pos (Int32.le_refl _), if_pos (Int32.le_refl _)]
        subst eKx eKm
        have hB := zv_dB q9 i3 p9
        obtain ⟨y1, y2⟩ := zv_glC (p := p) hX hGX q9 i3 p9 q4 (by omega)
        obtain ⟨o1, o2⟩ := zv_glM (p := p) hM hGM' q9 i3 p9 q4 (by omega)
        simp only []
        rw [if_neg zv_z10, hX.2.1 5 (by decide) (by decide), i1, hM.2.2.2 0 5 (by omega), i2]
        by_cases hd : zv_dst m' hm * (5 + p) ≤ h'
        · obtain ⟨X2, f3, x2, g2⟩ := y1 hd
          obtain ⟨M2, f4, m2, g3, s3⟩ := o1 hd
          have hK2 : gI M2 8 0 29 = nI t ∧ gI M2 8 0 30 = nI m ∧ gI M2 8 0 31 = nI h := by rw [s3 29 (by omega), s3 30 (by omega), s3 31 (by omega)]; exact hK
          obtain ⟨M3, f5, m3, g4, -⟩ := zv_pbM m2 hK2
          rw [f3, f4, zv_bndS, zv_bndS, if_neg zv_z10, if_neg zv_z10, f5, zv_bndS, zv_bndS, g2.2.1, g2.2.2, g3.2.1, g3.2.2, x2.2.2.1 0 (by decide), hG.2.2, hK2.1]
          by_cases h0 : a2 = 0
          · rw [if_pos h0, if_pos h0]; exact ⟨_, _, _, rfl, rfl, zv_FLend hL x2 m3 g4⟩
          · rw [if_neg h0, if_neg h0]; exact ⟨_, _, _, rfl, rfl, zv_FLend hL x2 m3 g4⟩
        · obtain ⟨M3, f5, m3, g4, -⟩ := zv_pbM hM hK
          rw [y2 hd, o2 hd, zv_bndS, zv_bndS, if_pos rfl, if_pos rfl, f5, zv_bndS, ite_self]
          exact ⟨_, _, _, rfl, rfl, zv_FLend hL hX m3 g4⟩
    · rw [if_neg hp, if_neg hp]
      exact ⟨_, _, _, rfl, rfl, hR⟩
  · rw [if_neg hn, if_neg hn]
    exact ⟨_, _, _, rfl, rfl, hR⟩
