theorem zv_sumB {g : Int32 → Int32} : ∀ (cs : List zv_Cl), cs.length ≤ 10 → (∀ c, c ∈ cs → zv_okC c) → -(99 * cs.length : Int) ≤ (zv_sumA g cs).toInt ∧ (zv_sumA g cs).toInt ≤ 99 * cs.length := by
  intro cs
  induction cs with
  | nil => intro _ _; exact ⟨by simp [zv_sumA], by simp [zv_sumA]⟩
  | cons c cs ih =>
    intro hl hok
    simp only [List.length_cons] at hl ⊢
    obtain ⟨i1, i2⟩ := ih (by omega) (fun x hx => hok x (List.mem_cons_of_mem _ hx))
    obtain ⟨o1, o2, -⟩ := hok c List.mem_cons_self
    simp only [Int32.le_iff_toInt_le, Int32.lt_iff_toInt_lt, ← Int32.toInt_inj, zv_ia, zv_is_, zv_im, zv_ing, zv_iit, Int32.reduceToInt] at o1 o2
    have e : zv_sumA g (c :: cs) = zv_addC g 0 c + zv_sumA g cs := by
      rw [← zv_addC_x]; rfl
    have b : -99 ≤ (zv_addC g 0 c).toInt ∧ (zv_addC g 0 c).toInt ≤ 99 := by
      unfold zv_addC
      (repeat' split) <;> simp only [Int32.le_iff_toInt_le, Int32.lt_iff_toInt_lt, ← Int32.toInt_inj, zv_ia, zv_is_, zv_im, zv_ing, zv_iit, Int32.reduceToInt, Int32.zero_add, Int32.zero_sub] <;> omega
    rw [e, zv_ia]
    omega
theorem zv_lastB (w : Int32) : ∀ (cs : List zv_Cl) (d : Int32), 0 ≤ d → d ≤ 99 → (∀ c, c ∈ cs → zv_okC c) → 0 ≤ zv_lastW w d cs ∧ zv_lastW w d cs ≤ 99 := by
  intro cs
  induction cs with
  | nil => intro d h1 h2 _; exact ⟨h1, h2⟩
  | cons c cs ih =>
    intro d h1 h2 hok
    obtain ⟨o1, o2, -⟩ := hok c List.mem_cons_self
    unfold zv_lastW
    rw [List.foldl_cons]
    apply ih
    · split <;> assumption
    · split <;> assumption
    · exact fun x hx => hok x (List.mem_cons_of_mem _ hx)
theorem zv_im10 {x : Int32} (h0 : 0 ≤ x) (h9 : x ≤ 99) : (10 * x).toInt = 10 * x.toInt := by
  rw [Int32.le_iff_toInt_le] at h0 h9
  simp only [Int32.reduceToInt] at h0 h9
  rw [zv_im]
  simp only [Int32.reduceToInt]
  rw [Int.emod_eq_of_lt (by omega) (by omega)]
  omega
theorem zv_baseB {cs : List zv_Cl} (hok : ∀ c, c ∈ cs → zv_okC c) : ∃ B : Nat, B ≤ 400 ∧ zv_baseA cs = nI B := by
  obtain ⟨h1, h2⟩ := zv_lastB 2 cs 40 (by decide) (by decide) hok
  have : 0 ≤ zv_baseA cs ∧ (zv_baseA cs).toInt ≤ (400 : Nat) := by
    unfold zv_baseA
    split
    · rename_i h
      have e := zv_im10 h1 h2
      rw [Int32.le_iff_toInt_le] at h h1 h2 ⊢
      rw [e] at h ⊢
      simp only [Int32.reduceToInt] at h h1 h2 ⊢
      omega
    · exact ⟨by decide, by decide⟩
  exact zv_asW this.1 this.2
theorem zv_safeB {cs : List zv_Cl} (hok : ∀ c, c ∈ cs → zv_okC c) : ∃ Z : Nat, Z ≤ 990 ∧ zv_safeA cs = nI Z := by
  obtain ⟨h1, h2⟩ := zv_lastB 3 cs 8 (by decide) (by decide) hok
  have : 0 ≤ zv_safeA cs ∧ (zv_safeA cs).toInt ≤ (990 : Nat) := by
    unfold zv_safeA
    have e := zv_im10 h1 h2
    rw [Int32.le_iff_toInt_le] at h1 h2 ⊢
    rw [e]
    simp only [Int32.reduceToInt] at h1 h2 ⊢
    omega
  exact zv_asW this.1 this.2
theorem zv_h2d (a : Int32) : (a / 2).toInt = a.toInt.tdiv 2 := by
  rw [Int32.toInt_div_of_ne_right _ _ (by decide)]; rfl
theorem zv_h2b {a : Int} {b : Int} (h : -b ≤ a ∧ a ≤ b) : -b ≤ a.tdiv 2 ∧ a.tdiv 2 ≤ b := by
  rcases Int.le_total 0 a with h0 | h0
  · rw [Int.tdiv_eq_ediv_of_nonneg h0]; omega
  · have : a.tdiv 2 = -((-a) / 2) := by
      rw [← Int.tdiv_eq_ediv_of_nonneg (by omega), Int.neg_tdiv, Int.neg_neg]
    rw [this]; omega
theorem zv_clB {cs : List zv_Cl} {n k v m p h t : Int32} {row : Nat → Int32} (hl : cs.length ≤ 10) (hok : ∀ c, c ∈ cs → zv_okC c) (v0 : 0 ≤ v) (v9 : v ≤ 9) (p0 : 0 ≤ p) (p9 : p ≤ 20) (hr : ∀ j, j < 4 → 0 ≤ row j ∧ row j ≤ 9) :
    -2000 ≤ (zv_clA cs n k v m p row h t).toInt ∧ (zv_clA cs n k v m p row h t).toInt ≤ 2000 := by
  obtain ⟨b1, b2⟩ := zv_sumB (g := zv_ctxF n k v m (h / 50) (zv_cutT t)) cs hl hok
  have hr' := hr (t.toNatClampNeg % 4) (by omega)
  have eg : (zv_gnA cs n k v m p h t).toInt = p.toInt + (zv_sumA (zv_ctxF n k v m (h / 50) (zv_cutT t)) cs).toInt := by
    unfold zv_gnA
    simp only [Int32.le_iff_toInt_le, Int32.lt_iff_toInt_lt, ← Int32.toInt_inj, zv_ia, zv_is_, zv_im, zv_ing, zv_iit, Int32.reduceToInt] at p0 p9 ⊢
    omega
  have hg : -1100 ≤ (zv_gnA cs n k v m p h t).toInt ∧ (zv_gnA cs n k v m p h t).toInt ≤ 1100 := by
    rw [eg]
    simp only [Int32.le_iff_toInt_le, Int32.lt_iff_toInt_lt, ← Int32.toInt_inj, zv_ia, zv_is_, zv_im, zv_ing, zv_iit, Int32.reduceToInt] at p0 p9 ⊢
    omega
  have hh := zv_h2b hg
  have hv := zv_h2b (a := v.toInt) (b := 9) (by simp only [Int32.le_iff_toInt_le, Int32.lt_iff_toInt_lt, ← Int32.toInt_inj, zv_ia, zv_is_, zv_im, zv_ing, zv_iit, Int32.reduceToInt] at v0 v9; omega)
  unfold zv_clA
  generalize zv_gnA cs n k v m p h t = gg at *
  simp only [Int32.le_iff_toInt_le, Int32.lt_iff_toInt_lt, ← Int32.toInt_inj, zv_ia, zv_is_, zv_im, zv_ing, zv_iit, Int32.reduceToInt] at hr'
  (repeat' split) <;> (try simp only [Int32.le_iff_toInt_le, Int32.lt_iff_toInt_lt, ← Int32.toInt_inj, zv_ia, zv_is_, zv_im, zv_ing, zv_iit, Int32.reduceToInt, zv_h2d]) <;> omega
/-! one flight's ground -/
def zv_FLY (q : Nat) (cs : Nat → List zv_Cl) (a c : Nat) (Sx Sm : St) : Prop := a ≤ q ∧ c ≤ 6 ∧ zv_RV1 (cs a) (gI Sx 0 a) (gI Sx 16 a) ∧ zv_AV a (cs a) Sm ∧ zv_SL c 0 (gI Sx 3) (gI Sx 13) (gI Sm 22 0) (gI Sm 23 0) (gI Sm 24 0) (gI Sm 25 0) (gI Sm 26 0) ∧ zv_RN (gI Sx 3) ∧ gR Sx 5 0 8 = some a ∧ gI Sx 5 0 5 = nI c ∧ gI Sm 8 0 0 = nI c
def zv_XT (i0 : Nat) (q : Nat) (cs : Nat → List zv_Cl) (S S' : St) : Prop := gJ S' = gJ S ∧ (∀ f, f ≠ 3 → f ≠ 2 → gI S' f = gI S f) ∧ (∀ i, i ≠ i0 → gI S' 2 i = gI S 2 i) ∧ (∀ i j, j < 6 → gI S' 3 i j = gI S 3 i j) ∧ (∀ f, f ≠ 3 → gR S' f = gR S f) ∧ zv_RC q cs (gI S' 3) (gR S' 3)
def zv_MT (S S' : St) : Prop := gJ S' = gJ S ∧ gR S' = gR S ∧ (∀ f, f ≠ 36 → f ≠ 8 → gI S' f = gI S f) ∧ (∀ i j, ¬ (i = 0 ∧ (1 ≤ j ∧ j ≤ 3 ∨ 29 ≤ j ∧ j ≤ 35)) → gI S' 8 i j = gI S 8 i j)
theorem zv_XTr {i0 q : Nat} {cs : Nat → List zv_Cl} {S : St} (h : zv_RC q cs (gI S 3) (gR S 3)) : zv_XT i0 q cs S S := ⟨rfl, fun _ _ _ => rfl, fun _ _ => rfl, fun _ _ _ => rfl, fun _ _ => rfl, h⟩
theorem zv_XTc {i0 q : Nat} {cs : Nat → List zv_Cl} {A B C : St} (h : zv_XT i0 q cs A B) (h2 : zv_XC q cs B C) : zv_XT i0 q cs A C := ⟨h2.1.trans h.1, fun f h3 h2' => (h2.2.1 f h3).trans (h.2.1 f h3 h2'), fun i hi => by rw [h2.2.1 2 (by decide)]; exact h.2.2.1 i hi, fun i j hj => (h2.2.2.1 i j hj).trans (h.2.2.2.1 i j hj), fun f hf => (h2.2.2.2.1 f hf).trans (h.2.2.2.2.1 f hf), h2.2.2.2.2⟩
theorem zv_XTs {i0 q : Nat} {cs : Nat → List zv_Cl} {A B : St} (h : zv_XT i0 q cs A B) (j : Nat) (x : Int32) : zv_XT i0 q cs A (sI B 2 i0 j x) := ⟨h.1, fun f h3 h2' => by rw [zv_gI_f h2']; exact h.2.1 f h3 h2', fun i hi => by rw [zv_gI_i hi]; exact h.2.2.1 i hi, fun i j hj => by rw [zv_gI_f (by decide)]; exact h.2.2.2.1 i j hj, fun f hf => h.2.2.2.2.1 f hf, by rw [zv_gI_f (by decide)]; exact h.2.2.2.2.2⟩
theorem zv_MTr (S : St) : zv_MT S S := ⟨rfl, rfl, fun _ _ _ => rfl, fun _ _ _ => rfl⟩
theorem zv_MTc {A B C : St} (h : zv_MT A B) (h2 : zv_M36 B C) : zv_MT A C := ⟨h2.1.trans h.1, h2.2.1.trans h.2.1, fun f h6 h8 => (h2.2.2 f h6).trans (h.2.2.1 f h6 h8), fun i j hj => by rw [h2.2.2 8 (by decide)]; exact h.2.2.2 i j hj⟩
theorem zv_MTs {A B : St} (h : zv_MT A B) {j : Nat} (x : Int32) (hj : 1 ≤ j ∧ j ≤ 3 ∨ 29 ≤ j ∧ j ≤ 35) : zv_MT A (sI B 8 0 j x) := ⟨h.1, h.2.1, fun f h6 h8 => by rw [zv_gI_f h8]; exact h.2.2.1 f h6 h8, fun i r hr => by rw [gI_sI, if_neg (by rintro ⟨-, rfl, rfl⟩; exact hr ⟨rfl, hj⟩)]; exact h.2.2.2 i r hr⟩
def zv_CI (cs : List zv_Cl) (Sm : St) (l h t : Nat) : Int := (zv_clA cs (nI l) (gI Sm 22 0 l) (gI Sm 23 0 l) (gI Sm 24 0 l) (gI Sm 25 0 l) (fun p => gI Sm 26 0 (4 * l + p)) (nI h) (nI t)).toInt
theorem zv_CIb {q : Nat} {cs : Nat → List zv_Cl} {a c : Nat} {Sx Sm : St} (hF : zv_FLY q cs a c Sx Sm) {l : Nat} (hl : l < c) (h t : Nat) : -2000 ≤ zv_CI (cs a) Sm l h t ∧ zv_CI (cs a) Sm l h t ≤ 2000 := by
  obtain ⟨f1, f2, f3, f4, f5, f6, f7, -⟩ := hF
  have zv_hs := f5 l hl
  exact zv_clB f4.2.2.2.2.1 f4.2.2.2.2.2 zv_hs.2.2.2.2.2.2.1 zv_hs.2.2.2.2.2.2.2.1 zv_hs.2.2.2.2.2.2.2.2.2.2.1 zv_hs.2.2.2.2.2.2.2.2.2.2.2.1 (fun j hj => (zv_hs.2.2.2.2.2.2.2.2.2.2.2.2 j hj).2)
theorem zv_cx {q : Nat} {cs : Nat → List zv_Cl} {a c i0 : Nat} {Sx Sm S : St} (hF : zv_FLY q cs a c Sx Sm) (hX : zv_XT i0 q cs Sx S) {l : Nat} (hl : l < c) {h t : Nat} (ht : t ≤ 40000) :
    ∃ x S', F_X3_climb S l a (nI h) (nI t) = some (x, S') ∧ x.toInt = zv_CI (cs a) Sm l h t ∧ zv_XC q cs S S' := by
  obtain ⟨f1, f2, f3, f4, f5, f6, f7, -⟩ := hF
  obtain ⟨x1, x2, x3, x4, x5, x6⟩ := hX
  have zv_hs := f5 l hl
  rw [Nat.zero_add] at zv_hs
  obtain ⟨S', e1, e2⟩ := zv_x3_climb (S := S) (l := l) (h := nI h) (t := nI t) (by rw [x2 0 (by decide) (by decide), x2 16 (by decide) (by decide)]; exact f3) f4.2.2.2.2.2 f1 x6 (by omega) (by rw [x4 l 3 (by decide), zv_hs.2.1]; exact zv_hs.2.2.2.2.2.2.1) (by rw [x4 l 3 (by decide), zv_hs.2.1]; exact zv_hs.2.2.2.2.2.2.2.1) (zv_nI0 t (by omega))
  refine ⟨_, S', e1, ?_, e2⟩
  have hn := f6 l (by omega)
  rw [x4 l 0 (by decide), x4 l 2 (by decide), x4 l 3 (by decide), x4 l 4 (by decide), x4 l 5 (by decide), x2 13 (by decide) (by decide), zv_hs.1, zv_hs.2.1, zv_hs.2.2.1, zv_hs.2.2.2.1, hn, show l % 6 = l by omega]
  unfold zv_CI zv_clA
  rw [(zv_hs.2.2.2.2.2.2.2.2.2.2.2.2 ((nI t).toNatClampNeg % 4) (by omega)).1]
theorem zv_AVt {a : Nat} {cs : List zv_Cl} {S S' : St} (h : zv_MT S S') (hA : zv_AV a cs S) : zv_AV a cs S' := by
  unfold zv_AV at *
  rw [h.2.2.2 0 12 (by omega), h.2.2.1 28 (by decide) (by decide), h.2.2.1 29 (by decide) (by decide), h.2.2.1 30 (by decide) (by decide), h.2.2.1 31 (by decide) (by decide), h.2.2.1 32 (by decide) (by decide), h.2.2.1 33 (by decide) (by decide)]
  exact hA
theorem zv_cm {q : Nat} {cs : Nat → List zv_Cl} {a c : Nat} {Sx Sm S : St} (hF : zv_FLY q cs a c Sx Sm) (hM : zv_MT Sm S) {l : Nat} (hl : l < c) {h t : Nat} (ht : t ≤ 40000) (eh : gI S 8 0 3 = nI h) (et : gI S 8 0 1 = nI t) :
    ∃ x S', F_X8_climb S (nI l) = some (x, S') ∧ x.toInt = zv_CI (cs a) Sm l h t ∧ zv_M36 S S' := by
  obtain ⟨f1, f2, f3, f4, f5, f6, f7, -⟩ := hF
  have zv_hs := f5 l hl
  have g := fun f h6 h8 => hM.2.2.1 f h6 h8
  obtain ⟨S', e1, e2⟩ := zv_m_climb (S := S) (zv_AVt hM f4) (l := l) (by omega) (by rw [g 23 (by decide) (by decide)]; exact zv_hs.2.2.2.2.2.2.1) (by rw [g 23 (by decide) (by decide)]; exact zv_hs.2.2.2.2.2.2.2.1) (by rw [et]; exact zv_nI0 t (by omega))
  refine ⟨_, S', e2, ?_, e1⟩
  rw [g 22 (by decide) (by decide), g 23 (by decide) (by decide), g 24 (by decide) (by decide), g 25 (by decide) (by decide), g 26 (by decide) (by decide), eh, et]
  rfl
def zv_hs (B h : Nat) (c : Int) : Nat := if (h : Int) + c ≤ 0 then 0 else if (h : Int) + c ≤ (if B < h then h else B : Nat) then ((h : Int) + c).toNat else (if B < h then h else B)
def zv_mn (B : Nat) (C : Nat → Nat → Int) (s : Nat × Nat) : Nat × Nat := (zv_hs B s.1 (C s.1 s.2), s.2 + 1)
def zv_gm (B : Nat) (C : Nat → Nat → Int) : Nat → Nat × Nat → Nat × Nat
  | 0, s => s
  | n + 1, s => zv_mn B C (zv_gm B C n s)
theorem zv_hsB {B h : Nat} {c : Int} (hB : B ≤ 400) (hh : h ≤ 400) : zv_hs B h c ≤ 400 := by
  unfold zv_hs
  (repeat' split) <;> omega
theorem zv_gm2 (B : Nat) (C : Nat → Nat → Int) (n : Nat) (s : Nat × Nat) : (zv_gm B C n s).2 = s.2 + n := by
  induction n with
  | zero => rfl
  | succ n ih => show (zv_gm B C n s).2 + 1 = _; rw [ih]; omega
theorem zv_gm1 {B : Nat} {C : Nat → Nat → Int} (n : Nat) {s : Nat × Nat} (hB : B ≤ 400) (hh : s.1 ≤ 400) : (zv_gm B C n s).1 ≤ 400 := by
  induction n with
  | zero => exact hh
  | succ n ih => exact zv_hsB hB ih
theorem zv_hplus {h : Nat} {x : Int32} (hh : h ≤ 400) (hx : -2000 ≤ x.toInt ∧ x.toInt ≤ 2000) : (nI h + x).toInt = h + x.toInt := by
  rw [zv_ia, zv_iN (by omega), Int.emod_eq_of_lt (by omega) (by omega)]; omega
theorem zv_hsX {B h : Nat} {x : Int32} (hB : B ≤ 400) (hh : h ≤ 400) (hx : -2000 ≤ x.toInt ∧ x.toInt ≤ 2000) :
    (if (0 : Int32) < (if (nI h + x) < (if nI B < nI h then nI h else nI B) then (nI h + x) else (if nI B < nI h then nI h else nI B)) then (if (nI h + x) < (if nI B < nI h then nI h else nI B) then (nI h + x) else (if nI B < nI h then nI h else nI B)) else (0 : Int32)) = nI (zv_hs B h x.toInt) := by
  have e := zv_hplus hh hx
  have eM : (if nI B < nI h then nI h else nI B) = nI (if B < h then h else B) := by
    by_cases q : B < h
    · rw [if_pos q, if_pos ((zv_nIlt (by omega) (by omega)).mpr q)]
    · rw [if_neg q, if_neg (fun z => q ((zv_nIlt (by omega) (by omega)).mp z))]
  have hM : (if B < h then h else B) ≤ 400 := by split <;> omega
  rw [eM]
  unfold zv_hs
  generalize (if B < h then h else B) = M at *
  apply zv_inI
  simp only [Int32.lt_iff_toInt_lt, zv_iit, e, zv_iN (show M < 2147483648 by omega), Int32.reduceToInt]
  (repeat' split) <;> omega
theorem zv_nIss (n : Nat) (h : n < 1000000) : nI n + 1 = nI (n + 1) := zv_nIs n (by omega)
theorem zv_hsM {B h : Nat} {x : Int32} (hB : B ≤ 400) (hh : h ≤ 400) (hx : -2000 ≤ x.toInt ∧ x.toInt ≤ 2000) {α : Type} (F : Int32 → α) :
    (if nI B ≤ nI h then (if x ≤ 0 then (if 0 ≤ (nI h + x) then F (nI h + x) else F 0) else (if (nI h + x) ≤ nI h then (if 0 ≤ (nI h + x) then F (nI h + x) else F 0) else F (nI h)))
     else (if x ≤ 0 then (if 0 ≤ (nI h + x) then F (nI h + x) else F 0) else (if (nI h + x) ≤ nI B then (if 0 ≤ (nI h + x) then F (nI h + x) else F 0) else F (nI B)))) = F (nI (zv_hs B h x.toInt)) := by
  have e := zv_hplus hh hx
  have hH : (zv_hs B h x.toInt : Int) = if (h : Int) + x.toInt ≤ 0 then 0 else if (h : Int) + x.toInt ≤ (if B < h then h else B : Nat) then (h : Int) + x.toInt else (if B < h then h else B : Nat) := by
    unfold zv_hs
    (repeat' split) <;> omega
  generalize zv_hs B h x.toInt = H at *
  simp only [Int32.le_iff_toInt_le, e, zv_iN (show h < 2147483648 by omega), zv_iN (show B < 2147483648 by omega), Int32.reduceToInt]
  (repeat' split) <;> refine congrArg F (zv_inI _ _ ?_) <;> (try rw [e]) <;> (try rw [zv_iN (by omega)]) <;> (try simp only [Int32.reduceToInt]) <;> rw [hH] <;> (repeat' split) <;> omega
def zv_GC (S : St) (i m h t : Nat) : Prop := gI S 2 i 0 = nI m ∧ gI S 2 i 1 = nI h ∧ gI S 2 i 2 = nI t
def zv_GM (S : St) (m h t : Nat) : Prop := gI S 8 0 2 = nI m ∧ gI S 8 0 3 = nI h ∧ gI S 8 0 1 = nI t
theorem zv_xc_step {q : Nat} {cs : Nat → List zv_Cl} {a c i0 : Nat} {Sx Sm S : St} (hF : zv_FLY q cs a c Sx Sm) (hX : zv_XT i0 q cs Sx S) {l : Nat} (hl : l < c) {m h t : Nat} (hh : h ≤ 400) (ht : t ≤ 40000) (hG : zv_GC S i0 m h t) {B : Nat} (hB : B ≤ 400) (eB : zv_baseA (cs a) = nI B) {n j fuel : Nat} (hj : j < n) (hn : n ≤ 100) (K : Int32 → St → Option (Unit × St)) :
    ∃ S', zv_XT i0 q cs Sx S' ∧ zv_GC S' i0 m (zv_hs B h (zv_CI (cs a) Sm l h t)) (t + 1) ∧ L_X2_circles_3 i0 l a (nI n) K (fuel + 1) (nI j) S = L_X2_circles_3 i0 l a (nI n) K fuel (nI (j + 1)) S' := by
  obtain ⟨g1, g2, g3⟩ := hG
  obtain ⟨x, zv_S1, e1, e2, e3⟩ := zv_cx hF hX hl (h := h) ht
  have hX1 := zv_XTc hX e3
  have hb : gI S 0 a 2 = nI B := by
    rw [hX.2.1 0 (by decide) (by decide), hF.2.2.1.2.2.2.1, eB]
  have f2 := e3.2.1 2 (by decide)
  rw [L_X2_circles_3.eq_2, if_neg (by rw [zv_nIle (by omega) (by omega)]; omega), g2, g3, e1]
  simp only [bnd, hb]
  rw [zv_hsX hB hh (by rw [e2]; exact zv_CIb hF hl h t), zv_nIs j (by omega), e2]
  refine ⟨_, zv_XTs (zv_XTs hX1 1 _) 2 _, ?_, rfl⟩
  refine ⟨?_, ?_, ?_⟩
  · rw [gI_sI, if_neg (by omega), gI_sI, if_neg (by omega), f2, g1]
  · rw [gI_sI, if_neg (by omega), gI_sI, if_pos ⟨rfl, rfl, rfl⟩]
  · rw [gI_sI, if_pos ⟨rfl, rfl, rfl⟩, gI_sI, if_neg (by omega), f2, g3, zv_nIs t (by omega)]
theorem zv_xc_circ {q : Nat} {cs : Nat → List zv_Cl} {a c i0 : Nat} {Sx Sm S : St} (hF : zv_FLY q cs a c Sx Sm) (hX : zv_XT i0 q cs Sx S) {l : Nat} (hl : l < c) {m h t : Nat} (hh : h ≤ 400) (hG : zv_GC S i0 m h t) {B : Nat} (hB : B ≤ 400) (eB : zv_baseA (cs a) = nI B) {n : Nat} (hn : n ≤ 100) (ht : t + n ≤ 40000) :
    ∃ S', zv_XT i0 q cs Sx S' ∧ zv_GC S' i0 m (zv_gm B (zv_CI (cs a) Sm l) n (h, t)).1 (t + n) ∧ F_X2_circles S i0 l a (nI n) = some ((), S') := by
  unfold F_X2_circles
  obtain ⟨S', ⟨i1, i2⟩, e⟩ := zv_lpI (L_X2_circles_3 i0 l a (nI n) (fun y4_1 T_1 => some ((), T_1))) (fun y4_1 T_1 => some ((), T_1)) n (fun j T => zv_XT i0 q cs Sx T ∧ zv_GC T i0 m (zv_gm B (zv_CI (cs a) Sm l) j (h, t)).1 (t + j))
    (fun fuel j T hj hI => by
      obtain ⟨T', y1, y2, y3⟩ := zv_xc_step (fuel := fuel) hF hI.1 hl (zv_gm1 j hB hh) (by omega) hI.2 hB eB hj hn (fun y4_1 T_1 => some ((), T_1))
      refine ⟨T', ⟨y1, ?_⟩, y3⟩
      have e2 := zv_gm2 B (zv_CI (cs a) Sm l) j (h, t)
      show zv_GC T' i0 m (zv_hs B (zv_gm B (zv_CI (cs a) Sm l) j (h, t)).1 (zv_CI (cs a) Sm l (zv_gm B (zv_CI (cs a) Sm l) j (h, t)).1 (zv_gm B (zv_CI (cs a) Sm l) j (h, t)).2)) (t + (j + 1))
      rw [e2]
      exact y2)
    (fun fuel T _ => by
      rw [L_X2_circles_3.eq_2, if_pos (Int32.le_refl _)]) n 0 1000 S (by omega) (by omega) ⟨hX, hG⟩
  rw [show nI 0 = (0 : Int32) from rfl] at e
  exact ⟨S', i1, i2, e⟩
theorem zv_mg_min {q : Nat} {cs : Nat → List zv_Cl} {a c : Nat} {Sx Sm S : St} (hF : zv_FLY q cs a c Sx Sm) (hM : zv_MT Sm S) {l : Nat} (hl : l < c) {m h t : Nat} (hh : h ≤ 400) (ht : t ≤ 40000) (hG : zv_GM S m h t) {B : Nat} (hB : B ≤ 400) (eB : zv_baseA (cs a) = nI B) :
    ∃ S', zv_MT Sm S' ∧ zv_GM S' m (zv_hs B h (zv_CI (cs a) Sm l h t)) (t + 1) ∧ (∀ j, 29 ≤ j → gI S' 8 0 j = gI S 8 0 j) ∧ F_X8_goMinute S (nI l) = some ((), S') := by
  obtain ⟨g1, g2, g3⟩ := hG
  obtain ⟨x, zv_S1, e1, e2, e3⟩ := zv_cm hF hM hl ht g2 g3
  have hM1 := zv_MTc hM e3
  have hA := zv_AVt hM1 hF.2.2.2.1
  have f8 := e3.2.2 8 (by decide)
  refine ⟨sI (sI zv_S1 8 0 3 (nI (zv_hs B h x.toInt))) 8 0 1 (nI (t + 1)), zv_MTs (zv_MTs hM1 _ (by omega)) _ (by omega), ⟨?_, ?_, ?_⟩, ?_, ?_⟩
  · rw [gI_sI, if_neg (by omega), gI_sI, if_neg (by omega), f8, g1]
  · rw [gI_sI, if_neg (by omega), gI_sI, if_pos ⟨rfl, rfl, rfl⟩, e2]
  · rw [gI_sI, if_pos ⟨rfl, rfl, rfl⟩]
  · intro j hj
    rw [gI_sI, if_neg (by omega), gI_sI, if_neg (by omega), f8]
  · unfold F_X8_goMinute
    rw [e1]
    simp only [bnd]
    rw [zv_m_base hA, eB]
    simp only []
    rw [zv_m_base hA, eB]
    have z : ∀ y : Int32, gI (sI zv_S1 8 0 3 y) 8 0 1 + 1 = nI (t + 1) := fun y => by rw [gI_sI, if_neg (by omega), f8, g3, zv_nIs t (by omega)]
    have g2' : gI zv_S1 8 0 3 = nI h := by rw [f8, g2]
    simp only [z, g2']
    exact zv_hsM hB hh (by rw [e2]; exact zv_CIb hF hl h t) (fun y => some ((), sI (sI zv_S1 8 0 3 y) 8 0 1 (nI (t + 1))))
def zv_dst (m n : Nat) : Nat := (m - n) + (n - m)
theorem zv_dstB {m n : Nat} (h : m ≤ 99) (h' : n ≤ 99) : zv_dst m n ≤ 99 := by unfold zv_dst; omega
theorem zv_nIm {a b : Nat} (ha : a ≤ 1000) (hb : b ≤ 1000) : nI a * nI b = nI (a * b) := by
  have h1 : a * b ≤ 1000 * 1000 := Nat.mul_le_mul ha hb
  apply zv_inI
  rw [zv_im, zv_iN (by omega), zv_iN (by omega), ← Int.natCast_mul, Int.emod_eq_of_lt (by omega) (by omega)]
  omega
theorem zv_nIsb {a b : Nat} (h : b ≤ a) (ha : a ≤ 100000) : nI a - nI b = nI (a - b) := by
  apply zv_inI
  rw [zv_is_, zv_iN (by omega), zv_iN (by omega)]; omega
theorem zv_nI5 {p : Nat} (h : p ≤ 9) : (5 : Int32) + nI p = nI (5 + p) := zv_nIa 5 p (by decide) (by omega)
theorem zv_nI10 {p : Nat} (h : p ≤ 9) : (10 : Int32) - nI p = nI (10 - p) := zv_nIsb (a := 10) (by omega) (by decide)
theorem zv_absd {m n : Nat} (h : m ≤ 99) (h' : n ≤ 99) : (if 0 ≤ (nI n - nI m) then (nI n - nI m) else 0 - (nI n - nI m)) = nI (zv_dst m n) := by
  have e : (nI n - nI m).toInt = (n : Int) - m := by rw [zv_is_, zv_iN (by omega), zv_iN (by omega)]; omega
  apply zv_inI
  generalize nI n - nI m = z at *
  rw [zv_iit, zv_is_, e]
  simp only [Int32.le_iff_toInt_le, e, Int32.reduceToInt]
  unfold zv_dst
  split <;> omega
theorem zv_x8_ap (S : St) {m n : Nat} (h : m ≤ 99) (h' : n ≤ 99) : F_X8_apart S (nI m) (nI n) = some (nI (zv_dst m n), S) := by
  unfold F_X8_apart zv_dst
  by_cases q : n ≤ m
  · rw [if_pos ((zv_nIle (by omega) (by omega)).mpr q), zv_nIsb q (by omega), show n - m = 0 by omega, Nat.add_zero]
  · rw [if_neg (fun z => q ((zv_nIle (by omega) (by omega)).mp z)), zv_nIsb (by omega) (by omega), show m - n = 0 by omega, Nat.zero_add]
theorem zv_x8_falls (S : St) {m n p : Nat} (h : m ≤ 99) (h' : n ≤ 99) (hp : p ≤ 9) : F_X8_falls S (nI m) (nI n) (nI p) = some (nI (zv_dst m n * (5 + p)), S) := by
  have := zv_dstB h h'
  unfold F_X8_falls
  rw [zv_x8_ap S h h']
  simp only [bnd]
  rw [zv_nI5 hp, zv_nIm (by omega) (by omega)]
theorem zv_dB {m n p : Nat} (h : m ≤ 99) (h' : n ≤ 99) (hp : p ≤ 9) : zv_dst m n * (5 + p) ≤ 1386 ∧ zv_dst m n * (10 - p) ≤ 990 := by
  have h0 := zv_dstB h h'
  have h1 : zv_dst m n * (5 + p) ≤ 99 * 14 := Nat.mul_le_mul h0 (by omega)
  have h2 : zv_dst m n * (10 - p) ≤ 99 * 10 := Nat.mul_le_mul h0 (by omega)
  omega
theorem zv_x2_gl {S : St} {i0 m h t n p : Nat} (hG : zv_GC S i0 m h t) (hm : m ≤ 99) (hn : n ≤ 99) (hp : p ≤ 9) (hh : h ≤ 400) (ht : t ≤ 40000) :
    F_X2_glides S i0 (nI n) (nI p) = if zv_dst m n * (5 + p) ≤ h then some (1, sI (sI (sI S 2 i0 0 (nI n)) 2 i0 1 (nI (h - zv_dst m n * (5 + p)))) 2 i0 2 (nI (t + zv_dst m n * (10 - p)))) else some (0, S) := by
  obtain ⟨g1, g2, g3⟩ := hG
  obtain ⟨b1, b2⟩ := zv_dB hm hn hp
  have b3 := zv_dstB hm hn
  unfold F_X2_glides F_X2_sinkOfMile
  simp only [bnd, g1, zv_absd hm hn, zv_nI5 hp, zv_nI10 hp, zv_nIm (show zv_dst m n ≤ 1000 by omega) (show 5 + p ≤ 1000 by omega), zv_nIm (show zv_dst m n ≤ 1000 by omega) (show 10 - p ≤ 1000 by omega), gI_sI, g2, g3, zv_gI_f, zv_gI_i, gI_sI, zv_gJ_f, zv_gIc_f, zv_gIc_i, zv_kJ_sI, zv_kR_sI, zv_kI_sJ, zv_kR_sJ, zv_kI_sR, zv_kJ_sR, zv_kJ_cI, zv_kR_cI, zv_kI_cJ, zv_kR_cJ, ne_eq, Nat.reduceEqDiff, Nat.reduceMul, Nat.reduceAdd, not_false_eq_true, not_true_eq_false, false_and, and_false, and_true, true_and, and_self, reduceIte, Nat.one_ne_zero, Nat.zero_ne_one, Nat.zero_add, Nat.mul_zero]
  by_cases q : zv_dst m n * (5 + p) ≤ h
  · rw [if_pos ((zv_nIle (by omega) (by omega)).mpr q), if_pos q, zv_nIsb q (by omega), zv_nIa t _ (by omega) (by omega)]
  · rw [if_neg (fun z => q ((zv_nIle (by omega) (by omega)).mp z)), if_neg q]
theorem zv_x8_gl {S : St} {m h t n p : Nat} (hG : zv_GM S m h t) (hm : m ≤ 99) (hn : n ≤ 99) (hp : p ≤ 9) (hh : h ≤ 400) (ht : t ≤ 40000) :
    F_X8_goGlide S (nI n) (nI p) = if zv_dst m n * (5 + p) ≤ h then some (1, sI (sI (sI S 8 0 3 (nI (h - zv_dst m n * (5 + p)))) 8 0 1 (nI (t + zv_dst m n * (10 - p)))) 8 0 2 (nI n)) else some (0, S) := by
  obtain ⟨g1, g2, g3⟩ := hG
  obtain ⟨b1, b2⟩ := zv_dB hm hn hp
  have b3 := zv_dstB hm hn
  unfold F_X8_goGlide
  rw [g1, g2, zv_x8_falls S hm hn hp]
  simp only [bnd]
  rw [g1, g2, zv_x8_falls S hm hn hp]
  simp only [gI_sI, g1, g3, zv_gI_f, zv_gI_i, gI_sI, zv_gJ_f, zv_gIc_f, zv_gIc_i, zv_kJ_sI, zv_kR_sI, zv_kI_sJ, zv_kR_sJ, zv_kI_sR, zv_kJ_sR, zv_kJ_cI, zv_kR_cI, zv_kI_cJ, zv_kR_cJ, ne_eq, Nat.reduceEqDiff, Nat.reduceMul, Nat.reduceAdd, not_false_eq_true, not_true_eq_false, false_and, and_false, and_true, true_and, and_self, reduceIte, Nat.one_ne_zero, Nat.zero_ne_one, Nat.zero_add, Nat.mul_zero]
  rw [zv_x8_ap _ hm hn]
  simp only [zv_nI10 hp, zv_nIm (show zv_dst m n ≤ 1000 by omega) (show 10 - p ≤ 1000 by omega)]
  by_cases q : zv_dst m n * (5 + p) ≤ h
  · rw [if_pos ((zv_nIle (by omega) (by omega)).mpr q), if_pos q, zv_nIsb q (by omega), zv_nIa t _ (by omega) (by omega)]
  · rw [if_neg (fun z => q ((zv_nIle (by omega) (by omega)).mp z)), if_neg q]
theorem zv_GCs {S : St} {i0 m h t : Nat} : zv_GC (sI (sI (sI S 2 i0 0 (nI m)) 2 i0 1 (nI h)) 2 i0 2 (nI t)) i0 m h t := by
  unfold zv_GC
  simp only [gI_sI, zv_gI_f, zv_gI_i, gI_sI, zv_gJ_f, zv_gIc_f, zv_gIc_i, zv_kJ_sI, zv_kR_sI, zv_kI_sJ, zv_kR_sJ, zv_kI_sR, zv_kJ_sR, zv_kJ_cI, zv_kR_cI, zv_kI_cJ, zv_kR_cJ, ne_eq, Nat.reduceEqDiff, Nat.reduceMul, Nat.reduceAdd, not_false_eq_true, not_true_eq_false, false_and, and_false, and_true, true_and, and_self, reduceIte, Nat.one_ne_zero, Nat.zero_ne_one, Nat.zero_add, Nat.mul_zero]
theorem zv_GMs {S : St} {m h t : Nat} : zv_GM (sI (sI (sI S 8 0 3 (nI h)) 8 0 1 (nI t)) 8 0 2 (nI m)) m h t := by
  unfold zv_GM
  simp only [gI_sI, zv_gI_f, zv_gI_i, gI_sI, zv_gJ_f, zv_gIc_f, zv_gIc_i, zv_kJ_sI, zv_kR_sI, zv_kI_sJ, zv_kR_sJ, zv_kI_sR, zv_kJ_sR, zv_kJ_cI, zv_kR_cI, zv_kI_cJ, zv_kR_cJ, ne_eq, Nat.reduceEqDiff, Nat.reduceMul, Nat.reduceAdd, not_false_eq_true, not_true_eq_false, false_and, and_false, and_true, true_and, and_self, reduceIte, Nat.one_ne_zero, Nat.zero_ne_one, Nat.zero_add, Nat.mul_zero]
/-- one glide on both sides -/
theorem zv_glC {q : Nat} {cs : Nat → List zv_Cl} {Sx S : St} {i0 m h t n p : Nat} (hX : zv_XT i0 q cs Sx S) (hG : zv_GC S i0 m h t) (hm : m ≤ 99) (hn : n ≤ 99) (hp : p ≤ 9) (hh : h ≤ 400) (ht : t ≤ 40000) :
    (zv_dst m n * (5 + p) ≤ h → ∃ S', F_X2_glides S i0 (nI n) (nI p) = some (1, S') ∧ zv_XT i0 q cs Sx S' ∧ zv_GC S' i0 n (h - zv_dst m n * (5 + p)) (t + zv_dst m n * (10 - p))) ∧ (¬ zv_dst m n * (5 + p) ≤ h → F_X2_glides S i0 (nI n) (nI p) = some (0, S)) := by
  rw [zv_x2_gl hG hm hn hp hh ht]
  exact ⟨fun y => ⟨_, if_pos y, zv_XTs (zv_XTs (zv_XTs hX _ _) _ _) _ _, zv_GCs⟩, fun y => if_neg y⟩
theorem zv_glM {Sm S : St} {m h t n p : Nat} (hM : zv_MT Sm S) (hG : zv_GM S m h t) (hm : m ≤ 99) (hn : n ≤ 99) (hp : p ≤ 9) (hh : h ≤ 400) (ht : t ≤ 40000) :
    (zv_dst m n * (5 + p) ≤ h → ∃ S', F_X8_goGlide S (nI n) (nI p) = some (1, S') ∧ zv_MT Sm S' ∧ zv_GM S' n (h - zv_dst m n * (5 + p)) (t + zv_dst m n * (10 - p)) ∧ (∀ j, 29 ≤ j → gI S' 8 0 j = gI S 8 0 j)) ∧ (¬ zv_dst m n * (5 + p) ≤ h → F_X8_goGlide S (nI n) (nI p) = some (0, S)) := by
  rw [zv_x8_gl hG hm hn hp hh ht]
  exact ⟨fun y => ⟨_, if_pos y, zv_MTs (zv_MTs (zv_MTs hM _ (by omega)) _ (by omega)) _ (by omega), zv_GMs, fun j hj => by rw [gI_sI, if_neg (by omega), gI_sI, if_neg (by omega), gI_sI, if_neg (by omega)]⟩, fun y => if_neg y⟩
theorem zv_cpC {q : Nat} {cs : Nat → List zv_Cl} {Sx S : St} {m h t : Nat} (hX : zv_XT 2 q cs Sx S) (hG : zv_GC Sx 0 m h t) : ∃ S', F_X2_copyFrom S 2 0 = some ((), S') ∧ zv_XT 2 q cs Sx S' ∧ zv_GC S' 2 m h t := by
  obtain ⟨g1, g2, g3⟩ := hG
  have e := hX.2.2.1 0 (by decide)
  refine ⟨_, rfl, zv_XTs (zv_XTs (zv_XTs hX _ _) _ _) _ _, ?_⟩
  unfold zv_GC
  simp only [gI_sI, zv_gI_f, zv_gI_i, gI_sI, zv_gJ_f, zv_gIc_f, zv_gIc_i, zv_kJ_sI, zv_kR_sI, zv_kI_sJ, zv_kR_sJ, zv_kI_sR, zv_kJ_sR, zv_kJ_cI, zv_kR_cI, zv_kI_cJ, zv_kR_cJ, ne_eq, Nat.reduceEqDiff, Nat.reduceMul, Nat.reduceAdd, not_false_eq_true, not_true_eq_false, false_and, and_false, and_true, true_and, and_self, reduceIte, Nat.one_ne_zero, Nat.zero_ne_one, Nat.zero_add, Nat.mul_zero, e, g1, g2, g3]
theorem zv_svM {Sm S : St} {m h t : Nat} (hM : zv_MT Sm S) (hG : zv_GM S m h t) : ∃ S', F_X8_save S = some ((), S') ∧ zv_MT Sm S' ∧ zv_GM S' m h t ∧ (gI S' 8 0 29 = nI t ∧ gI S' 8 0 30 = nI m ∧ gI S' 8 0 31 = nI h) ∧ (∀ j, 32 ≤ j → gI S' 8 0 j = gI S 8 0 j) := by
  obtain ⟨g1, g2, g3⟩ := hG
  refine ⟨_, rfl, zv_MTs (zv_MTs (zv_MTs hM _ (by omega)) _ (by omega)) _ (by omega), ?_, ?_, fun j hj => by rw [gI_sI, if_neg (by omega), gI_sI, if_neg (by omega), gI_sI, if_neg (by omega)]⟩
  · unfold zv_GM
    simp only [gI_sI, zv_gI_f, zv_gI_i, gI_sI, zv_gJ_f, zv_gIc_f, zv_gIc_i, zv_kJ_sI, zv_kR_sI, zv_kI_sJ, zv_kR_sJ, zv_kI_sR, zv_kJ_sR, zv_kJ_cI, zv_kR_cI, zv_kI_cJ, zv_kR_cJ, ne_eq, Nat.reduceEqDiff, Nat.reduceMul, Nat.reduceAdd, not_false_eq_true, not_true_eq_false, false_and, and_false, and_true, true_and, and_self, reduceIte, Nat.one_ne_zero, Nat.zero_ne_one, Nat.zero_add, Nat.mul_zero, g1, g2, g3]
  · simp only [gI_sI, zv_gI_f, zv_gI_i, gI_sI, zv_gJ_f, zv_gIc_f, zv_gIc_i, zv_kJ_sI, zv_kR_sI, zv_kI_sJ, zv_kR_sJ, zv_kI_sR, zv_kJ_sR, zv_kJ_cI, zv_kR_cI, zv_kI_cJ, zv_kR_cJ, ne_eq, Nat.reduceEqDiff, Nat.reduceMul, Nat.reduceAdd, not_false_eq_true, not_true_eq_false, false_and, and_false, and_true, true_and, and_self, reduceIte, Nat.one_ne_zero, Nat.zero_ne_one, Nat.zero_add, Nat.mul_zero, g1, g2, g3]
theorem zv_pbM {Sm S : St} {m h t : Nat} (hM : zv_MT Sm S) (hK : gI S 8 0 29 = nI t ∧ gI S 8 0 30 = nI m ∧ gI S 8 0 31 = nI h) : ∃ S', F_X8_putBack S = some ((), S') ∧ zv_MT Sm S' ∧ zv_GM S' m h t ∧ (∀ j, 29 ≤ j → gI S' 8 0 j = gI S 8 0 j) := by
  obtain ⟨g1, g2, g3⟩ := hK
  refine ⟨_, rfl, zv_MTs (zv_MTs (zv_MTs hM _ (by omega)) _ (by omega)) _ (by omega), ?_, fun j hj => by rw [gI_sI, if_neg (by omega), gI_sI, if_neg (by omega), gI_sI, if_neg (by omega)]⟩
  unfold zv_GM
  simp only [gI_sI, zv_gI_f, zv_gI_i, gI_sI, zv_gJ_f, zv_gIc_f, zv_gIc_i, zv_kJ_sI, zv_kR_sI, zv_kI_sJ, zv_kR_sJ, zv_kI_sR, zv_kJ_sR, zv_kJ_cI, zv_kR_cI, zv_kI_cJ, zv_kR_cJ, ne_eq, Nat.reduceEqDiff, Nat.reduceMul, Nat.reduceAdd, not_false_eq_true, not_true_eq_false, false_and, and_false, and_true, true_and, and_self, reduceIte, Nat.one_ne_zero, Nat.zero_ne_one, Nat.zero_add, Nat.mul_zero, g1, g2, g3]
theorem zv_SLx {c o : Nat} {X3 X13 Y3 Y13 : Nat → Nat → Int32} {kd v wh pl rw : Nat → Int32} (h : zv_SL c o X3 X13 kd v wh pl rw) (e : ∀ i j, j < 6 → Y3 i j = X3 i j) (e13 : Y13 = X13) : zv_SL c o Y3 Y13 kd v wh pl rw := by
  intro j hj
  rw [e _ 2 (by decide), e _ 3 (by decide), e _ 4 (by decide), e _ 5 (by decide), e13]
  exact h j hj
theorem zv_SRx {q s : Nat} {Sx S' : St} {lf mi ml hi is hm the lg sn bk : Int32} {kd v wh pl rw lw ln sm bw bc : Nat → Int32} (h : zv_SR q s Sx lf mi ml hi is hm the lg sn bk kd v wh pl rw lw ln sm bw bc)
    (e2 : gI S' 2 s = gI Sx 2 s) (e : ∀ f, f ≠ 3 → f ≠ 2 → gI S' f = gI Sx f) (e3 : ∀ i j, j < 6 → gI S' 3 i j = gI Sx 3 i j) (eR : gR S' 5 = gR Sx 5) : zv_SR q s S' lf mi ml hi is hm the lg sn bk kd v wh pl rw lw ln sm bw bc := by
  obtain ⟨c, u1, u2, u3, u4, u5, u6, u7⟩ := h
  unfold zv_SR
  rw [e2, eR, e 5 (by decide) (by decide), e 4 (by decide) (by decide), e 14 (by decide) (by decide), e 15 (by decide) (by decide)]
  exact ⟨c, u1, zv_SLx u2 e3 (e 13 (by decide) (by decide)), u3, u4, u5, u6, u7⟩
theorem zv_RWx {k q : Nat} {cs : Nat → List zv_Cl} {Sx Sm S' : St} (h : zv_RW k q cs Sx Sm) (hX : zv_XT 2 q cs Sx S') : zv_RW k q cs S' Sm := by
  obtain ⟨w1, w2, w3, w4, w5, w6, w7, zv_w8, w9, w10, w11, w12⟩ := h
  obtain ⟨x1, x2, x3, x4, x5, x6⟩ := hX
  unfold zv_RW
  rw [x1, x5 9 (by decide), x2 7 (by decide) (by decide), x2 0 (by decide) (by decide), x2 16 (by decide) (by decide), x2 1 (by decide) (by decide), x2 17 (by decide) (by decide), x2 10 (by decide) (by decide), x2 6 (by decide) (by decide)]
  refine ⟨w1, w2, w3, w4, w5, w6, w7, zv_w8, fun i hi => ?_, x6, ?_, ?_⟩
  · rw [x4 i 0 (by decide)]; exact w9 i hi
  · exact zv_SRx w11 (x3 0 (by decide)) x2 x4 (x5 5 (by decide))
  · exact zv_SRx w12 (x3 1 (by decide)) x2 x4 (x5 5 (by decide))
theorem zv_RWm {k q : Nat} {cs : Nat → List zv_Cl} {Sx Sm S' : St} (h : zv_RW k q cs Sx Sm) (hM : zv_MT Sm S') (e1 : gI S' 8 0 1 = gI Sm 8 0 1) (e2 : gI S' 8 0 2 = gI Sm 8 0 2) (e3 : gI S' 8 0 3 = gI Sm 8 0 3) : zv_RW k q cs Sx S' := by
  obtain ⟨x1, x2, x3, x4⟩ := hM
  unfold zv_RW zv_S0 zv_S1 at *
  rw [x1, x4 0 11 (by omega), x4 0 13 (by omega), x4 0 65 (by omega), x4 0 44 (by omega), x4 0 0 (by omega), e1, e2, e3, x4 0 4 (by omega), x4 0 5 (by omega), x4 0 12 (by omega), x4 0 36 (by omega), x4 0 39 (by omega), x4 0 41 (by omega), x4 0 45 (by omega), x4 0 46 (by omega), x4 0 47 (by omega), x4 0 48 (by omega), x4 0 49 (by omega), x4 0 50 (by omega), x4 0 51 (by omega), x4 0 52 (by omega), x4 0 53 (by omega), x4 0 54 (by omega),
    x3 22 (by decide) (by decide), x3 23 (by decide) (by decide), x3 24 (by decide) (by decide), x3 25 (by decide) (by decide), x3 26 (by decide) (by decide), x3 27 (by decide) (by decide), x3 28 (by decide) (by decide), x3 29 (by decide) (by decide), x3 30 (by decide) (by decide), x3 31 (by decide) (by decide), x3 32 (by decide) (by decide), x3 33 (by decide) (by decide), x3 35 (by decide) (by decide), x3 37 (by decide) (by decide), x3 38 (by decide) (by decide), x3 39 (by decide) (by decide), x3 40 (by decide) (by decide), x3 41 (by decide) (by decide), x3 42 (by decide) (by decide), x3 43 (by decide) (by decide), x3 44 (by decide) (by decide), x3 45 (by decide) (by decide), x3 46 (by decide) (by decide), x3 47 (by decide) (by decide), x3 48 (by decide) (by decide), x3 49 (by decide) (by decide), x3 50 (by decide) (by decide), x3 51 (by decide) (by decide), x3 52 (by decide) (by decide), x3 53 (by decide) (by decide), x3 54 (by decide) (by decide)]
  exact h
/-- all that a flight starts from -/
def zv_FL0 (k q : Nat) (cs : Nat → List zv_Cl) (a c m h t hm B Z : Nat) (Sx Sm : St) : Prop := zv_RW k q cs Sx Sm ∧ zv_FLY q cs a c Sx Sm ∧ zv_GC Sx 0 m h t ∧ zv_GM Sm m h t ∧ m ≤ 99 ∧ h ≤ 400 ∧ t ≤ 9999 ∧ (gI Sx 5 0 7 = nI hm ∧ gI Sm 8 0 5 = nI hm ∧ hm ≤ 99) ∧ (B ≤ 400 ∧ zv_baseA (cs a) = nI B) ∧ (Z ≤ 990 ∧ zv_safeA (cs a) = nI Z)
theorem zv_Rel_F {k : Nat} {Sx Sm : St} (hR : Rel k Sx Sm) : ∃ q cs a c m h t hm B Z, zv_FL0 k q cs a c m h t hm B Z Sx Sm := by
  have hR0 := hR
  obtain ⟨q, cs, hw⟩ := hR
  have hw0 := hw
  obtain ⟨w1, w2, w3, w4, w5, w6, w7, zv_w8, w9, w10, ⟨c, u1, u2, u3, u4, u5, ⟨a, a1, a2, a3⟩, u7⟩, w12⟩ := hw
  obtain ⟨b1, b2, b3, b4, b5⟩ := w1
  obtain ⟨y0, y1⟩ := w3
  obtain ⟨y2, y3, y4, y5⟩ := y1 a a1
  obtain ⟨g1, g2, g3, g4, g5, g6, g7, g8, g9⟩ := u3
  obtain ⟨o1, o2, o3⟩ := u5
  have lim : ∀ {x : Int32} {n : Nat}, 0 ≤ x → x ≤ nI n → n < 100000 → ∃ l, l ≤ n ∧ x = nI l := fun {x n} hx hn h => zv_asW hx (by rw [Int32.le_iff_toInt_le, zv_iN (by omega)] at hn; exact hn)
  obtain ⟨m, m1, m2⟩ := lim (n := 99) g6 g7 (by decide)
  obtain ⟨h, h1, h2⟩ := lim (n := 400) g8 g9 (by decide)
  obtain ⟨t, t1, t2⟩ := lim (n := 9999) g4 g5 (by decide)
  obtain ⟨hm, i1, i2⟩ := lim (n := 99) o2 o3 (by decide)
  obtain ⟨B, B1, B2⟩ := zv_baseB y2
  obtain ⟨Z, Z1, Z2⟩ := zv_safeB y2
  have u1' := u1
  obtain ⟨zv_c1, c2, c3⟩ := u1
  refine ⟨q, cs, a, c, m, h, t, hm, B, Z, hw0, ⟨a1, zv_c1, y4, ⟨a3, by omega, fun e => by rw [e]; exact y0, y5, y3, y2⟩, u2, w9, a2, c2, c3⟩, ⟨by rw [g2, m2], by rw [g3, h2], by rw [g1, t2]⟩, ⟨m2, h2, t2⟩, m1, h1, t1, ⟨by rw [o1, i2], i2, i1⟩, ⟨B1, B2⟩, ⟨Z1, Z2⟩⟩
/-- a flight that is over: both are as they were -/
theorem zv_FLend {k q : Nat} {cs : Nat → List zv_Cl} {a c m h t hm B Z : Nat} {Sx Sm X M : St} (hF : zv_FL0 k q cs a c m h t hm B Z Sx Sm) (hX : zv_XT 2 q cs Sx X) (hM : zv_MT Sm M) (hG : zv_GM M m h t) : Rel k X M := by
  obtain ⟨f1, f2, f3, f4, -⟩ := hF
  exact ⟨q, cs, zv_RWm (zv_RWx f1 hX) hM (by rw [hG.2.2, f4.2.2]) (by rw [hG.1, f4.1]) (by rw [hG.2.1, f4.2.1])⟩
theorem zv_FLxr {k q : Nat} {cs : Nat → List zv_Cl} {a c m h t hm B Z : Nat} {Sx Sm : St} (hF : zv_FL0 k q cs a c m h t hm B Z Sx Sm) {i0 : Nat} : zv_XT i0 q cs Sx Sx := zv_XTr hF.1.2.2.2.2.2.2.2.2.2.1
theorem zv_isLx {q : Nat} {cs : Nat → List zv_Cl} {a c : Nat} {Sx Sm S : St} (hF : zv_FLY q cs a c Sx Sm) (e : gI S 5 0 5 = gI Sx 5 0 5) (x : Int32) : F_X7_isLift S x = some (if 0 ≤ x ∧ x < nI c then 1 else 0, S) := by
  rw [zv_x7_isL, e, hF.2.2.2.2.2.2.2.1]
theorem zv_isLm {q : Nat} {cs : Nat → List zv_Cl} {a c : Nat} {Sx Sm S : St} (hF : zv_FLY q cs a c Sx Sm) (e : gI S 8 0 0 = gI Sm 8 0 0) (x : Int32) : F_X8_isLift S x = some (if 0 ≤ x ∧ x < nI c then 1 else 0, S) :=
  zv_x8_isL (by rw [e]; exact hF.2.2.2.2.2.2.2.2) hF.2.1 x
theorem zv_gxm {q : Nat} {cs : Nat → List zv_Cl} {a c : Nat} {Sx Sm : St} (hF : zv_FLY q cs a c Sx Sm) (hC : zv_RC q cs (gI Sx 3) (gR Sx 3)) {l : Nat} (hl : l < c) {h t : Nat} (eh : gI Sm 8 0 3 = nI h) (et : gI Sm 8 0 1 = nI t) :
    ∃ x X M, F_X3_gain Sx l a (nI h) (nI t) = some (x, X) ∧ F_X8_gain Sm (nI l) = some (x, M) ∧ zv_XC q cs Sx X ∧ zv_M36 Sm M := by
  obtain ⟨f1, f2, f3, f4, f5, f6, f7, -⟩ := hF
  have zv_hs := f5 l hl
  rw [Nat.zero_add] at zv_hs
  have hn := f6 l (by omega)
  obtain ⟨X, e1, e2⟩ := zv_x3_gain (h := nI h) (t := nI t) f3 f4.2.2.2.2.2 f1 hC (show l < 12 by omega)
  obtain ⟨M, e3, e4⟩ := zv_m_gain (l := l) f4 (by omega)
  refine ⟨_, X, M, e1, ?_, e2, e3⟩
  rw [e4]
  unfold zv_ctxM zv_ctxS
  rw [zv_hs.1, zv_hs.2.1, zv_hs.2.2.1, zv_hs.2.2.2.1, hn, eh, et, show l % 6 = l by omega]
theorem zv_cxm {q : Nat} {cs : Nat → List zv_Cl} {a c i0 : Nat} {Sx Sm X M : St} (hF : zv_FLY q cs a c Sx Sm) (hX : zv_XT i0 q cs Sx X) (hM : zv_MT Sm M) {l : Nat} (hl : l < c) {h t : Nat} (ht : t ≤ 40000) (eh : gI M 8 0 3 = nI h) (et : gI M 8 0 1 = nI t) :
    ∃ x X' M', F_X3_climb X l a (nI h) (nI t) = some (x, X') ∧ F_X8_climb M (nI l) = some (x, M') ∧ x.toInt = zv_CI (cs a) Sm l h t ∧ zv_XC q cs X X' ∧ zv_M36 M M' := by
  obtain ⟨x, X', e1, e2, e3⟩ := zv_cx hF hX hl (h := h) ht
  obtain ⟨y, M', e4, e5, e6⟩ := zv_cm hF hM hl ht eh et
  have : y = x := Int32.toInt_inj.mp (by rw [e5, e2])
  subst this
  exact ⟨y, X', M', e1, e4, e2, e3, e6⟩
theorem m_of {k : Nat} {Sx Sm : St} (hR : Rel k Sx Sm) (a1 : Int32) (a2 : Int32) : ∃ (r : Int32) (Sx' Sm' : St), F_X7_of Sx a1 a2 = some (r, Sx') ∧ F_X8_of Sm a1 a2 = some (r, Sm') ∧ Rel k Sx' Sm' := by
  obtain ⟨q, cs, a, c, m, h, t, hm, B, Z, hL⟩ := zv_Rel_F hR
  have hL' := hL
  obtain ⟨hW, hF, ⟨g1, g2, g3⟩, hG, -, -, t1, -⟩ := hL'
  have hc := hF.2.1
  simp only [F_X7_of, F_X8_of, zv_isLx hF rfl, zv_isLm hF rfl, bnd, zv_if10]
  by_cases hq : 0 ≤ a1 ∧ a1 < nI c
  · obtain ⟨l, hl, rfl⟩ := zv_asN hq.1 hq.2 (by omega)
    have zv_hs := hF.2.2.2.2.1 l hl
    rw [Nat.zero_add] at zv_hs
    simp only [hq.1, hq.2, zv_nIcl (show l < 2147483648 by omega), zv_nI0 l (by omega), show l < 6 by omega, and_self, reduceIte, Nat.mul_zero, Nat.zero_add, zv_hs.1, zv_hs.2.1, zv_hs.2.2.1, zv_hs.2.2.2.1, hF.2.2.2.2.2.2.1, Option.elim, g2, g3]
    by_cases k0 : a2 = 0
    · simp only [k0, reduceIte]; exact ⟨_, _, _, rfl, rfl, hR⟩
    by_cases k1 : a2 = 1
    · simp only [k1, show ¬ (1 : Int32) = 0 by decide, reduceIte]; exact ⟨_, _, _, rfl, rfl, hR⟩
    by_cases k2 : a2 = 2
    · simp only [k2, show ¬ (2 : Int32) = 0 by decide, show ¬ (2 : Int32) = 1 by decide, reduceIte]; exact ⟨_, _, _, rfl, rfl, hR⟩
    by_cases k3 : a2 = 3
    · simp only [k3, show ¬ (3 : Int32) = 0 by decide, show ¬ (3 : Int32) = 1 by decide, show ¬ (3 : Int32) = 2 by decide, reduceIte]; exact ⟨_, _, _, rfl, rfl, hR⟩
    simp only [k0, k1, k2, k3, reduceIte]
    by_cases k4 : a2 = 4
    · obtain ⟨x, X, M, e1, e2, e3, e4⟩ := zv_gxm hF hW.2.2.2.2.2.2.2.2.2.1 hl hG.2.1 hG.2.2
      simp only [k4, reduceIte, e1, e2]
      exact ⟨_, _, _, rfl, rfl, zv_FLend hL (zv_XTc (zv_FLxr hL) e3) (zv_MTc (zv_MTr _) e4) (by unfold zv_GM; rw [e4.2.2 8 (by decide)]; exact hG)⟩
    by_cases k5 : a2 = 5
    · obtain ⟨x, X, M, e1, e2, -, e3, e4⟩ := zv_cxm hF (zv_FLxr hL (i0 := 2)) (zv_MTr _) hl (by omega) hG.2.1 hG.2.2
      simp only [k4, k5, show ¬ (5 : Int32) = 4 by decide, reduceIte, e1, e2]
      exact ⟨_, _, _, rfl, rfl, zv_FLend hL (zv_XTc (zv_FLxr hL) e3) (zv_MTc (zv_MTr _) e4) (by unfold zv_GM; rw [e4.2.2 8 (by decide)]; exact hG)⟩
    simp only [k4, k5, reduceIte]
    exact ⟨_, _, _, rfl, rfl, hR⟩
  · simp only [if_neg hq]
    exact ⟨_, _, _, rfl, rfl, hR⟩
theorem m_told {k : Nat} {Sx Sm : St} (hR : Rel k Sx Sm) (a1 : Int32) : ∃ (r : Int32) (Sx' Sm' : St), F_X7_told Sx a1 = some (r, Sx') ∧ F_X8_told Sm a1 = some (r, Sm') ∧ Rel k Sx' Sm' := by
  obtain ⟨q, cs, a, c, m, h, t, hm, B, Z, hL⟩ := zv_Rel_F hR
  have hL' := hL
  obtain ⟨hW, hF, ⟨g1, g2, g3⟩, ⟨y1, y2, y3⟩, -, -, t1, ⟨h1, h2, -⟩, ⟨-, eB⟩, ⟨-, eZ⟩⟩ := hL'
  obtain ⟨c', -, -, -, u4, -⟩ := hW.2.2.2.2.2.2.2.2.2.2.1
  have hA := hF.2.2.2.1
  have hV := hF.2.2.1
  simp only [F_X7_told, F_X8_told, zv_m_base hA, zv_m_safe hA, bnd, g1, g2, g3, y1, y2, y3, h1, h2, hF.2.2.2.2.2.2.1, Option.elim, hV.2.2.2.1, hV.2.2.2.2]
  have e3 : gI Sx 5 0 6 = if 0 ≤ gI Sm 8 0 4 then gI Sm 8 0 4 else -5 := by
    rcases u4 with ⟨q1, q2⟩ | ⟨q1, q2, -⟩
    · rw [q1, q2]; decide
    · rw [q1, if_pos q2]
  rw [e3]
  (repeat' split) <;> exact ⟨_, _, _, rfl, rfl, hR⟩
theorem m_enter {k : Nat} {Sx Sm : St} (hR : Rel k Sx Sm) (a1 : Int32) : ∃ (r : Int32) (Sx' Sm' : St), F_X7_enter Sx a1 = some (r, Sx') ∧ F_X8_enter Sm a1 = some (r, Sm') ∧ Rel k Sx' Sm' := by
  obtain ⟨q, cs, a, c, m, h, t, hm, B, Z, hL⟩ := zv_Rel_F hR
  have hL' := hL
  obtain ⟨hW, hF, ⟨g1, g2, g3⟩, hG, m9, h4, t1, -⟩ := hL'
  have hc := hF.2.1
  simp only [F_X7_enter, F_X8_enter, zv_isLx hF rfl, zv_isLm hF rfl, bnd, zv_if10]
  by_cases hq : 0 ≤ a1 ∧ a1 < nI c
  · obtain ⟨l, hl, rfl⟩ := zv_asN hq.1 hq.2 (by omega)
    have zv_hs := hF.2.2.2.2.1 l hl
    rw [Nat.zero_add] at zv_hs
    simp only [hq.1, hq.2, zv_nIcl (show l < 2147483648 by omega), zv_nI0 l (by omega), show l < 6 by omega, and_self, reduceIte, Nat.mul_zero, Nat.zero_add, zv_hs.2.2.1, g1, hG.1]
    by_cases hw : gI Sm 24 0 l = nI m
    · have hR2 : zv_RW k q cs (sI Sx 5 0 6 (nI l)) (sI Sm 8 0 4 (nI l)) := by
        obtain ⟨w1, w2, w3, w4, w5, w6, w7, zv_w8, w9, w10, ⟨c', u1, u2, u3, u4, u5, u6, u7, u8, u9, u10, u11⟩, w12⟩ := hW
        have ec : nI c' = nI c := by rw [← u1.2.1]; exact hF.2.2.2.2.2.2.2.1
        simp only [zv_RW, zv_S0, zv_S1, zv_SR, gI_sI, zv_gI_f, zv_gI_i, gI_sI, zv_gJ_f, zv_gIc_f, zv_gIc_i, zv_kJ_sI, zv_kR_sI, zv_kI_sJ, zv_kR_sJ, zv_kI_sR, zv_kJ_sR, zv_kJ_cI, zv_kR_cI, zv_kI_cJ, zv_kR_cJ, ne_eq, Nat.reduceEqDiff, Nat.reduceMul, Nat.reduceAdd, not_false_eq_true, not_true_eq_false, false_and, and_false, and_true, true_and, and_self, reduceIte, Nat.one_ne_zero, Nat.zero_ne_one, Nat.zero_add, Nat.mul_zero]
        exact ⟨w1, w2, w3, w4, w5, w6, w7, zv_w8, w9, w10, ⟨c', u1, u2, u3, .inr ⟨rfl, hq.1, by rw [ec]; exact hq.2⟩, u5, u6, u7, u8, u9, u10, u11⟩, w12⟩
      have hF2 : zv_FLY q cs a c (sI Sx 5 0 6 (nI l)) (sI Sm 8 0 4 (nI l)) := by
        simp only [zv_FLY, zv_AV, gI_sI, zv_gI_f, zv_gI_i, gI_sI, zv_gJ_f, zv_gIc_f, zv_gIc_i, zv_kJ_sI, zv_kR_sI, zv_kI_sJ, zv_kR_sJ, zv_kI_sR, zv_kJ_sR, zv_kJ_cI, zv_kR_cI, zv_kI_cJ, zv_kR_cJ, ne_eq, Nat.reduceEqDiff, Nat.reduceMul, Nat.reduceAdd, not_false_eq_true, not_true_eq_false, false_and, and_false, and_true, true_and, and_self, reduceIte, Nat.one_ne_zero, Nat.zero_ne_one, Nat.zero_add, Nat.mul_zero]
        exact hF
      obtain ⟨x, X, M, e1, e2, -, e3, e4⟩ := zv_cxm (h := h) (t := t) hF2 (zv_XTr (i0 := 2) hR2.2.2.2.2.2.2.2.2.2.1) (zv_MTr _) hl (by omega) (by simp only [gI_sI, zv_gI_f, zv_gI_i, gI_sI, zv_gJ_f, zv_gIc_f, zv_gIc_i, zv_kJ_sI, zv_kR_sI, zv_kI_sJ, zv_kR_sJ, zv_kI_sR, zv_kJ_sR, zv_kJ_cI, zv_kR_cI, zv_kI_cJ, zv_kR_cJ, ne_eq, Nat.reduceEqDiff, Nat.reduceMul, Nat.reduceAdd, not_false_eq_true, not_true_eq_false, false_and, and_false, and_true, true_and, and_self, reduceIte, Nat.one_ne_zero, Nat.zero_ne_one, Nat.zero_add, Nat.mul_zero]; exact hG.2.1) (by simp only [gI_sI, zv_gI_f, zv_gI_i, gI_sI, zv_gJ_f, zv_gIc_f, zv_gIc_i, zv_kJ_sI, zv_kR_sI, zv_kI_sJ, zv_kR_sJ, zv_kI_sR, zv_kJ_sR, zv_kJ_cI, zv_kR_cI, zv_kI_cJ, zv_kR_cJ, ne_eq, Nat.reduceEqDiff, Nat.reduceMul, Nat.reduceAdd, not_false_eq_true, not_true_eq_false, false_and, and_false, and_true, true_and, and_self, reduceIte, Nat.one_ne_zero, Nat.zero_ne_one, Nat.zero_add, Nat.mul_zero]; exact hG.2.2)
      rw [if_pos hw, if_pos hw]
      simp only [gI_sI, zv_gI_f, zv_gI_i, gI_sI, zv_gJ_f, zv_gIc_f, zv_gIc_i, zv_kJ_sI, zv_kR_sI, zv_kI_sJ, zv_kR_sJ, zv_kI_sR, zv_kJ_sR, zv_kJ_cI, zv_kR_cI, zv_kI_cJ, zv_kR_cJ, ne_eq, Nat.reduceEqDiff, Nat.reduceMul, Nat.reduceAdd, not_false_eq_true, not_true_eq_false, false_and, and_false, and_true, true_and, and_self, reduceIte, Nat.one_ne_zero, Nat.zero_ne_one, Nat.zero_add, Nat.mul_zero, hF.2.2.2.2.2.2.1, Option.elim, g2, g3, e1, e2]
      have M8 := e4.2.2 8 (by decide)
      exact ⟨_, _, _, rfl, rfl, q, cs, zv_RWm (zv_RWx hR2 (zv_XTc (zv_XTr hR2.2.2.2.2.2.2.2.2.2.1) e3)) (zv_MTc (zv_MTr _) e4) (by rw [M8]) (by rw [M8]) (by rw [M8])⟩
    · rw [if_neg hw, if_neg hw]
      exact ⟨_, _, _, rfl, rfl, hR⟩
  · simp only [if_neg hq]
    exact ⟨_, _, _, rfl, rfl, hR⟩
theorem zv_bndS {α β : Type} (r : α) (S : St) (f : α → St → Option (β × St)) : bnd (some (r, S)) f = f r S := rfl
theorem zv_lp2 {α β ρ σ : Type} (Lx : Nat → α → Option ρ) (Lm : Nat → β → Option σ) (N : Nat) (I : Nat → α → β → Prop) (Q : Option ρ → Option σ → Prop)
    (zv_hs : ∀ n n' j a b, j < N → I j a b → (∃ a' b', I (j + 1) a' b' ∧ Lx (n + 1) a = Lx n a' ∧ Lm (n' + 1) b = Lm n' b') ∨ Q (Lx (n + 1) a) (Lm (n' + 1) b))
    (he : ∀ n n' a b, I N a b → Q (Lx (n + 1) a) (Lm (n' + 1) b)) : ∀ m j n n' a b, j + m = N → m < n → m < n' → I j a b → Q (Lx n a) (Lm n' b) := by
  intro m
  induction m with
  | zero =>
    intro j n n' a b hj hn hn' hI
    obtain rfl : j = N := by omega
    obtain ⟨n, rfl⟩ : ∃ z, n = z + 1 := ⟨n - 1, by omega⟩
    obtain ⟨n', rfl⟩ : ∃ z, n' = z + 1 := ⟨n' - 1, by omega⟩
    exact he _ _ _ _ hI
  | succ m ih =>
    intro j n n' a b hj hn hn' hI
    obtain ⟨n, rfl⟩ : ∃ z, n = z + 1 := ⟨n - 1, by omega⟩
    obtain ⟨n', rfl⟩ : ∃ z, n' = z + 1 := ⟨n' - 1, by omega⟩
    rcases zv_hs n n' j a b (by omega) hI with ⟨a', b', h1, h2, h3⟩ | h
    · rw [h2, h3]
      exact ih (j + 1) n n' a' b' (by omega) (by omega) (by omega) h1
    · exact h
def zv_RQ {ρ : Type} (k : Nat) (x y : Option (ρ × St)) : Prop := ∃ (r : ρ) (Sx' Sm' : St), x = some (r, Sx') ∧ y = some (r, Sm') ∧ Rel k Sx' Sm'
/-- at rest: the trial's cells are free -/
def zv_RJ (q : Nat) (cs : Nat → List zv_Cl) (Sx Sm : St) (m h t : Nat) (X M : St) : Prop := zv_XT 2 q cs Sx X ∧ zv_MT Sm M ∧ zv_GM M m h t
theorem zv_RJ0 {k q : Nat} {cs : Nat → List zv_Cl} {a c m h t hm B Z : Nat} {Sx Sm : St} (hL : zv_FL0 k q cs a c m h t hm B Z Sx Sm) : zv_RJ q cs Sx Sm m h t Sx Sm := ⟨zv_FLxr hL, zv_MTr _, hL.2.2.2.1⟩
theorem zv_RJe {k q : Nat} {cs : Nat → List zv_Cl} {a c m h t hm B Z : Nat} {Sx Sm X M : St} (hL : zv_FL0 k q cs a c m h t hm B Z Sx Sm) (hJ : zv_RJ q cs Sx Sm m h t X M) : Rel k X M := zv_FLend hL hJ.1 hJ.2.1 hJ.2.2
theorem zv_mgUp {k q : Nat} {cs : Nat → List zv_Cl} {a c m h t hm B Z : Nat} {Sx Sm M : St} (hL : zv_FL0 k q cs a c m h t hm B Z Sx Sm) (hM : zv_MT Sm M) (hG : zv_GM M m h t) {l n : Nat} (hl : l < c) (hn : n ≤ 60) : ∃ M', F_X8_upOf M (nI l) (nI n) = some (nI (zv_gm B (zv_CI (cs a) Sm l) n (h, t)).1, M') ∧ zv_MT Sm M' ∧ zv_GM M' m h t := by
  obtain ⟨hW, hF, -, -, m9, h4, t1, -, ⟨B4, eB⟩, -⟩ := hL
  obtain ⟨zv_S1, e1, M1, G1, K1, -⟩ := zv_svM hM hG
  unfold F_X8_upOf
  rw [e1, zv_bndS]
  obtain ⟨S2, ⟨i1, i2, i3⟩, e2⟩ := zv_lpI (L_X8_upOf_6 (nI l) (nI n) (fun y3_5 T_5 => bnd (F_X8_putBack T_5) (fun r6 S7 => some (gI T_5 8 0 3, S7)))) (fun y3_5 T_5 => bnd (F_X8_putBack T_5) (fun r6 S7 => some (gI T_5 8 0 3, S7))) n
    (fun j T => zv_MT Sm T ∧ zv_GM T m (zv_gm B (zv_CI (cs a) Sm l) j (h, t)).1 (t + j) ∧ (gI T 8 0 29 = nI t ∧ gI T 8 0 30 = nI m ∧ gI T 8 0 31 = nI h))
    (fun fuel j T hj hI => by
      obtain ⟨T', y1, y2, y4, y3⟩ := zv_mg_min hF hI.1 hl (zv_gm1 j B4 h4) (by omega) hI.2.1 B4 eB
      refine ⟨T', ⟨y1, ?_, by rw [y4 29 (by omega), y4 30 (by omega), y4 31 (by omega)]; exact hI.2.2⟩, ?_⟩
      · have e2 := zv_gm2 B (zv_CI (cs a) Sm l) j (h, t)
        show zv_GM T' m (zv_hs B (zv_gm B (zv_CI (cs a) Sm l) j (h, t)).1 (zv_CI (cs a) Sm l (zv_gm B (zv_CI (cs a) Sm l) j (h, t)).1 (zv_gm B (zv_CI (cs a) Sm l) j (h, t)).2)) (t + (j + 1))
        rw [e2]
        exact y2
      · rw [L_X8_upOf_6.eq_2, if_neg (by rw [zv_nIle (by omega) (by omega)]; omega), y3, zv_nIs j (by omega)]; rfl)
    (fun fuel T _ => by rw [L_X8_upOf_6.eq_2, if_pos (Int32.le_refl _)]) n 0 1000 zv_S1 (by omega) (by omega) ⟨M1, G1, K1⟩
  rw [show (0 : Int32) = nI 0 from rfl, e2]
  obtain ⟨S3, e3, M3, G3, -⟩ := zv_pbM i1 i3
  rw [e3, zv_bndS, i2.2.1]
  exact ⟨S3, rfl, M3, G3⟩
theorem zv_hbX {k q : Nat} {cs : Nat → List zv_Cl} {a c m h t hm B Z : Nat} {Sx Sm X : St} (hL : zv_FL0 k q cs a c m h t hm B Z Sx Sm) (hX : zv_XT 2 q cs Sx X) {l n : Nat} (hl : l < c) (hn : n ≤ 60) : ∃ X', F_X7_heightBehind X (nI l) (nI n) = some (nI (zv_gm B (zv_CI (cs a) Sm l) n (h, t)).1, X') ∧ zv_XT 2 q cs Sx X' := by
  obtain ⟨hW, hF, hG, -, m9, h4, t1, -, ⟨B4, eB⟩, -⟩ := hL
  have hc := hF.2.1
  obtain ⟨X1, e1, x1, g1⟩ := zv_cpC hX hG
  obtain ⟨X2, x2, g2, e2⟩ := zv_xc_circ hF x1 hl h4 g1 B4 eB (n := n) (by omega) (by omega)
  unfold F_X7_heightBehind
  rw [e1]
  simp only [bnd]
  rw [if_pos (zv_gd (by omega)), x1.2.2.2.2.1 5 (by decide), hF.2.2.2.2.2.2.1, zv_nIcl (by omega)]
  simp only [Option.elim, Nat.mul_zero, Nat.zero_add]
  rw [e2]
  simp only []
  rw [g2.2.1]
  exact ⟨X2, rfl, x2⟩
theorem zv_to60 {x : Int32} (h : 0 ≤ x ∧ x ≤ 60) : ∃ n, n ≤ 60 ∧ x = nI n := zv_asW (c := 60) h.1 (by have := h.2; rw [Int32.le_iff_toInt_le] at this; exact this)
theorem zv_to99 {x : Int32} (h : 0 ≤ x ∧ x ≤ 99) : ∃ n, n ≤ 99 ∧ x = nI n := zv_asW (c := 99) h.1 (by have := h.2; rw [Int32.le_iff_toInt_le] at this; exact this)
theorem zv_to9 {x : Int32} (h : 1 ≤ x ∧ x ≤ 9) : ∃ n, n ≤ 9 ∧ 1 ≤ n ∧ x = nI n := by
  obtain ⟨n, h1, rfl⟩ := zv_asW (c := 9) (x := x) (by have := h.1; rw [Int32.le_iff_toInt_le] at *; simp only [Int32.reduceToInt] at *; omega) (by have := h.2; rw [Int32.le_iff_toInt_le] at this; exact this)
  refine ⟨n, h1, ?_, rfl⟩
  exact (zv_nIle (a := 1) (by decide) (by omega)).mp h.1
theorem m_up {k : Nat} {Sx Sm : St} (hR : Rel k Sx Sm) (a1 : Int32) (a2 : Int32) : ∃ (r : Int32) (Sx' Sm' : St), F_X7_up Sx a1 a2 = some (r, Sx') ∧ F_X8_up Sm a1 a2 = some (r, Sm') ∧ Rel k Sx' Sm' := by
  obtain ⟨q, cs, a, c, m, h, t, hm, B, Z, hL⟩ := zv_Rel_F hR
  have hF := hL.2.1
  have hc := hF.2.1
  simp only [F_X7_up, F_X8_up, zv_isLx hF rfl, zv_isLm hF rfl, zv_x7_in, zv_x8_isT, bnd, zv_if10]
  by_cases hq : 0 ≤ a1 ∧ a1 < nI c
  · obtain ⟨l, hl, rfl⟩ := zv_asN hq.1 hq.2 (by omega)
    rw [if_pos hq, if_pos hq]
    by_cases hn : 0 ≤ a2 ∧ a2 ≤ 60
    · obtain ⟨n, hn6, rfl⟩ := zv_to60 hn
      rw [if_pos hn, if_pos hn]
      obtain ⟨X, e1, x1⟩ := zv_hbX hL (zv_FLxr hL) hl hn6
      obtain ⟨M, e2, m1, g1⟩ := zv_mgUp hL (zv_MTr _) hL.2.2.2.1 hl hn6
      rw [e1, e2]
      exact ⟨_, _, _, rfl, rfl, zv_FLend hL x1 m1 g1⟩
    · rw [if_neg hn, if_neg hn]
      exact ⟨_, _, _, rfl, rfl, hR⟩
  · rw [if_neg hq, if_neg hq]
    exact ⟨_, _, _, rfl, rfl, hR⟩
theorem m_arrives {k : Nat} {Sx Sm : St} (hR : Rel k Sx Sm) (a1 : Int32) (a2 : Int32) : ∃ (r : Int32) (Sx' Sm' : St), F_X7_arrives Sx a1 a2 = some (r, Sx') ∧ F_X8_arrives Sm a1 a2 = some (r, Sm') ∧ Rel k Sx' Sm' := by
  obtain ⟨q, cs, a, c, m, h, t, hm, B, Z, hL⟩ := zv_Rel_F hR
  have hL' := hL
  obtain ⟨hW, hF, hG, hGM, m9, h4, t1, -⟩ := hL'
  simp only [F_X7_arrives, F_X8_arrives, zv_x7_isM, zv_x8_isM, zv_x7_isP, zv_x8_isP, bnd, zv_if10]
  by_cases hq : 0 ≤ a1 ∧ a1 ≤ 99
  · obtain ⟨w, hw, rfl⟩ := zv_to99 hq
    rw [if_pos hq, if_pos hq]
    by_cases hp : 1 ≤ a2 ∧ a2 ≤ 9
    · obtain ⟨p, p9, p1, rfl⟩ := zv_to9 hp
      rw [if_pos hp, if_pos hp]
      obtain ⟨X1, e1, x1, g1⟩ := zv_cpC (zv_FLxr hL) hG
      obtain ⟨y1, y2⟩ := zv_glC x1 g1 m9 hw p9 h4 (by omega)
      have hB := zv_dB m9 hw p9
      rw [e1, hGM.1, hGM.2.1, zv_x8_falls Sm m9 hw p9]
      simp only []
      by_cases hd : zv_dst m w * (5 + p) ≤ h
      · obtain ⟨X2, e2, x2, g2⟩ := y1 hd
        rw [e2, zv_nIsb hd (by omega), if_pos (zv_nI0 _ (by omega))]
        simp only [zv_z10, reduceIte, g2.2.1]
        exact ⟨_, _, _, rfl, rfl, zv_FLend hL x2 (zv_MTr _) hGM⟩
      · rw [y2 hd, if_neg (by rw [Int32.le_iff_toInt_le, zv_is_, zv_iN (by omega), zv_iN (by omega)]; simp only [Int32.reduceToInt]; omega)]
        exact ⟨_, _, _, rfl, rfl, zv_FLend hL x1 (zv_MTr _) hGM⟩
    · rw [if_neg hp, if_neg hp]
      exact ⟨_, _, _, rfl, rfl, hR⟩
  · rw [if_neg hq, if_neg hq]
    exact ⟨_, _, _, rfl, rfl, hR⟩
theorem m_outed {k : Nat} {Sx Sm : St} (hR : Rel k Sx Sm) (a1 : Int32) (a2 : Int32) : ∃ (r : Int32) (Sx' Sm' : St), F_X7_outed Sx a1 a2 = some (r, Sx') ∧ F_X8_outed Sm a1 a2 = some (r, Sm') ∧ Rel k Sx' Sm' := by
  obtain ⟨q, cs, a, c, m, h, t, hm, B, Z, hL⟩ := zv_Rel_F hR
  have hL' := hL
  obtain ⟨hW, hF, hG, hGM, m9, h4, t1, -⟩ := hL'
  simp only [F_X7_outed, F_X8_outed, zv_x7_isM, zv_x8_isM, zv_x7_isP, zv_x8_isP, F_X2_sinkOfMile, bnd, zv_if10]
  by_cases hq : 0 ≤ a1 ∧ a1 ≤ 99
  · obtain ⟨w, hw, rfl⟩ := zv_to99 hq
    rw [if_pos hq, if_pos hq]
    by_cases hp : 1 ≤ a2 ∧ a2 ≤ 9
    · obtain ⟨p, p9, p1, rfl⟩ := zv_to9 hp
      have h5 : ¬ nI (5 + p) = 0 := by rw [show (0 : Int32) = nI 0 from rfl, zv_nIeq (by omega) (by omega)]; omega
      rw [if_pos hp, if_pos hp, zv_nI5 p9, if_neg h5, if_neg h5, hG.1, zv_absd m9 hw, hGM.1, zv_x8_ap _ m9 hw, hG.2.1, hGM.2.1]
      simp only []
      rw [hGM.1, zv_x8_ap _ m9 hw]
      simp only []
      by_cases hd : nI (zv_dst m w) ≤ nI h / nI (5 + p)
      · rw [if_pos hd, if_neg (by rw [Int32.lt_iff_toInt_lt]; rw [Int32.le_iff_toInt_le] at hd; omega)]
        exact ⟨_, _, _, rfl, rfl, hR⟩
      · rw [if_neg hd, if_pos (by rw [Int32.lt_iff_toInt_lt]; rw [Int32.le_iff_toInt_le] at hd; omega)]
        exact ⟨_, _, _, rfl, rfl, hR⟩
    · rw [if_neg hp, if_neg hp]
      exact ⟨_, _, _, rfl, rfl, hR⟩
  · rw [if_neg hq, if_neg hq]
    exact ⟨_, _, _, rfl, rfl, hR⟩
/-- reaches with SAFE -/
abbrev zv_sfe (m h Z w p : Nat) : Prop := zv_dst m w * (5 + p) ≤ h ∧ Z ≤ h - zv_dst m w * (5 + p)
theorem zv_asX {k q : Nat} {cs : Nat → List zv_Cl} {a c m h t hm B Z : Nat} {Sx Sm X : St} (hL : zv_FL0 k q cs a c m h t hm B Z Sx Sm) (hX : zv_XT 2 q cs Sx X) {w p : Nat} (hw : w ≤ 99) (hp : p ≤ 9) :
    (zv_sfe m h Z w p → ∃ X', F_X7_arrivesSafely X (nI w) (nI p) = some (1, X') ∧ zv_XT 2 q cs Sx X' ∧ zv_GC X' 2 w (h - zv_dst m w * (5 + p)) (t + zv_dst m w * (10 - p))) ∧ (¬ zv_sfe m h Z w p → ∃ X', F_X7_arrivesSafely X (nI w) (nI p) = some (0, X') ∧ zv_XT 2 q cs Sx X') := by
  obtain ⟨hW, hF, hG, -, m9, h4, t1, -, -, ⟨Z9, eZ⟩⟩ := hL
  obtain ⟨X1, e1, x1, g1⟩ := zv_cpC hX hG
  obtain ⟨y1, y2⟩ := zv_glC x1 g1 m9 hw hp h4 (by omega)
  have hB := zv_dB m9 hw hp
  unfold F_X7_arrivesSafely
  rw [e1, zv_bndS]
  by_cases hd : zv_dst m w * (5 + p) ≤ h
  · obtain ⟨X2, e2, x2, g2⟩ := y1 hd
    rw [e2, zv_bndS, if_neg zv_z10, x2.2.2.2.2.1 5 (by decide), hF.2.2.2.2.2.2.1]
    simp only [Option.elim]
    rw [g2.2.1, x2.2.1 0 (by decide) (by decide), hF.2.2.1.2.2.2.2, eZ]
    by_cases hz : Z ≤ h - zv_dst m w * (5 + p)
    · rw [if_neg (by rw [zv_nIlt (by omega) (by omega)]; omega)]
      exact ⟨fun _ => ⟨X2, rfl, x2, g2⟩, fun n => absurd ⟨hd, hz⟩ n⟩
    · rw [if_pos (by rw [zv_nIlt (by omega) (by omega)]; omega)]
      exact ⟨fun s => absurd s.2 hz, fun _ => ⟨X2, rfl, x2⟩⟩
  · rw [y2 hd, zv_bndS, if_pos rfl]
    exact ⟨fun s => absurd s.1 hd, fun _ => ⟨X1, rfl, x1⟩⟩
theorem zv_sbZ {m h Z w p : Nat} (hm : m ≤ 99) (hw : w ≤ 99) (hp : p ≤ 9) (h4 : h ≤ 400) (hZ : Z ≤ 990) : (nI h - nI (zv_dst m w * (5 + p)) < 0 ↔ ¬ zv_dst m w * (5 + p) ≤ h) ∧ (zv_dst m w * (5 + p) ≤ h → (nI h - nI (zv_dst m w * (5 + p)) < nI Z ↔ ¬ Z ≤ h - zv_dst m w * (5 + p))) := by
  have hB := zv_dB hm hw hp
  constructor
  · rw [Int32.lt_iff_toInt_lt, zv_is_, zv_iN (by omega), zv_iN (by omega)]; simp only [Int32.reduceToInt]; omega
  · intro hd
    rw [zv_nIsb hd (by omega), zv_nIlt (by omega) (by omega)]; omega
theorem zv_crM {k q : Nat} {cs : Nat → List zv_Cl} {a c m h t hm B Z : Nat} {Sx Sm M : St} (hL : zv_FL0 k q cs a c m h t hm B Z Sx Sm) (hM : zv_MT Sm M) (hG : zv_GM M m h t) {l w p : Nat} (hl : l < c) (ew : gI Sm 24 0 l = nI w) (hw : w ≤ 99) (hp : p ≤ 9) : F_X8_canReach M (nI l) (nI p) = some (if zv_sfe m h Z w p then 1 else 0, M) := by
  obtain ⟨hW, hF, -, -, m9, h4, t1, -, -, ⟨Z9, eZ⟩⟩ := hL
  have hc := hF.2.1
  obtain ⟨s1, s2⟩ := zv_sbZ (m := m) (w := w) m9 hw hp h4 Z9
  unfold F_X8_canReach
  rw [if_pos (zv_gd (by omega)), zv_nIcl (by omega), hM.2.2.1 24 (by decide) (by decide), ew, hG.1, hG.2.1, zv_x8_falls M m9 hw hp, zv_bndS, zv_m_safe (zv_AVt hM hF.2.2.2.1), zv_bndS, eZ]
  by_cases hd : zv_dst m w * (5 + p) ≤ h
  · rw [if_neg (fun z => s1.mp z hd)]
    by_cases hz : Z ≤ h - zv_dst m w * (5 + p)
    · rw [if_neg (fun z => (s2 hd).mp z hz), if_pos (show zv_sfe m h Z w p from ⟨hd, hz⟩)]
    · rw [if_pos ((s2 hd).mpr hz), if_neg (show ¬ zv_sfe m h Z w p from fun z => hz z.2)]
  · rw [if_pos (s1.mpr hd), if_neg (show ¬ zv_sfe m h Z w p from fun z => hd z.1)]
theorem zv_soM {k q : Nat} {cs : Nat → List zv_Cl} {a c m h t hm B Z : Nat} {Sx Sm M : St} (hL : zv_FL0 k q cs a c m h t hm B Z Sx Sm) (hM : zv_MT Sm M) (hG : zv_GM M m h t) {p : Nat} (hp : p ≤ 9) : F_X8_straightOf M (nI p) = some (if zv_sfe m h Z hm p then nI (zv_dst m hm * (10 - p)) else -5, M) := by
  obtain ⟨hW, hF, -, -, m9, h4, t1, ⟨-, i2, i3⟩, -, ⟨Z9, eZ⟩⟩ := hL
  obtain ⟨s1, s2⟩ := zv_sbZ (m := m) (w := hm) m9 i3 hp h4 Z9
  have b3 := zv_dstB m9 i3
  have e5 : gI M 8 0 5 = nI hm := by rw [hM.2.2.2 0 5 (by omega), i2]
  unfold F_X8_straightOf
  rw [hG.1, hG.2.1, e5, zv_x8_falls M m9 i3 hp, zv_bndS, zv_m_safe (zv_AVt hM hF.2.2.2.1), zv_bndS, eZ, hG.1, e5, zv_x8_ap M m9 i3, zv_bndS, zv_nI10 hp, zv_nIm (by omega) (by omega)]
  by_cases hd : zv_dst m hm * (5 + p) ≤ h
  · rw [if_neg (fun z => s1.mp z hd)]
    by_cases hz : Z ≤ h - zv_dst m hm * (5 + p)
    · rw [if_pos (show zv_sfe m h Z hm p from ⟨hd, hz⟩), if_pos (by have := (s2 hd); rw [Int32.lt_iff_toInt_lt] at this; rw [Int32.le_iff_toInt_le]; omega)]
    · rw [if_neg (show ¬ zv_sfe m h Z hm p from fun z => hz z.2), if_neg (by have := (s2 hd); rw [Int32.lt_iff_toInt_lt] at this; rw [Int32.le_iff_toInt_le]; omega)]
  · rw [if_pos (s1.mpr hd), if_neg (show ¬ zv_sfe m h Z hm p from fun z => hd z.1)]
theorem zv_mlW {k q : Nat} {cs : Nat → List zv_Cl} {a c m h t hm B Z : Nat} {Sx Sm : St} (hL : zv_FL0 k q cs a c m h t hm B Z Sx Sm) {l : Nat} (hl : l < c) : ∃ w, w ≤ 99 ∧ gI Sm 24 0 l = nI w ∧ ∀ i0 X, zv_XT i0 q cs Sx X → gI X 3 l 4 = nI w := by
  have zv_hs := hL.2.1.2.2.2.2.1 l hl
  rw [Nat.zero_add] at zv_hs
  obtain ⟨w, w9, ew⟩ := zv_to99 (x := gI Sm 24 0 l) ⟨zv_hs.2.2.2.2.2.2.2.2.1, zv_hs.2.2.2.2.2.2.2.2.2.1⟩
  exact ⟨w, w9, ew, fun i0 X hX => by rw [hX.2.2.2.1 l 4 (by decide), zv_hs.2.2.1, ew]⟩
theorem m_straight {k : Nat} {Sx Sm : St} (hR : Rel k Sx Sm) (a1 : Int32) : ∃ (r : Int32) (Sx' Sm' : St), F_X7_straight Sx a1 = some (r, Sx') ∧ F_X8_straight Sm a1 = some (r, Sm') ∧ Rel k Sx' Sm' := by
  obtain ⟨q, cs, a, c, m, h, t, hm, B, Z, hL⟩ := zv_Rel_F hR
  have hL' := hL
  obtain ⟨hW, hF, hG, hGM, m9, h4, t1, ⟨i1, i2, i3⟩, -⟩ := hL'
  simp only [F_X7_straight, F_X8_straight, zv_x7_isP, zv_x8_isP, zv_bndS, zv_if10]
  by_cases hp : 1 ≤ a1 ∧ a1 ≤ 9
  · obtain ⟨p, p9, p1, rfl⟩ := zv_to9 hp
    have hB := zv_dB m9 i3 p9
    obtain ⟨y1, y2⟩ := zv_asX hL (zv_FLxr hL) i3 p9
    rw [if_pos hp, if_pos hp, zv_soM hL (zv_MTr _) hGM p9, i1]
    by_cases zv_hs : zv_sfe m h Z hm p
    · obtain ⟨X, e, x, g⟩ := y1 zv_hs
      rw [e, zv_bndS, zv_bndS, if_neg zv_z10, if_pos zv_hs, g.2.2, x.2.2.1 0 (by decide), hG.2.2, zv_nIsb (by omega) (by omega), Nat.add_sub_cancel_left]
      exact ⟨_, _, _, rfl, rfl, zv_FLend hL x (zv_MTr _) hGM⟩
    · obtain ⟨X, e, x⟩ := y2 zv_hs
      rw [e, zv_bndS, zv_bndS, if_pos rfl, if_neg zv_hs]
      exact ⟨_, _, _, rfl, rfl, zv_FLend hL x (zv_MTr _) hGM⟩
  · rw [if_neg hp, if_neg hp]
    exact ⟨_, _, _, rfl, rfl, hR⟩
theorem zv_hfX {k q : Nat} {cs : Nat → List zv_Cl} {a c m h t hm B Z i0 : Nat} {Sx Sm X : St} (hL : zv_FL0 k q cs a c m h t hm B Z Sx Sm) (hX : zv_XT i0 q cs Sx X) {v w p : Nat} (hv : v ≤ 99) (hw : w ≤ 99) (hp : p ≤ 9) : F_X7_heightFor X (nI v) (nI w) (nI p) = some (nI (zv_dst v w * (5 + p) + Z), X) := by
  obtain ⟨hW, hF, -, -, m9, h4, t1, -, -, ⟨Z9, eZ⟩⟩ := hL
  have hB := zv_dB hv hw hp
  have b3 := zv_dstB hv hw
  unfold F_X7_heightFor F_X2_sinkOfMile
  rw [zv_bndS, hX.2.2.2.2.1 5 (by decide), hF.2.2.2.2.2.2.1]
  simp only [Option.elim]
  rw [zv_absd hv hw, zv_nI5 hp, zv_nIm (by omega) (by omega), hX.2.1 0 (by decide) (by decide), hF.2.2.1.2.2.2.2, eZ, zv_nIa _ _ (by omega) (by omega)]
theorem m_lowest {k : Nat} {Sx Sm : St} (hR : Rel k Sx Sm) (a1 : Int32) (a2 : Int32) : ∃ (r : Int32) (Sx' Sm' : St), F_X7_lowest Sx a1 a2 = some (r, Sx') ∧ F_X8_lowest Sm a1 a2 = some (r, Sm') ∧ Rel k Sx' Sm' := by
  obtain ⟨q, cs, a, c, m, h, t, hm, B, Z, hL⟩ := zv_Rel_F hR
  have hL' := hL
  obtain ⟨hW, hF, hG, hGM, m9, h4, t1, -, -, ⟨Z9, eZ⟩⟩ := hL'
  have hc := hF.2.1
  simp only [F_X7_lowest, F_X8_lowest, zv_isLx hF rfl, zv_isLm hF rfl, zv_x7_isP, zv_x8_isP, zv_bndS, zv_if10]
  by_cases hq : 0 ≤ a1 ∧ a1 < nI c
  · obtain ⟨l, hl, rfl⟩ := zv_asN hq.1 hq.2 (by omega)
    obtain ⟨w, w9, ew, ex⟩ := zv_mlW hL hl
    rw [if_pos hq, if_pos hq]
    by_cases hp : 1 ≤ a2 ∧ a2 ≤ 9
    · obtain ⟨p, p9, p1, rfl⟩ := zv_to9 hp
      have hB := zv_dB m9 w9 p9
      rw [if_pos hp, if_pos hp, if_pos (zv_gd (by omega)), if_pos (zv_gd (by omega)), zv_nIcl (by omega), Nat.mul_zero, Nat.zero_add, ex 2 Sx (zv_FLxr hL), hG.1, zv_hfX hL (zv_FLxr hL (i0 := 2)) m9 w9 p9, zv_bndS, hGM.1, ew, zv_x8_falls Sm m9 w9 p9, zv_bndS, zv_m_safe hF.2.2.2.1, zv_bndS, eZ, zv_nIa _ _ (by omega) (by omega)]
      by_cases hd : nI (zv_dst m w * (5 + p) + Z) ≤ 400
      · rw [if_pos hd, if_pos hd]; exact ⟨_, _, _, rfl, rfl, hR⟩
      · rw [if_neg hd, if_neg hd]; exact ⟨_, _, _, rfl, rfl, hR⟩
    · rw [if_neg hp, if_neg hp]
      exact ⟨_, _, _, rfl, rfl, hR⟩
  · rw [if_neg hq, if_neg hq]
    exact ⟨_, _, _, rfl, rfl, hR⟩
theorem zv_nIpm1 {j : Nat} (h : j < 100000) : nI (j + 1) + 1 = nI (j + 2) := zv_nIs (j + 1) (by omega)
theorem m_top {k : Nat} {Sx Sm : St} (hR : Rel k Sx Sm) (a1 : Int32) (a2 : Int32) : ∃ (r : Int32) (Sx' Sm' : St), F_X7_top Sx a1 a2 = some (r, Sx') ∧ F_X8_top Sm a1 a2 = some (r, Sm') ∧ Rel k Sx' Sm' := by
  obtain ⟨q, cs, a, c, m, h, t, hm, B, Z, hL⟩ := zv_Rel_F hR
  have hL' := hL
  obtain ⟨hW, hF, hG, hGM, m9, h4, t1, -, ⟨B4, eB⟩, -⟩ := hL'
  have hc := hF.2.1
  show zv_RQ k _ _
  simp only [F_X7_top, F_X8_top, zv_isLx hF rfl, zv_isLm hF rfl, zv_x7_in, zv_x8_in, zv_bndS, zv_if10]
  by_cases hq : 0 ≤ a1 ∧ a1 < nI c
  · obtain ⟨l, hl, rfl⟩ := zv_asN hq.1 hq.2 (by omega)
    rw [if_pos hq, if_pos hq]
    by_cases hp : 0 ≤ a2 ∧ a2 ≤ 1
    · rw [if_pos hp, if_pos hp]
      obtain ⟨X1, e1, x1, g1⟩ := zv_cpC (zv_FLxr hL) hG
      obtain ⟨M1, e2, n1, k1, r1, -⟩ := zv_svM (zv_MTr Sm) hGM
      rw [e1, e2, zv_bndS, zv_bndS, g1.2.1, k1.2.1]
      generalize eKx : (fun (y3_15 y4_15 y5_15 : Int32) (T_15 : St) => if a2 = 0 then (some (y3_15, T_15)) else (some (y4_15, T_15))) = Kx
      generalize eKm : (fun (y3_15 y4_15 y5_15 : Int32) (T_15 : St) => bnd (F_X8_putBack T_15) (fun r16 S17 => if a2 = 0 then (some (y3_15, S17)) else (some (y4_15, S17)))) = Km
      refine zv_lp2 (fun n (p : Int32 × Int32 × Int32 × St) => L_X7_top_47 (nI l) Kx n p.1 p.2.1 p.2.2.1 p.2.2.2) (fun n (p : Int32 × Int32 × Int32 × St) => L_X8_top_35 (nI l) Km n p.1 p.2.1 p.2.2.1 p.2.2.2) 60
        (fun j a_ b_ => ∃ y z X M, a_ = (nI y, z, nI (j + 1), X) ∧ b_ = (nI y, z, nI (j + 1), M) ∧ y ≤ 400 ∧ zv_XT 2 q cs Sx X ∧ zv_GC X 2 m (zv_gm B (zv_CI (cs a) Sm l) j (h, t)).1 (t + j) ∧ zv_MT Sm M ∧ zv_GM M m (zv_gm B (zv_CI (cs a) Sm l) j (h, t)).1 (t + j) ∧ (gI M 8 0 29 = nI t ∧ gI M 8 0 30 = nI m ∧ gI M 8 0 31 = nI h))
        (zv_RQ k) ?_ ?_ 60 0 1000 1000 (nI h, 0, 1, X1) (nI h, 0, 1, M1) rfl (by decide) (by decide) ⟨h, 0, X1, M1, rfl, rfl, h4, x1, g1, n1, k1, r1⟩
      · rintro n n' j _ _ hj ⟨y, z, X, M, rfl, rfl, y4, hX, hGX, hM, hGM', hK⟩
        left
        have b4 := zv_gm1 (B := B) (C := zv_CI (cs a) Sm l) j (s := (h, t)) B4 h4
        have b2 := zv_gm2 B (zv_CI (cs a) Sm l) j (h, t)
        obtain ⟨X2, x2, g2, e3⟩ := zv_xc_circ hF hX hl b4 hGX B4 eB (n := 1) (by omega) (by omega)
        obtain ⟨M2, m2, g3, g4, e4⟩ := zv_mg_min hF hM hl b4 (by omega) hGM' B4 eB
        have es : (zv_gm B (zv_CI (cs a) Sm l) 1 ((zv_gm B (zv_CI (cs a) Sm l) j (h, t)).1, t + j)).1 = (zv_gm B (zv_CI (cs a) Sm l) (j + 1) (h, t)).1 := by
          show zv_hs B (zv_gm B (zv_CI (cs a) Sm l) j (h, t)).1 (zv_CI (cs a) Sm l (zv_gm B (zv_CI (cs a) Sm l) j (h, t)).1 (t + j)) = zv_hs B (zv_gm B (zv_CI (cs a) Sm l) j (h, t)).1 (zv_CI (cs a) Sm l (zv_gm B (zv_CI (cs a) Sm l) j (h, t)).1 (zv_gm B (zv_CI (cs a) Sm l) j (h, t)).2)
          rw [b2]
        have es' : zv_hs B (zv_gm B (zv_CI (cs a) Sm l) j (h, t)).1 (zv_CI (cs a) Sm l (zv_gm B (zv_CI (cs a) Sm l) j (h, t)).1 (t + j)) = (zv_gm B (zv_CI (cs a) Sm l) (j + 1) (h, t)).1 := es
        rw [es] at g2
        rw [es'] at g3
        have hK2 : gI M2 8 0 29 = nI t ∧ gI M2 8 0 30 = nI m ∧ gI M2 8 0 31 = nI h := by rw [g4 29 (by omega), g4 30 (by omega), g4 31 (by omega)]; exact hK
        have b5 := zv_gm1 (B := B) (C := zv_CI (cs a) Sm l) (j + 1) (s := (h, t)) B4 h4
        simp only []
        rw [L_X7_top_47.eq_2, L_X8_top_35.eq_2, if_neg (show ¬ (60 : Int32) < nI (j + 1) by rw [show (60 : Int32) = nI 60 from rfl, zv_nIlt (by omega) (by omega)]; omega), if_neg (show ¬ (61 : Int32) ≤ nI (j + 1) by rw [show (61 : Int32) = nI 61 from rfl, zv_nIle (by omega) (by omega)]; omega), if_pos (zv_gd (by omega)), hX.2.2.2.2.1 5 (by decide), hF.2.2.2.2.2.2.1, zv_nIcl (by omega)]
        simp only [Option.elim, Nat.mul_zero, Nat.zero_add]
        rw [show (1 : Int32) = nI 1 from rfl, e3, e4, zv_bndS, zv_bndS, g2.2.1, g3.2.1, show nI (j + 1) + nI 1 = nI (j + 2) from zv_nIs (j + 1) (by omega)]
        generalize (zv_gm B (zv_CI (cs a) Sm l) (j + 1) (h, t)).1 = v at *
        by_cases hv : v ≤ y
        · rw [if_pos ((zv_nIle (by omega) (by omega)).mpr hv), if_neg (by rw [zv_nIlt (by omega) (by omega)]; omega)]
          exact ⟨(nI y, z, nI (j + 2), X2), (nI y, z, nI (j + 2), M2), ⟨y, z, X2, M2, rfl, rfl, y4, x2, g2, m2, g3, hK2⟩, rfl, rfl⟩
        · rw [if_neg (fun w => hv ((zv_nIle (by omega) (by omega)).mp w)), if_pos (by rw [zv_nIlt (by omega) (by omega)]; omega)]
          exact ⟨(nI v, nI (j + 1), nI (j + 2), X2), (nI v, nI (j + 1), nI (j + 2), M2), ⟨v, nI (j + 1), X2, M2, rfl, rfl, b5, x2, g2, m2, g3, hK2⟩, rfl, rfl⟩
      · rintro n n' _ _ ⟨y, z, X, M, rfl, rfl, y4, hX, hGX, hM, hGM', hK⟩
        simp only []
        rw [L_X7_top_47.eq_2, L_X8_top_35.eq_2, if_pos (show (60 : Int32) < nI 61 by decide), if_pos (show (61 : Int32) ≤ nI 61 by decide)]
        subst eKx eKm
        obtain ⟨M2, e3, m2, g2, -⟩ := zv_pbM hM hK
        simp only []
        rw [e3, zv_bndS]
        by_cases h0 : a2 = 0
        · rw [if_pos h0, if_pos h0]; exact ⟨_, _, _, rfl, rfl, zv_FLend hL hX m2 g2⟩
        · rw [if_neg h0, if_neg h0]; exact ⟨_, _, _, rfl, rfl, zv_FLend hL hX m2 g2⟩
    · rw [if_neg hp, if_neg hp]
      exact ⟨_, _, _, rfl, rfl, hR⟩
  · rw [if_neg hq, if_neg hq]
    exact ⟨_, _, _, rfl, rfl, hR⟩
theorem zv_or0 (x : Int32) : x ||| 0 = x := by
  apply Int32.toBitVec_inj.mp
  rw [Int32.toBitVec_or]
  exact BitVec.or_zero
theorem m_reach {k : Nat} {Sx Sm : St} (hR : Rel k Sx Sm) (a1 : Int32) : ∃ (r : Int32) (Sx' Sm' : St), F_X7_reach Sx a1 = some (r, Sx') ∧ F_X8_reach Sm a1 = some (r, Sm') ∧ Rel k Sx' Sm' := by
  obtain ⟨q, cs, a, c, m, h, t, hm, B, Z, hL⟩ := zv_Rel_F hR
  have hL' := hL
  obtain ⟨hW, hF, hG, hGM, m9, h4, t1, -⟩ := hL'
  have hc := hF.2.1
  show zv_RQ k _ _
  simp only [F_X7_reach, F_X8_reach, zv_x7_isP, zv_x8_isP, zv_bndS, zv_if10]
  by_cases hp : 1 ≤ a1 ∧ a1 ≤ 9
  · obtain ⟨p, p9, p1, rfl⟩ := zv_to9 hp
    rw [if_pos hp, if_pos hp]
    refine zv_lp2 (fun n (z : Int32 × Int32 × St) => L_X7_reach_14 (nI p) (fun y2_6 y3_6 T_6 => some (y2_6, T_6)) n z.1 z.2.1 z.2.2) (fun n (z : Int32 × Int32 × St) => L_X8_reach_15 (nI p) (fun y2_6 y3_6 T_6 => some (y2_6, T_6)) n z.1 z.2.1 z.2.2) c
      (fun j a_ b_ => ∃ y X M, a_ = (y, nI j, X) ∧ b_ = (y, nI j, M) ∧ zv_RJ q cs Sx Sm m h t X M) (zv_RQ k) ?_ ?_ c 0 1000 1000 (0, 0, Sx) (0, 0, Sm) (by omega) (by omega) (by omega) ⟨0, Sx, Sm, rfl, rfl, zv_RJ0 hL⟩
    · rintro n n' j _ _ hj ⟨y, X, M, rfl, rfl, hX, hM, hGM'⟩
      left
      have hcj : ¬ nI c ≤ nI j := by rw [zv_nIle (by omega) (by omega)]; omega
      obtain ⟨w, w9, ew, ex⟩ := zv_mlW hL hj
      obtain ⟨y1, y2⟩ := zv_asX hL hX w9 p9
      simp only []
      rw [L_X7_reach_14.eq_2, L_X8_reach_15.eq_2, hX.2.1 5 (by decide) (by decide), hF.2.2.2.2.2.2.2.1, hM.2.2.2 0 0 (by omega), hF.2.2.2.2.2.2.2.2, if_neg hcj, if_neg hcj, if_pos (zv_gd (by omega)), zv_nIcl (by omega), Nat.mul_zero, Nat.zero_add, ex 2 X hX, zv_crM hL hM hGM' hj ew w9 p9, zv_bndS, zv_nIs j (by omega)]
      by_cases zv_hs : zv_sfe m h Z w p
      · obtain ⟨X2, e, x, g⟩ := y1 zv_hs
        rw [e, zv_bndS, if_neg zv_z10, if_pos zv_hs, if_neg zv_z10]
        exact ⟨(_, nI (j + 1), X2), (_, nI (j + 1), M), ⟨_, X2, M, rfl, rfl, x, hM, hGM'⟩, rfl, rfl⟩
      · obtain ⟨X2, e, x⟩ := y2 zv_hs
        rw [e, zv_bndS, if_pos rfl, if_neg zv_hs, if_pos rfl, zv_or0]
        exact ⟨(_, nI (j + 1), X2), (_, nI (j + 1), M), ⟨_, X2, M, rfl, rfl, x, hM, hGM'⟩, rfl, rfl⟩
    · rintro n n' _ _ ⟨y, X, M, rfl, rfl, hX, hM, hGM'⟩
      simp only []
      rw [L_X7_reach_14.eq_2, L_X8_reach_15.eq_2, hX.2.1 5 (by decide) (by decide), hF.2.2.2.2.2.2.2.1, hM.2.2.2 0 0 (by omega), hF.2.2.2.2.2.2.2.2, if_pos (Int32.le_refl _), if_pos (Int32.le_refl _)]
      exact ⟨_, _, _, rfl, rfl, zv_FLend hL hX hM hGM'⟩
  · rw [if_neg hp, if_neg hp]
    exact ⟨_, _, _, rfl, rfl, hR⟩
theorem m_next {k : Nat} {Sx Sm : St} (hR : Rel k Sx Sm) (a1 : Int32) : ∃ (r : Int32) (Sx' Sm' : St), F_X7_next Sx a1 = some (r, Sx') ∧ F_X8_next Sm a1 = some (r, Sm') ∧ Rel k Sx' Sm' := by
  obtain ⟨q, cs, a, c, m, h, t, hm, B, Z, hL⟩ := zv_Rel_F hR
  have hL' := hL
  obtain ⟨hW, hF, hG, hGM, m9, h4, t1, -⟩ := hL'
  have hc := hF.2.1
  show zv_RQ k _ _
  simp only [F_X7_next, F_X8_next, zv_x7_isP, zv_x8_isP, zv_bndS, zv_if10]
  by_cases hp : 1 ≤ a1 ∧ a1 ≤ 9
  · obtain ⟨p, p9, p1, rfl⟩ := zv_to9 hp
    rw [if_pos hp, if_pos hp]
    refine zv_lp2 (fun n (z : Int32 × Int32 × Int32 × St) => L_X7_next_18 (nI p) (fun y2_6 y3_6 y4_6 T_6 => some (y2_6, T_6)) n z.1 z.2.1 z.2.2.1 z.2.2.2) (fun n (z : Int32 × Int32 × Int32 × St) => L_X8_next_19 (nI p) (fun y2_6 y3_6 y4_6 T_6 => some (y2_6, T_6)) n z.1 z.2.1 z.2.2.1 z.2.2.2) c
      (fun j a_ b_ => ∃ y z X M, a_ = (y, z, nI j, X) ∧ b_ = (y, z, nI j, M) ∧ (y = -5 ∨ 0 ≤ y) ∧ zv_RJ q cs Sx Sm m h t X M) (zv_RQ k) ?_ ?_ c 0 1000 1000 (-5, 0, 0, Sx) (-5, 0, 0, Sm) (by omega) (by omega) (by omega) ⟨-5, 0, Sx, Sm, rfl, rfl, .inl rfl, zv_RJ0 hL⟩
    · rintro n n' j _ _ hj ⟨y, z, X, M, rfl, rfl, hy, hX, hM, hGM'⟩
      left
      have hcj : ¬ nI c ≤ nI j := by rw [zv_nIle (by omega) (by omega)]; omega
      obtain ⟨w, w9, ew, ex⟩ := zv_mlW hL hj
      obtain ⟨y1, y2⟩ := zv_asX hL hX w9 p9
      have hB := zv_dB m9 w9 p9
      simp only []
      rw [L_X7_next_18.eq_2, L_X8_next_19.eq_2, hX.2.1 5 (by decide) (by decide), hF.2.2.2.2.2.2.2.1, hM.2.2.2 0 0 (by omega), hF.2.2.2.2.2.2.2.2, if_neg hcj, if_neg hcj, if_pos (zv_gd (by omega)), zv_nIcl (by omega), Nat.mul_zero, Nat.zero_add, ex 2 X hX, zv_crM hL hM hGM' hj ew w9 p9, zv_bndS, zv_nIs j (by omega)]
      by_cases zv_hs : zv_sfe m h Z w p
      · obtain ⟨X2, e, x, g⟩ := y1 zv_hs
        rw [e, zv_bndS, if_neg zv_z10, if_pos zv_hs, if_neg zv_z10, x.2.2.2.2.1 5 (by decide), hF.2.2.2.2.2.2.1]
        simp only [Option.elim]
        obtain ⟨M2, e2, m2, g2, k2, -⟩ := zv_svM hM hGM'
        obtain ⟨o1, -⟩ := zv_glM (p := p) m2 g2 m9 w9 p9 h4 (by omega)
        obtain ⟨M3, e3, m3, g3, k3⟩ := o1 zv_hs.1
        obtain ⟨r, X3, M4, e4, e5, -, x3, x4⟩ := zv_cxm hF x m3 hj (t := t + zv_dst m w * (10 - p)) (by omega) g3.2.1 g3.2.2
        have k4 : gI M4 8 0 29 = nI t ∧ gI M4 8 0 30 = nI m ∧ gI M4 8 0 31 = nI h := by
          rw [x4.2.2 8 (by decide), k3 29 (by omega), k3 30 (by omega), k3 31 (by omega)]; exact k2
        obtain ⟨M5, e6, m5, g5, -⟩ := zv_pbM (zv_MTc m3 x4) k4
        rw [g.2.1, g.2.2, e4, zv_bndS, e2, zv_bndS, if_pos (zv_ge' (by omega) (by omega)), m2.2.2.1 24 (by decide) (by decide), ew, e3, zv_bndS, e5, zv_bndS, e6, zv_bndS]
        have hX3 := zv_XTc x x3
        rcases hy with rfl | hy
        · rw [if_pos rfl, if_pos (by decide)]
          exact ⟨(_, _, nI (j + 1), X3), (_, _, nI (j + 1), M5), ⟨_, _, X3, M5, rfl, rfl, .inr (zv_nI0 j (by omega)), hX3, m5, g5⟩, rfl, rfl⟩
        · rw [if_neg (show ¬ y = -5 by rintro rfl; exact absurd hy (by decide)), if_neg (show ¬ y < 0 by rw [Int32.lt_iff_toInt_lt]; rw [Int32.le_iff_toInt_le] at hy; omega)]
          by_cases hr : r ≤ z
          · rw [if_pos hr, if_neg (show ¬ z < r by rw [Int32.lt_iff_toInt_lt]; rw [Int32.le_iff_toInt_le] at hr; omega)]
            exact ⟨(_, _, nI (j + 1), X3), (_, _, nI (j + 1), M5), ⟨_, _, X3, M5, rfl, rfl, .inr hy, hX3, m5, g5⟩, rfl, rfl⟩
          · rw [if_neg hr, if_pos (show z < r by rw [Int32.lt_iff_toInt_lt]; rw [Int32.le_iff_toInt_le] at hr; omega)]
            exact ⟨(_, _, nI (j + 1), X3), (_, _, nI (j + 1), M5), ⟨_, _, X3, M5, rfl, rfl, .inr (zv_nI0 j (by omega)), hX3, m5, g5⟩, rfl, rfl⟩
      · obtain ⟨X2, e, x⟩ := y2 zv_hs
        rw [e, zv_bndS, if_pos rfl, if_neg zv_hs, if_pos rfl]
        exact ⟨(_, _, nI (j + 1), X2), (_, _, nI (j + 1), M), ⟨_, _, X2, M, rfl, rfl, hy, x, hM, hGM'⟩, rfl, rfl⟩
    · rintro n n' _ _ ⟨y, z, X, M, rfl, rfl, hy, hX, hM, hGM'⟩
      simp only []
      rw [L_X7_next_18.eq_2, L_X8_next_19.eq_2, hX.2.1 5 (by decide) (by decide), hF.2.2.2.2.2.2.2.1, hM.2.2.2 0 0 (by omega), hF.2.2.2.2.2.2.2.2, if_pos (Int32.le_refl _), if_pos (Int32.le_refl _)]
      exact ⟨_, _, _, rfl, rfl, zv_FLend hL hX hM hGM'⟩
  · rw [if_neg hp, if_neg hp]
    exact ⟨_, _, _, rfl, rfl, hR⟩
theorem zv_SRg {q : Nat} {Sx S' : St} {lf mi ml hi mi' ml' hi' is hm the lg sn bk : Int32} {kd v wh pl rw lw ln sm bw bc : Nat → Int32} (h : zv_SR q 0 Sx lf mi ml hi is hm the lg sn bk kd v wh pl rw lw ln sm bw bc)
    (e2 : zv_SG (gI S' 2 0) mi' ml' hi') (e : ∀ f, f ≠ 3 → f ≠ 2 → gI S' f = gI Sx f) (e3 : ∀ i j, j < 6 → gI S' 3 i j = gI Sx 3 i j) (eR : gR S' 5 = gR Sx 5) : zv_SR q 0 S' lf mi' ml' hi' is hm the lg sn bk kd v wh pl rw lw ln sm bw bc := by
  obtain ⟨c, u1, u2, u3, u4, u5, u6, u7⟩ := h
  unfold zv_SR
  rw [eR, e 5 (by decide) (by decide), e 4 (by decide) (by decide), e 14 (by decide) (by decide), e 15 (by decide) (by decide)]
  exact ⟨c, u1, zv_SLx u2 e3 (e 13 (by decide) (by decide)), e2, u4, u5, u6, u7⟩
theorem zv_RWg {k q : Nat} {cs : Nat → List zv_Cl} {Sx Sm X M : St} {m h t : Nat} (hW : zv_RW k q cs Sx Sm) (hX : zv_XT 0 q cs Sx X) (hM : zv_MT Sm M) (gX : zv_GC X 0 m h t) (gM : zv_GM M m h t) (m9 : m ≤ 99) (h4 : h ≤ 400) (t9 : t ≤ 9999) : zv_RW k q cs X M := by
  have hSG : zv_SG (gI X 2 0) (gI M 8 0 1) (gI M 8 0 2) (gI M 8 0 3) := by
    obtain ⟨a1, a2, a3⟩ := gX
    obtain ⟨b1, b2, b3⟩ := gM
    have cv : ∀ n N : Nat, n ≤ N → N < 100000 → nI n ≤ nI N := fun n N h1 h2 => (zv_nIle (by omega) (by omega)).mpr h1
    unfold zv_SG
    rw [a1, a2, a3, b1, b2, b3]
    exact ⟨rfl, rfl, rfl, zv_nI0 _ (by omega), cv t 9999 t9 (by decide), zv_nI0 _ (by omega), cv m 99 m9 (by decide), zv_nI0 _ (by omega), cv h 400 h4 (by decide)⟩
  obtain ⟨w1, w2, w3, w4, w5, w6, w7, zv_w8, w9, w10, w11, w12⟩ := hW
  obtain ⟨x1, x2, x3, x4, x5, x6⟩ := hX
  obtain ⟨y1, y2, y3, y4⟩ := hM
  unfold zv_RW
  rw [x1, x5 9 (by decide), x2 7 (by decide) (by decide), x2 0 (by decide) (by decide), x2 16 (by decide) (by decide), x2 1 (by decide) (by decide), x2 17 (by decide) (by decide), x2 10 (by decide) (by decide), x2 6 (by decide) (by decide),
    y1, y4 0 11 (by omega), y4 0 13 (by omega), y4 0 65 (by omega), y4 0 44 (by omega), y3 27 (by decide) (by decide), y3 28 (by decide) (by decide), y3 29 (by decide) (by decide), y3 30 (by decide) (by decide), y3 31 (by decide) (by decide), y3 32 (by decide) (by decide), y3 33 (by decide) (by decide), y3 35 (by decide) (by decide), y3 52 (by decide) (by decide), y3 53 (by decide) (by decide), y3 54 (by decide) (by decide)]
  refine ⟨w1, w2, w3, w4, w5, w6, w7, zv_w8, fun i hi => ?_, x6, ?_, ?_⟩
  · rw [x4 i 0 (by decide)]; exact w9 i hi
  · unfold zv_S0 at *
    rw [y4 0 0 (by omega), y4 0 4 (by omega), y4 0 5 (by omega), y4 0 12 (by omega), y4 0 36 (by omega), y4 0 39 (by omega), y4 0 41 (by omega), y3 22 (by decide) (by decide), y3 23 (by decide) (by decide), y3 24 (by decide) (by decide), y3 25 (by decide) (by decide), y3 26 (by decide) (by decide), y3 37 (by decide) (by decide), y3 38 (by decide) (by decide), y3 39 (by decide) (by decide), y3 40 (by decide) (by decide), y3 41 (by decide) (by decide)]
    exact zv_SRg w11 hSG x2 x4 (x5 5 (by decide))
  · unfold zv_S1 at *
    rw [y4 0 45 (by omega), y4 0 46 (by omega), y4 0 47 (by omega), y4 0 48 (by omega), y4 0 49 (by omega), y4 0 50 (by omega), y4 0 51 (by omega), y4 0 52 (by omega), y4 0 53 (by omega), y4 0 54 (by omega), y3 42 (by decide) (by decide), y3 43 (by decide) (by decide), y3 44 (by decide) (by decide), y3 45 (by decide) (by decide), y3 46 (by decide) (by decide), y3 47 (by decide) (by decide), y3 48 (by decide) (by decide), y3 49 (by decide) (by decide), y3 50 (by decide) (by decide), y3 51 (by decide) (by decide)]
    exact zv_SRx w12 (x3 1 (by decide)) x2 x4 (x5 5 (by decide))
theorem m_turn {k : Nat} {Sx Sm : St} (hR : Rel k Sx Sm) (a1 : Int32) : ∃ (r : Int32) (Sx' Sm' : St), F_X7_turn Sx a1 = some (r, Sx') ∧ F_X8_turn Sm a1 = some (r, Sm') ∧ Rel k Sx' Sm' := by
  obtain ⟨q, cs, a, c, m, h, t, hm, B, Z, hL⟩ := zv_Rel_F hR
  have hL' := hL
  obtain ⟨hW, hF, hG, hGM, m9, h4, t1, -, ⟨B4, eB⟩, -⟩ := hL'
  have hc := hF.2.1
  obtain ⟨c', u1, -, -, u4, -⟩ := hW.2.2.2.2.2.2.2.2.2.2.1
  have ec : nI c' = nI c := by rw [← u1.2.1]; exact hF.2.2.2.2.2.2.2.1
  obtain rfl : c = c' := Eq.symm <| (zv_nIeq (by have := u1.1; omega) (by omega)).mp ec
  simp only [F_X7_turn, F_X8_turn, zv_x7_in, zv_x8_isT, zv_isLx hF rfl, zv_bndS, zv_if10]
  by_cases hn : 0 ≤ a1 ∧ a1 ≤ 60
  · obtain ⟨n, n6, rfl⟩ := zv_to60 hn
    rw [if_pos hn, if_pos hn]
    rcases u4 with ⟨q1, q2⟩ | ⟨q1, q2, q3⟩
    · rw [q1, q2, if_neg (show ¬ (0 ≤ (-5 : Int32) ∧ (-5 : Int32) < nI c) from fun z => absurd z.1 (by decide)), if_pos (show (-1 : Int32) < 0 by decide)]
      exact ⟨_, _, _, rfl, rfl, hR⟩
    · obtain ⟨l, hl, el⟩ := zv_asN q2 q3 (by omega)
      rw [el] at q2 q3
      rw [q1, el, if_pos ⟨q2, q3⟩, if_neg (show ¬ nI l < 0 by rw [Int32.lt_iff_toInt_lt]; rw [Int32.le_iff_toInt_le] at q2; omega), hG.2.2, hGM.2.2, zv_nIa t n (by omega) (by omega)]
      by_cases hb : nI (t + n) ≤ 9999
      · have hb' : t + n ≤ 9999 := (zv_nIle (by omega) (by decide)).mp hb
        rw [if_pos hb, if_pos hb, if_pos (zv_gd (by omega)), hF.2.2.2.2.2.2.1, zv_nIcl (by omega)]
        simp only [Option.elim, Nat.mul_zero, Nat.zero_add]
        obtain ⟨X, x1, g1, e1⟩ := zv_xc_circ hF (zv_FLxr hL) hl h4 hG B4 eB (n := n) (by omega) (by omega)
        obtain ⟨M, ⟨i1, i2, i3⟩, e2⟩ := zv_lpI (L_X8_turn_35 (nI n) (fun y2_8 T_8 => some (gI T_8 8 0 3, T_8))) (fun y2_8 T_8 => some (gI T_8 8 0 3, T_8)) n
          (fun j T => zv_MT Sm T ∧ zv_GM T m (zv_gm B (zv_CI (cs a) Sm l) j (h, t)).1 (t + j) ∧ gI T 8 0 4 = nI l)
          (fun fuel j T hj hI => by
            obtain ⟨T', y1, y2, y4, y3⟩ := zv_mg_min hF hI.1 hl (zv_gm1 j B4 h4) (by omega) hI.2.1 B4 eB
            refine ⟨T', ⟨y1, ?_, by rw [y1.2.2.2 0 4 (by omega), el]⟩, ?_⟩
            · have e2 := zv_gm2 B (zv_CI (cs a) Sm l) j (h, t)
              show zv_GM T' m (zv_hs B (zv_gm B (zv_CI (cs a) Sm l) j (h, t)).1 (zv_CI (cs a) Sm l (zv_gm B (zv_CI (cs a) Sm l) j (h, t)).1 (zv_gm B (zv_CI (cs a) Sm l) j (h, t)).2)) (t + (j + 1))
              rw [e2]
              exact y2
            · rw [L_X8_turn_35.eq_2, if_neg (by rw [zv_nIle (by omega) (by omega)]; omega), hI.2.2, y3, zv_nIs j (by omega)]; rfl)
          (fun fuel T _ => by rw [L_X8_turn_35.eq_2, if_pos (Int32.le_refl _)]) n 0 1000 Sm (by omega) (by omega) ⟨zv_MTr _, hGM, el⟩
        rw [e1, zv_bndS, show (0 : Int32) = nI 0 from rfl, e2, g1.2.1, i2.2.1]
        exact ⟨_, _, _, rfl, rfl, q, cs, zv_RWg hW x1 i1 g1 i2 m9 (zv_gm1 n B4 h4) hb'⟩
      · rw [if_neg hb, if_neg hb]
        exact ⟨_, _, _, rfl, rfl, hR⟩
  · rw [if_neg hn, if_neg hn]
    exact ⟨_, _, _, rfl, rfl, hR⟩
theorem m_glide {k : Nat} {Sx Sm : St} (hR : Rel k Sx Sm) (a1 : Int32) (a2 : Int32) : ∃ (r : Int32) (Sx' Sm' : St), F_X7_glide Sx a1 a2 = some (r, Sx') ∧ F_X8_glide Sm a1 a2 = some (r, Sm') ∧ Rel k Sx' Sm' := by
  obtain ⟨q, cs, a, c, m, h, t, hm, B, Z, hL⟩ := zv_Rel_F hR
  have hL' := hL
  obtain ⟨hW, hF, hG, hGM, m9, h4, t1, -⟩ := hL'
  simp only [F_X7_glide, F_X8_glide, zv_x7_isM, zv_x8_isM, zv_x7_isP, zv_x8_isP, zv_bndS, zv_if10]
  by_cases hq : 0 ≤ a1 ∧ a1 ≤ 99
  · obtain ⟨w, hw, rfl⟩ := zv_to99 hq
    rw [if_pos hq, if_pos hq]
    by_cases hp : 1 ≤ a2 ∧ a2 ≤ 9
    · obtain ⟨p, p9, p1, rfl⟩ := zv_to9 hp
      rw [if_pos hp, if_pos hp]
      have hB := zv_dB m9 hw p9
      have b3 := zv_dstB m9 hw
      obtain ⟨X1, e1, x1, g1⟩ := zv_cpC (zv_FLxr hL) hG
      obtain ⟨y1, y2⟩ := zv_glC x1 g1 m9 hw p9 h4 (by omega)
      obtain ⟨o1, o2⟩ := zv_glM (p := p) (zv_MTr Sm) hGM m9 hw p9 h4 (by omega)
      rw [e1, zv_bndS, hGM.1, hGM.2.2, zv_x8_ap Sm m9 hw, zv_bndS, zv_nI10 p9, zv_nIm (by omega) (by omega), zv_nIa t _ (by omega) (by omega)]
      by_cases hd : zv_dst m w * (5 + p) ≤ h
      · obtain ⟨X2, e2, x2, g2⟩ := y1 hd
        obtain ⟨M2, e3, m2, k2, -⟩ := o1 hd
        rw [e2, zv_bndS, if_neg zv_z10, g2.2.2]
        by_cases hb : nI (t + zv_dst m w * (10 - p)) ≤ 9999
        · have hb' : t + zv_dst m w * (10 - p) ≤ 9999 := (zv_nIle (by omega) (by decide)).mp hb
          rw [if_pos hb, if_neg (show ¬ (9999 : Int32) < nI (t + zv_dst m w * (10 - p)) by rw [Int32.lt_iff_toInt_lt]; rw [Int32.le_iff_toInt_le] at hb; omega), e3, zv_bndS, if_neg zv_z10]
          have hW2 := zv_RWx hW x2
          have eX : F_X2_copyFrom X2 0 2 = some ((), sI (sI (sI X2 2 0 0 (nI w)) 2 0 1 (nI (h - zv_dst m w * (5 + p)))) 2 0 2 (nI (t + zv_dst m w * (10 - p)))) := by
            unfold F_X2_copyFrom
            simp only [gI_sI, zv_gI_f, zv_gI_i, gI_sI, zv_gJ_f, zv_gIc_f, zv_gIc_i, zv_kJ_sI, zv_kR_sI, zv_kI_sJ, zv_kR_sJ, zv_kI_sR, zv_kJ_sR, zv_kJ_cI, zv_kR_cI, zv_kI_cJ, zv_kR_cJ, ne_eq, Nat.reduceEqDiff, Nat.reduceMul, Nat.reduceAdd, not_false_eq_true, not_true_eq_false, false_and, and_false, and_true, true_and, and_self, reduceIte, Nat.one_ne_zero, Nat.zero_ne_one, Nat.zero_add, Nat.mul_zero, g2.1, g2.2.1, g2.2.2]
          have hW3 := zv_RWg hW2 (zv_XTs (zv_XTs (zv_XTs (zv_XTr hW2.2.2.2.2.2.2.2.2.2.1) _ _) _ _) _ _) m2 zv_GCs k2 hw (by omega) hb'
          rw [eX, zv_bndS]
          have er : gI (sI (sI (sI (sI X2 2 0 0 (nI w)) 2 0 1 (nI (h - zv_dst m w * (5 + p)))) 2 0 2 (nI (t + zv_dst m w * (10 - p)))) 5 0 6 (-5)) 2 0 1 = gI (sI M2 8 0 4 (-1)) 8 0 3 := by
            rw [gI_sI, gI_sI, gI_sI]
            simp only [gI_sI, zv_gI_f, zv_gI_i, gI_sI, zv_gJ_f, zv_gIc_f, zv_gIc_i, zv_kJ_sI, zv_kR_sI, zv_kI_sJ, zv_kR_sJ, zv_kI_sR, zv_kJ_sR, zv_kJ_cI, zv_kR_cI, zv_kI_cJ, zv_kR_cJ, ne_eq, Nat.reduceEqDiff, Nat.reduceMul, Nat.reduceAdd, not_false_eq_true, not_true_eq_false, false_and, and_false, and_true, true_and, and_self, reduceIte, Nat.one_ne_zero, Nat.zero_ne_one, Nat.zero_add, Nat.mul_zero]
            exact k2.2.1.symm
          generalize (sI (sI (sI X2 2 0 0 (nI w)) 2 0 1 (nI (h - zv_dst m w * (5 + p)))) 2 0 2 (nI (t + zv_dst m w * (10 - p)))) = X3 at *
          refine ⟨_, _, _, rfl, by rw [er], q, cs, ?_⟩
          obtain ⟨w1, w2, w3, w4, w5, w6, w7, zv_w8, w9, w10, ⟨c', u1, u2, u3, u4, u5, u6, u7, u8, u9, u10, u11⟩, w12⟩ := hW3
          simp only [zv_RW, zv_S0, zv_S1, zv_SR, gI_sI, zv_gI_f, zv_gI_i, gI_sI, zv_gJ_f, zv_gIc_f, zv_gIc_i, zv_kJ_sI, zv_kR_sI, zv_kI_sJ, zv_kR_sJ, zv_kI_sR, zv_kJ_sR, zv_kJ_cI, zv_kR_cI, zv_kI_cJ, zv_kR_cJ, ne_eq, Nat.reduceEqDiff, Nat.reduceMul, Nat.reduceAdd, not_false_eq_true, not_true_eq_false, false_and, and_false, and_true, true_and, and_self, reduceIte, Nat.one_ne_zero, Nat.zero_ne_one, Nat.zero_add, Nat.mul_zero]
          exact ⟨w1, w2, w3, w4, w5, w6, w7, zv_w8, w9, w10, ⟨c', u1, u2, u3, .inl ⟨rfl, rfl⟩, u5, u6, u7, u8, u9, u10, u11⟩, w12⟩
        · rw [if_neg hb, if_pos (show (9999 : Int32) < nI (t + zv_dst m w * (10 - p)) by rw [Int32.lt_iff_toInt_lt]; rw [Int32.le_iff_toInt_le] at hb; omega)]
          exact ⟨_, _, _, rfl, rfl, zv_FLend hL x2 (zv_MTr _) hGM⟩
      · rw [y2 hd, zv_bndS, if_pos rfl]
        by_cases hb : (9999 : Int32) < nI (t + zv_dst m w * (10 - p))
        · rw [if_pos hb]
          exact ⟨_, _, _, rfl, rfl, zv_FLend hL x1 (zv_MTr _) hGM⟩
        · rw [if_neg hb, o2 hd, zv_bndS, if_pos rfl]
          exact ⟨_, _, _, rfl, rfl, zv_FLend hL x1 (zv_MTr _) hGM⟩
    · rw [if_neg hp, if_neg hp]
      exact ⟨_, _, _, rfl, rfl, hR⟩
  · rw [if_neg hq, if_neg hq]
    exact ⟨_, _, _, rfl, rfl, hR⟩
