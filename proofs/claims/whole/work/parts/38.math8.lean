def zv_pm (T : Nat → Int32) (n i : Nat) : Int32 := if i < n then T i else -1
theorem zv_pmC {T : Nat → Int32} {n : Nat} (hT : zv_TB T n) (i : Nat) {c : Int32} (h : 0 ≤ c ∧ c ≤ 127) : zv_pm T n i = c ↔ zv_pk T n i = c := by
  unfold zv_pm zv_pk
  by_cases q : i < n
  · rw [if_pos q, if_pos q]
  · rw [if_neg q, if_neg q]
    exact ⟨fun z => absurd (z ▸ h.1) (by decide), fun z => absurd (z ▸ h.2) (by decide)⟩
theorem zv_pmI {T : Nat → Int32} {n : Nat} (i : Nat) {a b : Int32} (h : 0 ≤ a) (h2 : b ≤ 127) : (a ≤ zv_pm T n i ∧ zv_pm T n i ≤ b) ↔ (a ≤ zv_pk T n i ∧ zv_pk T n i ≤ b) := by
  unfold zv_pm zv_pk
  by_cases q : i < n
  · rw [if_pos q, if_pos q]
  · rw [if_neg q, if_neg q]
    rw [Int32.le_iff_toInt_le] at h h2
    simp only [Int32.le_iff_toInt_le, Int32.reduceToInt] at *
    omega
def zv_cnt : List Nat → Nat
  | [] => 0
  | x :: s => (if x = 33 ∨ x = 40 then 1 else 0) + zv_cnt s
def zv_bng : List Nat → Nat
  | [] => 0
  | x :: s => if x = 33 then zv_bng s + 1 else 0
def zv_MB (T : Nat → Int32) (n q c : Nat) (zv_S0 : St) : Prop := zv_TB T n ∧ gI zv_S0 8 0 13 = nI n ∧ (∀ i, i < n → gI zv_S0 27 0 i = T i) ∧ q ≤ 5 ∧ c < 60
def zv_MS (n q c : Nat) (zv_S0 : St) (σ : List Nat) (G : List Int32) (i : Nat) (S : St) : Prop := gJ S = gJ zv_S0 ∧ gR S = gR zv_S0 ∧ (∀ f, f ≠ 8 → f ≠ 32 → f ≠ 33 → f ≠ 34 → gI S f = gI zv_S0 f) ∧ (∀ a b, ¬ (a = 0 ∧ (b = 14 ∨ b = 15 ∨ b = 24 ∨ b = 25 ∨ b = 26)) → gI S 8 a b = gI zv_S0 8 a b) ∧ (∀ r, r ≠ c → gI S 32 0 r = gI zv_S0 32 0 r) ∧ (∀ r, r < 100 * q → gI S 33 0 r = gI zv_S0 33 0 r) ∧
  gI S 8 0 14 = nI i ∧ gI S 8 0 24 = nI (100 * q + G.length) ∧ (∀ r, r < G.length → gI S 33 0 (100 * q + r) = zv_tkM (G.getD r 0)) ∧ gI S 8 0 25 = nI σ.length ∧ gI S 8 0 26 = nI (zv_cnt σ) ∧ (∀ r, r < σ.length → gI S 34 0 r = nI (σ.getD (σ.length - 1 - r) 0)) ∧ i ≤ n
theorem zv_MSg {n q c : Nat} {zv_S0 : St} {σ : List Nat} {G : List Int32} {i : Nat} {S : St} (h : zv_MS n q c zv_S0 σ G i S) : gI S 8 0 14 = nI i ∧ gI S 8 0 24 = nI (100 * q + G.length) ∧ gI S 8 0 25 = nI σ.length ∧ gI S 8 0 26 = nI (zv_cnt σ) ∧ i ≤ n := ⟨h.2.2.2.2.2.2.1, h.2.2.2.2.2.2.2.1, h.2.2.2.2.2.2.2.2.2.1, h.2.2.2.2.2.2.2.2.2.2.1, h.2.2.2.2.2.2.2.2.2.2.2.2⟩
theorem zv_m_peek {T : Nat → Int32} {n q c : Nat} {zv_S0 : St} {i : Nat} {S : St} (hB : zv_MB T n q c zv_S0) (e13 : gI S 8 0 13 = gI zv_S0 8 0 13) (e27 : gI S 27 = gI zv_S0 27) (e14 : gI S 8 0 14 = nI i) (hi : i ≤ n) : F_X8_peek S = some (zv_pm T n i, S) := by
  obtain ⟨⟨b1, b2⟩, b3, b4, b5, b6⟩ := hB
  unfold F_X8_peek zv_pm
  rw [e13, b3, e14]
  by_cases h : i < n
  · rw [if_neg (show ¬ nI n ≤ nI i by rw [zv_nIle (by omega) (by omega)]; omega), if_pos (zv_gd (by omega)), zv_nIcl (by omega), e27, b4 i h, if_pos h]
  · rw [if_pos (show nI n ≤ nI i by rw [zv_nIle (by omega) (by omega)]; omega), if_neg h]
theorem zv_m_pk {T : Nat → Int32} {n q c : Nat} {zv_S0 : St} {σ : List Nat} {G : List Int32} {i : Nat} {S : St} (hB : zv_MB T n q c zv_S0) (h : zv_MS n q c zv_S0 σ G i S) : F_X8_peek S = some (zv_pm T n i, S) :=
  zv_m_peek hB (h.2.2.2.1 0 13 (by omega)) (h.2.2.1 27 (by decide) (by decide) (by decide) (by decide)) (zv_MSg h).1 (zv_MSg h).2.2.2.2
/-- only the place and the number move -/
theorem zv_MSa {n q c : Nat} {zv_S0 : St} {σ : List Nat} {G : List Int32} {i i' : Nat} {S : St} (h : zv_MS n q c zv_S0 σ G i S) (hi : i ≤ i') (hn : i' ≤ n) : zv_MS n q c zv_S0 σ G i' (sI S 8 0 14 (nI i')) := by
  obtain ⟨s1, s2, s3, s4, s5, s6, s7, s8, s9, s10, s11, s12, s13⟩ := h
  refine ⟨s1, s2, fun f a b c d => by rw [zv_gI_f a]; exact s3 f a b c d, fun a b hq => ?_, fun r hr => by rw [zv_gI_f (by decide)]; exact s5 r hr, fun r hr => by rw [zv_gI_f (by decide)]; exact s6 r hr, by rw [gI_sI, if_pos ⟨rfl, rfl, rfl⟩], by rw [gI_sI, if_neg (by omega)]; exact s8, fun r hr => by rw [zv_gI_f (by decide)]; exact s9 r hr, by rw [gI_sI, if_neg (by omega)]; exact s10, by rw [gI_sI, if_neg (by omega)]; exact s11, fun r hr => by rw [zv_gI_f (by decide)]; exact s12 r hr, hn⟩
  rw [gI_sI, if_neg (by rintro ⟨-, h1, h2⟩; exact hq ⟨h1, .inl h2⟩)]; exact s4 a b hq
theorem zv_MSd {n q c : Nat} {zv_S0 : St} {σ : List Nat} {G : List Int32} {i : Nat} {S : St} (h : zv_MS n q c zv_S0 σ G i S) (x : Int32) : zv_MS n q c zv_S0 σ G i (sI S 8 0 15 x) := by
  obtain ⟨s1, s2, s3, s4, s5, s6, s7, s8, s9, s10, s11, s12, s13⟩ := h
  refine ⟨s1, s2, fun f a b c d => by rw [zv_gI_f a]; exact s3 f a b c d, fun a b hq => ?_, fun r hr => by rw [zv_gI_f (by decide)]; exact s5 r hr, fun r hr => by rw [zv_gI_f (by decide)]; exact s6 r hr, by rw [gI_sI, if_neg (by omega)]; exact s7, by rw [gI_sI, if_neg (by omega)]; exact s8, fun r hr => by rw [zv_gI_f (by decide)]; exact s9 r hr, by rw [gI_sI, if_neg (by omega)]; exact s10, by rw [gI_sI, if_neg (by omega)]; exact s11, fun r hr => by rw [zv_gI_f (by decide)]; exact s12 r hr, s13⟩
  rw [gI_sI, if_neg (by rintro ⟨-, h1, h2⟩; exact hq ⟨h1, .inr (.inl h2)⟩)]; exact s4 a b hq
/-- a token comes -/
theorem zv_m_emit {n q c : Nat} {zv_S0 : St} {σ : List Nat} {G : List Int32} {i : Nat} {S : St} (hq : q ≤ 5) (hn : n ≤ 100) (h : zv_MS n q c zv_S0 σ G i S) (hl : G.length < 100) (v : Int32) : ∃ S', F_X8_emits S (zv_tkM v) = some ((), S') ∧ zv_MS n q c zv_S0 σ (G ++ [v]) i S' := by
  obtain ⟨s1, s2, s3, s4, s5, s6, s7, s8, s9, s10, s11, s12, s13⟩ := h
  unfold F_X8_emits
  rw [s8, if_pos (zv_gd (by omega)), zv_nIcl (by omega)]
  refine ⟨_, rfl, s1, s2, fun f a b c d => by rw [zv_gI_f a, zv_gI_f c]; exact s3 f a b c d, fun a b hz => ?_, fun r hr => by rw [zv_gI_f (by decide), zv_gI_f (by decide)]; exact s5 r hr, fun r hr => ?_, by rw [gI_sI, if_neg (by omega), zv_gI_f (by decide)]; exact s7, ?_, fun r hr => ?_, by rw [gI_sI, if_neg (by omega), zv_gI_f (by decide)]; exact s10, by rw [gI_sI, if_neg (by omega), zv_gI_f (by decide)]; exact s11, fun r hr => by rw [zv_gI_f (by decide), zv_gI_f (by decide)]; exact s12 r hr, s13⟩
  · rw [gI_sI, if_neg (by rintro ⟨-, h1, h2⟩; exact hz ⟨h1, .inr (.inr (.inl h2))⟩), zv_gI_f (by decide)]; exact s4 a b hz
  · rw [zv_gI_f (by decide), gI_sI, if_neg (by omega)]; exact s6 r hr
  · rw [gI_sI, if_pos ⟨rfl, rfl, rfl⟩, zv_gI_f (by decide), s8, zv_nIs _ (by omega), List.length_append]; rfl
  · rw [List.length_append, List.length_singleton] at hr
    rw [zv_gI_f (by decide), gI_sI]
    by_cases hz : r = G.length
    · rw [if_pos ⟨rfl, rfl, by omega⟩, hz]
      exact congrArg zv_tkM (zv_getD_app_r (l := G) (r := [v]) (j := 0)).symm
    · rw [if_neg (by omega), s9 r (by omega), zv_getD_app_l (by omega)]
theorem zv_sgd {x : Nat} {σ : List Nat} {r : Nat} (h : r < σ.length) : (x :: σ).getD ((x :: σ).length - 1 - r) 0 = σ.getD (σ.length - 1 - r) 0 := by
  rw [List.length_cons, show σ.length + 1 - 1 - r = (σ.length - 1 - r) + 1 by omega]; rfl
theorem zv_sgt {x : Nat} {σ : List Nat} : (x :: σ).getD ((x :: σ).length - 1 - σ.length) 0 = x := by
  rw [List.length_cons, show σ.length + 1 - 1 - σ.length = 0 by omega]; rfl
/-- a sign waits -/
theorem zv_MSp {n q c : Nat} {zv_S0 : St} {σ : List Nat} {G : List Int32} {i : Nat} {S : St} (h : zv_MS n q c zv_S0 σ G i S) (hin : i < n) (x : Nat) {y : Int32} (hy : y = nI (zv_cnt (x :: σ))) : zv_MS n q c zv_S0 (x :: σ) G (i + 1) (sI (sI (sI (sI S 8 0 26 y) 34 0 σ.length (nI x)) 8 0 25 (nI (σ.length + 1))) 8 0 14 (nI (i + 1))) := by
  obtain ⟨s1, s2, s3, s4, s5, s6, s7, s8, s9, s10, s11, s12, s13⟩ := h
  refine ⟨s1, s2, fun f a b c d => by rw [zv_gI_f a, zv_gI_f a, zv_gI_f d, zv_gI_f a]; exact s3 f a b c d, fun a b hz => ?_, fun r hr => by rw [zv_gI_f (by decide), zv_gI_f (by decide), zv_gI_f (by decide), zv_gI_f (by decide)]; exact s5 r hr, fun r hr => by rw [zv_gI_f (by decide), zv_gI_f (by decide), zv_gI_f (by decide), zv_gI_f (by decide)]; exact s6 r hr, by rw [gI_sI, if_pos ⟨rfl, rfl, rfl⟩], ?_, fun r hr => by rw [zv_gI_f (by decide), zv_gI_f (by decide), zv_gI_f (by decide), zv_gI_f (by decide)]; exact s9 r hr, ?_, ?_, fun r hr => ?_, by omega⟩
  · rw [gI_sI, if_neg (by rintro ⟨-, h1, h2⟩; exact hz ⟨h1, .inl h2⟩), gI_sI, if_neg (by rintro ⟨-, h1, h2⟩; exact hz ⟨h1, .inr (.inr (.inr (.inl h2)))⟩), zv_gI_f (by decide), gI_sI, if_neg (by rintro ⟨-, h1, h2⟩; exact hz ⟨h1, .inr (.inr (.inr (.inr h2)))⟩)]; exact s4 a b hz
  · rw [gI_sI, if_neg (by omega), gI_sI, if_neg (by omega), zv_gI_f (by decide), gI_sI, if_neg (by omega)]; exact s8
  · rw [gI_sI, if_neg (by omega), gI_sI, if_pos ⟨rfl, rfl, rfl⟩]; rfl
  · rw [gI_sI, if_neg (by omega), gI_sI, if_neg (by omega), zv_gI_f (by decide), gI_sI, if_pos ⟨rfl, rfl, rfl⟩]; exact hy
  · rw [List.length_cons] at hr
    rw [zv_gI_f (by decide), zv_gI_f (by decide), gI_sI]
    by_cases hz : r = σ.length
    · rw [if_pos ⟨rfl, rfl, hz⟩, hz, zv_sgt]
    · rw [if_neg (by omega), zv_gI_f (by decide), s12 r (by omega), zv_sgd (by omega)]
/-- the newest sign goes -/
theorem zv_MSo {n q c : Nat} {zv_S0 : St} {x : Nat} {σ : List Nat} {G : List Int32} {i : Nat} {S : St} (h : zv_MS n q c zv_S0 (x :: σ) G i S) {y : Int32} (hy : y = nI (zv_cnt σ)) : zv_MS n q c zv_S0 σ G i (sI (sI S 8 0 25 (nI σ.length)) 8 0 26 y) := by
  obtain ⟨s1, s2, s3, s4, s5, s6, s7, s8, s9, s10, s11, s12, s13⟩ := h
  refine ⟨s1, s2, fun f a b c d => by rw [zv_gI_f a, zv_gI_f a]; exact s3 f a b c d, fun a b hz => ?_, fun r hr => by rw [zv_gI_f (by decide), zv_gI_f (by decide)]; exact s5 r hr, fun r hr => by rw [zv_gI_f (by decide), zv_gI_f (by decide)]; exact s6 r hr, by rw [gI_sI, if_neg (by omega), gI_sI, if_neg (by omega)]; exact s7, by rw [gI_sI, if_neg (by omega), gI_sI, if_neg (by omega)]; exact s8, fun r hr => by rw [zv_gI_f (by decide), zv_gI_f (by decide)]; exact s9 r hr, by rw [gI_sI, if_neg (by omega), gI_sI, if_pos ⟨rfl, rfl, rfl⟩], by rw [gI_sI, if_pos ⟨rfl, rfl, rfl⟩]; exact hy, fun r hr => ?_, s13⟩
  · rw [gI_sI, if_neg (by rintro ⟨-, h1, h2⟩; exact hz ⟨h1, .inr (.inr (.inr (.inr h2)))⟩), gI_sI, if_neg (by rintro ⟨-, h1, h2⟩; exact hz ⟨h1, .inr (.inr (.inr (.inl h2)))⟩)]; exact s4 a b hz
  · rw [zv_gI_f (by decide), zv_gI_f (by decide), s12 r (by rw [List.length_cons]; omega), zv_sgd hr]
theorem zv_MStop {n q c : Nat} {zv_S0 : St} {x : Nat} {σ : List Nat} {G : List Int32} {i : Nat} {S : St} (h : zv_MS n q c zv_S0 (x :: σ) G i S) : gI S 34 0 σ.length = nI x := by
  rw [h.2.2.2.2.2.2.2.2.2.2.2.1 σ.length (by rw [List.length_cons]; omega), zv_sgt]
theorem zv_sIself {S : St} {f i j : Nat} {x : Int32} (h : gI S f i j = x) : sI S f i j x = S := by
  unfold sI gI at *
  refine Prod.ext ?_ rfl
  funext a b c
  simp only []
  split
  · rename_i q
    obtain ⟨rfl, rfl, rfl⟩ := q
    exact h.symm
  · rfl
def zv_PB (T : Nat → Int32) (n : Nat) (S : St) : Prop := zv_TB T n ∧ gI S 8 0 13 = nI n ∧ (∀ i, i < n → gI S 27 0 i = T i)
def zv_NF (S S' : St) : Prop := gJ S' = gJ S ∧ gR S' = gR S ∧ (∀ f, f ≠ 8 → gI S' f = gI S f) ∧ (∀ a b, ¬ (a = 0 ∧ (b = 14 ∨ b = 15)) → gI S' 8 a b = gI S 8 a b)
theorem zv_NFr (S : St) : zv_NF S S := ⟨rfl, rfl, fun _ _ => rfl, fun _ _ _ => rfl⟩
theorem zv_NFt {A B C : St} (h1 : zv_NF A B) (h2 : zv_NF B C) : zv_NF A C := ⟨h2.1.trans h1.1, h2.2.1.trans h1.2.1, fun f h => (h2.2.2.1 f h).trans (h1.2.2.1 f h), fun a b h => (h2.2.2.2 a b h).trans (h1.2.2.2 a b h)⟩
theorem zv_NFs {A B : St} (h : zv_NF A B) {j : Nat} (hj : j = 14 ∨ j = 15) (x : Int32) : zv_NF A (sI B 8 0 j x) := ⟨h.1, h.2.1, fun f hf => by rw [zv_gI_f hf]; exact h.2.2.1 f hf, fun a b q => by rw [gI_sI, if_neg (by rintro ⟨-, h1, rfl⟩; exact q ⟨h1, hj⟩)]; exact h.2.2.2 a b q⟩
theorem zv_PBn {T : Nat → Int32} {n : Nat} {S S' : St} (h : zv_PB T n S) (hf : zv_NF S S') : zv_PB T n S' := ⟨h.1, by rw [hf.2.2.2 0 13 (by omega)]; exact h.2.1, fun i hi => by rw [hf.2.2.1 27 (by decide)]; exact h.2.2 i hi⟩
theorem zv_PBm {T : Nat → Int32} {n q c : Nat} {zv_S0 S : St} {σ : List Nat} {G : List Int32} {i : Nat} (hB : zv_MB T n q c zv_S0) (h : zv_MS n q c zv_S0 σ G i S) : zv_PB T n S := ⟨hB.1, by rw [h.2.2.2.1 0 13 (by omega)]; exact hB.2.1, fun i hi => by rw [h.2.2.1 27 (by decide) (by decide) (by decide) (by decide)]; exact hB.2.2.1 i hi⟩
theorem zv_MSn {n q c : Nat} {zv_S0 S S' : St} {σ : List Nat} {G : List Int32} {i i' : Nat} (h : zv_MS n q c zv_S0 σ G i S) (hf : zv_NF S S') (e : gI S' 8 0 14 = nI i') (hn : i' ≤ n) : zv_MS n q c zv_S0 σ G i' S' := by
  obtain ⟨s1, s2, s3, s4, s5, s6, s7, s8, s9, s10, s11, s12, s13⟩ := h
  obtain ⟨f1, f2, f3, f4⟩ := hf
  refine ⟨f1.trans s1, f2.trans s2, fun f a b c d => (f3 f a).trans (s3 f a b c d), fun a b hz => ?_, fun r hr => by rw [f3 32 (by decide)]; exact s5 r hr, fun r hr => by rw [f3 33 (by decide)]; exact s6 r hr, e, by rw [f4 0 24 (by omega)]; exact s8, fun r hr => by rw [f3 33 (by decide)]; exact s9 r hr, by rw [f4 0 25 (by omega)]; exact s10, by rw [f4 0 26 (by omega)]; exact s11, fun r hr => by rw [f3 34 (by decide)]; exact s12 r hr, hn⟩
  rw [f4 a b (fun z => hz ⟨z.1, z.2.elim .inl (fun y => .inr (.inl y))⟩)]; exact s4 a b hz
theorem zv_p_peek {T : Nat → Int32} {n i : Nat} {S : St} (hP : zv_PB T n S) (e : gI S 8 0 14 = nI i) (hi : i ≤ n) : F_X8_peek S = some (zv_pm T n i, S) := zv_m_peek (q := 0) (c := 0) (zv_S0 := S) ⟨hP.1, hP.2.1, hP.2.2, by decide, by decide⟩ rfl rfl e hi
theorem zv_p_tk {T : Nat → Int32} {n i : Nat} {S : St} (hP : zv_PB T n S) (e : gI S 8 0 14 = nI i) (hi : i ≤ n) {ch : Int32} (hc : 0 ≤ ch ∧ ch ≤ 127) : (zv_pk T n i = ch → F_X8_takes S ch = some (1, sI S 8 0 14 (nI (i + 1)))) ∧ (¬ zv_pk T n i = ch → F_X8_takes S ch = some (0, S)) := by
  have hn := hP.1.1
  unfold F_X8_takes
  rw [zv_p_peek hP e hi, zv_bndS, e, zv_nIs i (by omega)]
  exact ⟨fun h => if_pos ((zv_pmC hP.1 i hc).mpr h), fun h => if_neg (fun z => h ((zv_pmC hP.1 i hc).mp z))⟩
theorem zv_p_dig {T : Nat → Int32} {n i : Nat} {S : St} (hP : zv_PB T n S) (e : gI S 8 0 14 = nI i) (hi : i ≤ n) : (zv_dgt (zv_pk T n i) = none → F_X8_isDigit S = some (0, S)) ∧ (∀ d, zv_dgt (zv_pk T n i) = some d → F_X8_isDigit S = some (1, S) ∧ zv_pm T n i = nI (d + 48) ∧ d ≤ 9 ∧ i < n) := by
  unfold F_X8_isDigit
  rw [zv_p_peek hP e hi, zv_bndS, zv_x8_in, zv_bndS]
  have hI := zv_pmI (T := T) (n := n) i (show (0 : Int32) ≤ 48 by decide) (show (57 : Int32) ≤ 127 by decide)
  constructor
  · intro h
    have : ¬ (48 ≤ zv_pk T n i ∧ zv_pk T n i ≤ 57) := by
      intro z
      unfold zv_dgt at h
      rw [if_pos z] at h; cases h
    rw [if_neg (fun z => this (hI.mp z))]
  · intro d h
    obtain ⟨b1, b2⟩ := zv_dgB h
    obtain ⟨m, hm, em, -, -⟩ := zv_pkN hP.1 i
    unfold zv_dgt at h
    split at h
    · rename_i z
      rw [if_pos (hI.mpr z)]
      refine ⟨rfl, ?_, b2, b1⟩
      cases h
      have e2 : zv_pm T n i = zv_pk T n i := by unfold zv_pm zv_pk; rw [if_pos b1, if_pos b1]
      have z1 := z.1
      rw [em] at z1
      have := (zv_nIle (a := 48) (by omega) (by omega)).mp z1
      rw [e2, em, zv_nIcl (by omega)]
      congr 1; omega
    · cases h
theorem zv_p_num {T : Nat → Int32} {n i : Nat} {S : St} (hP : zv_PB T n S) (e : gI S 8 0 14 = nI i) (hi : i ≤ n) : (zv_numP T n i = none → F_X8_takesNumber S = some (0, S)) ∧ (∀ z, zv_numP T n i = some z → ∃ S', F_X8_takesNumber S = some (1, S') ∧ zv_NF S S' ∧ gI S' 8 0 14 = nI z.2 ∧ gI S' 8 0 15 = nI z.1) := by
  have hn := hP.1.1
  obtain ⟨d1, d2⟩ := zv_p_dig hP e hi
  unfold F_X8_takesNumber zv_numP
  cases h1 : zv_dgt (zv_pk T n i) with
  | none =>
    rw [d1 h1, zv_bndS, if_pos rfl]
    exact ⟨fun _ => rfl, fun z y => (nomatch y)⟩
  | some d =>
    obtain ⟨a1, a2, a3, a4⟩ := d2 d h1
    have f0 : zv_NF S (sI S 8 0 15 0) := zv_NFs (zv_NFr S) (.inr rfl) 0
    have e0 : gI (sI S 8 0 15 0) 8 0 14 = nI i := by rw [gI_sI, if_neg (by omega)]; exact e
    have e15 : gI (sI S 8 0 15 0) 8 0 15 = 0 := by rw [gI_sI, if_pos ⟨rfl, rfl, rfl⟩]
    rw [a1, zv_bndS, if_neg zv_z10]
    generalize sI S 8 0 15 0 = zv_S1 at *
    have hP1 := zv_PBn hP f0
    obtain ⟨g1, g2⟩ := zv_p_dig hP1 e0 hi
    obtain ⟨b1, b2, -, -⟩ := g2 d h1
    rw [L_X8_takesNumber_16.eq_2, if_neg (show ¬ (2 : Int32) ≤ 0 by decide), b1, zv_bndS, if_neg zv_z10, zv_p_peek hP1 e0 hi, zv_bndS, e15, b2]
    have ev : (10 : Int32) * 0 + nI (d + 48) - 48 = nI d := by
      rw [show (10 : Int32) * 0 = 0 by decide, Int32.zero_add, show (48 : Int32) = nI 48 from rfl, zv_nIsb (by omega) (by omega)]
      congr 1 <;> omega
    have e14 : gI (sI zv_S1 8 0 15 (nI d)) 8 0 14 + 1 = nI (i + 1) := by rw [gI_sI, if_neg (by omega), e0, zv_nIs i (by omega)]
    rw [ev, e14]
    have f2 : zv_NF S (sI (sI zv_S1 8 0 15 (nI d)) 8 0 14 (nI (i + 1))) := zv_NFs (zv_NFs f0 (.inr rfl) _) (.inl rfl) _
    have e2 : gI (sI (sI zv_S1 8 0 15 (nI d)) 8 0 14 (nI (i + 1))) 8 0 14 = nI (i + 1) := by rw [gI_sI, if_pos ⟨rfl, rfl, rfl⟩]
    have e25 : gI (sI (sI zv_S1 8 0 15 (nI d)) 8 0 14 (nI (i + 1))) 8 0 15 = nI d := by rw [gI_sI, if_neg (by omega), gI_sI, if_pos ⟨rfl, rfl, rfl⟩]
    generalize (sI (sI zv_S1 8 0 15 (nI d)) 8 0 14 (nI (i + 1))) = S2 at *
    have hP2 := zv_PBn hP f2
    obtain ⟨g3, g4⟩ := zv_p_dig hP2 e2 (by omega)
    rw [L_X8_takesNumber_16.eq_2, if_neg (show ¬ (2 : Int32) ≤ 0 + 1 by decide)]
    simp only []
    cases h2 : zv_dgt (zv_pk T n (i + 1)) with
    | none =>
      rw [g3 h2, zv_bndS, if_pos rfl]
      exact ⟨fun y => (nomatch y), fun z y => by cases y; exact ⟨S2, rfl, f2, e2, e25⟩⟩
    | some f =>
      obtain ⟨zv_c1, c2, c3, c4⟩ := g4 f h2
      rw [zv_c1, zv_bndS, if_neg zv_z10, zv_p_peek hP2 e2 (by omega), zv_bndS, e25, c2]
      have ev2 : (10 : Int32) * nI d + nI (f + 48) - 48 = nI (10 * d + f) := by
        rw [zv_nIm10 d (by omega), zv_nIa _ _ (by omega) (by omega), show (48 : Int32) = nI 48 from rfl, zv_nIsb (by omega) (by omega)]
        congr 1 <;> omega
      have e142 : gI (sI S2 8 0 15 (nI (10 * d + f))) 8 0 14 + 1 = nI (i + 2) := by rw [gI_sI, if_neg (by omega), e2, zv_nIs (i + 1) (by omega)]
      rw [ev2, e142, L_X8_takesNumber_16.eq_2, if_pos (show (2 : Int32) ≤ 0 + 1 + 1 by decide)]
      exact ⟨fun y => (nomatch y), fun z y => by cases y; exact ⟨_, rfl, zv_NFs (zv_NFs f2 (.inr rfl) _) (.inl rfl) _, by rw [gI_sI, if_pos ⟨rfl, rfl, rfl⟩], by rw [gI_sI, if_neg (by omega), gI_sI, if_pos ⟨rfl, rfl, rfl⟩]⟩⟩
/-! the waiting signs -/
def zv_wf (σ : List Nat) : Prop := ∀ x, x ∈ σ → x < 1000
theorem zv_cntC (x : Nat) (s : List Nat) : zv_cnt (x :: s) = (if x = 33 ∨ x = 40 then 1 else 0) + zv_cnt s := rfl
theorem zv_cntL : ∀ σ : List Nat, zv_cnt σ ≤ σ.length
  | [] => Nat.le_refl _
  | x :: s => by
    have := zv_cntL s
    unfold zv_cnt
    rw [List.length_cons]
    split <;> omega
theorem zv_m_whL {n q c : Nat} {zv_S0 : St} {i : Nat} (hq : q ≤ 5) (hn : n ≤ 100) : ∀ (σ : List Nat) (G : List Int32) (S : St) (fuel : Nat), σ.length < fuel → zv_wf σ → zv_MS n q c zv_S0 σ G i S → G.length + σ.length ≤ 100 → ∃ S', L_X8_whole_0 (fun T_1 => some ((), T_1)) fuel S = some ((), S') ∧ zv_MS n q c zv_S0 (σ.drop (zv_bng σ)) (G ++ List.replicate (zv_bng σ) 6000) i S' := by
  intro σ
  induction σ with
  | nil =>
    intro G S fuel hf hw h hb
    obtain ⟨fu, rfl⟩ : ∃ z, fuel = z + 1 := ⟨fuel - 1, by simp at hf; omega⟩
    rw [L_X8_whole_0.eq_2, (zv_MSg h).2.2.1, if_pos (show nI ([] : List Nat).length ≤ 0 by decide)]
    exact ⟨S, rfl, by rw [show zv_bng [] = 0 from rfl, List.replicate_zero, List.append_nil]; exact h⟩
  | cons x σ ih =>
    intro G S fuel hf hw h hb
    simp only [List.length_cons] at hf hb
    obtain ⟨fu, rfl⟩ : ∃ z, fuel = z + 1 := ⟨fuel - 1, by omega⟩
    have hx := hw x List.mem_cons_self
    have e25 : gI S 8 0 25 = nI (σ.length + 1) := (zv_MSg h).2.2.1
    rw [L_X8_whole_0.eq_2, e25, if_neg (show ¬ nI (σ.length + 1) ≤ 0 by rw [show (0 : Int32) = nI 0 from rfl, zv_nIle (by omega) (by omega)]; omega), zv_nIq _ (by omega), if_pos (zv_gd (by omega)), zv_nIcl (by omega), zv_MStop h]
    by_cases h33 : x = 33
    · subst h33
      rw [if_pos (show nI 33 = 33 from rfl)]
      obtain ⟨zv_S1, e1, h1⟩ := zv_m_emit hq hn h (by omega) 6000
      rw [zv_tk33] at e1
      have hc : zv_cnt (33 :: σ) = zv_cnt σ + 1 := by rw [zv_cntC, if_pos (.inl rfl)]; omega
      have c25 : gI zv_S1 8 0 25 = nI (σ.length + 1) := (zv_MSg h1).2.2.1
      have c26 : gI zv_S1 8 0 26 = nI (zv_cnt σ + 1) := by rw [(zv_MSg h1).2.2.2.1, hc]
      have hcl := zv_cntL σ
      have e26 : gI (sI zv_S1 8 0 25 (nI σ.length)) 8 0 26 - 1 = nI (zv_cnt σ) := by rw [gI_sI, if_neg (by omega), c26, zv_nIq _ (by omega)]
      rw [e1, zv_bndS, c25, zv_nIq _ (by omega), e26]
      obtain ⟨S2, e2, h2⟩ := ih (G ++ [6000]) _ fu (by omega) (fun y hy => hw y (List.mem_cons_of_mem _ hy)) (zv_MSo h1 rfl) (by rw [List.length_append, List.length_singleton]; omega)
      rw [e2]
      refine ⟨S2, rfl, ?_⟩
      have hb33 : zv_bng (33 :: σ) = zv_bng σ + 1 := by show (if 33 = 33 then zv_bng σ + 1 else 0) = _; rw [if_pos rfl]
      rw [hb33, List.drop_succ_cons, List.replicate_succ, show (6000 : Int32) :: List.replicate (zv_bng σ) 6000 = [6000] ++ List.replicate (zv_bng σ) 6000 from rfl, ← List.append_assoc]
      exact h2
    · rw [if_neg (show ¬ nI x = 33 by rw [show (33 : Int32) = nI 33 from rfl, zv_nIeq (by omega) (by omega)]; exact h33)]
      have hb0 : zv_bng (x :: σ) = 0 := by show (if x = 33 then zv_bng σ + 1 else 0) = _; rw [if_neg h33]
      exact ⟨S, rfl, by rw [hb0, List.replicate_zero, List.append_nil]; exact h⟩
theorem zv_m_whole {n q c : Nat} {zv_S0 : St} {i : Nat} (hq : q ≤ 5) (hn : n ≤ 100) {σ : List Nat} {G : List Int32} {S : St} (hw : zv_wf σ) (h : zv_MS n q c zv_S0 σ G i S) (hb : G.length + σ.length ≤ 100) : ∃ S', F_X8_whole S = some ((), S') ∧ zv_MS n q c zv_S0 (σ.drop (zv_bng σ)) (G ++ List.replicate (zv_bng σ) 6000) i S' := zv_m_whL hq hn σ G S 1000 (by omega) hw h hb
def zv_p7 (pa : Bool) : List Int32 := if pa then [7000] else []
def zv_stk (pa wt : Bool) (base : List Nat) : List Nat := (if pa then [38] else []) ++ ((if wt then [124] else []) ++ base)
def zv_baseok (base : List Nat) : Prop := base = [] ∨ ∃ b, base = 40 :: b
theorem zv_se_pop {n q c : Nat} {zv_S0 : St} {i : Nat} (hq : q ≤ 5) (hn : n ≤ 100) {x : Nat} {σ : List Nat} {G : List Int32} {S : St} (h : zv_MS n q c zv_S0 (x :: σ) G i S) (hb : G.length + σ.length < 100) {a : Int32} (hx : x = 38 ∨ (x = 124 ∧ ¬ a = 38)) (K : St → Option (Unit × St)) (fu : Nat) : ∃ S', L_X8_settle_0 a K (fu + 1) S = L_X8_settle_0 a K fu S' ∧ zv_MS n q c zv_S0 σ (G ++ [if x = 38 then 7000 else 8000]) i S' := by
  have e25 : gI S 8 0 25 = nI (σ.length + 1) := (zv_MSg h).2.2.1
  have hc : zv_cnt (x :: σ) = zv_cnt σ := by rw [zv_cntC, if_neg (by omega)]; omega
  have h1 := zv_MSo h (y := nI (zv_cnt σ)) rfl
  rw [zv_sIself (by rw [gI_sI, if_neg (by omega), (zv_MSg h).2.2.2.1, hc])] at h1
  have et : gI (sI S 8 0 25 (nI σ.length)) 34 0 σ.length = nI x := by rw [zv_gI_f (by decide), zv_MStop h]
  have ec : gI (sI S 8 0 25 (nI σ.length)) 8 0 25 = nI σ.length := by rw [gI_sI, if_pos ⟨rfl, rfl, rfl⟩]
  have hlen : σ.length < 101 := by omega
  rw [L_X8_settle_0.eq_2, e25, if_neg (show ¬ nI (σ.length + 1) ≤ 0 by rw [show (0 : Int32) = nI 0 from rfl, zv_nIle (by omega) (by omega)]; omega), zv_nIq _ (by omega), if_pos (zv_gd hlen), zv_nIcl (by omega), zv_MStop h, ec, zv_nIcl (by omega), et]
  obtain ⟨S2, e2, h2⟩ := zv_m_emit hq hn h1 (by omega) (if x = 38 then 7000 else 8000)
  rcases hx with rfl | ⟨rfl, ha⟩
  · rw [if_pos rfl, zv_tk38] at e2
    rw [if_pos (show nI 38 = 38 from rfl), if_pos (zv_ge' hlen (by omega)), show -(nI 38) = -38 by decide, e2, zv_bndS]
    exact ⟨S2, rfl, h2⟩
  · rw [if_neg (by decide), zv_tk124] at e2
    rw [if_neg (show ¬ nI 124 = 38 by decide), if_pos (zv_ge' hlen (by omega)), if_pos (show nI 124 = 124 from rfl), if_neg ha, if_pos (zv_ge' hlen (by omega)), show -(nI 124) = -124 by decide, e2, zv_bndS]
    exact ⟨S2, rfl, h2⟩
theorem zv_se_stop {n q c : Nat} {zv_S0 : St} {i : Nat} {σ : List Nat} {G : List Int32} {S : St} (h : zv_MS n q c zv_S0 σ G i S) (hl : σ.length ≤ 100) {a : Int32} (hx : zv_baseok σ ∨ (a = 38 ∧ ∃ b, σ = 124 :: b)) (K : St → Option (Unit × St)) (fu : Nat) : L_X8_settle_0 a K (fu + 1) S = K S := by
  rw [L_X8_settle_0.eq_2]
  rcases σ with _ | ⟨x, σ⟩
  · rw [(zv_MSg h).2.2.1, if_pos (show nI ([] : List Nat).length ≤ 0 by decide)]
  · have e25 : gI S 8 0 25 = nI (σ.length + 1) := (zv_MSg h).2.2.1
    rw [List.length_cons] at hl
    rw [e25, if_neg (show ¬ nI (σ.length + 1) ≤ 0 by rw [show (0 : Int32) = nI 0 from rfl, zv_nIle (by omega) (by omega)]; omega), zv_nIq _ (by omega), if_pos (zv_gd (by omega)), zv_nIcl (by omega), zv_MStop h]
    rcases hx with hx | ⟨ha, b, hx⟩
    · rcases hx with hx | ⟨b, hx⟩
      · cases hx
      · cases hx
        rw [if_neg (show ¬ nI 40 = 38 by decide), if_pos (zv_ge' (by omega) (by omega)), if_neg (show ¬ nI 40 = 124 by decide)]
    · cases hx
      rw [if_neg (show ¬ nI 124 = 38 by decide), if_pos (zv_ge' (by omega) (by omega)), if_pos (show nI 124 = 124 from rfl), if_pos ha]
theorem zv_m_set38 {n q c : Nat} {zv_S0 : St} {i : Nat} (hq : q ≤ 5) (hn : n ≤ 100) {pa wt : Bool} {base : List Nat} {G : List Int32} {S : St} (h : zv_MS n q c zv_S0 (zv_stk pa wt base) G i S) (hb : G.length + (zv_stk pa wt base).length ≤ 100) (ho : zv_baseok base) : ∃ S', F_X8_settle S 38 = some ((), S') ∧ zv_MS n q c zv_S0 (zv_stk false wt base) (G ++ zv_p7 pa) i S' := by
  unfold F_X8_settle
  have st : ∀ G' S', zv_MS n q c zv_S0 (zv_stk false wt base) G' i S' → (zv_stk false wt base).length ≤ 100 → ∀ fu, L_X8_settle_0 38 (fun T_1 => some ((), T_1)) (fu + 1) S' = some ((), S') := by
    intro G' S' h' hl fu
    refine zv_se_stop h' hl ?_ _ fu
    cases wt
    · exact .inl ho
    · exact .inr ⟨rfl, base, rfl⟩
  cases pa
  · rw [st G S h (by omega) 999]
    exact ⟨S, rfl, by rw [show zv_p7 false = [] from rfl, List.append_nil]; exact h⟩
  · have hl2 : (zv_stk true wt base).length = (zv_stk false wt base).length + 1 := rfl
    obtain ⟨zv_S1, e1, h1⟩ := zv_se_pop hq hn (x := 38) (σ := zv_stk false wt base) h (by omega) (a := 38) (.inl rfl) (fun T_1 => some ((), T_1)) 999
    rw [show (1000 : Nat) = 999 + 1 from rfl, e1, st _ zv_S1 h1 (by omega) 998]
    exact ⟨zv_S1, rfl, h1⟩
theorem zv_m_set124 {n q c : Nat} {zv_S0 : St} {i : Nat} (hq : q ≤ 5) (hn : n ≤ 100) {pa wt : Bool} {base : List Nat} {G : List Int32} {S : St} (h : zv_MS n q c zv_S0 (zv_stk pa wt base) G i S) (hb : G.length + (zv_stk pa wt base).length ≤ 100) (ho : zv_baseok base) : ∃ S', F_X8_settle S 124 = some ((), S') ∧ zv_MS n q c zv_S0 base (G ++ zv_p7 pa ++ zv_w8 wt) i S' := by
  unfold F_X8_settle
  have st2 : ∀ G' S', zv_MS n q c zv_S0 (zv_stk false wt base) G' i S' → G'.length + (zv_stk false wt base).length ≤ 100 → ∀ fu, ∃ S2, L_X8_settle_0 124 (fun T_1 => some ((), T_1)) (fu + 2) S' = some ((), S2) ∧ zv_MS n q c zv_S0 base (G' ++ zv_w8 wt) i S2 := by
    intro G' S' h' hl fu
    cases wt
    · refine ⟨S', zv_se_stop h' (by omega) (.inl ho) _ (fu + 1), ?_⟩
      rw [show zv_w8 false = [] from rfl, List.append_nil]
      exact h'
    · have hl2 : (zv_stk false true base).length = base.length + 1 := rfl
      obtain ⟨zv_S1, e1, h1⟩ := zv_se_pop hq hn (x := 124) (σ := base) h' (by omega) (a := 124) (.inr ⟨rfl, by decide⟩) (fun T_1 => some ((), T_1)) (fu + 1)
      refine ⟨zv_S1, ?_, h1⟩
      rw [show fu + 2 = fu + 1 + 1 from rfl, e1]
      exact zv_se_stop h1 (by omega) (.inl ho) _ fu
  cases pa
  · obtain ⟨S2, e2, h2⟩ := st2 G S h (by omega) 998
    refine ⟨S2, e2, ?_⟩
    rw [show zv_p7 false = [] from rfl, List.append_nil]
    exact h2
  · have hl2 : (zv_stk true wt base).length = (zv_stk false wt base).length + 1 := rfl
    obtain ⟨zv_S1, e1, h1⟩ := zv_se_pop hq hn (x := 38) (σ := zv_stk false wt base) h (by omega) (a := 124) (.inl rfl) (fun T_1 => some ((), T_1)) 999
    obtain ⟨S2, e2, h2⟩ := st2 _ zv_S1 h1 (by rw [List.length_append, List.length_singleton]; omega) 997
    refine ⟨S2, ?_, h2⟩
    rw [show (1000 : Nat) = 999 + 1 from rfl, e1]
    exact e2
theorem zv_plcE (S : St) (r : Int32) : F_X8_place S r = some ((zv_plc r).elim (-1) nI, S) := by
  unfold F_X8_place zv_plc
  by_cases h1 : r = 104
  · subst h1; rfl
  by_cases h2 : r = 107
  · subst h2; rfl
  by_cases h3 : r = 108
  · subst h3; rfl
  by_cases h4 : r = 109
  · subst h4; rfl
  by_cases h5 : r = 116
  · subst h5; rfl
  by_cases h6 : r = 118
  · subst h6; rfl
  simp only [h1, h2, h3, h4, h5, h6, reduceIte]
  rfl
theorem zv_plcM {T : Nat → Int32} {n : Nat} (i : Nat) : zv_plc (zv_pm T n i) = zv_plc (zv_pk T n i) := by
  unfold zv_pm zv_pk
  by_cases h : i < n
  · rw [if_pos h, if_pos h]
  · rw [if_neg h, if_neg h]; decide
theorem zv_bngL : ∀ σ : List Nat, zv_bng σ ≤ σ.length
  | [] => Nat.le_refl _
  | x :: s => by
    have := zv_bngL s
    show (if x = 33 then zv_bng s + 1 else 0) ≤ s.length + 1
    split <;> omega
theorem zv_tkS {v : Nat} (h : v < 6000) : zv_tkM (nI v) = nI v := by
  obtain ⟨k1, k2, k3, k4⟩ := zv_nI6000 h
  unfold zv_tkM
  rw [if_neg k1, if_neg (fun z => k2 (.inl z)), if_neg (fun z => k2 (.inr z))]
theorem zv_tokM {f r v : Nat} (hf : f ≤ 5) (hr : r ≤ 2) (hv : v ≤ 99) : 1000 * nI f + 100 * (nI (r + 60) - 60) + nI v = nI (1000 * f + 100 * r + v) := by
  rw [show (60 : Int32) = nI 60 from rfl, zv_nIsb (by omega) (by omega), Nat.add_sub_cancel, show (1000 : Int32) = nI 1000 from rfl, show (100 : Int32) = nI 100 from rfl, zv_nIm' (by omega) (by omega) (by omega), zv_nIm' (by omega) (by omega) (by omega), zv_nIa' (by omega), zv_nIa' (by omega)]
theorem zv_m_tst {T : Nat → Int32} {n q c : Nat} {zv_S0 : St} {σ : List Nat} {G : List Int32} {i : Nat} {S : St} (hB : zv_MB T n q c zv_S0) (h : zv_MS n q c zv_S0 σ G i S) (hw : zv_wf σ) (hb : G.length + σ.length ≤ i) :
    ((zv_tstP T n i).1 = true → ∃ S', F_X8_takesTest S = some (1, S') ∧ zv_MS n q c zv_S0 (σ.drop (zv_bng σ)) (G ++ (zv_tstP T n i).2.2 ++ List.replicate (zv_bng σ) 6000) (zv_tstP T n i).2.1 S') ∧ ((zv_tstP T n i).1 = false → ∃ S', F_X8_takesTest S = some (0, S') ∧ zv_MS n q c zv_S0 σ G (zv_tstP T n i).2.1 S') := by
  have hn := hB.1.1
  have hq := hB.2.2.2.1
  obtain ⟨m, hm, em, hm1, hm2⟩ := zv_pkN hB.1 i
  have hi := (zv_MSg h).2.2.2.2
  unfold F_X8_takesTest zv_tstP
  rw [zv_m_pk hB h, zv_bndS, zv_plcE, zv_bndS, zv_plcM]
  cases h1 : zv_plc (zv_pk T n i) with
  | none =>
    rw [show (Option.elim (none : Option Nat) (-1 : Int32) nI) = -1 from rfl, if_neg (show ¬ (0 : Int32) ≤ -1 by decide)]
    exact ⟨fun z => (nomatch z), fun _ => ⟨S, rfl, h⟩⟩
  | some f =>
    obtain ⟨b1, b2⟩ := zv_plB h1
    have hS1 := zv_MSa h (i' := i + 1) (by omega) (by omega)
    rw [show (Option.elim (some f) (-1 : Int32) nI) = nI f from rfl, if_pos (zv_nI0 f (by omega)), (zv_MSg h).1, zv_nIs i (by omega), zv_m_pk hB hS1, zv_bndS, zv_x8_in, zv_bndS]
    have hI := zv_pmI (T := T) (n := n) (i + 1) (show (0 : Int32) ≤ 60 by decide) (show (62 : Int32) ≤ 127 by decide)
    simp only []
    by_cases hp : 60 ≤ zv_pk T n (i + 1) ∧ zv_pk T n (i + 1) ≤ 62
    · obtain ⟨m', hm', em', hm1', hm2'⟩ := zv_pkN hB.1 (i + 1)
      obtain ⟨r1, r2, r3⟩ := zv_rel3 hp
      have hin : i + 1 < n := by
        apply Classical.byContradiction
        intro y
        unfold zv_pk at hp
        rw [if_neg y] at hp
        exact absurd hp.2 (by decide)
      have ep : zv_pm T n (i + 1) = zv_pk T n (i + 1) := by unfold zv_pm zv_pk; rw [if_pos hin, if_pos hin]
      have hS2 := zv_MSa hS1 (i' := i + 2) (by omega) (by omega)
      rw [if_pos (hI.mpr hp), if_neg zv_z10, (zv_MSg hS1).1, zv_nIs (i + 1) (by omega), if_pos hp]
      obtain ⟨y1, y2⟩ := zv_p_num (zv_PBm hB hS2) (zv_MSg hS2).1 (by omega)
      cases h2 : zv_numP T n (i + 2) with
      | none =>
        rw [y1 h2, zv_bndS, if_pos rfl]
        exact ⟨fun z => (nomatch z), fun _ => ⟨_, rfl, hS2⟩⟩
      | some z =>
        obtain ⟨zv_c1, c2, c3, c4⟩ := zv_nuB h2
        obtain ⟨S3, e3, f3, g3, g3'⟩ := y2 z h2
        have hS3 := zv_MSn hS2 f3 g3 c2
        have hv : 1000 * f + 100 * ((zv_pk T n (i + 1)).toNatClampNeg - 60) + z.1 < 6000 := by omega
        obtain ⟨S4, e4, hS4⟩ := zv_m_emit hq hn hS3 (by omega) (nI (1000 * f + 100 * ((zv_pk T n (i + 1)).toNatClampNeg - 60) + z.1))
        rw [zv_tkS hv] at e4
        have et : 1000 * nI f + 100 * (zv_pm T n (i + 1) - 60) + gI S3 8 0 15 = nI (1000 * f + 100 * ((zv_pk T n (i + 1)).toNatClampNeg - 60) + z.1) := by
          rw [g3', ep, ← zv_tokM b2 (show (zv_pk T n (i + 1)).toNatClampNeg - 60 ≤ 2 by omega) c4, show (zv_pk T n (i + 1)).toNatClampNeg - 60 + 60 = (zv_pk T n (i + 1)).toNatClampNeg by omega, ← r3]
        obtain ⟨S5, e5, hS5⟩ := zv_m_whole hq hn hw hS4 (by rw [List.length_append, List.length_singleton]; omega)
        rw [e3, zv_bndS, if_neg zv_z10, et, e4, zv_bndS, e5, zv_bndS]
        exact ⟨fun _ => ⟨S5, rfl, hS5⟩, fun z => (nomatch z)⟩
    · rw [if_neg (fun z => hp (hI.mp z)), if_pos rfl, if_neg hp]
      exact ⟨fun z => (nomatch z), fun _ => ⟨_, rfl, hS1⟩⟩
theorem zv_MSc {n q c : Nat} {zv_S0 : St} {σ : List Nat} {G : List Int32} {i : Nat} {S : St} (h : zv_MS n q c zv_S0 σ G i S) (x : Int32) : zv_MS n q c zv_S0 σ G i (sI S 32 0 c x) := by
  obtain ⟨s1, s2, s3, s4, s5, s6, s7, s8, s9, s10, s11, s12, s13⟩ := h
  exact ⟨s1, s2, fun f a b c d => by rw [zv_gI_f b]; exact s3 f a b c d, fun a b hz => by rw [zv_gI_f (by decide)]; exact s4 a b hz, fun r hr => by rw [gI_sI, if_neg (by omega)]; exact s5 r hr, fun r hr => by rw [zv_gI_f (by decide)]; exact s6 r hr, by rw [zv_gI_f (by decide)]; exact s7, by rw [zv_gI_f (by decide)]; exact s8, fun r hr => by rw [zv_gI_f (by decide)]; exact s9 r hr, by rw [zv_gI_f (by decide)]; exact s10, by rw [zv_gI_f (by decide)]; exact s11, fun r hr => by rw [zv_gI_f (by decide)]; exact s12 r hr, s13⟩
def zv_Rn (c : Nat) (w : Int32) (S : St) (k : Nat) (w' : Int32) (S' : St) : Prop := ∀ fuel, L_X8_takesE_22 (nI c) (fuel + k) w S = L_X8_takesE_22 (nI c) fuel w' S'
def zv_Fa (c : Nat) (w : Int32) (S : St) (k : Nat) (S' : St) : Prop := ∀ fuel, L_X8_takesE_22 (nI c) (fuel + k + 1) w S = some (0, S')
theorem zv_Rnt {c : Nat} {w w' w'' : Int32} {S S' S'' : St} {k k' : Nat} (h1 : zv_Rn c w S k w' S') (h2 : zv_Rn c w' S' k' w'' S'') : zv_Rn c w S (k' + k) w'' S'' := fun fuel => by rw [← Nat.add_assoc, h1, h2]
theorem zv_Rnf {c : Nat} {w w' : Int32} {S S' S'' : St} {k k' : Nat} (h1 : zv_Rn c w S k w' S') (h2 : zv_Fa c w' S' k' S'') : zv_Fa c w S (k' + k) S'' := fun fuel => by rw [show fuel + (k' + k) + 1 = (fuel + k' + 1) + k by omega, h1, h2]
def zv_SF (T : Nat → Int32) (n q c : Nat) (zv_S0 : St) (k : Nat) : Prop := ∀ (σ : List Nat) (G : List Int32) (i : Nat) (S : St), zv_MS n q c zv_S0 σ G i S → zv_wf σ → G.length + σ.length ≤ i → zv_cnt σ + k = 4 →
  ((zv_facP T n k i).1 = true → ∃ kk S', kk + i ≤ (zv_facP T n k i).2.1 ∧ zv_Rn c 1 S kk 0 S' ∧ zv_MS n q c zv_S0 (σ.drop (zv_bng σ)) (G ++ (zv_facP T n k i).2.2 ++ List.replicate (zv_bng σ) 6000) (zv_facP T n k i).2.1 S') ∧
  ((zv_facP T n k i).1 = false → ∃ kk S' σ' G', kk + i ≤ (zv_facP T n k i).2.1 ∧ zv_Fa c 1 S kk S' ∧ zv_MS n q c zv_S0 σ' G' (zv_facP T n k i).2.1 S')
/-- an iteration that wants a factor and finds a test, or nothing -/
theorem zv_it_tst {T : Nat → Int32} {n q c : Nat} {zv_S0 : St} (hB : zv_MB T n q c zv_S0) {σ : List Nat} {G : List Int32} {i : Nat} {S : St} (h : zv_MS n q c zv_S0 σ G i S) (hw : zv_wf σ) (hb : G.length + σ.length ≤ i) (h33 : ¬ zv_pk T n i = 33) (h40 : ¬ zv_pk T n i = 40) :
    ((zv_tstP T n i).1 = true → ∃ kk S', kk + i ≤ (zv_tstP T n i).2.1 ∧ zv_Rn c 1 S kk 0 S' ∧ zv_MS n q c zv_S0 (σ.drop (zv_bng σ)) (G ++ (zv_tstP T n i).2.2 ++ List.replicate (zv_bng σ) 6000) (zv_tstP T n i).2.1 S') ∧
    ((zv_tstP T n i).1 = false → ∃ kk S' σ' G', kk + i ≤ (zv_tstP T n i).2.1 ∧ zv_Fa c 1 S kk S' ∧ zv_MS n q c zv_S0 σ' G' (zv_tstP T n i).2.1 S') := by
  have hi := (zv_MSg h).2.2.2.2
  obtain ⟨t1, t2⟩ := zv_m_tst hB h hw hb
  obtain ⟨o1, o2, o3⟩ := zv_tsB (T := T) hi
  have g33 : ¬ zv_pm T n i = 33 := fun z => h33 ((zv_pmC hB.1 i (by decide)).mp z)
  have g40 : ¬ zv_pm T n i = 40 := fun z => h40 ((zv_pmC hB.1 i (by decide)).mp z)
  constructor
  · intro hr
    obtain ⟨S', e, h'⟩ := t1 hr
    have := o3 hr
    refine ⟨1, S', by omega, fun fuel => ?_, h'⟩
    rw [L_X8_takesE_22.eq_2, zv_m_pk hB h, zv_bndS, if_neg zv_z10, if_neg g33, if_neg g40, e, zv_bndS, if_neg zv_z10]
  · intro hr
    obtain ⟨S', e, h'⟩ := t2 hr
    refine ⟨0, S', σ, G, by omega, fun fuel => ?_, h'⟩
    rw [L_X8_takesE_22.eq_2, zv_m_pk hB h, zv_bndS, if_neg zv_z10, if_neg g33, if_neg g40, e, zv_bndS, if_pos rfl]
/-- an iteration that takes ! or ( -/
theorem zv_it_push {T : Nat → Int32} {n q c : Nat} {zv_S0 : St} (hB : zv_MB T n q c zv_S0) {σ : List Nat} {G : List Int32} {i : Nat} {S : St} (h : zv_MS n q c zv_S0 σ G i S) (hb : G.length + σ.length ≤ i) (hc : zv_cnt σ < 4) (x : Nat) (hx : x = 33 ∨ x = 40) (hp : zv_pk T n i = nI x) :
    ∃ S', zv_Rn c 1 S 1 1 S' ∧ zv_MS n q c zv_S0 (x :: σ) G (i + 1) S' := by
  have hn := hB.1.1
  have hi := (zv_MSg h).2.2.2.2
  have hin : i < n := zv_pkB hp (by rcases hx with rfl | rfl <;> decide)
  have hP := zv_MSp h hin x (y := nI (zv_cnt σ + 1)) (by rw [zv_cntC, if_pos hx, Nat.add_comm])
  have ep : zv_pm T n i = nI x := (zv_pmC hB.1 i (by rcases hx with rfl | rfl <;> decide)).mpr hp
  have h4 : ¬ nI (zv_cnt σ) = 4 := by rw [show (4 : Int32) = nI 4 from rfl, zv_nIeq (by omega) (by omega)]; omega
  refine ⟨_, fun fuel => ?_, hP⟩
  have a25 : gI (sI S 8 0 26 (nI (zv_cnt σ + 1))) 8 0 25 = nI σ.length := by rw [gI_sI, if_neg (by omega), (zv_MSg h).2.2.1]
  have b25 : gI (sI (sI S 8 0 26 (nI (zv_cnt σ + 1))) 34 0 σ.length (nI x)) 8 0 25 = nI σ.length := by rw [zv_gI_f (by decide), a25]
  have b14 : gI (sI (sI (sI S 8 0 26 (nI (zv_cnt σ + 1))) 34 0 σ.length (nI x)) 8 0 25 (nI (σ.length + 1))) 8 0 14 = nI i := by rw [gI_sI, if_neg (by omega), zv_gI_f (by decide), gI_sI, if_neg (by omega), (zv_MSg h).1]
  rw [L_X8_takesE_22.eq_2, zv_m_pk hB h, zv_bndS, if_neg zv_z10, (zv_MSg h).2.2.2.1, zv_nIs (zv_cnt σ) (by omega), a25, zv_nIcl (by omega), ep, b25, zv_nIs σ.length (by omega), b14, zv_nIs i (by omega)]
  have hlen : σ.length < 101 := by omega
  rcases hx with rfl | rfl
  · rw [if_pos (show nI 33 = 33 from rfl), if_neg h4, if_pos (zv_ge' hlen (by omega))]
  · rw [if_neg (show ¬ nI 40 = 33 by decide), if_pos (show nI 40 = 40 from rfl), if_neg h4, if_pos (zv_ge' hlen (by omega))]
theorem zv_stkL (pa wt : Bool) (base : List Nat) : (zv_stk pa wt base).length = (zv_p7 pa).length + (zv_w8 wt).length + base.length := by
  cases pa <;> cases wt <;> simp [zv_stk, zv_p7, zv_w8] <;> omega
theorem zv_stkC (pa wt : Bool) (base : List Nat) : zv_cnt (zv_stk pa wt base) = zv_cnt base := by
  have e1 : zv_cnt (38 :: base) = zv_cnt base := by rw [zv_cntC, if_neg (by decide)]; omega
  have e2 : zv_cnt (124 :: base) = zv_cnt base := by rw [zv_cntC, if_neg (by decide)]; omega
  have e3 : zv_cnt (38 :: 124 :: base) = zv_cnt base := by rw [zv_cntC, if_neg (by decide), e2]; omega
  cases pa <;> cases wt
  · rfl
  · exact e2
  · exact e1
  · exact e3
theorem zv_stkW (pa wt : Bool) {base : List Nat} (h : zv_wf base) : zv_wf (zv_stk pa wt base) := by
  intro x hx
  cases pa <;> cases wt <;> simp [zv_stk] at hx
  · exact h x hx
  · rcases hx with rfl | hx
    · decide
    · exact h x hx
  · rcases hx with rfl | hx
    · decide
    · exact h x hx
  · rcases hx with rfl | rfl | hx
    · decide
    · decide
    · exact h x hx
theorem zv_bng0 {base : List Nat} (h : zv_baseok base) : zv_bng base = 0 := by
  rcases h with rfl | ⟨b, rfl⟩
  · rfl
  · show (if 40 = 33 then zv_bng b + 1 else 0) = 0
    rw [if_neg (by decide)]
theorem zv_stkB (pa wt : Bool) {base : List Nat} (h : zv_baseok base) : zv_bng (zv_stk pa wt base) = 0 := by
  cases pa <;> cases wt
  · exact zv_bng0 h
  · show (if 124 = 33 then zv_bng base + 1 else 0) = 0
    rw [if_neg (by decide)]
  · show (if 38 = 33 then zv_bng base + 1 else 0) = 0
    rw [if_neg (by decide)]
  · show (if 38 = 33 then zv_bng (124 :: base) + 1 else 0) = 0
    rw [if_neg (by decide)]
/-- an iteration that takes & or | -/
theorem zv_it_op {T : Nat → Int32} {n q c : Nat} {zv_S0 : St} (hB : zv_MB T n q c zv_S0) {σ σ' : List Nat} {G G' : List Int32} {i : Nat} {S zv_S1 : St} (h : zv_MS n q c zv_S0 σ G i S) (x : Nat) (hx : x = 38 ∨ x = 124) (hp : zv_pk T n i = nI x) (e : F_X8_settle S (nI x) = some ((), zv_S1)) (h1 : zv_MS n q c zv_S0 σ' G' i zv_S1) (hl : σ'.length ≤ 100) :
    ∃ S', zv_Rn c 0 S 1 1 S' ∧ zv_MS n q c zv_S0 (x :: σ') G' (i + 1) S' := by
  have hn := hB.1.1
  have hi := (zv_MSg h).2.2.2.2
  have hin : i < n := zv_pkB hp (by rcases hx with rfl | rfl <;> decide)
  have hc : zv_cnt (x :: σ') = zv_cnt σ' := by rw [zv_cntC, if_neg (by omega)]; omega
  have hP := zv_MSp h1 hin x (y := nI (zv_cnt σ')) (by rw [hc])
  rw [zv_sIself (zv_MSg h1).2.2.2.1] at hP
  have ep : zv_pm T n i = nI x := (zv_pmC hB.1 i (by rcases hx with rfl | rfl <;> decide)).mpr hp
  refine ⟨_, fun fuel => ?_, hP⟩
  have b25 : gI (sI zv_S1 34 0 σ'.length (nI x)) 8 0 25 = nI σ'.length := by rw [zv_gI_f (by decide), (zv_MSg h1).2.2.1]
  have b14 : gI (sI (sI zv_S1 34 0 σ'.length (nI x)) 8 0 25 (nI (σ'.length + 1))) 8 0 14 = nI i := by rw [gI_sI, if_neg (by omega), zv_gI_f (by decide), (zv_MSg h1).1]
  have hlen : σ'.length < 101 := by omega
  rw [L_X8_takesE_22.eq_2, zv_m_pk hB h, zv_bndS, if_pos rfl, ep]
  rcases hx with rfl | rfl
  · rw [if_pos (show nI 38 = 38 from rfl), e, zv_bndS, (zv_MSg h1).2.2.1, if_pos (zv_gd hlen), zv_nIcl (by omega), b25, zv_nIs _ (by omega), b14, zv_nIs _ (by omega)]
  · rw [if_neg (show ¬ nI 124 = 38 by decide), if_pos (show nI 124 = 124 from rfl), e, zv_bndS, (zv_MSg h1).2.2.1, if_pos (zv_gd hlen), zv_nIcl (by omega), b25, zv_nIs _ (by omega), b14, zv_nIs _ (by omega)]
def zv_SE (T : Nat → Int32) (n q c : Nat) (zv_S0 : St) (base : List Nat) (w : Int32) (S : St) (G : List Int32) (i : Nat) (r : Bool × Nat × List Int32) (G1 : List Int32) : Prop :=
  (r.1 = true → ∃ kk S' pa wt G', kk + i ≤ r.2.1 ∧ zv_Rn c w S kk 0 S' ∧ zv_MS n q c zv_S0 (zv_stk pa wt base) G' r.2.1 S' ∧ G' ++ zv_p7 pa ++ zv_w8 wt = G1 ++ r.2.2 ∧ ¬ zv_pk T n r.2.1 = 38 ∧ ¬ zv_pk T n r.2.1 = 124 ∧ G'.length + (zv_stk pa wt base).length ≤ r.2.1) ∧
  (r.1 = false → ∃ kk S' σ' G', kk + i ≤ r.2.1 ∧ zv_Fa c w S kk S' ∧ zv_MS n q c zv_S0 σ' G' r.2.1 S')
theorem zv_simL {T : Nat → Int32} {n q c : Nat} {zv_S0 : St} (hB : zv_MB T n q c zv_S0) {k : Nat} (hF : zv_SF T n q c zv_S0 k) {base : List Nat} (ho : zv_baseok base) (hw : zv_wf base) (hk : zv_cnt base + k = 4) :
    ∀ (m : Nat) (pa wt : Bool) (G : List Int32) (i : Nat) (S : St), 100 ≤ i + m → zv_MS n q c zv_S0 (zv_stk pa wt base) G i S → G.length + (zv_stk pa wt base).length ≤ i → zv_SE T n q c zv_S0 base 0 S G i (zv_expL T n (zv_facP T n k) m wt i) (G ++ zv_p7 pa) := by
  have hn := hB.1.1
  have hq := hB.2.2.2.1
  intro m
  induction m with
  | zero =>
    intro pa wt G i S h100 h hb
    have hi := (zv_MSg h).2.2.2.2
    have e128 : zv_pk T n i = 128 := by unfold zv_pk; rw [if_neg (by omega)]
    exact ⟨fun _ => ⟨0, S, pa, wt, G, by show 0 + i ≤ i; omega, fun fuel => rfl, h, rfl, by show ¬ zv_pk T n i = 38; rw [e128]; decide, by show ¬ zv_pk T n i = 124; rw [e128]; decide, hb⟩, fun z => (nomatch z)⟩
  | succ m ih =>
    intro pa wt G i S h100 h hb
    have hi := (zv_MSg h).2.2.2.2
    have hl := zv_stkL pa wt base
    unfold zv_expL
    by_cases h1 : zv_pk T n i = 38
    · have hin := zv_pkB h1 (by decide)
      obtain ⟨zv_S1, e1, hS1⟩ := zv_m_set38 hq hn h (by omega) ho
      have hl1 := zv_stkL false wt base
      have hl2 := zv_stkL true wt base
      have hp7 : (zv_p7 false).length = 0 ∧ (zv_p7 true).length = 1 := ⟨rfl, rfl⟩
      obtain ⟨S2, e2, hS2⟩ := zv_it_op hB h 38 (.inl rfl) h1 e1 hS1 (by omega)
      rw [show (38 :: zv_stk false wt base) = zv_stk true wt base from rfl] at hS2
      obtain ⟨f1, f2⟩ := hF _ _ _ _ hS2 (zv_stkW true wt hw) (by rw [List.length_append]; omega) (by rw [zv_stkC]; exact hk)
      obtain ⟨o1, o2, o3⟩ := zv_faB (T := T) k (i + 1) (show i + 1 ≤ n by omega)
      rw [if_pos h1]
      cases hr : (zv_facP T n k (i + 1)).1 with
      | false =>
        obtain ⟨kk, S3, σ', G', z1, z2, z3⟩ := f2 hr
        exact ⟨fun z => (nomatch z), fun _ => ⟨kk + 1, S3, σ', G', by simp only [Bool.false_eq_true, reduceIte]; omega, zv_Rnf e2 z2, z3⟩⟩
      | true =>
        obtain ⟨kk, S3, z1, z2, z3⟩ := f1 hr
        have o3' := o3 hr
        rw [zv_stkB true wt ho, List.drop_zero, List.replicate_zero, List.append_nil] at z3
        obtain ⟨g1, g2⟩ := ih true wt _ _ S3 (by omega) z3 (by simp only [List.length_append]; omega)
        simp only [Bool.true_and, reduceIte]
        refine ⟨fun hy => ?_, fun hy => ?_⟩
        · obtain ⟨k2, S4, pa', wt', G', y1, y2, y3, y4, y5, y6, y7⟩ := g1 hy
          refine ⟨k2 + (kk + 1), S4, pa', wt', G', by simp only []; omega, zv_Rnt (zv_Rnt e2 z2) y2, y3, ?_, y5, y6, y7⟩
          rw [y4]
          simp only [List.append_assoc, show zv_p7 true = [7000] from rfl, List.singleton_append]
        · obtain ⟨k2, S4, σ', G', y1, y2, y3⟩ := g2 hy
          exact ⟨k2 + (kk + 1), S4, σ', G', by simp only []; omega, zv_Rnf (zv_Rnt e2 z2) y2, y3⟩
    · rw [if_neg h1]
      by_cases h2 : zv_pk T n i = 124
      · have hin := zv_pkB h2 (by decide)
        obtain ⟨zv_S1, e1, hS1⟩ := zv_m_set124 hq hn h (by omega) ho
        have hl2 := zv_stkL false true base
        have hp7 : (zv_p7 false).length = 0 ∧ (zv_w8 true).length = 1 := ⟨rfl, rfl⟩
        obtain ⟨S2, e2, hS2⟩ := zv_it_op hB h 124 (.inr rfl) h2 e1 hS1 (by omega)
        rw [show (124 :: base) = zv_stk false true base from rfl] at hS2
        obtain ⟨f1, f2⟩ := hF _ _ _ _ hS2 (zv_stkW false true hw) (by simp only [List.length_append]; omega) (by rw [zv_stkC]; exact hk)
        obtain ⟨o1, o2, o3⟩ := zv_faB (T := T) k (i + 1) (show i + 1 ≤ n by omega)
        rw [if_pos h2]
        cases hr : (zv_facP T n k (i + 1)).1 with
        | false =>
          obtain ⟨kk, S3, σ', G', z1, z2, z3⟩ := f2 hr
          exact ⟨fun z => (nomatch z), fun _ => ⟨kk + 1, S3, σ', G', by simp only [Bool.false_eq_true, reduceIte]; omega, zv_Rnf e2 z2, z3⟩⟩
        | true =>
          obtain ⟨kk, S3, z1, z2, z3⟩ := f1 hr
          have o3' := o3 hr
          rw [zv_stkB false true ho, List.drop_zero, List.replicate_zero, List.append_nil] at z3
          obtain ⟨g1, g2⟩ := ih false true _ _ S3 (by omega) z3 (by simp only [List.length_append]; omega)
          simp only [Bool.true_and, reduceIte]
          refine ⟨fun hy => ?_, fun hy => ?_⟩
          · obtain ⟨k2, S4, pa', wt', G', y1, y2, y3, y4, y5, y6, y7⟩ := g1 hy
            refine ⟨k2 + (kk + 1), S4, pa', wt', G', by simp only []; omega, zv_Rnt (zv_Rnt e2 z2) y2, y3, ?_, y5, y6, y7⟩
            rw [y4]
            simp only [List.append_assoc, show zv_p7 false = [] from rfl, List.nil_append]
          · obtain ⟨k2, S4, σ', G', y1, y2, y3⟩ := g2 hy
            exact ⟨k2 + (kk + 1), S4, σ', G', by simp only []; omega, zv_Rnf (zv_Rnt e2 z2) y2, y3⟩
      · rw [if_neg h2]
        exact ⟨fun _ => ⟨0, S, pa, wt, G, by show 0 + i ≤ i; omega, fun fuel => rfl, h, rfl, h1, h2, hb⟩, fun z => (nomatch z)⟩
theorem zv_simE {T : Nat → Int32} {n q c : Nat} {zv_S0 : St} (hB : zv_MB T n q c zv_S0) {k : Nat} (hF : zv_SF T n q c zv_S0 k) {base : List Nat} (ho : zv_baseok base) (hw : zv_wf base) (hk : zv_cnt base + k = 4) {G : List Int32} {i : Nat} {S : St} (h : zv_MS n q c zv_S0 base G i S) (hb : G.length + base.length ≤ i) :
    zv_SE T n q c zv_S0 base 1 S G i (zv_expP T n (zv_facP T n k) i) G := by
  have hi := (zv_MSg h).2.2.2.2
  obtain ⟨f1, f2⟩ := hF base G i S h hw hb hk
  obtain ⟨o1, o2, o3⟩ := zv_faB (T := T) k i hi
  unfold zv_expP
  cases hr : (zv_facP T n k i).1 with
  | false =>
    obtain ⟨kk, S3, σ', G', z1, z2, z3⟩ := f2 hr
    exact ⟨fun z => (nomatch z), fun _ => ⟨kk, S3, σ', G', by simp only [Bool.false_eq_true, reduceIte]; omega, z2, z3⟩⟩
  | true =>
    obtain ⟨kk, S3, z1, z2, z3⟩ := f1 hr
    have o3' := o3 hr
    rw [zv_bng0 ho, List.drop_zero, List.replicate_zero, List.append_nil] at z3
    obtain ⟨g1, g2⟩ := zv_simL hB hF ho hw hk 100 false false _ _ S3 (by omega) z3 (by rw [zv_stkL]; have : (zv_p7 false).length = 0 ∧ (zv_w8 false).length = 0 := ⟨rfl, rfl⟩; simp only [List.length_append]; omega)
    simp only [Bool.true_and, reduceIte]
    refine ⟨fun hy => ?_, fun hy => ?_⟩
    · obtain ⟨k2, S4, pa', wt', G', y1, y2, y3, y4, y5, y6, y7⟩ := g1 hy
      refine ⟨k2 + kk, S4, pa', wt', G', by simp only []; omega, zv_Rnt z2 y2, y3, ?_, y5, y6, y7⟩
      rw [y4]
      simp only [List.append_assoc, show zv_p7 false = [] from rfl, List.nil_append]
    · obtain ⟨k2, S4, σ', G', y1, y2, y3⟩ := g2 hy
      exact ⟨k2 + kk, S4, σ', G', by simp only []; omega, zv_Rnf z2 y2, y3⟩
theorem zv_simF {T : Nat → Int32} {n q c : Nat} {zv_S0 : St} (hB : zv_MB T n q c zv_S0) : ∀ k, zv_SF T n q c zv_S0 k := by
  have hn := hB.1.1
  have hq := hB.2.2.2.1
  intro k
  induction k with
  | zero =>
    intro σ G i S h hw hb hk
    have hi := (zv_MSg h).2.2.2.2
    have hc4 : gI S 8 0 26 = 4 := by rw [(zv_MSg h).2.2.2.1, show zv_cnt σ = 4 by omega]; rfl
    have no : ∀ x : Nat, (x = 33 ∨ x = 40) → zv_pk T n i = nI x → zv_tstP T n i = (false, i, []) := by
      intro x hx e
      have : zv_plc (nI x) = none := by rcases hx with rfl | rfl <;> decide
      unfold zv_tstP
      rw [e, this]
    have fl : ∀ x : Nat, (x = 33 ∨ x = 40) → zv_pk T n i = nI x → zv_Fa c 1 S 0 S := by
      intro x hx e fuel
      have ep : zv_pm T n i = nI x := (zv_pmC hB.1 i (by rcases hx with rfl | rfl <;> decide)).mpr e
      rw [L_X8_takesE_22.eq_2, zv_m_pk hB h, zv_bndS, if_neg zv_z10, ep, hc4]
      rcases hx with rfl | rfl
      · rw [if_pos (show nI 33 = 33 from rfl), if_pos rfl]
      · rw [if_neg (show ¬ nI 40 = 33 by decide), if_pos (show nI 40 = 40 from rfl), if_pos rfl]
    show ((zv_tstP T n i).1 = true → _) ∧ _
    by_cases h33 : zv_pk T n i = 33
    · have e := no 33 (.inl rfl) h33
      show ((zv_tstP T n i).1 = true → _) ∧ ((zv_tstP T n i).1 = false → ∃ kk S' σ' G', kk + i ≤ (zv_tstP T n i).2.1 ∧ zv_Fa c 1 S kk S' ∧ zv_MS n q c zv_S0 σ' G' (zv_tstP T n i).2.1 S')
      rw [e]
      exact ⟨fun z => (nomatch z), fun _ => ⟨0, S, σ, G, by simp only []; omega, fl 33 (.inl rfl) h33, h⟩⟩
    by_cases h40 : zv_pk T n i = 40
    · have e := no 40 (.inr rfl) h40
      show ((zv_tstP T n i).1 = true → _) ∧ ((zv_tstP T n i).1 = false → ∃ kk S' σ' G', kk + i ≤ (zv_tstP T n i).2.1 ∧ zv_Fa c 1 S kk S' ∧ zv_MS n q c zv_S0 σ' G' (zv_tstP T n i).2.1 S')
      rw [e]
      exact ⟨fun z => (nomatch z), fun _ => ⟨0, S, σ, G, by simp only []; omega, fl 40 (.inr rfl) h40, h⟩⟩
    exact zv_it_tst hB h hw hb h33 h40
  | succ k ih =>
    intro σ G i S h hw hb hk
    have hi := (zv_MSg h).2.2.2.2
    unfold zv_facP
    by_cases h33 : zv_pk T n i = 33
    · have hin := zv_pkB h33 (by decide)
      obtain ⟨zv_S1, e1, h1⟩ := zv_it_push hB h hb (by omega) 33 (.inl rfl) h33
      have hw1 : zv_wf (33 :: σ) := fun x hx => by
        rcases List.mem_cons.mp hx with rfl | hx
        · decide
        · exact hw x hx
      obtain ⟨f1, f2⟩ := ih (33 :: σ) G (i + 1) zv_S1 h1 hw1 (by rw [List.length_cons]; omega) (by rw [zv_cntC, if_pos (.inl rfl)]; omega)
      rw [if_pos h33]
      simp only []
      refine ⟨fun hr => ?_, fun hr => ?_⟩
      · obtain ⟨kk, S2, z1, z2, z3⟩ := f1 hr
        refine ⟨kk + 1, S2, by omega, zv_Rnt e1 z2, ?_⟩
        have hb33 : zv_bng (33 :: σ) = zv_bng σ + 1 := by show (if 33 = 33 then zv_bng σ + 1 else 0) = _; rw [if_pos rfl]
        rw [hb33, List.drop_succ_cons, List.replicate_succ] at z3
        have : G ++ ((zv_facP T n k (i + 1)).2.2 ++ [6000]) ++ List.replicate (zv_bng σ) 6000 = G ++ (zv_facP T n k (i + 1)).2.2 ++ 6000 :: List.replicate (zv_bng σ) 6000 := by
          simp only [List.append_assoc, List.singleton_append]
        rw [this]
        exact z3
      · obtain ⟨kk, S2, σ', G', z1, z2, z3⟩ := f2 hr
        exact ⟨kk + 1, S2, σ', G', by omega, zv_Rnf e1 z2, z3⟩
    · rw [if_neg h33]
      by_cases h40 : zv_pk T n i = 40
      · have hin := zv_pkB h40 (by decide)
        obtain ⟨zv_S1, e1, h1⟩ := zv_it_push hB h hb (by omega) 40 (.inr rfl) h40
        have hw1 : zv_wf (40 :: σ) := fun x hx => by
          rcases List.mem_cons.mp hx with rfl | hx
          · decide
          · exact hw x hx
        have ho : zv_baseok (40 :: σ) := .inr ⟨σ, rfl⟩
        obtain ⟨f1, f2⟩ := zv_simE hB ih ho hw1 (by rw [zv_cntC, if_pos (.inr rfl)]; omega) h1 (by rw [List.length_cons]; omega)
        obtain ⟨o1, o2, o3⟩ := zv_epB (T := T) (n := n) (fac := zv_facP T n k) (fun i hi => zv_faB k i hi) (i := i + 1) (by omega)
        rw [if_pos h40]
        generalize zv_expP T n (zv_facP T n k) (i + 1) = r at *
        cases hr : r.1 with
        | false =>
          obtain ⟨kk, S2, σ', G', z1, z2, z3⟩ := f2 hr
          simp only [Bool.false_and, Bool.false_eq_true, false_and, reduceIte]
          exact ⟨fun z => (nomatch z), fun _ => ⟨kk + 1, S2, σ', G', by omega, zv_Rnf e1 z2, z3⟩⟩
        | true =>
          have o3' := o3 hr
          obtain ⟨kk, S2, pa, wt, G', z1, z2, z3, z4, z5, z6, z7⟩ := f1 hr
          have hsl := zv_stkL pa wt (40 :: σ)
          rw [List.length_cons] at hsl
          obtain ⟨S3, e3, h3⟩ := zv_m_set124 hq hn z3 (by omega) ho
          rw [z4] at h3
          have h3' := zv_MSc h3 (gI S3 8 0 24)
          have g38 : ¬ zv_pm T n r.2.1 = 38 := fun z => z5 ((zv_pmC hB.1 _ (by decide)).mp z)
          have g124 : ¬ zv_pm T n r.2.1 = 124 := fun z => z6 ((zv_pmC hB.1 _ (by decide)).mp z)
          have e25 : gI (sI S3 32 0 c (gI S3 8 0 24)) 8 0 25 = nI (σ.length + 1) := (zv_MSg h3').2.2.1
          have hne : ¬ nI (σ.length + 1) = 0 := by rw [show (0 : Int32) = nI 0 from rfl, zv_nIeq (by omega) (by omega)]; omega
          by_cases h41 : zv_pk T n r.2.1 = 41
          · have hin2 := zv_pkB h41 (by decide)
            have ep : zv_pm T n r.2.1 = 41 := (zv_pmC hB.1 _ (by decide)).mpr h41
            have hcl := zv_cntL σ
            have hc40 : zv_cnt (40 :: σ) = zv_cnt σ + 1 := by rw [zv_cntC, if_pos (.inr rfl)]; omega
            have h4 := zv_MSa (zv_MSo h3' (y := nI (zv_cnt σ)) rfl) (i' := r.2.1 + 1) (by omega) (by omega)
            have hGl : (G ++ r.2.2).length + σ.length ≤ 100 := by simp only [List.length_append]; omega
            obtain ⟨S5, e5, h5⟩ := zv_m_whole hq hn hw h4 hGl
            have e26 : gI (sI (sI S3 32 0 c (gI S3 8 0 24)) 8 0 25 (nI σ.length)) 8 0 26 - 1 = nI (zv_cnt σ) := by
              rw [gI_sI, if_neg (by omega), (zv_MSg h3').2.2.2.1, hc40, zv_nIq _ (by omega)]
            have e14 : gI (sI (sI (sI S3 32 0 c (gI S3 8 0 24)) 8 0 25 (nI σ.length)) 8 0 26 (nI (zv_cnt σ))) 8 0 14 + 1 = nI (r.2.1 + 1) := by
              rw [gI_sI, if_neg (by omega), gI_sI, if_neg (by omega), (zv_MSg h3').1, zv_nIs _ (by omega)]
            have rn : zv_Rn c 0 S2 1 0 S5 := by
              intro fuel
              rw [L_X8_takesE_22.eq_2, zv_m_pk hB z3, zv_bndS, if_pos rfl, if_neg g38, if_neg g124, e3, zv_bndS, if_pos (zv_gd hB.2.2.2.2), zv_nIcl (by have := hB.2.2.2.2; omega), e25, if_neg hne, if_pos ep, zv_nIq _ (by omega), e26, e14, e5, zv_bndS]
            simp only [h41, Bool.true_and, decide_true, and_self, reduceIte]
            exact ⟨fun _ => ⟨1 + (kk + 1), S5, by omega, zv_Rnt (zv_Rnt e1 z2) rn, h5⟩, fun z => (nomatch z)⟩
          · have ep : ¬ zv_pm T n r.2.1 = 41 := fun z => h41 ((zv_pmC hB.1 _ (by decide)).mp z)
            have fa : zv_Fa c 0 S2 0 (sI S3 32 0 c (gI S3 8 0 24)) := by
              intro fuel
              rw [L_X8_takesE_22.eq_2, zv_m_pk hB z3, zv_bndS, if_pos rfl, if_neg g38, if_neg g124, e3, zv_bndS, if_pos (zv_gd hB.2.2.2.2), zv_nIcl (by have := hB.2.2.2.2; omega), e25, if_neg hne, if_neg ep]
            simp only [h41, Bool.true_and, decide_false, and_false, reduceIte]
            exact ⟨fun z => (nomatch z), fun _ => ⟨0 + (kk + 1), _, _, _, by omega, zv_Rnf (zv_Rnt e1 z2) fa, h3'⟩⟩
      · rw [if_neg h40]
        exact zv_it_tst hB h hw hb h33 h40
def zv_toks (cs : List zv_Cl) : List Int32 := (cs.map (fun c => c.2.2)).flatten
theorem zv_toksA (a b : List zv_Cl) : zv_toks (a ++ b) = zv_toks a ++ zv_toks b := by
  unfold zv_toks; rw [List.map_append, List.flatten_append]
theorem zv_toks1 (c : zv_Cl) : zv_toks [c] = c.2.2 := by
  unfold zv_toks; simp
def zv_TF (q : Nat) (zv_S0 S : St) : Prop := gJ S = gJ zv_S0 ∧ gR S = gR zv_S0 ∧ (∀ f, f ≠ 8 → f < 28 ∨ 34 < f → gI S f = gI zv_S0 f) ∧ (∀ a b, ¬ (a = 0 ∧ (b = 14 ∨ b = 15 ∨ b = 24 ∨ b = 25 ∨ b = 26)) → gI S 8 a b = gI zv_S0 8 a b) ∧ (∀ r, r ≠ q → gI S 28 0 r = gI zv_S0 28 0 r) ∧ (∀ f r, 29 ≤ f → f ≤ 32 → r < 10 * q → gI S f 0 r = gI zv_S0 f 0 r) ∧ (∀ r, r < 100 * q → gI S 33 0 r = gI zv_S0 33 0 r)
theorem zv_TFr (q : Nat) (S : St) : zv_TF q S S := ⟨rfl, rfl, fun _ _ _ => rfl, fun _ _ _ => rfl, fun _ _ => rfl, fun _ _ _ _ _ => rfl, fun _ _ => rfl⟩
theorem zv_TFt {q : Nat} {A B C : St} (h : zv_TF q A B) (h2 : zv_TF q B C) : zv_TF q A C := ⟨h2.1.trans h.1, h2.2.1.trans h.2.1, fun f a b => (h2.2.2.1 f a b).trans (h.2.2.1 f a b), fun a b z => (h2.2.2.2.1 a b z).trans (h.2.2.2.1 a b z), fun r z => (h2.2.2.2.2.1 r z).trans (h.2.2.2.2.1 r z), fun f r a b c => (h2.2.2.2.2.2.1 f r a b c).trans (h.2.2.2.2.2.1 f r a b c), fun r z => (h2.2.2.2.2.2.2 r z).trans (h.2.2.2.2.2.2 r z)⟩
theorem zv_TFn {q : Nat} {A B : St} (h : zv_NF A B) : zv_TF q A B := ⟨h.1, h.2.1, fun f a _ => h.2.2.1 f a, fun a b z => h.2.2.2 a b (fun y => z ⟨y.1, y.2.elim .inl (fun x => .inr (.inl x))⟩), fun r _ => by rw [h.2.2.1 28 (by decide)], fun f r a b _ => by rw [h.2.2.1 f (by omega)], fun r _ => by rw [h.2.2.1 33 (by decide)]⟩
theorem zv_TFm {n q c : Nat} {zv_S0 S : St} {σ : List Nat} {G : List Int32} {i : Nat} (h : zv_MS n q c zv_S0 σ G i S) (hc : 10 * q ≤ c) : zv_TF q zv_S0 S := ⟨h.1, h.2.1, fun f a b => h.2.2.1 f a (by omega) (by omega) (by omega), h.2.2.2.1, fun r _ => by rw [h.2.2.1 28 (by decide) (by decide) (by decide) (by decide)], fun f r a b z => by
    by_cases e : f = 32
    · subst e; exact h.2.2.2.2.1 r (by omega)
    · rw [h.2.2.1 f (by omega) e (by omega) (by omega)], h.2.2.2.2.2.1⟩
theorem zv_TFs {q f c : Nat} {S : St} (x : Int32) (hf : 29 ≤ f ∧ f ≤ 32) (hc : 10 * q ≤ c) : zv_TF q S (sI S f 0 c x) := ⟨rfl, rfl, fun g a b => by rw [zv_gI_f (by omega)], fun a b z => by rw [zv_gI_f (by omega)], fun r _ => by rw [zv_gI_f (by omega)], fun g r a b z => by rw [gI_sI, if_neg (by omega)], fun r _ => by rw [zv_gI_f (by omega)]⟩
theorem zv_TF8 {q b : Nat} {S : St} (x : Int32) (hb : b = 14 ∨ b = 15 ∨ b = 24 ∨ b = 25 ∨ b = 26) : zv_TF q S (sI S 8 0 b x) := ⟨rfl, rfl, fun g a _ => by rw [zv_gI_f a], fun a b' z => by rw [gI_sI, if_neg (by rintro ⟨-, h1, rfl⟩; exact z ⟨h1, hb⟩)], fun r _ => by rw [zv_gI_f (by decide)], fun g r a b z => by rw [zv_gI_f (by omega)], fun r _ => by rw [zv_gI_f (by decide)]⟩
theorem zv_PBt {T : Nat → Int32} {n q : Nat} {S S' : St} (h : zv_PB T n S) (hf : zv_TF q S S') : zv_PB T n S' := ⟨h.1, by rw [hf.2.2.2.1 0 13 (by omega)]; exact h.2.1, fun i hi => by rw [hf.2.2.1 27 (by decide) (by omega)]; exact h.2.2 i hi⟩
def zv_LTr (S : St) : Prop := ∀ j, j < 14 → gI S 35 0 j = zv_letK.getD j 0
theorem zv_LTt {q : Nat} {S S' : St} (h : zv_LTr S) (hf : zv_TF q S S') : zv_LTr S' := fun j hj => by rw [hf.2.2.1 35 (by decide) (by omega)]; exact h j hj
def zv_WD (w fr zv_mn : Nat) : Prop := (∀ j, j < zv_mn → (bytK.getD w []).drop j = zv_letK.getD (fr + j) 0 :: (bytK.getD w []).drop (j + 1)) ∧ (bytK.getD w []).drop zv_mn = [32] ∧ fr + zv_mn ≤ 14 ∧ (∀ j, j < 14 → 0 ≤ zv_letK.getD j 0 ∧ zv_letK.getD j 0 ≤ 127)
theorem zv_let127 : ∀ j, j < 14 → 0 ≤ zv_letK.getD j 0 ∧ zv_letK.getD j 0 ≤ 127 := by decide
theorem zv_wd0 : zv_WD 0 0 2 := ⟨by decide, by decide, by decide, zv_let127⟩
theorem zv_wd1 : zv_WD 1 2 4 := ⟨by decide, by decide, by decide, zv_let127⟩
theorem zv_wd2 : zv_WD 2 6 4 := ⟨by decide, by decide, by decide, zv_let127⟩
theorem zv_wd3 : zv_WD 3 10 4 := ⟨by decide, by decide, by decide, zv_let127⟩
theorem zv_m_wrdL {T : Nat → Int32} {n w fr zv_mn : Nat} (hw : zv_WD w fr zv_mn) : ∀ (m j fuel i : Nat) (S : St), j + m = zv_mn → m < fuel → zv_PB T n S → zv_LTr S → gI S 8 0 14 = nI i → i ≤ n →
    ∃ S', L_X8_takesWord_2 (nI fr) (nI zv_mn) (fun y3_1 T_1 => bnd (F_X8_takes T_1 (32 : Int32)) (fun r2 S3 => some (r2, S3))) fuel (nI j) S = some (zv_bI (zv_wrdP T n ((bytK.getD w []).drop j) i).1, S') ∧ zv_NF S S' ∧ gI S' 8 0 14 = nI (zv_wrdP T n ((bytK.getD w []).drop j) i).2 := by
  obtain ⟨w1, w2, w3, w4⟩ := hw
  intro m
  induction m with
  | zero =>
    intro j fuel i S hj hf hP hL he hi
    obtain ⟨fu, rfl⟩ : ∃ z, fuel = z + 1 := ⟨fuel - 1, by omega⟩
    obtain rfl : j = zv_mn := by omega
    obtain ⟨t1, t2⟩ := zv_p_tk hP he hi (ch := 32) (by decide)
    rw [L_X8_takesWord_2.eq_2, if_pos (Int32.le_refl _), w2]
    unfold zv_wrdP zv_wrdP
    by_cases h : zv_pk T n i = 32
    · rw [t1 h, zv_bndS, if_pos h]
      exact ⟨_, rfl, zv_NFs (zv_NFr S) (.inl rfl) _, by rw [gI_sI, if_pos ⟨rfl, rfl, rfl⟩]⟩
    · rw [t2 h, zv_bndS, if_neg h]
      exact ⟨S, rfl, zv_NFr S, he⟩
  | succ m ih =>
    intro j fuel i S hj hf hP hL he hi
    have hn := hP.1.1
    obtain ⟨fu, rfl⟩ : ∃ z, fuel = z + 1 := ⟨fuel - 1, by omega⟩
    have hc := w4 (fr + j) (by omega)
    obtain ⟨t1, t2⟩ := zv_p_tk hP he hi hc
    rw [L_X8_takesWord_2.eq_2, if_neg (by rw [zv_nIle (by omega) (by omega)]; omega), zv_nIa fr j (by omega) (by omega), if_pos (zv_gd (by omega)), zv_nIcl (by omega), hL (fr + j) (by omega), w1 j (by omega)]
    unfold zv_wrdP
    by_cases h : zv_pk T n i = zv_letK.getD (fr + j) 0
    · have hin := zv_pkB h (fun z => by rw [z] at hc; exact absurd hc.2 (by decide))
      rw [t1 h, zv_bndS, if_neg zv_z10, if_pos h, zv_nIs j (by omega)]
      have f0 : zv_NF S (sI S 8 0 14 (nI (i + 1))) := zv_NFs (zv_NFr S) (.inl rfl) _
      obtain ⟨S', e, f1, g1⟩ := ih (j + 1) fu (i + 1) _ (by omega) (by omega) (zv_PBn hP f0) (fun x hx => by rw [f0.2.2.1 35 (by decide)]; exact hL x hx) (by rw [gI_sI, if_pos ⟨rfl, rfl, rfl⟩]) (by omega)
      exact ⟨S', e, zv_NFt f0 f1, g1⟩
    · rw [t2 h, zv_bndS, if_pos rfl, if_neg h]
      exact ⟨S, rfl, zv_NFr S, he⟩
theorem zv_m_wrd {T : Nat → Int32} {n w fr zv_mn i : Nat} (hw : zv_WD w fr zv_mn) {S : St} (hP : zv_PB T n S) (hL : zv_LTr S) (he : gI S 8 0 14 = nI i) (hi : i ≤ n) : ∃ S', F_X8_takesWord S (nI fr) (nI zv_mn) = some (zv_bI (zv_wrdP T n (bytK.getD w []) i).1, S') ∧ zv_NF S S' ∧ gI S' 8 0 14 = nI (zv_wrdP T n (bytK.getD w []) i).2 := by
  have := zv_m_wrdL hw zv_mn 0 1000 i S (by omega) (by have := hw.2.2.1; omega) hP hL he hi
  rw [List.drop_zero] at this
  exact this
theorem zv_m_head {T : Nat → Int32} {n i c : Nat} {S : St} (hP : zv_PB T n S) (hL : zv_LTr S) (he : gI S 8 0 14 = nI i) (hi : i ≤ n) (hc : c < 60) {q : Nat} (hqc : 10 * q ≤ c) :
    ∃ S', F_X8_takesHead S (nI c) = some (zv_bI (zv_wrdP T n (bytK.getD (zv_hdW (zv_pk T n i)) []) i).1, S') ∧ zv_NF (sI S 29 0 c (nI (zv_hdW (zv_pk T n i)))) S' ∧ gI S' 8 0 14 = nI (zv_wrdP T n (bytK.getD (zv_hdW (zv_pk T n i)) []) i).2 := by
  have run : ∀ w fr zv_mn, zv_WD w fr zv_mn → ∃ S', bnd (F_X8_takesWord (sI S 29 0 c (nI w)) (nI fr) (nI zv_mn)) (fun r8 S9 => some (r8, S9)) = some (zv_bI (zv_wrdP T n (bytK.getD w []) i).1, S') ∧ zv_NF (sI S 29 0 c (nI w)) S' ∧ gI S' 8 0 14 = nI (zv_wrdP T n (bytK.getD w []) i).2 := by
    intro w fr zv_mn hw
    have hf : zv_TF q S (sI S 29 0 c (nI w)) := zv_TFs _ (by omega) hqc
    obtain ⟨S', e, f, g⟩ := zv_m_wrd hw (zv_PBt hP hf) (zv_LTt hL hf) (by rw [zv_gI_f (by decide)]; exact he) hi
    rw [e, zv_bndS]
    exact ⟨S', rfl, f, g⟩
  unfold F_X8_takesHead zv_hdW
  rw [zv_p_peek hP he hi, zv_bndS, if_pos (zv_gd hc), zv_nIcl (by omega)]
  have c98 := zv_pmC (T := T) (n := n) hP.1 i (c := 98) (by decide)
  have c100 := zv_pmC (T := T) (n := n) hP.1 i (c := 100) (by decide)
  have c117 := zv_pmC (T := T) (n := n) hP.1 i (c := 117) (by decide)
  simp only [c98, c100, c117, zv_nI0 c (by omega), zv_nIcl (show c < 2147483648 by omega), hc, and_self, reduceIte]
  by_cases h1 : zv_pk T n i = 98
  · simp only [h1, reduceIte]; exact run 2 6 4 zv_wd2
  by_cases h2 : zv_pk T n i = 100
  · simp only [h1, h2, show ¬ (100 : Int32) = 98 by decide, reduceIte]; exact run 1 2 4 zv_wd1
  by_cases h3 : zv_pk T n i = 117
  · simp only [h1, h2, h3, show ¬ (117 : Int32) = 98 by decide, show ¬ (117 : Int32) = 100 by decide, reduceIte]; exact run 0 0 2 zv_wd0
  simp only [h1, h2, h3, reduceIte]
  exact run 3 10 4 zv_wd3
/-! what an AIR's clauses left -/
def zv_TD (q : Nat) (cs : List zv_Cl) (S : St) : Prop := gI S 8 0 24 = nI (100 * q + (zv_toks cs).length) ∧ (∀ r, r < (zv_toks cs).length → gI S 33 0 (100 * q + r) = zv_tkM ((zv_toks cs).getD r 0)) ∧
  (∀ c, c < cs.length → gI S 29 0 (10 * q + c) = (cs.getD c zv_d0).1 ∧ gI S 30 0 (10 * q + c) = (cs.getD c zv_d0).2.1 ∧ ((cs.getD c zv_d0).1 < 2 → gI S 31 0 (10 * q + c) = nI (100 * q + (zv_toks (cs.take c)).length) ∧ gI S 32 0 (10 * q + c) = nI (100 * q + (zv_toks (cs.take c)).length + (cs.getD c zv_d0).2.2.length)))
theorem zv_gDl {cs : List zv_Cl} {x : zv_Cl} {c : Nat} (h : c < cs.length) : (cs ++ [x]).getD c zv_d0 = cs.getD c zv_d0 := by
  rw [List.getD_eq_getElem?_getD, List.getD_eq_getElem?_getD, List.getElem?_append_left h]
theorem zv_gDe {cs : List zv_Cl} {x : zv_Cl} : (cs ++ [x]).getD cs.length zv_d0 = x := by
  rw [List.getD_eq_getElem?_getD, List.getElem?_append_right (Nat.le_refl _), Nat.sub_self]; rfl
theorem zv_tkl {cs : List zv_Cl} {x : zv_Cl} {c : Nat} (h : c ≤ cs.length) : (cs ++ [x]).take c = cs.take c := by
  rw [List.take_append_of_le_length h]
/-- a clause more -/
theorem zv_TDa {q : Nat} {cs : List zv_Cl} {S S' : St} {x : zv_Cl} (h : zv_TD q cs S) (e24 : gI S' 8 0 24 = nI (100 * q + (zv_toks cs).length + x.2.2.length)) (e33 : ∀ r, r < (zv_toks cs ++ x.2.2).length → gI S' 33 0 (100 * q + r) = zv_tkM ((zv_toks cs ++ x.2.2).getD r 0))
    (ek : ∀ f r, 29 ≤ f → f ≤ 32 → r < cs.length → gI S' f 0 (10 * q + r) = gI S f 0 (10 * q + r)) (e29 : gI S' 29 0 (10 * q + cs.length) = x.1) (e30 : gI S' 30 0 (10 * q + cs.length) = x.2.1)
    (e31 : x.1 < 2 → gI S' 31 0 (10 * q + cs.length) = nI (100 * q + (zv_toks cs).length) ∧ gI S' 32 0 (10 * q + cs.length) = nI (100 * q + (zv_toks cs).length + x.2.2.length)) : zv_TD q (cs ++ [x]) S' := by
  obtain ⟨h1, h2, h3⟩ := h
  refine ⟨?_, ?_, fun c hc => ?_⟩
  · rw [zv_toksA, zv_toks1, List.length_append, ← Nat.add_assoc]; exact e24
  · rw [zv_toksA, zv_toks1]; exact e33
  · rw [List.length_append, List.length_singleton] at hc
    by_cases hq : c < cs.length
    · rw [zv_gDl hq, zv_tkl (by omega), ek 29 c (by omega) (by omega) hq, ek 30 c (by omega) (by omega) hq, ek 31 c (by omega) (by omega) hq, ek 32 c (by omega) (by omega) hq]
      exact h3 c hq
    · obtain rfl : c = cs.length := by omega
      rw [zv_gDe, zv_tkl (Nat.le_refl _), List.take_length]
      exact ⟨e29, e30, e31⟩
theorem zv_TDn {q : Nat} {cs : List zv_Cl} {S S' : St} (h : zv_TD q cs S) (f : zv_NF S S') : zv_TD q cs S' := by
  obtain ⟨h1, h2, h3⟩ := h
  unfold zv_TD
  rw [f.2.2.2 0 24 (by omega), f.2.2.1 33 (by decide), f.2.2.1 29 (by decide), f.2.2.1 30 (by decide), f.2.2.1 31 (by decide), f.2.2.1 32 (by decide)]
  exact ⟨h1, h2, h3⟩
theorem zv_m_E {T : Nat → Int32} {n q c i : Nat} {S5 : St} {G : List Int32} (hB : zv_MB T n q c S5) (h : zv_MS n q c S5 [] G i S5) (hb : G.length ≤ i) :
    ∃ S', L_X8_takesE_22 (nI c) 1000 1 S5 = some (zv_bI (zv_expP T n (zv_facP T n 4) i).1, S') ∧ (∃ σ' G', zv_MS n q c S5 σ' G' (zv_expP T n (zv_facP T n 4) i).2.1 S') ∧ ((zv_expP T n (zv_facP T n 4) i).1 = true → zv_MS n q c S5 [] (G ++ (zv_expP T n (zv_facP T n 4) i).2.2) (zv_expP T n (zv_facP T n 4) i).2.1 S' ∧ gI S' 32 0 c = nI (100 * q + (G ++ (zv_expP T n (zv_facP T n 4) i).2.2).length)) := by
  have hn := hB.1.1
  have hq := hB.2.2.2.1
  have hi := (zv_MSg h).2.2.2.2
  have ho : zv_baseok [] := .inl rfl
  obtain ⟨f1, f2⟩ := zv_simE hB (zv_simF hB 4) ho (fun x hx => (nomatch hx)) rfl h hb
  obtain ⟨o1, o2, o3⟩ := zv_epB (T := T) (n := n) (fac := zv_facP T n 4) (fun i hi => zv_faB 4 i hi) hi
  generalize zv_expP T n (zv_facP T n 4) i = r at *
  cases hr : r.1 with
  | false =>
    obtain ⟨kk, S2, σ', G', z1, z2, z3⟩ := f2 hr
    refine ⟨S2, ?_, ⟨σ', G', z3⟩, fun z => (nomatch z)⟩
    have := z2 (999 - kk)
    rw [show 999 - kk + kk + 1 = 1000 by omega] at this
    exact this
  | true =>
    have o3' := o3 hr
    obtain ⟨kk, S2, pa, wt, G', z1, z2, z3, z4, z5, z6, z7⟩ := f1 hr
    obtain ⟨S3, e3, h3⟩ := zv_m_set124 hq hn z3 (by omega) ho
    rw [z4] at h3
    have h3' := zv_MSc h3 (gI S3 8 0 24)
    have g38 : ¬ zv_pm T n r.2.1 = 38 := fun z => z5 ((zv_pmC hB.1 _ (by decide)).mp z)
    have g124 : ¬ zv_pm T n r.2.1 = 124 := fun z => z6 ((zv_pmC hB.1 _ (by decide)).mp z)
    have e25 : gI (sI S3 32 0 c (gI S3 8 0 24)) 8 0 25 = nI 0 := (zv_MSg h3').2.2.1
    have e32 : gI (sI S3 32 0 c (gI S3 8 0 24)) 32 0 c = nI (100 * q + (G ++ r.2.2).length) := by rw [gI_sI, if_pos ⟨rfl, rfl, rfl⟩]; exact (zv_MSg h3).2.1
    refine ⟨_, ?_, ⟨_, _, h3'⟩, fun _ => ⟨h3', e32⟩⟩
    have := z2 (1000 - kk)
    rw [show 1000 - kk + kk = 1000 by omega] at this
    rw [this, show 1000 - kk = (999 - kk) + 1 by omega, L_X8_takesE_22.eq_2, zv_m_pk hB z3, zv_bndS, if_pos rfl, if_neg g38, if_neg g124, e3, zv_bndS, if_pos (zv_gd hB.2.2.2.2), zv_nIcl (by have := hB.2.2.2.2; omega), e25, if_pos (show nI 0 = 0 from rfl)]
    rfl
theorem zv_m_cls {T : Nat → Int32} {n q i : Nat} {S : St} {cs : List zv_Cl} (hP : zv_PB T n S) (hL : zv_LTr S) (hT : zv_TD q cs S) (he : gI S 8 0 14 = nI i) (hi : i ≤ n) (hl : (zv_toks cs).length ≤ i) (hc : cs.length < 10) (hq : q ≤ 5) :
    ∃ S', F_X8_takesClause S (nI (10 * q + cs.length)) = some (zv_bI (zv_clsP T n i).1, S') ∧ zv_TF q S S' ∧ gI S' 8 0 14 = nI (zv_clsP T n i).2.1 ∧ ((zv_clsP T n i).1 = true → zv_TD q (cs ++ [(zv_clsP T n i).2.2]) S') := by
  have hn := hP.1.1
  have hc60 : 10 * q + cs.length < 60 := by omega
  obtain ⟨zv_S1, e1, f1, g1⟩ := zv_m_head hP hL he hi hc60 (q := q) (by omega)
  obtain ⟨b1, b2⟩ := zv_bt128 (zv_hdW (zv_pk T n i)) (zv_hdB _)
  obtain ⟨w1, w2, w3⟩ := zv_wrB (T := T) (n := n) (bytK.getD (zv_hdW (zv_pk T n i)) []) i hi b1
  have hw3 := zv_hdB (zv_pk T n i)
  have tf0 : zv_TF q S (sI S 29 0 (10 * q + cs.length) (nI (zv_hdW (zv_pk T n i)))) := zv_TFs _ (by omega) (by omega)
  have tf1 : zv_TF q S zv_S1 := zv_TFt tf0 (zv_TFn f1)
  have e29 : gI zv_S1 29 0 (10 * q + cs.length) = nI (zv_hdW (zv_pk T n i)) := by rw [f1.2.2.1 29 (by decide), gI_sI, if_pos ⟨rfl, rfl, rfl⟩]
  have k1 : ∀ f r, 29 ≤ f → f ≤ 33 → (f = 33 ∨ r < 10 * q + cs.length) → gI zv_S1 f 0 r = gI S f 0 r := fun f r a b z => by rw [f1.2.2.1 f (by omega), gI_sI, if_neg (by omega)]
  have k24 : gI zv_S1 8 0 24 = gI S 8 0 24 := by rw [f1.2.2.2 0 24 (by omega), zv_gI_f (by decide)]
  have hgd : 0 ≤ nI (10 * q + cs.length) ∧ (nI (10 * q + cs.length)).toNatClampNeg < 60 := zv_gd hc60
  obtain ⟨h24, h33, hcl⟩ := hT
  unfold F_X8_takesClause zv_clsP
  rw [e1, zv_bndS]
  generalize zv_hdW (zv_pk T n i) = w at *
  by_cases h : (zv_wrdP T n (bytK.getD w []) i).1 = true
  · have w4 := w3 h
    rw [h, if_neg (show ¬ zv_bI true = 0 by decide), if_pos rfl]
    obtain ⟨y1, y2⟩ := zv_p_num (zv_PBt hP tf1) g1 w2
    cases h2 : zv_numP T n (zv_wrdP T n (bytK.getD w []) i).2 with
    | none =>
      rw [y1 h2, zv_bndS, if_pos rfl]
      exact ⟨zv_S1, rfl, tf1, g1, fun z => (nomatch z)⟩
    | some z =>
      obtain ⟨zv_c1, c2, c3, c4⟩ := zv_nuB h2
      obtain ⟨S2, e2, f2, g2, g2'⟩ := y2 z h2
      have tf2 := zv_TFt tf1 (zv_TFn f2)
      have tf3 : zv_TF q S (sI S2 30 0 (10 * q + cs.length) (nI z.1)) := zv_TFt tf2 (zv_TFs _ (by omega) (by omega))
      have e29' : gI (sI S2 30 0 (10 * q + cs.length) (nI z.1)) 29 0 (10 * q + cs.length) = nI w := by rw [zv_gI_f (by decide), f2.2.2.1 29 (by decide), e29]
      have e30' : gI (sI S2 30 0 (10 * q + cs.length) (nI z.1)) 30 0 (10 * q + cs.length) = nI z.1 := by rw [gI_sI, if_pos ⟨rfl, rfl, rfl⟩]
      have e14 : gI (sI S2 30 0 (10 * q + cs.length) (nI z.1)) 8 0 14 = nI z.2 := by rw [zv_gI_f (by decide)]; exact g2
      have k2 : ∀ f r, 29 ≤ f → f ≤ 33 → (f = 33 ∨ r < 10 * q + cs.length) → gI (sI S2 30 0 (10 * q + cs.length) (nI z.1)) f 0 r = gI S f 0 r := fun f r a b y => by
        rw [gI_sI, if_neg (by omega), f2.2.2.1 f (by omega)]; exact k1 f r a b y
      have k24' : gI (sI S2 30 0 (10 * q + cs.length) (nI z.1)) 8 0 24 = nI (100 * q + (zv_toks cs).length) := by rw [zv_gI_f (by decide), f2.2.2.2 0 24 (by omega), k24, h24]
      rw [e2, zv_bndS, if_neg zv_z10, if_pos hgd, if_pos hgd, zv_nIcl (by omega), g2', e29']
      generalize sI S2 30 0 (10 * q + cs.length) (nI z.1) = S3 at *
      simp only []
      by_cases h3 : 2 ≤ w
      · rw [if_pos (show (2 : Int32) ≤ nI w from (zv_nIle (a := 2) (by omega) (by omega)).mpr h3), if_pos h3]
        refine ⟨S3, rfl, tf3, e14, fun _ => ?_⟩
        refine zv_TDa ⟨h24, h33, hcl⟩ k24' (fun r hr => ?_) (fun f r a b y => k2 f _ a (by omega) (.inr (by omega))) e29' e30' (fun y => ?_)
        · rw [List.append_nil] at hr ⊢
          rw [k2 33 _ (by omega) (by omega) (.inl rfl)]; exact h33 r hr
        · have := (zv_nIlt (b := 2) (by omega) (by omega)).mp y
          omega
      · rw [if_neg (show ¬ (2 : Int32) ≤ nI w from fun y => h3 ((zv_nIle (a := 2) (by omega) (by omega)).mp y)), if_neg h3]
        obtain ⟨t1, t2⟩ := zv_p_tk (zv_PBt hP tf3) e14 c2 (ch := 32) (by decide)
        by_cases h4 : zv_pk T n z.2 = 32
        · have hin := zv_pkB h4 (by decide)
          have tf4 : zv_TF q S (sI S3 8 0 14 (nI (z.2 + 1))) := zv_TFt tf3 (zv_TF8 _ (.inl rfl))
          rw [t1 h4, zv_bndS, if_neg zv_z10, if_pos h4]
          unfold F_X8_takesE
          have a24 : gI (sI (sI (sI S3 8 0 14 (nI (z.2 + 1))) 8 0 25 0) 8 0 26 0) 8 0 24 = nI (100 * q + (zv_toks cs).length) := by
            rw [gI_sI, if_neg (by omega), gI_sI, if_neg (by omega), gI_sI, if_neg (by omega)]; exact k24'
          rw [if_pos hgd, zv_nIcl (by omega), a24]
          have tf5 : zv_TF q S (sI (sI (sI (sI S3 8 0 14 (nI (z.2 + 1))) 8 0 25 0) 8 0 26 0) 31 0 (10 * q + cs.length) (nI (100 * q + (zv_toks cs).length))) := zv_TFt (zv_TFt (zv_TFt tf4 (zv_TF8 _ (.inr (.inr (.inr (.inl rfl)))))) (zv_TF8 _ (.inr (.inr (.inr (.inr rfl)))))) (zv_TFs _ (by omega) (by omega))
          have m14 : gI (sI (sI (sI (sI S3 8 0 14 (nI (z.2 + 1))) 8 0 25 0) 8 0 26 0) 31 0 (10 * q + cs.length) (nI (100 * q + (zv_toks cs).length))) 8 0 14 = nI (z.2 + 1) := by rw [zv_gI_f (by decide), gI_sI, if_neg (by omega), gI_sI, if_neg (by omega), gI_sI, if_pos ⟨rfl, rfl, rfl⟩]
          have m24 : gI (sI (sI (sI (sI S3 8 0 14 (nI (z.2 + 1))) 8 0 25 0) 8 0 26 0) 31 0 (10 * q + cs.length) (nI (100 * q + (zv_toks cs).length))) 8 0 24 = nI (100 * q + (zv_toks cs).length) := by rw [zv_gI_f (by decide)]; exact a24
          have m25 : gI (sI (sI (sI (sI S3 8 0 14 (nI (z.2 + 1))) 8 0 25 0) 8 0 26 0) 31 0 (10 * q + cs.length) (nI (100 * q + (zv_toks cs).length))) 8 0 25 = 0 := by rw [zv_gI_f (by decide), gI_sI, if_neg (by omega), gI_sI, if_pos ⟨rfl, rfl, rfl⟩]
          have m26 : gI (sI (sI (sI (sI S3 8 0 14 (nI (z.2 + 1))) 8 0 25 0) 8 0 26 0) 31 0 (10 * q + cs.length) (nI (100 * q + (zv_toks cs).length))) 8 0 26 = 0 := by rw [zv_gI_f (by decide), gI_sI, if_pos ⟨rfl, rfl, rfl⟩]
          have m31 : gI (sI (sI (sI (sI S3 8 0 14 (nI (z.2 + 1))) 8 0 25 0) 8 0 26 0) 31 0 (10 * q + cs.length) (nI (100 * q + (zv_toks cs).length))) 31 0 (10 * q + cs.length) = nI (100 * q + (zv_toks cs).length) := by rw [gI_sI, if_pos ⟨rfl, rfl, rfl⟩]
          have m29 : gI (sI (sI (sI (sI S3 8 0 14 (nI (z.2 + 1))) 8 0 25 0) 8 0 26 0) 31 0 (10 * q + cs.length) (nI (100 * q + (zv_toks cs).length))) 29 0 (10 * q + cs.length) = nI w := by rw [zv_gI_f (by decide), zv_gI_f (by decide), zv_gI_f (by decide), zv_gI_f (by decide)]; exact e29'
          have m30 : gI (sI (sI (sI (sI S3 8 0 14 (nI (z.2 + 1))) 8 0 25 0) 8 0 26 0) 31 0 (10 * q + cs.length) (nI (100 * q + (zv_toks cs).length))) 30 0 (10 * q + cs.length) = nI z.1 := by rw [zv_gI_f (by decide), zv_gI_f (by decide), zv_gI_f (by decide), zv_gI_f (by decide)]; exact e30'
          have mk : ∀ f r, 29 ≤ f → f ≤ 33 → (f = 33 ∨ r < 10 * q + cs.length) → gI (sI (sI (sI (sI S3 8 0 14 (nI (z.2 + 1))) 8 0 25 0) 8 0 26 0) 31 0 (10 * q + cs.length) (nI (100 * q + (zv_toks cs).length))) f 0 r = gI S f 0 r := fun f r a b y => by
            rw [gI_sI, if_neg (by omega), zv_gI_f (by omega), zv_gI_f (by omega), zv_gI_f (by omega)]; exact k2 f r a b y
          generalize (sI (sI (sI (sI S3 8 0 14 (nI (z.2 + 1))) 8 0 25 0) 8 0 26 0) 31 0 (10 * q + cs.length) (nI (100 * q + (zv_toks cs).length))) = S5 at *
          have hP5 := zv_PBt hP tf5
          have hB5 : zv_MB T n q (10 * q + cs.length) S5 := ⟨hP5.1, hP5.2.1, hP5.2.2, hq, hc60⟩
          have hM5 : zv_MS n q (10 * q + cs.length) S5 [] (zv_toks cs) (z.2 + 1) S5 := ⟨rfl, rfl, fun _ _ _ _ _ => rfl, fun _ _ _ => rfl, fun _ _ => rfl, fun _ _ => rfl, m14, m24, fun r hr => by rw [mk 33 _ (by omega) (by omega) (.inl rfl)]; exact h33 r hr, m25, m26, fun r hr => absurd hr (Nat.not_lt_zero _), by omega⟩
          obtain ⟨S6, e6, ⟨σ', G', hM6⟩, hok⟩ := zv_m_E hB5 hM5 (by omega)
          have tf6 := zv_TFt tf5 (zv_TFm hM6 (by omega))
          rw [e6, zv_bndS]
          cases hr : (zv_expP T n (zv_facP T n 4) (z.2 + 1)).1 with
          | false =>
            rw [if_pos (show zv_bI false = 0 from rfl)]
            exact ⟨S6, rfl, tf6, (zv_MSg hM6).1, fun y => (nomatch y)⟩
          | true =>
            obtain ⟨hM7, e32⟩ := hok hr
            rw [if_neg (show ¬ zv_bI true = 0 by decide)]
            refine ⟨S6, rfl, tf6, (zv_MSg hM6).1, fun _ => ?_⟩
            refine zv_TDa ⟨h24, h33, hcl⟩ ?_ (fun r hr2 => hM7.2.2.2.2.2.2.2.2.1 r hr2) (fun f r a b y => ?_) ?_ ?_ (fun _ => ⟨?_, ?_⟩)
            · rw [(zv_MSg hM7).2.1, List.length_append, ← Nat.add_assoc]
            · by_cases e : f = 32
              · subst e
                rw [hM7.2.2.2.2.1 _ (by omega)]
                exact mk 32 _ (by omega) (by omega) (.inr (by omega))
              · rw [hM7.2.2.1 f (by omega) e (by omega) (by omega)]
                exact mk f _ a (by omega) (.inr (by omega))
            · rw [hM7.2.2.1 29 (by decide) (by decide) (by decide) (by decide)]; exact m29
            · rw [hM7.2.2.1 30 (by decide) (by decide) (by decide) (by decide)]; exact m30
            · rw [hM7.2.2.1 31 (by decide) (by decide) (by decide) (by decide)]; exact m31
            · rw [e32, List.length_append, ← Nat.add_assoc]
        · rw [t2 h4, zv_bndS, if_pos rfl, if_neg h4]
          exact ⟨S3, rfl, tf3, e14, fun y => (nomatch y)⟩
  · have hf : (zv_wrdP T n (bytK.getD w []) i).1 = false := by
      cases hq : (zv_wrdP T n (bytK.getD w []) i).1 with
      | true => exact absurd hq h
      | false => rfl
    rw [hf, if_pos (show zv_bI false = 0 from rfl), if_neg (by decide)]
    exact ⟨zv_S1, rfl, tf1, g1, fun z => (nomatch z)⟩
