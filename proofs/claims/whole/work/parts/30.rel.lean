theorem zv_ia (a b : Int32) : (a + b).toInt = (a.toInt + b.toInt + 2147483648) % 4294967296 - 2147483648 := by
  rw [Int32.toInt_add, Int.bmod_def]; omega
theorem zv_is_ (a b : Int32) : (a - b).toInt = (a.toInt - b.toInt + 2147483648) % 4294967296 - 2147483648 := by
  rw [Int32.toInt_sub, Int.bmod_def]; omega
theorem zv_im (a b : Int32) : (a * b).toInt = (a.toInt * b.toInt + 2147483648) % 4294967296 - 2147483648 := by
  rw [Int32.toInt_mul, Int.bmod_def]; omega
theorem zv_ing (a : Int32) : (- a).toInt = (- a.toInt + 2147483648) % 4294967296 - 2147483648 := by
  rw [Int32.toInt_neg, Int.bmod_def]; omega
theorem zv_iit (p : Prop) [Decidable p] (a b : Int32) : (if p then a else b).toInt = if p then a.toInt else b.toInt := by split <;> rfl
theorem zv_icl (a : Int32) : (a.toNatClampNeg : Int) = if a.toInt < 0 then 0 else a.toInt := by
  rw [← Int32.toNat_toInt]; split <;> omega
theorem zv_iB (a : Int32) : -2147483648 ≤ a.toInt ∧ a.toInt ≤ 2147483647 := by
  have := Int32.le_toInt a; have := Int32.toInt_lt a; omega
theorem zv_iN {n : Nat} (h : n < 2147483648) : (nI n).toInt = n := nI_toInt h
theorem zv_idv (a b : Int32) (hb : 0 < b.toInt) (ha : 0 ≤ a.toInt) : (a / b).toInt = a.toInt / b.toInt := by
  rw [Int32.toInt_div_of_ne_right]
  · exact Int.tdiv_eq_ediv_of_nonneg ha
  · intro h; rw [h] at hb; revert hb; decide
theorem zv_inI (x : Int32) (n : Nat) (h : x.toInt = n) : x = nI n := by
  rw [← Int32.toInt_inj, zv_iN (by have := zv_iB x; omega)]; exact h
theorem zv_nIcl {n : Nat} (h : n < 2147483648) : (nI n).toNatClampNeg = n := nI_clamp h
theorem zv_nIs (n : Nat) (h : n < 2147483647) : nI n + 1 = nI (n + 1) := by
  apply zv_inI; rw [zv_ia, zv_iN (by omega)]; simp only [Int32.reduceToInt]; omega
/-! an AIR as clauses -/
abbrev zv_Cl := Int32 × Int32 × List Int32
def zv_flat : List zv_Cl → List Int32
  | [] => []
  | c :: r => (if c.1 = 0 then c.2.2 ++ [9000 + c.2.1] else if c.1 = 1 then c.2.2 ++ [10000 + c.2.1] else []) ++ zv_flat r
def zv_lastW (w d : Int32) (cs : List zv_Cl) : Int32 := cs.foldl (fun x c => if c.1 = w then c.2.1 else x) d
def zv_baseA (cs : List zv_Cl) : Int32 := if 10 * zv_lastW 2 40 cs ≤ 400 then 10 * zv_lastW 2 40 cs else 400
def zv_safeA (cs : List zv_Cl) : Int32 := 10 * zv_lastW 3 8 cs
def zv_tst (t x : Int32) : Bool :=
  if t / 100 - t / 100 / 10 * 10 = 0 then decide (x < t - t / 100 * 100) else if t / 100 - t / 100 / 10 * 10 = 1 then decide (x = t - t / 100 * 100) else decide (t - t / 100 * 100 < x)
def zv_stp (g : Int32 → Int32) (s : List Bool) (t : Int32) : List Bool :=
  if t / 1000 = 6 then (match s with | b :: r => (!b) :: r | [] => [])
  else if t / 1000 = 7 then (match s with | b :: a :: r => (a && b) :: r | _ => [])
  else if t / 1000 = 8 then (match s with | b :: a :: r => (a || b) :: r | _ => [])
  else zv_tst t (g (t / 1000)) :: s
def zv_evl (g : Int32 → Int32) (ts : List Int32) : Bool := (ts.foldl (zv_stp g) []).headD false
def zv_dep : List Int32 → Nat → Prop
  | [], d => d = 1
  | t :: r, d => if t = 6000 then 1 ≤ d ∧ zv_dep r d else if t = 7000 ∨ t = 8000 then 2 ≤ d ∧ zv_dep r (d - 1) else 0 ≤ t ∧ t < 6000 ∧ d < 30 ∧ zv_dep r (d + 1)
def zv_addC (g : Int32 → Int32) (x : Int32) (c : zv_Cl) : Int32 :=
  if c.1 = 0 then (if zv_evl g c.2.2 then x + c.2.1 else x) else if c.1 = 1 then (if zv_evl g c.2.2 then x - c.2.1 else x) else x
def zv_sumA (g : Int32 → Int32) (cs : List zv_Cl) : Int32 := cs.foldl (zv_addC g) 0
def zv_okC (c : zv_Cl) : Prop := 0 ≤ c.2.1 ∧ c.2.1 ≤ 99 ∧ 0 ≤ c.1 ∧ c.1 ≤ 3 ∧ (c.1 < 2 → zv_dep c.2.2 0)
def zv_ctxF (n k v m h t : Int32) : Int32 → Int32 := fun f => if f = 0 then n else if f = 1 then k else if f = 2 then h else if f = 3 then t else if f = 4 then v else m / 10
def zv_tkM (t : Int32) : Int32 := if t = 6000 then -33 else if t = 7000 then -38 else if t = 8000 then -124 else t
/-! the pieces of the relation -/
def zv_RB (k q : Nat) (x m : Int32) : Prop := q ≤ k ∧ k ≤ q + 1 ∧ k ≤ 6 ∧ x = nI q ∧ m = nI q
def zv_RA (k : Nat) (r : Nat → Option Nat) : Prop := ∀ j, j < 6 → r j = if j < k then some (1 + j) else none
def zv_RV1 (cs : List zv_Cl) (A S : Nat → Int32) : Prop := A 1 = nI (zv_flat cs).length ∧ (zv_flat cs).length ≤ 100 ∧ (∀ i, i < (zv_flat cs).length → S i = (zv_flat cs).getD i 0) ∧ A 2 = zv_baseA cs ∧ A 3 = zv_safeA cs
def zv_RV2 (j : Nat) (cs : List zv_Cl) (A28 A29 A30 A31 A32 A33 : Nat → Int32) : Prop := A28 j = nI cs.length ∧ ∀ c, c < cs.length → A29 (10 * j + c) = (cs.getD c (0, 0, [])).1 ∧ A30 (10 * j + c) = (cs.getD c (0, 0, [])).2.1 ∧ ((cs.getD c (0, 0, [])).1 < 2 → ∃ a b : Nat, a ≤ b ∧ b ≤ 100 * j + 100 ∧ A31 (10 * j + c) = nI a ∧ A32 (10 * j + c) = nI b ∧ b = a + (cs.getD c (0, 0, [])).2.2.length ∧ ∀ i, i < (cs.getD c (0, 0, [])).2.2.length → A33 (a + i) = zv_tkM ((cs.getD c (0, 0, [])).2.2.getD i 0))
def zv_RV (q : Nat) (cs : Nat → List zv_Cl) (A S : Nat → Nat → Int32) (A28 A29 A30 A31 A32 A33 : Nat → Int32) : Prop := cs 0 = [] ∧ ∀ a, a ≤ q → (∀ c, c ∈ cs a → zv_okC c) ∧ (cs a).length ≤ 10 ∧ zv_RV1 (cs a) (A a) (S a) ∧ (1 ≤ a → zv_RV2 (a - 1) (cs a) A28 A29 A30 A31 A32 A33)
def zv_RT (x m : Int32) (X M : Nat → Int32) : Prop := ∃ n : Nat, n ≤ 100 ∧ x = nI n ∧ m = nI n ∧ ∀ i, i < n → X i = M i ∧ 0 ≤ M i ∧ M i ≤ 127
def zv_RD (x m : Int32) (X M : Nat → Int32) : Prop := ∃ n : Nat, n ≤ 1000 ∧ x = nI n ∧ m = nI n ∧ ∀ i, i < n → i < 20 → X i = M i
def zv_RP (X : Nat → Nat → Int32) (XJ : Nat → Nat → Int64) (Ms Ml : Nat → Int32) (MJ : Nat → Int64) : Prop := ∀ t, t < 6 → X t 1 = Ms t ∧ X t 2 = Ml t ∧ -1 ≤ Ms t ∧ Ms t ≤ 4 ∧ 0 ≤ Ml t ∧ Ml t ≤ 60 ∧ (Ms t = -1 → Ml t = 0) ∧ ∀ j, j < 60 → XJ t j = MJ (60 * t + j)
def zv_RI (x m : Int32) : Prop := x = m ∧ (x = 0 ∨ x = 1)
def zv_letK : List Int32 := [117, 112, 100, 111, 119, 110, 98, 97, 115, 101, 115, 97, 102, 101]
def zv_RL (M : Nat → Int32) : Prop := ∀ j, j < 14 → M j = zv_letK.getD j 0
def zv_RN (X3 : Nat → Nat → Int32) : Prop := ∀ i, i < 12 → X3 i 0 = nI (i % 6)
def zv_RC (q : Nat) (cs : Nat → List zv_Cl) (X3 : Nat → Nat → Int32) (R3 : Nat → Nat → Option Nat) : Prop := ∀ i, i < 12 → ∀ a, R3 i 6 = some a → a ≤ q ∧ X3 i 9 = zv_sumA (zv_ctxF (X3 i 0) (X3 i 2) (X3 i 3) (X3 i 4) (X3 i 7) (X3 i 8)) (cs a)
def zv_SC (c : Nat) (x m : Int32) : Prop := c ≤ 6 ∧ x = nI c ∧ m = nI c
def zv_SL (c o : Nat) (X3 X13 : Nat → Nat → Int32) (kd v wh pl rw : Nat → Int32) : Prop := ∀ j, j < c → X3 (o + j) 2 = kd j ∧ X3 (o + j) 3 = v j ∧ X3 (o + j) 4 = wh j ∧ X3 (o + j) 5 = pl j ∧ 0 ≤ kd j ∧ kd j ≤ 6 ∧ 0 ≤ v j ∧ v j ≤ 9 ∧ 0 ≤ wh j ∧ wh j ≤ 99 ∧ 0 ≤ pl j ∧ pl j ≤ 20 ∧ ∀ p, p < 4 → X13 (o + j) p = rw (4 * j + p) ∧ 0 ≤ rw (4 * j + p) ∧ rw (4 * j + p) ≤ 9
def zv_SG (X : Nat → Int32) (mi ml hi : Int32) : Prop := X 2 = mi ∧ X 0 = ml ∧ X 1 = hi ∧ 0 ≤ mi ∧ mi ≤ 9999 ∧ 0 ≤ ml ∧ ml ≤ 99 ∧ 0 ≤ hi ∧ hi ≤ 400
def zv_SI (c : Nat) (x m : Int32) : Prop := (x = -5 ∧ m = -1) ∨ (x = m ∧ 0 ≤ m ∧ m < nI c)
def zv_SH (x m : Int32) : Prop := x = m ∧ 0 ≤ m ∧ m ≤ 99
def zv_SA (q : Nat) (r : Option Nat) (m : Int32) : Prop := ∃ a : Nat, a ≤ q ∧ r = some a ∧ m = nI a - 1
def zv_SV (mx : Nat) (lo hi : Int32) (x m : Int32) (X M : Nat → Int32) : Prop := ∃ n : Nat, n ≤ mx ∧ x = nI n ∧ m = nI n ∧ ∀ r, r < n → X r = M r ∧ lo ≤ M r ∧ M r ≤ hi
def zv_SX (mx c : Nat) (x : Int32) (X M : Nat → Int32) : Prop := ∃ n : Nat, n ≤ mx ∧ x = nI n ∧ ∀ r, r < n → X r = M r ∧ 0 ≤ M r ∧ M r < nI c
def zv_SR (q s : Nat) (Sx : St) (lf mi ml hi is hm the lg sn bk : Int32) (kd v wh pl rw lw ln sm bw bc : Nat → Int32) : Prop := ∃ c : Nat,
  zv_SC c (gI Sx 5 s 5) lf ∧ zv_SL c (6 * s) (gI Sx 3) (gI Sx 13) kd v wh pl rw ∧ zv_SG (gI Sx 2 s) mi ml hi ∧ zv_SI c (gI Sx 5 s 6) is ∧ zv_SH (gI Sx 5 s 7) hm ∧ zv_SA q (gR Sx 5 s 8) the ∧
  zv_SV 4 0 60 (gI Sx 4 (3 * s) 2) lg (gI Sx 15 (3 * s)) ln ∧ zv_SX 4 c (gI Sx 4 (3 * s) 2) (gI Sx 14 (3 * s)) lw ∧ zv_SV 5 (-99) 99 (gI Sx 4 (3 * s + 1) 2) sn (gI Sx 15 (3 * s + 1)) sm ∧ zv_SV 8 (-99) 99 (gI Sx 4 (3 * s + 2) 2) bk (gI Sx 15 (3 * s + 2)) bc ∧ zv_SX 8 c (gI Sx 4 (3 * s + 2) 2) (gI Sx 14 (3 * s + 2)) bw
def zv_S0 (q : Nat) (Sx Sm : St) : Prop := zv_SR q 0 Sx (gI Sm 8 0 0) (gI Sm 8 0 1) (gI Sm 8 0 2) (gI Sm 8 0 3) (gI Sm 8 0 4) (gI Sm 8 0 5) (gI Sm 8 0 12) (gI Sm 8 0 36) (gI Sm 8 0 39) (gI Sm 8 0 41) (gI Sm 22 0) (gI Sm 23 0) (gI Sm 24 0) (gI Sm 25 0) (gI Sm 26 0) (gI Sm 37 0) (gI Sm 38 0) (gI Sm 39 0) (gI Sm 40 0) (gI Sm 41 0)
def zv_S1 (q : Nat) (Sx Sm : St) : Prop := zv_SR q 1 Sx (gI Sm 8 0 46) (gI Sm 8 0 47) (gI Sm 8 0 48) (gI Sm 8 0 49) (gI Sm 8 0 50) (gI Sm 8 0 51) (gI Sm 8 0 45) (gI Sm 8 0 52) (gI Sm 8 0 53) (gI Sm 8 0 54) (gI Sm 42 0) (gI Sm 43 0) (gI Sm 44 0) (gI Sm 45 0) (gI Sm 46 0) (gI Sm 47 0) (gI Sm 48 0) (gI Sm 49 0) (gI Sm 50 0) (gI Sm 51 0)
def zv_RW (k q : Nat) (cs : Nat → List zv_Cl) (Sx Sm : St) : Prop := zv_RB k q (gI Sx 7 0 8) (gI Sm 8 0 11) ∧ zv_RA k (gR Sx 9 0) ∧ zv_RV q cs (gI Sx 0) (gI Sx 16) (gI Sm 28 0) (gI Sm 29 0) (gI Sm 30 0) (gI Sm 31 0) (gI Sm 32 0) (gI Sm 33 0) ∧ zv_RT (gI Sx 1 0 1) (gI Sm 8 0 13) (gI Sx 17 0) (gI Sm 27 0) ∧ zv_RD (gI Sx 7 0 9) (gI Sm 8 0 65) (gI Sx 10 0) (gI Sm 52 0) ∧ zv_RP (gI Sx 6) (gJ Sx 18) (gI Sm 53 0) (gI Sm 54 0) (gJ Sm 55 0) ∧ zv_RI (gI Sx 7 0 10) (gI Sm 8 0 44) ∧ zv_RL (gI Sm 35 0) ∧ zv_RN (gI Sx 3) ∧ zv_RC q cs (gI Sx 3) (gR Sx 3) ∧ zv_S0 q Sx Sm ∧ zv_S1 q Sx Sm
def Rel (k : Nat) (Sx Sm : St) : Prop := ∃ (q : Nat) (cs : Nat → List zv_Cl), zv_RW k q cs Sx Sm
theorem Rel_k {k : Nat} {Sx Sm : St} (h : Rel k Sx Sm) : k ≤ 6 := by
  obtain ⟨q, cs, h, _⟩ := h
  exact h.2.2.1
theorem Rel_0 : Rel 0 S0x S0m := by
  refine ⟨0, fun _ => [], ⟨Nat.le_refl _, by decide, by decide, rfl, rfl⟩, fun j hj => ?_, ⟨rfl, fun a ha => ?_⟩, ⟨0, by decide, rfl, rfl, fun i hi => absurd hi (Nat.not_lt_zero _)⟩, ⟨0, by decide, rfl, rfl, fun i hi => absurd hi (Nat.not_lt_zero _)⟩, fun t ht => ?_, ⟨rfl, .inl rfl⟩, fun j hj => ?_, fun i hi => ?_, fun i hi a h => ?_, ?_, ?_⟩
  · rfl
  · obtain rfl : a = 0 := by omega
    refine ⟨fun c hc => (nomatch hc), by decide, ⟨rfl, by decide, fun i hi => absurd hi (Nat.not_lt_zero _), rfl, rfl⟩, fun h => by omega⟩
  · refine ⟨?_, rfl, ?_, ?_, (by decide : (0 : Int32) ≤ 0), (by decide : (0 : Int32) ≤ 60), fun _ => rfl, fun j _ => rfl⟩
    all_goals
      have : t = 0 ∨ t = 1 ∨ t = 2 ∨ t = 3 ∨ t = 4 ∨ t = 5 := by omega
      rcases this with rfl | rfl | rfl | rfl | rfl | rfl <;> decide
  · have : j = 0 ∨ j = 1 ∨ j = 2 ∨ j = 3 ∨ j = 4 ∨ j = 5 ∨ j = 6 ∨ j = 7 ∨ j = 8 ∨ j = 9 ∨ j = 10 ∨ j = 11 ∨ j = 12 ∨ j = 13 := by omega
    rcases this with rfl | rfl | rfl | rfl | rfl | rfl | rfl | rfl | rfl | rfl | rfl | rfl | rfl | rfl <;> rfl
  · rfl
  · cases h
  · exact ⟨0, ⟨by decide, rfl, rfl⟩, fun j hj => absurd hj (Nat.not_lt_zero _), ⟨rfl, rfl, rfl, by decide, by decide, by decide, by decide, by decide, by decide⟩, .inl ⟨rfl, rfl⟩, ⟨rfl, by decide, by decide⟩, ⟨0, Nat.le_refl _, rfl, rfl⟩, ⟨0, by decide, rfl, rfl, fun i hi => absurd hi (Nat.not_lt_zero _)⟩, ⟨0, by decide, rfl, fun i hi => absurd hi (Nat.not_lt_zero _)⟩, ⟨0, by decide, rfl, rfl, fun i hi => absurd hi (Nat.not_lt_zero _)⟩, ⟨0, by decide, rfl, rfl, fun i hi => absurd hi (Nat.not_lt_zero _)⟩, ⟨0, by decide, rfl, fun i hi => absurd hi (Nat.not_lt_zero _)⟩⟩
  · exact ⟨0, ⟨by decide, rfl, rfl⟩, fun j hj => absurd hj (Nat.not_lt_zero _), ⟨rfl, rfl, rfl, by decide, by decide, by decide, by decide, by decide, by decide⟩, .inl ⟨rfl, rfl⟩, ⟨rfl, by decide, by decide⟩, ⟨0, Nat.le_refl _, rfl, rfl⟩, ⟨0, by decide, rfl, rfl, fun i hi => absurd hi (Nat.not_lt_zero _)⟩, ⟨0, by decide, rfl, fun i hi => absurd hi (Nat.not_lt_zero _)⟩, ⟨0, by decide, rfl, rfl, fun i hi => absurd hi (Nat.not_lt_zero _)⟩, ⟨0, by decide, rfl, rfl, fun i hi => absurd hi (Nat.not_lt_zero _)⟩, ⟨0, by decide, rfl, fun i hi => absurd hi (Nat.not_lt_zero _)⟩⟩
theorem R0_x : ∀ f i j x, gR S0x f i j = some x → x < nX 0 0 := by
  intro f i j x h
  unfold gR S0x at h
  dsimp only at h
  split at h
  · split at h
    · cases h; exact Nat.zero_lt_one
    · cases h
  · split at h
    · cases h; exact Nat.zero_lt_one
    · cases h
  · cases h
