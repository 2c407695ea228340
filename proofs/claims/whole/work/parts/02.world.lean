/-! the families of cells: 0..8 the objects of class 0..8 of vwCl, 9.. arrays; an instance is a number below n f -/
def kn : Nat → Nat := fun f => match f with
  | 0 => 4
  | 1 => 4
  | 2 => 3
  | 3 => 10
  | 4 => 3
  | 5 => 9
  | 6 => 3
  | 7 => 11
  | 8 => 71
  | _ => 0
def kf : Nat → Nat → Nat := fun f j => match f with
  | 0 => (match j with
    | 0 => 1
    | _ => 0)
  | 1 => (match j with
    | 0 => 1
    | 3 => 2
    | _ => 0)
  | 2 => (match j with
    | _ => 0)
  | 3 => (match j with
    | 1 => 1
    | 6 => 2
    | _ => 0)
  | 4 => (match j with
    | 0 => 1
    | 1 => 1
    | _ => 0)
  | 5 => (match j with
    | 0 => 1
    | 1 => 1
    | 2 => 1
    | 3 => 1
    | 4 => 1
    | 8 => 2
    | _ => 0)
  | 6 => (match j with
    | 0 => 1
    | _ => 0)
  | 7 => (match j with
    | 0 => 1
    | 1 => 1
    | 2 => 1
    | 3 => 1
    | 4 => 1
    | 5 => 1
    | 6 => 1
    | 7 => 1
    | _ => 0)
  | 8 => (match j with
    | 6 => 1
    | 7 => 1
    | 8 => 1
    | 9 => 1
    | 10 => 1
    | 16 => 1
    | 17 => 1
    | 18 => 1
    | 19 => 1
    | 20 => 1
    | 21 => 1
    | 22 => 1
    | 23 => 1
    | 27 => 1
    | 28 => 1
    | 37 => 1
    | 38 => 1
    | 40 => 1
    | 42 => 1
    | 43 => 1
    | 55 => 1
    | 56 => 1
    | 57 => 1
    | 58 => 1
    | 59 => 1
    | 60 => 1
    | 61 => 1
    | 62 => 1
    | 63 => 1
    | 64 => 1
    | 66 => 1
    | 67 => 1
    | 68 => 1
    | 69 => 1
    | 70 => 1
    | _ => 0)
  | _ => 0
def kg : Nat → Nat → Nat → Nat × Nat := fun f j i => match f with
  | 0 => (match j with
    | 0 => (16, i)
    | _ => (0, i))
  | 1 => (match j with
    | 0 => (17, 0)
    | _ => (0, i))
  | 2 => (match j with
    | _ => (0, i))
  | 3 => (match j with
    | 1 => (13, i)
    | _ => (0, i))
  | 4 => (match j with
    | 0 => (14, i)
    | 1 => (15, i)
    | _ => (0, i))
  | 5 => (match j with
    | 0 => (12, i)
    | 1 => (2, i)
    | 2 => (4, 3 * i)
    | 3 => (4, 3 * i + 1)
    | 4 => (4, 3 * i + 2)
    | _ => (0, i))
  | 6 => (match j with
    | 0 => (18, i)
    | _ => (0, i))
  | 7 => (match j with
    | 0 => (0, 0)
    | 1 => (5, 0)
    | 2 => (5, 1)
    | 3 => (2, 2)
    | 4 => (1, 0)
    | 5 => (9, 0)
    | 6 => (10, 0)
    | 7 => (11, 0)
    | _ => (0, i))
  | 8 => (match j with
    | 6 => (22, 0)
    | 7 => (23, 0)
    | 8 => (24, 0)
    | 9 => (25, 0)
    | 10 => (26, 0)
    | 16 => (27, 0)
    | 17 => (28, 0)
    | 18 => (29, 0)
    | 19 => (30, 0)
    | 20 => (31, 0)
    | 21 => (32, 0)
    | 22 => (33, 0)
    | 23 => (34, 0)
    | 27 => (35, 0)
    | 28 => (36, 0)
    | 37 => (37, 0)
    | 38 => (38, 0)
    | 40 => (39, 0)
    | 42 => (40, 0)
    | 43 => (41, 0)
    | 55 => (42, 0)
    | 56 => (43, 0)
    | 57 => (44, 0)
    | 58 => (45, 0)
    | 59 => (46, 0)
    | 60 => (47, 0)
    | 61 => (48, 0)
    | 62 => (49, 0)
    | 63 => (50, 0)
    | 64 => (51, 0)
    | 66 => (52, 0)
    | 67 => (53, 0)
    | 68 => (54, 0)
    | 69 => (55, 0)
    | 70 => (56, 0)
    | _ => (0, i))
  | _ => (0, i)
def ka : Nat → Nat := fun f => match f with
  | 0 => 0
  | 1 => 0
  | 2 => 0
  | 3 => 0
  | 4 => 0
  | 5 => 0
  | 6 => 0
  | 7 => 0
  | 8 => 0
  | 9 => 5
  | 10 => 1
  | 11 => 7
  | 12 => 6
  | 13 => 1
  | 14 => 1
  | 15 => 1
  | 16 => 1
  | 17 => 2
  | 18 => 4
  | 36 => 3
  | 55 => 4
  | 56 => 4
  | _ => 1
def kl : Nat → Nat → Nat := fun f i => match f with
  | 9 => 6
  | 10 => 20
  | 11 => 6
  | 12 => 6
  | 13 => 4
  | 14 => (match i % 3 with | 0 => 4 | 1 => 5 | _ => 8)
  | 15 => (match i % 3 with | 0 => 4 | 1 => 5 | _ => 8)
  | 16 => 100
  | 17 => 100
  | 18 => 60
  | 22 => 6
  | 23 => 6
  | 24 => 6
  | 25 => 6
  | 26 => 24
  | 27 => 100
  | 28 => 6
  | 29 => 60
  | 30 => 60
  | 31 => 60
  | 32 => 60
  | 33 => 600
  | 34 => 101
  | 35 => 14
  | 36 => 100
  | 37 => 4
  | 38 => 4
  | 39 => 5
  | 40 => 8
  | 41 => 8
  | 42 => 6
  | 43 => 6
  | 44 => 6
  | 45 => 6
  | 46 => 24
  | 47 => 4
  | 48 => 4
  | 49 => 5
  | 50 => 8
  | 51 => 8
  | 52 => 20
  | 53 => 6
  | 54 => 6
  | 55 => 360
  | 56 => 60
  | _ => 0
def nX (k : Nat) : Nat → Nat := fun f => match f with
  | 0 => 1 + k
  | 1 => 1
  | 2 => 3
  | 3 => 12
  | 4 => 6
  | 5 => 2
  | 6 => 6
  | 7 => 1
  | 9 => 1
  | 10 => 1
  | 11 => 1
  | 12 => 2
  | 13 => 12
  | 14 => 6
  | 15 => 6
  | 16 => 1 + k
  | 17 => 1
  | 18 => 6
  | _ => 0
def nM : Nat → Nat := fun f => match f with
  | 8 => 1
  | 22 => 1
  | 23 => 1
  | 24 => 1
  | 25 => 1
  | 26 => 1
  | 27 => 1
  | 28 => 1
  | 29 => 1
  | 30 => 1
  | 31 => 1
  | 32 => 1
  | 33 => 1
  | 34 => 1
  | 35 => 1
  | 36 => 1
  | 37 => 1
  | 38 => 1
  | 39 => 1
  | 40 => 1
  | 41 => 1
  | 42 => 1
  | 43 => 1
  | 44 => 1
  | 45 => 1
  | 46 => 1
  | 47 => 1
  | 48 => 1
  | 49 => 1
  | 50 => 1
  | 51 => 1
  | 52 => 1
  | 53 => 1
  | 54 => 1
  | 55 => 1
  | 56 => 1
  | _ => 0
/-! the state: ints, longs, references to Airs, by family, instance, place -/
abbrev St := (Nat → Nat → Nat → Int32) × (Nat → Nat → Nat → Int64) × (Nat → Nat → Nat → Option Nat)
def gI (S : St) (f i : Nat) : Nat → Int32 := S.1 f i
def gJ (S : St) (f i : Nat) : Nat → Int64 := S.2.1 f i
def gR (S : St) (f i : Nat) : Nat → Option Nat := S.2.2 f i
def sI (S : St) (f i j : Nat) (x : Int32) : St := (fun a b c => if a = f ∧ b = i ∧ c = j then x else S.1 a b c, S.2.1, S.2.2)
def sJ (S : St) (f i j : Nat) (x : Int64) : St := (S.1, fun a b c => if a = f ∧ b = i ∧ c = j then x else S.2.1 a b c, S.2.2)
def sR (S : St) (f i j : Nat) (x : Option Nat) : St := (S.1, S.2.1, fun a b c => if a = f ∧ b = i ∧ c = j then x else S.2.2 a b c)
theorem gI_sI (S : St) (f i j : Nat) (x : Int32) (a b c : Nat) : gI (sI S f i j x) a b c = if a = f ∧ b = i ∧ c = j then x else gI S a b c := rfl
theorem gJ_sJ (S : St) (f i j : Nat) (x : Int64) (a b c : Nat) : gJ (sJ S f i j x) a b c = if a = f ∧ b = i ∧ c = j then x else gJ S a b c := rfl
theorem gR_sR (S : St) (f i j : Nat) (x : Option Nat) (a b c : Nat) : gR (sR S f i j x) a b c = if a = f ∧ b = i ∧ c = j then x else gR S a b c := rfl
theorem gI_sJ (S : St) (f i j : Nat) (x : Int64) (a b : Nat) : gI (sJ S f i j x) a b = gI S a b := rfl
theorem gI_sR (S : St) (f i j : Nat) (x : Option Nat) (a b : Nat) : gI (sR S f i j x) a b = gI S a b := rfl
theorem gJ_sI (S : St) (f i j : Nat) (x : Int32) (a b : Nat) : gJ (sI S f i j x) a b = gJ S a b := rfl
theorem gJ_sR (S : St) (f i j : Nat) (x : Option Nat) (a b : Nat) : gJ (sR S f i j x) a b = gJ S a b := rfl
theorem gR_sI (S : St) (f i j : Nat) (x : Int32) (a b : Nat) : gR (sI S f i j x) a b = gR S a b := rfl
theorem gR_sJ (S : St) (f i j : Nat) (x : Int64) (a b : Nat) : gR (sJ S f i j x) a b = gR S a b := rfl
theorem gI_ne {S : St} {f i j : Nat} {x : Int32} {a b : Nat} (h : ¬ (a = f ∧ b = i)) : gI (sI S f i j x) a b = gI S a b := by
  funext c
  rw [gI_sI, if_neg (fun q => h ⟨q.1, q.2.1⟩)]
theorem gJ_ne {S : St} {f i j : Nat} {x : Int64} {a b : Nat} (h : ¬ (a = f ∧ b = i)) : gJ (sJ S f i j x) a b = gJ S a b := by
  funext c
  rw [gJ_sJ, if_neg (fun q => h ⟨q.1, q.2.1⟩)]
theorem gR_ne {S : St} {f i j : Nat} {x : Option Nat} {a b : Nat} (h : ¬ (a = f ∧ b = i)) : gR (sR S f i j x) a b = gR S a b := by
  funext c
  rw [gR_sR, if_neg (fun q => h ⟨q.1, q.2.1⟩)]
/-! a cell's contents -/
def fv (ad : Nat → Nat → Nat) (f i : Nat) (gi : Nat → Int32) (gr : Nat → Option Nat) (j : Nat) : Value := match kf f j with
  | 0 => .int (gi j)
  | 1 => .ref (ad (kg f j i).1 (kg f j i).2)
  | _ => va_rf ((gr j).map (ad 0))
def ctf (cy : Nat → ClassId) (ad : Nat → Nat → Nat) (f i : Nat) (gi : Nat → Int32) (gj : Nat → Int64) (gr : Nat → Option Nat) : va_E := match ka f with
  | 0 => .inr (f, (List.range (kn f)).map (fv ad f i gi gr))
  | 1 => .inl (cy 0, (kl f i, .inl gi))
  | 2 => .inl (cy 1, (kl f i, .inl gi))
  | 3 => .inl (cy 2, (kl f i, .inl gi))
  | 4 => .inl (cy 3, (kl f i, .inr (.inl gj)))
  | 5 => .inl (cy 4, (kl f i, .inr (.inr (.inr (.inr (fun j => (gr j).map (ad 0)))))))
  | 6 => .inl (cy 5, (kl f i, .inr (.inr (.inr (.inr (fun j => some (ad 3 (6 * i + j))))))))
  | _ => .inl (cy 6, (kl f i, .inr (.inr (.inr (.inr (fun j => some (ad 6 j)))))))
def ct (cy : Nat → ClassId) (ad : Nat → Nat → Nat) (S : St) (f i : Nat) : va_E := ctf cy ad f i (gI S f i) (gJ S f i) (gR S f i)
/-! the list of a world's cells -/
def prs : List (Nat × Nat) := (List.range 1024).map (fun k => (k / 16, k % 16))
def idx (n : Nat → Nat) : List (Nat × Nat) := prs.filter (fun q => decide (q.2 < n q.1))
def wl (n : Nat → Nat) (ad : Nat → Nat → Nat) (g : Nat → Nat → va_E) : va_W := (idx n).map (fun q => (ad q.1 q.2, g q.1 q.2))
def wJ (ad : Nat → Nat → Nat) (n : Nat → Nat) : Prop := (∀ f, n f ≤ 16) ∧ ∀ f i f' i', f < 64 → f' < 64 → i < n f → i' < n f' → ad f i = ad f' i' → f = f' ∧ i = i'
def wA (ad : Nat → Nat → Nat) (n : Nat → Nat) (sz : Nat) : Nat → Prop := fun q => (∃ f i, f < 64 ∧ i < n f ∧ q = ad f i) ∨ sz ≤ q
def wP (D : va_G) (cy : Nat → ClassId) (ad : Nat → Nat → Nat) (n : Nat → Nat) (S : St) (H : Heap) : Prop := (∀ f i, f < 64 → i < n f → va_at D vwCl (ad f i, ct cy ad S f i) H) ∧ ∀ f i j a, gR S f i j = some a → a < n 0
theorem prs_nodup : prs.Nodup := by
  unfold prs
  refine List.Pairwise.map (R := fun a b => a ≠ b) _ (fun a b h q => h ?_) List.nodup_range
  have h1 := congrArg Prod.fst q
  have h2 := congrArg Prod.snd q
  simp only at h1 h2
  omega
theorem mem_idx {n : Nat → Nat} {f i : Nat} (hf : f < 64) (hn : n f ≤ 16) (hi : i < n f) : (f, i) ∈ idx n := by
  refine List.mem_filter.mpr ⟨List.mem_map.mpr ⟨16 * f + i, List.mem_range.mpr (by omega), ?_⟩, by simpa using hi⟩
  have h1 : (16 * f + i) / 16 = f := by omega
  have h2 : (16 * f + i) % 16 = i := by omega
  rw [h1, h2]
theorem idx_mem {n : Nat → Nat} {q : Nat × Nat} (h : q ∈ idx n) : q.1 < 64 ∧ q.2 < n q.1 := by
  obtain ⟨h1, h2⟩ := List.mem_filter.mp h
  obtain ⟨k, hk, rfl⟩ := List.mem_map.mp h1
  have := List.mem_range.mp hk
  refine ⟨?_, by simpa using h2⟩
  show k / 16 < 64
  omega
section WL
variable {n : Nat → Nat} {ad : Nat → Nat → Nat} {g : Nat → Nat → va_E} {D : va_G} {H : Heap} {sz : Nat} {cy : Nat → ClassId} {S : St}
theorem wl_P (h : ∀ f i, f < 64 → i < n f → va_at D vwCl (ad f i, g f i) H) : va_P D vwCl (wl n ad g) H := by
  intro k q hk
  obtain ⟨x, hx, rfl⟩ := List.mem_map.mp (List.mem_of_getElem? hk)
  obtain ⟨h1, h2⟩ := idx_mem hx
  exact h x.1 x.2 h1 h2
theorem wl_at (hJ : wJ ad n) {f i : Nat} (hf : f < 64) (hi : i < n f) : ∃ k : Nat, (wl n ad g)[k]? = some (ad f i, g f i) := by
  obtain ⟨k, hk⟩ := List.getElem?_of_mem (mem_idx hf (hJ.1 f) hi)
  exact ⟨k, by rw [wl, List.getElem?_map, hk]; rfl⟩
theorem wl_D (hJ : wJ ad n) : va_D (wA ad n sz) (wl n ad g) := by
  have key : ∀ (k : Nat) (q : Nat × va_E), (wl n ad g)[k]? = some q → ∃ x : Nat × Nat, (idx n)[k]? = some x ∧ x.1 < 64 ∧ x.2 < n x.1 ∧ q.1 = ad x.1 x.2 := by
    intro k q hk
    rw [wl, List.getElem?_map] at hk
    cases hx : (idx n)[k]? with
    | none => rw [hx] at hk; cases hk
    | some x =>
      rw [hx] at hk
      cases hk
      obtain ⟨h1, h2⟩ := idx_mem (List.mem_of_getElem? hx)
      exact ⟨x, rfl, h1, h2, rfl⟩
  refine ⟨fun i j p q hi hj hpq => ?_, fun k q hk => ?_⟩
  · obtain ⟨x, hx, x1, x2, ex⟩ := key i p hi
    obtain ⟨y, hy, y1, y2, ey⟩ := key j q hj
    have e := hJ.2 x.1 x.2 y.1 y.2 x1 y1 x2 y2 (by rw [← ex, ← ey]; exact hpq)
    have exy : x = y := Prod.ext e.1 e.2
    subst exy
    have hnd : (idx n).Nodup := List.Pairwise.filter _ prs_nodup
    obtain ⟨hi1, hi2⟩ := List.getElem?_eq_some_iff.mp hx
    obtain ⟨hj1, hj2⟩ := List.getElem?_eq_some_iff.mp hy
    exact (List.getElem_inj hnd).mp (hi2.trans hj2.symm)
  · obtain ⟨x, -, x1, x2, ex⟩ := key k q hk
    exact Or.inl ⟨x.1, x.2, x1, x2, ex⟩
theorem wl_set (hJ : wJ ad n) {f i k : Nat} {e : va_E} (hf : f < 64) (hi : i < n f) (hk : (wl n ad g)[k]? = some (ad f i, g f i)) (hP : va_P D vwCl ((wl n ad g).set k (ad f i, e)) H) : ∀ f' i', f' < 64 → i' < n f' → va_at D vwCl (ad f' i', if f' = f ∧ i' = i then e else g f' i') H := by
  intro f' i' hf' hi'
  have hl := (List.getElem?_eq_some_iff.mp hk).1
  by_cases hq : f' = f ∧ i' = i
  · obtain ⟨rfl, rfl⟩ := hq
    rw [if_pos ⟨rfl, rfl⟩]
    exact hP k _ (List.getElem?_set_self hl)
  · rw [if_neg hq]
    obtain ⟨k', hk'⟩ := wl_at (g := g) hJ hf' hi'
    have hne : k' ≠ k := by
      intro z
      subst z
      rw [hk] at hk'
      have e2 := congrArg Prod.fst (Option.some.inj hk')
      have e3 := hJ.2 f' i' f i hf' hf hi' hi e2.symm
      exact hq e3
    exact hP k' _ (by rw [List.getElem?_set_ne (Ne.symm hne)]; exact hk')
end WL
/-! writes -/
section WS
variable {n : Nat → Nat} {ad : Nat → Nat → Nat} {D : va_G} {H : Heap} {sz : Nat} {cy : Nat → ClassId} {S : St}
theorem wP_setI (hJ : wJ ad n) (hc : ∀ f i j a, gR S f i j = some a → a < n 0) {f i j k : Nat} {x : Int32} (hf : f < 64) (hi : i < n f) (hk : (wl n ad (ct cy ad S))[k]? = some (ad f i, ct cy ad S f i)) {e : va_E} (he : e = ct cy ad (sI S f i j x) f i) (hP : va_P D vwCl ((wl n ad (ct cy ad S)).set k (ad f i, e)) H) : wP D cy ad n (sI S f i j x) H := by
  refine ⟨fun f' i' hf' hi' => ?_, hc⟩
  have h := wl_set hJ hf hi hk hP f' i' hf' hi'
  by_cases hq : f' = f ∧ i' = i
  · rw [if_pos hq, he] at h
    obtain ⟨rfl, rfl⟩ := hq
    exact h
  · rw [if_neg hq] at h
    rw [show ct cy ad (sI S f i j x) f' i' = ct cy ad S f' i' by unfold ct; rw [gI_ne hq]; rfl]
    exact h
theorem wP_setJ (hJ : wJ ad n) (hc : ∀ f i j a, gR S f i j = some a → a < n 0) {f i j k : Nat} {x : Int64} (hf : f < 64) (hi : i < n f) (hk : (wl n ad (ct cy ad S))[k]? = some (ad f i, ct cy ad S f i)) {e : va_E} (he : e = ct cy ad (sJ S f i j x) f i) (hP : va_P D vwCl ((wl n ad (ct cy ad S)).set k (ad f i, e)) H) : wP D cy ad n (sJ S f i j x) H := by
  refine ⟨fun f' i' hf' hi' => ?_, hc⟩
  have h := wl_set hJ hf hi hk hP f' i' hf' hi'
  by_cases hq : f' = f ∧ i' = i
  · rw [if_pos hq, he] at h
    obtain ⟨rfl, rfl⟩ := hq
    exact h
  · rw [if_neg hq] at h
    rw [show ct cy ad (sJ S f i j x) f' i' = ct cy ad S f' i' by unfold ct; rw [gJ_ne hq]; rfl]
    exact h
theorem wP_setR (hJ : wJ ad n) (hc : ∀ f i j a, gR S f i j = some a → a < n 0) {f i j k : Nat} {x : Option Nat} (hx : ∀ a, x = some a → a < n 0) (hf : f < 64) (hi : i < n f) (hk : (wl n ad (ct cy ad S))[k]? = some (ad f i, ct cy ad S f i)) {e : va_E} (he : e = ct cy ad (sR S f i j x) f i) (hP : va_P D vwCl ((wl n ad (ct cy ad S)).set k (ad f i, e)) H) : wP D cy ad n (sR S f i j x) H := by
  refine ⟨fun f' i' hf' hi' => ?_, fun f' i' j' a h => ?_⟩
  · have h := wl_set hJ hf hi hk hP f' i' hf' hi'
    by_cases hq : f' = f ∧ i' = i
    · rw [if_pos hq, he] at h
      obtain ⟨rfl, rfl⟩ := hq
      exact h
    · rw [if_neg hq] at h
      rw [show ct cy ad (sR S f i j x) f' i' = ct cy ad S f' i' by unfold ct; rw [gR_ne hq]; rfl]
      exact h
  · rw [gR_sR] at h
    by_cases hq : f' = f ∧ i' = i ∧ j' = j
    · rw [if_pos hq] at h; exact hx a h
    · rw [if_neg hq] at h; exact hc f' i' j' a h
theorem fv_congr {f i k : Nat} {gi gi' : Nat → Int32} {gr gr' : Nat → Option Nat} (h : gi k = gi' k) (h2 : gr k = gr' k) : fv ad f i gi gr k = fv ad f i gi' gr' k := by unfold fv; rw [h, h2]
theorem fv_set_gi {f i j : Nat} {gi : Nat → Int32} {gr : Nat → Option Nat} {x : Int32} {N : Nat} (hk : kf f j = 0) : ((List.range N).map (fv ad f i gi gr)).set j (.int x) = (List.range N).map (fv ad f i (fun c => if c = j then x else gi c) gr) := by
  apply List.ext_getElem?
  intro k
  rw [List.getElem?_set]
  by_cases hjk : j = k
  · subst hjk
    by_cases hl : j < N
    · simp [hl, fv, hk]
    · simp [hl]
  · rw [if_neg hjk]
    by_cases hl : k < N
    · rw [List.getElem?_map, List.getElem?_map, List.getElem?_range hl]
      exact congrArg some (fv_congr (show gi k = (fun c => if c = j then x else gi c) k from (if_neg (fun q : k = j => hjk q.symm)).symm) rfl)
    · simp [hl]
theorem fv_set_gr {f i j : Nat} {gi : Nat → Int32} {gr : Nat → Option Nat} {x : Option Nat} {N : Nat} (hk : kf f j = 2) : ((List.range N).map (fv ad f i gi gr)).set j (va_rf (x.map (ad 0))) = (List.range N).map (fv ad f i gi (fun c => if c = j then x else gr c)) := by
  apply List.ext_getElem?
  intro k
  rw [List.getElem?_set]
  by_cases hjk : j = k
  · subst hjk
    by_cases hl : j < N
    · simp [hl, fv, hk]
    · simp [hl]
  · rw [if_neg hjk]
    by_cases hl : k < N
    · rw [List.getElem?_map, List.getElem?_map, List.getElem?_range hl]
      exact congrArg some (fv_congr rfl (show gr k = (fun c => if c = j then x else gr c) k from (if_neg (fun q : k = j => hjk q.symm)).symm))
    · simp [hl]
theorem gI_self (S : St) (f i j : Nat) (x : Int32) : gI (sI S f i j x) f i = fun c => if c = j then x else gI S f i c := by
  funext c
  rw [gI_sI]
  by_cases h : c = j
  · rw [if_pos ⟨rfl, rfl, h⟩, if_pos h]
  · rw [if_neg (fun q => h q.2.2), if_neg h]
theorem gJ_self (S : St) (f i j : Nat) (x : Int64) : gJ (sJ S f i j x) f i = fun c => if c = j then x else gJ S f i c := by
  funext c
  rw [gJ_sJ]
  by_cases h : c = j
  · rw [if_pos ⟨rfl, rfl, h⟩, if_pos h]
  · rw [if_neg (fun q => h q.2.2), if_neg h]
theorem gR_self (S : St) (f i j : Nat) (x : Option Nat) : gR (sR S f i j x) f i = fun c => if c = j then x else gR S f i c := by
  funext c
  rw [gR_sR]
  by_cases h : c = j
  · rw [if_pos ⟨rfl, rfl, h⟩, if_pos h]
  · rw [if_neg (fun q => h q.2.2), if_neg h]
theorem ct_obj {f i : Nat} (h : ka f = 0) : ct cy ad S f i = .inr (f, (List.range (kn f)).map (fv ad f i (gI S f i) (gR S f i))) := by unfold ct ctf; rw [h]; rfl
theorem ct_int {f i : Nat} (h : ka f = 1) : ct cy ad S f i = .inl (cy 0, (kl f i, .inl (gI S f i))) := by unfold ct ctf; rw [h]; rfl
theorem ct_byte {f i : Nat} (h : ka f = 2) : ct cy ad S f i = .inl (cy 1, (kl f i, .inl (gI S f i))) := by unfold ct ctf; rw [h]; rfl
theorem ct_bool {f i : Nat} (h : ka f = 3) : ct cy ad S f i = .inl (cy 2, (kl f i, .inl (gI S f i))) := by unfold ct ctf; rw [h]; rfl
theorem ct_long {f i : Nat} (h : ka f = 4) : ct cy ad S f i = .inl (cy 3, (kl f i, .inr (.inl (gJ S f i)))) := by unfold ct ctf; rw [h]; rfl
theorem ct_air {f i : Nat} (h : ka f = 5) : ct cy ad S f i = .inl (cy 4, (kl f i, .inr (.inr (.inr (.inr (fun j => (gR S f i j).map (ad 0))))))) := by unfold ct ctf; rw [h]; rfl
theorem ct_lift {f i : Nat} (h : ka f = 6) : ct cy ad S f i = .inl (cy 5, (kl f i, .inr (.inr (.inr (.inr (fun j => some (ad 3 (6 * i + j)))))))) := by unfold ct ctf; rw [h]; rfl
theorem ct_tape {f i : Nat} (h : ka f = 7) : ct cy ad S f i = .inl (cy 6, (kl f i, .inr (.inr (.inr (.inr (fun j => some (ad 6 j))))))) := by unfold ct ctf; rw [h]; rfl
theorem upd_eq (f : Nat → Int32) (k : Nat) (x : Int32) : upd f k x = fun c => if c = k then x else f c := rfl
theorem updL_eq (f : Nat → Int64) (k : Nat) (x : Int64) : vp_updL f k x = fun c => if c = k then x else f c := rfl
end WS
/-! what lies outside the two worlds and stays: strings, static fields -/
def lenK : List Nat := [3, 5, 5, 5, 6, 3]
def bytK : List (List Int32) := [[117, 112, 32], [100, 111, 119, 110, 32], [98, 97, 115, 101, 32], [115, 97, 102, 101, 32], [108, 107, 104, 116, 118, 109], [60, 61, 62]]
def kaK : List Int32 := [-1, 0, 0, 0, 1, 2, 3]
def EX (ad : Nat → Nat → Nat) (A : Nat → Prop) (U : State) (H : Heap) : Prop :=
  va_Z RX7 "KIND_ABOVE" "[I" (.ref (ad 21 0)) A U H ∧ va_T .int (ad 21 0) 7 (fun j => .int (kaK.getD j 0)) A U H ∧ va_Z RJ0 "COMPACT_STRINGS" "Z" (.int 1) A U H ∧ va_Zq "jdk/internal/util/Preconditions" "SIOOBE_FORMATTER" "Ljava/util/function/BiFunction;" A U H ∧ vk_S 6 lenK bytK (ad 19) (ad 20) A U H ∧
  vk_R RX1 75 "up " (ad 19 0) U ∧ vk_R RX1 77 "down " (ad 19 1) U ∧ vk_R RX1 79 "base " (ad 19 2) U ∧ vk_R RX1 81 "safe " (ad 19 3) U ∧ vk_R RX1 89 "lkhtvm" (ad 19 4) U ∧ vk_R RX1 97 "<=>" (ad 19 5) U
theorem EX.kept {ad : Nat → Nat → Nat} {A : Nat → Prop} {U : State} {H H1 : Heap} (h : EX ad A U H) (hq : ∀ a : Nat, a < H.size → ¬ A a → H1[a]? = H[a]?) : EX ad A U H1 := by
  obtain ⟨h1, h2, h3, h4, h5, h6⟩ := h
  exact ⟨h1.kept hq, h2.kept hq, h3.kept hq, h4.kept hq, h5.kept hq, h6⟩
theorem EX.narrow {ad : Nat → Nat → Nat} {A B : Nat → Prop} {U : State} {H : Heap} (h : EX ad A U H) (hAB : ∀ q, B q → A q) : EX ad B U H := by
  obtain ⟨h1, h2, h3, h4, h5, h6⟩ := h
  exact ⟨h1.narrow hAB, h2.narrow hAB, h3.narrow hAB, h4.narrow hAB, h5.narrow hAB, h6⟩
theorem EX.warm {ad : Nat → Nat → Nat} {A : Nat → Prop} {s U : State} {H : Heap} (hW : s.WarmedH U.vm) (h : EX ad A s H) : EX ad A U H := by
  obtain ⟨h1, h2, h3, h4, h5, k0, k1, k2, k3, k4, k5⟩ := h
  exact ⟨va_Z.moved hW.alike h1, va_T.moved hW.alike h2, va_Z.moved hW.alike h3, va_Zq.moved hW.alike h4, vk_S.moved hW.alike h5, k0.warm hW, k1.warm hW, k2.warm hW, k3.warm hW, k4.warm hW, k5.warm hW⟩
theorem EX.same {ad : Nat → Nat → Nat} {A : Nat → Prop} {s U : State} {H : Heap} (hv : U.vm = s.vm) (h : EX ad A s H) : EX ad A U H := by
  have ha : s.vm.Alike U.vm := by rw [hv]; exact Vm.Alike.refl _
  obtain ⟨h1, h2, h3, h4, h5, k0, k1, k2, k3, k4, k5⟩ := h
  exact ⟨va_Z.moved ha h1, va_T.moved ha h2, va_Z.moved ha h3, va_Zq.moved ha h4, vk_S.moved ha h5, k0.same hv, k1.same hv, k2.same hv, k3.same hv, k4.same hv, k5.same hv⟩

