def zv_pk (T : Nat → Int32) (n i : Nat) : Int32 := if i < n then T i else 128
def zv_plc (r : Int32) : Option Nat := if r = 108 then some 0 else if r = 107 then some 1 else if r = 104 then some 2 else if r = 116 then some 3 else if r = 118 then some 4 else if r = 109 then some 5 else none
def zv_dgt (r : Int32) : Option Nat := if 48 ≤ r ∧ r ≤ 57 then some (r.toNatClampNeg - 48) else none
def zv_numP (T : Nat → Int32) (n i : Nat) : Option (Nat × Nat) := match zv_dgt (zv_pk T n i) with
  | none => none
  | some d => match zv_dgt (zv_pk T n (i + 1)) with
    | none => some (d, i + 1)
    | some e => some (10 * d + e, i + 2)
def zv_tstP (T : Nat → Int32) (n i : Nat) : Bool × Nat × List Int32 := match zv_plc (zv_pk T n i) with
  | none => (false, i, [])
  | some f => if 60 ≤ zv_pk T n (i + 1) ∧ zv_pk T n (i + 1) ≤ 62 then (match zv_numP T n (i + 2) with
      | none => (false, i + 2, [])
      | some z => (true, z.2, [nI (1000 * f + 100 * ((zv_pk T n (i + 1)).toNatClampNeg - 60) + z.1)])) else (false, i + 1, [])
def zv_w8 (w : Bool) : List Int32 := if w then [8000] else []
def zv_expL (T : Nat → Int32) (n : Nat) (fac : Nat → Bool × Nat × List Int32) : Nat → Bool → Nat → Bool × Nat × List Int32
  | 0, w, i => (true, i, zv_w8 w)
  | m + 1, w, i => if zv_pk T n i = 38 then
      ((fac (i + 1)).1 && (zv_expL T n fac m w (fac (i + 1)).2.1).1, (if (fac (i + 1)).1 then (zv_expL T n fac m w (fac (i + 1)).2.1).2.1 else (fac (i + 1)).2.1), (fac (i + 1)).2.2 ++ 7000 :: (zv_expL T n fac m w (fac (i + 1)).2.1).2.2)
    else if zv_pk T n i = 124 then
      ((fac (i + 1)).1 && (zv_expL T n fac m true (fac (i + 1)).2.1).1, (if (fac (i + 1)).1 then (zv_expL T n fac m true (fac (i + 1)).2.1).2.1 else (fac (i + 1)).2.1), zv_w8 w ++ (fac (i + 1)).2.2 ++ (zv_expL T n fac m true (fac (i + 1)).2.1).2.2)
    else (true, i, zv_w8 w)
def zv_expP (T : Nat → Int32) (n : Nat) (fac : Nat → Bool × Nat × List Int32) (i : Nat) : Bool × Nat × List Int32 :=
  ((fac i).1 && (zv_expL T n fac 100 false (fac i).2.1).1, (if (fac i).1 then (zv_expL T n fac 100 false (fac i).2.1).2.1 else (fac i).2.1), (fac i).2.2 ++ (zv_expL T n fac 100 false (fac i).2.1).2.2)
def zv_facP (T : Nat → Int32) (n : Nat) : Nat → Nat → Bool × Nat × List Int32
  | 0, i => zv_tstP T n i
  | k + 1, i => if zv_pk T n i = 33 then ((zv_facP T n k (i + 1)).1, (zv_facP T n k (i + 1)).2.1, (zv_facP T n k (i + 1)).2.2 ++ [6000])
    else if zv_pk T n i = 40 then
      ((zv_expP T n (zv_facP T n k) (i + 1)).1 && decide (zv_pk T n (zv_expP T n (zv_facP T n k) (i + 1)).2.1 = 41), (if (zv_expP T n (zv_facP T n k) (i + 1)).1 = true ∧ zv_pk T n (zv_expP T n (zv_facP T n k) (i + 1)).2.1 = 41 then (zv_expP T n (zv_facP T n k) (i + 1)).2.1 + 1 else (zv_expP T n (zv_facP T n k) (i + 1)).2.1), (zv_expP T n (zv_facP T n k) (i + 1)).2.2)
    else zv_tstP T n i
/-! how far it comes -/
theorem zv_pkB {T : Nat → Int32} {n i : Nat} {c : Int32} (h : zv_pk T n i = c) (hc : c ≠ 128) : i < n := by
  unfold zv_pk at h
  by_cases q : i < n
  · exact q
  · rw [if_neg q] at h; exact absurd h.symm hc
theorem zv_dgB {T : Nat → Int32} {n i d : Nat} (h : zv_dgt (zv_pk T n i) = some d) : i < n ∧ d ≤ 9 := by
  unfold zv_dgt at h
  split at h
  · rename_i q
    cases h
    have c2 := zv_icl (zv_pk T n i)
    refine ⟨?_, ?_⟩
    · by_cases z : i < n
      · exact z
      · unfold zv_pk at q; rw [if_neg z] at q; exact absurd q.2 (by decide)
    · obtain ⟨q1, q2⟩ := q
      simp only [Int32.le_iff_toInt_le, Int32.lt_iff_toInt_lt, ← Int32.toInt_inj, zv_ia, zv_is_, zv_im, zv_ing, zv_iit, Int32.reduceToInt] at q1 q2
      split at c2 <;> omega
  · cases h
theorem zv_nuB {T : Nat → Int32} {n i : Nat} {z : Nat × Nat} (h : zv_numP T n i = some z) : i < z.2 ∧ z.2 ≤ n ∧ z.2 ≤ i + 2 ∧ z.1 ≤ 99 := by
  unfold zv_numP at h
  cases h1 : zv_dgt (zv_pk T n i) with
  | none => rw [h1] at h; cases h
  | some d =>
    obtain ⟨b1, b2⟩ := zv_dgB h1
    rw [h1] at h
    cases h2 : zv_dgt (zv_pk T n (i + 1)) with
    | none => rw [h2] at h; cases h; simp only []; omega
    | some e =>
      obtain ⟨b3, b4⟩ := zv_dgB h2
      rw [h2] at h; cases h; simp only []; omega
theorem zv_plB {T : Nat → Int32} {n i f : Nat} (h : zv_plc (zv_pk T n i) = some f) : i < n ∧ f ≤ 5 := by
  unfold zv_plc at h
  refine ⟨?_, ?_⟩
  · by_cases z : i < n
    · exact z
    · unfold zv_pk at h; rw [if_neg z] at h; simp at h
  · (repeat' split at h) <;> first | (cases h; omega) | cases h
def zv_okR (n i : Nat) (r : Bool × Nat × List Int32) : Prop := i ≤ r.2.1 ∧ r.2.1 ≤ n ∧ (r.1 = true → i < r.2.1 ∧ r.2.2.length + i ≤ r.2.1)
theorem zv_tsB {T : Nat → Int32} {n i : Nat} (hi : i ≤ n) : zv_okR n i (zv_tstP T n i) := by
  unfold zv_tstP zv_okR
  cases h : zv_plc (zv_pk T n i) with
  | none => exact ⟨Nat.le_refl _, hi, fun z => nomatch z⟩
  | some f =>
    obtain ⟨b1, b2⟩ := zv_plB h
    simp only []
    split
    · rename_i q
      have b3 : i + 1 < n := by
        by_cases z : i + 1 < n
        · exact z
        · unfold zv_pk at q; rw [if_neg z] at q; exact absurd q.2 (by decide)
      cases h2 : zv_numP T n (i + 2) with
      | none => exact ⟨by simp only []; omega, by simp only []; omega, fun z => nomatch z⟩
      | some z =>
        obtain ⟨zv_c1, c2, c3, c4⟩ := zv_nuB h2
        exact ⟨by simp only []; omega, c2, fun _ => ⟨by simp only []; omega, by simp only [List.length_cons, List.length_nil]; omega⟩⟩
    · exact ⟨by simp only []; omega, by simp only []; omega, fun z => nomatch z⟩
theorem zv_w8l (w : Bool) : (zv_w8 w).length ≤ 1 := by cases w <;> decide
theorem zv_elB {T : Nat → Int32} {n : Nat} {fac : Nat → Bool × Nat × List Int32} (hf : ∀ i, i ≤ n → zv_okR n i (fac i)) : ∀ (m : Nat) (w : Bool) (i : Nat), i ≤ n → i ≤ (zv_expL T n fac m w i).2.1 ∧ (zv_expL T n fac m w i).2.1 ≤ n ∧ ((zv_expL T n fac m w i).1 = true → (zv_expL T n fac m w i).2.2.length + i ≤ (zv_expL T n fac m w i).2.1 + (zv_w8 w).length) := by
  intro m
  induction m with
  | zero => intro w i hi; exact ⟨Nat.le_refl _, hi, fun _ => by show (zv_w8 w).length + i ≤ i + (zv_w8 w).length; omega⟩
  | succ m ih =>
    intro w i hi
    unfold zv_expL
    by_cases h1 : zv_pk T n i = 38
    · have hn := zv_pkB h1 (by decide)
      rw [if_pos h1]
      obtain ⟨f1, f2, f3⟩ := hf (i + 1) (by omega)
      obtain ⟨g1, g2, g3⟩ := ih w (fac (i + 1)).2.1 f2
      simp only []
      cases hb : (fac (i + 1)).1 with
      | false => exact ⟨by simp only [Bool.false_eq_true, reduceIte]; omega, by simp only [Bool.false_eq_true, reduceIte]; omega, fun z => nomatch z⟩
      | true =>
        simp only [reduceIte, Bool.true_and]
        refine ⟨by omega, by omega, fun z => ?_⟩
        have := g3 z
        have := f3 hb
        simp only [List.length_append, List.length_cons]
        omega
    · rw [if_neg h1]
      by_cases h2 : zv_pk T n i = 124
      · have hn := zv_pkB h2 (by decide)
        rw [if_pos h2]
        obtain ⟨f1, f2, f3⟩ := hf (i + 1) (by omega)
        obtain ⟨g1, g2, g3⟩ := ih true (fac (i + 1)).2.1 f2
        simp only []
        cases hb : (fac (i + 1)).1 with
        | false => exact ⟨by simp only [Bool.false_eq_true, reduceIte]; omega, by simp only [Bool.false_eq_true, reduceIte]; omega, fun z => nomatch z⟩
        | true =>
          simp only [reduceIte, Bool.true_and]
          refine ⟨by omega, by omega, fun z => ?_⟩
          have := g3 z
          have := f3 hb
          have : (zv_w8 true).length = 1 := rfl
          simp only [List.length_append]
          omega
      · rw [if_neg h2]; exact ⟨Nat.le_refl _, hi, fun _ => by show (zv_w8 w).length + i ≤ i + (zv_w8 w).length; omega⟩
theorem zv_epB {T : Nat → Int32} {n : Nat} {fac : Nat → Bool × Nat × List Int32} (hf : ∀ i, i ≤ n → zv_okR n i (fac i)) {i : Nat} (hi : i ≤ n) : zv_okR n i (zv_expP T n fac i) := by
  obtain ⟨f1, f2, f3⟩ := hf i hi
  obtain ⟨g1, g2, g3⟩ := zv_elB (T := T) hf 100 false (fac i).2.1 f2
  unfold zv_okR zv_expP
  simp only []
  cases hb : (fac i).1 with
  | false => exact ⟨by simp only [Bool.false_eq_true, reduceIte]; omega, by simp only [Bool.false_eq_true, reduceIte]; omega, fun z => nomatch z⟩
  | true =>
    simp only [reduceIte, Bool.true_and]
    refine ⟨by omega, by omega, fun z => ?_⟩
    have := g3 z
    have := f3 hb
    have : (zv_w8 false).length = 0 := rfl
    simp only [List.length_append]
    omega
theorem zv_faB {T : Nat → Int32} {n : Nat} : ∀ (k i : Nat), i ≤ n → zv_okR n i (zv_facP T n k i) := by
  intro k
  induction k with
  | zero => intro i hi; exact zv_tsB hi
  | succ k ih =>
    intro i hi
    unfold zv_facP
    by_cases h1 : zv_pk T n i = 33
    · have hn := zv_pkB h1 (by decide)
      rw [if_pos h1]
      obtain ⟨f1, f2, f3⟩ := ih (i + 1) (by omega)
      refine ⟨by simp only []; omega, f2, fun z => ?_⟩
      have := f3 z
      simp only [List.length_append, List.length_cons, List.length_nil]
      omega
    · rw [if_neg h1]
      by_cases h2 : zv_pk T n i = 40
      · have hn := zv_pkB h2 (by decide)
        rw [if_pos h2]
        obtain ⟨f1, f2, f3⟩ := zv_epB (T := T) ih (i := i + 1) (by omega)
        unfold zv_okR
        generalize zv_expP T n (zv_facP T n k) (i + 1) = r at *
        by_cases h3 : r.1 = true ∧ zv_pk T n r.2.1 = 41
        · have h4 := zv_pkB h3.2 (by decide)
          have := f3 h3.1
          simp only [if_pos h3]
          exact ⟨by omega, by omega, fun _ => ⟨by omega, by omega⟩⟩
        · simp only [if_neg h3]
          refine ⟨by omega, f2, fun z => ?_⟩
          rw [Bool.and_eq_true, decide_eq_true_iff] at z
          exact absurd z h3
      · rw [if_neg h2]; exact zv_tsB hi
theorem zv_nI6000 {v : Nat} (h : v < 6000) : ¬ nI v = 6000 ∧ ¬ (nI v = 7000 ∨ nI v = 8000) ∧ 0 ≤ nI v ∧ nI v < 6000 := by
  have e : ∀ c : Nat, c < 10000 → 6000 ≤ c → ¬ nI v = nI c := fun c h1 h2 => by rw [zv_nIeq (by omega) (by omega)]; omega
  exact ⟨e 6000 (by decide) (by decide), fun z => z.elim (e 7000 (by decide) (by decide)) (e 8000 (by decide) (by decide)), zv_nI0 v (by omega), (zv_nIlt (b := 6000) (by omega) (by decide)).mpr h⟩
theorem zv_rel3 {r : Int32} (h : 60 ≤ r ∧ r ≤ 62) : 60 ≤ r.toNatClampNeg ∧ r.toNatClampNeg ≤ 62 ∧ r = nI r.toNatClampNeg := by
  obtain ⟨x, hx, rfl⟩ := zv_asW (c := 62) (x := r) (by have := h.1; rw [Int32.le_iff_toInt_le] at *; simp only [Int32.reduceToInt] at *; omega) (by have := h.2; rw [Int32.le_iff_toInt_le] at this; exact this)
  rw [zv_nIcl (by omega)]
  exact ⟨(zv_nIle (a := 60) (by decide) (by omega)).mp h.1, hx, rfl⟩
theorem zv_tsV {T : Nat → Int32} {n i : Nat} (h : (zv_tstP T n i).1 = true) : ∃ v, v < 6000 ∧ (zv_tstP T n i).2.2 = [nI v] := by
  unfold zv_tstP at *
  cases h1 : zv_plc (zv_pk T n i) with
  | none => rw [h1] at h; cases h
  | some f =>
    obtain ⟨b1, b2⟩ := zv_plB h1
    rw [h1] at h
    simp only [] at h ⊢
    by_cases q : 60 ≤ zv_pk T n (i + 1) ∧ zv_pk T n (i + 1) ≤ 62
    · obtain ⟨r1, r2, -⟩ := zv_rel3 q
      rw [if_pos q] at h ⊢
      cases h2 : zv_numP T n (i + 2) with
      | none => rw [h2] at h; cases h
      | some z =>
        obtain ⟨zv_c1, c2, c3, c4⟩ := zv_nuB h2
        exact ⟨_, by omega, rfl⟩
    · rw [if_neg q] at h; cases h
theorem zv_tsD {T : Nat → Int32} {n i d : Nat} (h : (zv_tstP T n i).1 = true) (hd : d < 30) {rest : List Int32} (hr : zv_dep rest (d + 1)) : zv_dep ((zv_tstP T n i).2.2 ++ rest) d := by
  obtain ⟨v, hv, e⟩ := zv_tsV h
  obtain ⟨k1, k2, k3, k4⟩ := zv_nI6000 hv
  rw [e, List.singleton_append]
  unfold zv_dep
  rw [if_neg k1, if_neg k2]
  exact ⟨k3, k4, hd, hr⟩
theorem zv_dep6 {r : List Int32} {d : Nat} (h : zv_dep r (d + 1)) : zv_dep (6000 :: r) (d + 1) := by
  unfold zv_dep; rw [if_pos rfl]; exact ⟨by omega, h⟩
theorem zv_dep7 {r : List Int32} {d : Nat} (h : zv_dep r (d + 1)) : zv_dep (7000 :: r) (d + 2) := by
  unfold zv_dep; rw [if_neg (by decide), if_pos (by decide)]; exact ⟨by omega, h⟩
theorem zv_dep8 {r : List Int32} {d : Nat} (h : zv_dep r (d + 1)) : zv_dep (8000 :: r) (d + 2) := by
  unfold zv_dep; rw [if_neg (by decide), if_pos (by decide)]; exact ⟨by omega, h⟩
theorem zv_w8D {w : Bool} {d : Nat} {r : List Int32} (h : zv_dep r (d + 1)) : zv_dep (zv_w8 w ++ r) (d + 1 + (zv_w8 w).length) := by
  cases w
  · exact h
  · exact zv_dep8 h
theorem zv_elD {T : Nat → Int32} {n : Nat} {fac : Nat → Bool × Nat × List Int32} {K : Nat} (hf : ∀ i, (fac i).1 = true → ∀ d, d + K < 29 → ∀ rest, zv_dep rest (d + 1) → zv_dep ((fac i).2.2 ++ rest) d) : ∀ (m : Nat) (w : Bool) (i : Nat), (zv_expL T n fac m w i).1 = true → ∀ d, d + K + 2 < 29 → ∀ rest, zv_dep rest (d + 1) → zv_dep ((zv_expL T n fac m w i).2.2 ++ rest) (d + 1 + (zv_w8 w).length) := by
  intro m
  induction m with
  | zero => intro w i _ d hd rest hr; exact zv_w8D hr
  | succ m ih =>
    intro w i h d hd rest hr
    have hw := zv_w8l w
    unfold zv_expL at h ⊢
    by_cases h1 : zv_pk T n i = 38
    · rw [if_pos h1] at h ⊢
      simp only [Bool.and_eq_true] at h
      simp only [List.append_assoc, List.cons_append]
      refine hf _ h.1 _ (by omega) _ ?_
      have := ih w _ h.2 d hd rest hr
      rw [show d + 1 + (zv_w8 w).length = d + (zv_w8 w).length + 1 by omega] at this ⊢
      exact zv_dep7 this
    · rw [if_neg h1] at h ⊢
      by_cases h2 : zv_pk T n i = 124
      · rw [if_pos h2] at h ⊢
        simp only [Bool.and_eq_true] at h
        simp only [List.append_assoc]
        refine zv_w8D (hf _ h.1 _ (by omega) _ ?_)
        exact ih true _ h.2 d hd rest hr
      · rw [if_neg h2]
        exact zv_w8D hr
theorem zv_epD {T : Nat → Int32} {n : Nat} {fac : Nat → Bool × Nat × List Int32} {K : Nat} (hf : ∀ i, (fac i).1 = true → ∀ d, d + K < 29 → ∀ rest, zv_dep rest (d + 1) → zv_dep ((fac i).2.2 ++ rest) d) {i : Nat} (h : (zv_expP T n fac i).1 = true) (d : Nat) (hd : d + K + 2 < 29) (rest : List Int32) (hr : zv_dep rest (d + 1)) : zv_dep ((zv_expP T n fac i).2.2 ++ rest) d := by
  unfold zv_expP at h ⊢
  simp only [Bool.and_eq_true] at h
  simp only [List.append_assoc]
  exact hf _ h.1 _ (by omega) _ (zv_elD hf 100 false _ h.2 d hd rest hr)
theorem zv_faD {T : Nat → Int32} {n : Nat} : ∀ (k i : Nat), (zv_facP T n k i).1 = true → ∀ d, d + 2 * k < 29 → ∀ rest, zv_dep rest (d + 1) → zv_dep ((zv_facP T n k i).2.2 ++ rest) d := by
  intro k
  induction k with
  | zero => intro i h d hd rest hr; exact zv_tsD h (by omega) hr
  | succ k ih =>
    intro i h d hd rest hr
    unfold zv_facP at h ⊢
    by_cases h1 : zv_pk T n i = 33
    · rw [if_pos h1] at h ⊢
      simp only [List.append_assoc, List.singleton_append]
      exact ih _ h d (by omega) _ (zv_dep6 hr)
    · rw [if_neg h1] at h ⊢
      by_cases h2 : zv_pk T n i = 40
      · rw [if_pos h2] at h ⊢
        simp only [Bool.and_eq_true] at h
        exact zv_epD (K := 2 * k) (fun i hi d hd rest hr => ih i hi d hd rest hr) h.1 d (by omega) rest hr
      · rw [if_neg h2] at h ⊢
        exact zv_tsD h (by omega) hr
theorem zv_exD {T : Nat → Int32} {n i : Nat} (h : (zv_expP T n (zv_facP T n 4) i).1 = true) : zv_dep (zv_expP T n (zv_facP T n 4) i).2.2 0 := by
  have := zv_epD (K := 8) (fun i hi d hd rest hr => zv_faD 4 i hi d hd rest hr) h 0 (by decide) [] rfl
  rw [List.append_nil] at this
  exact this
theorem zv_u16a : ∀ m : Nat, m < 129 → ((nI m).toUInt32 % 65536).toInt32 = nI m := by decide +kernel
theorem zv_i8a : ∀ m : Nat, m < 128 → (nI m).toInt8.toInt32 = nI m := by decide +kernel
theorem zv_i8b : (nI 128).toInt8.toInt32 = -128 := by decide +kernel
theorem zv_to127 {x : Int32} (h : 0 ≤ x ∧ x ≤ 127) : ∃ n, n < 128 ∧ x = nI n := by
  obtain ⟨n, h1, h2⟩ := zv_asW (c := 127) h.1 (by have := h.2; rw [Int32.le_iff_toInt_le] at this; exact this)
  exact ⟨n, by omega, h2⟩
def zv_TB (T : Nat → Int32) (n : Nat) : Prop := n ≤ 100 ∧ ∀ i, i < n → 0 ≤ T i ∧ T i ≤ 127
theorem zv_pkN {T : Nat → Int32} {n : Nat} (hT : zv_TB T n) (i : Nat) : ∃ m, m < 129 ∧ zv_pk T n i = nI m ∧ (i < n → m < 128) ∧ (¬ i < n → m = 128) := by
  unfold zv_pk
  by_cases h : i < n
  · obtain ⟨m, h1, h2⟩ := zv_to127 (hT.2 i h)
    rw [if_pos h]
    exact ⟨m, by omega, h2, fun _ => h1, fun z => absurd h z⟩
  · rw [if_neg h]
    exact ⟨128, by omega, rfl, fun z => absurd z h, fun _ => rfl⟩
theorem zv_ixS {a0 : Nat} {a1 a3 : Int32} {K : Int32 → St → Option (Int32 × St)} {n : Nat} {x : Int32} {S : St} (h1 : ¬ a3 ≤ x) (h2 : 0 ≤ x ∧ x.toNatClampNeg < lenK.getD a0 0) : L_J1_indexOfChar_4cfef_7 a0 a1 a3 K (n + 1) x S = if ((bytK.getD a0 []).getD x.toNatClampNeg 0) = a1.toInt8.toInt32 then some (x, S) else L_J1_indexOfChar_4cfef_7 a0 a1 a3 K n (x + 1) S := by
  rw [L_J1_indexOfChar_4cfef_7.eq_2, if_neg h1, if_pos h2]
theorem zv_ixE {a0 : Nat} {a1 a3 : Int32} {K : Int32 → St → Option (Int32 × St)} {n : Nat} {x : Int32} {S : St} (h1 : a3 ≤ x) : L_J1_indexOfChar_4cfef_7 a0 a1 a3 K (n + 1) x S = K x S := by
  rw [L_J1_indexOfChar_4cfef_7.eq_2, if_pos h1]
theorem zv_idx0 (S : St) (i0 : Nat) {r : Int32} (h0 : 0 ≤ r) (h1 : r ≤ 255) (L : Int32) (hL : (Int32.ofNat (lenK.getD i0 0)) >>> ((0 : Int32) &&& 31) = L) (hL2 : Int32.ofNat (lenK.getD i0 0) = L) (hL0 : 0 < L) : F_J0_indexOf_0f7a4 S i0 r = L_J1_indexOfChar_4cfef_7 i0 r L (fun y5_1 T_1 => some ((-1 : Int32), T_1)) 1000 0 S := by
  unfold F_J0_indexOf_0f7a4 F_J0_indexOf_7cf53 F_J0_isLatin1_aae02 F_J0_length_8abf5 F_J0_coder_7d493 F_J1_indexOf_4cfef F_J1_canEncode_9a6ad F_J1_indexOfChar_4cfef
  rw [zv_bndS, if_neg zv_z10, zv_bndS, zv_bndS, hL, hL2, if_neg (show ¬ r < 0 by rw [Int32.lt_iff_toInt_lt]; rw [Int32.le_iff_toInt_le] at h0; omega), if_neg (show ¬ (255 : Int32) < r by rw [Int32.lt_iff_toInt_lt]; rw [Int32.le_iff_toInt_le] at h1; omega), zv_bndS, if_neg zv_z10, if_neg (show ¬ (0 : Int32) < 0 by decide), if_neg (show ¬ L < L by rw [Int32.lt_iff_toInt_lt]; omega), if_pos hL0]
  cases L_J1_indexOfChar_4cfef_7 i0 r L (fun y5_1 T_1 => some ((-1 : Int32), T_1)) 1000 0 S <;> rfl
theorem zv_c8 {m : Nat} (hm : m < 129) {c : Nat} (hc : c < 128) : (nI c = (nI m).toInt8.toInt32) ↔ nI m = nI c := by
  by_cases h : m < 128
  · rw [zv_i8a m h]; exact eq_comm
  · have : m = 128 := by omega
    subst this
    rw [zv_i8b]
    constructor
    · intro z; exact absurd (z ▸ zv_nI0 c (by omega)) (by decide)
    · intro z; rw [zv_nIeq (by omega) (by omega)] at z; omega
theorem zv_idx4 (S : St) {m : Nat} (hm : m < 129) : F_J0_indexOf_0f7a4 S 4 (nI m) = some ((zv_plc (nI m)).elim (-1) nI, S) := by
  rw [zv_idx0 S 4 (zv_nI0 m (by omega)) (show nI m ≤ nI 255 from (zv_nIle (by omega) (by omega)).mpr (by omega)) 6 (by decide) (by decide) (by decide)]
  rw [zv_ixS (by decide) (by decide), zv_ixS (by decide) (by decide), zv_ixS (by decide) (by decide), zv_ixS (by decide) (by decide), zv_ixS (by decide) (by decide), zv_ixS (by decide) (by decide), zv_ixE (by decide)]
  show (if nI 108 = (nI m).toInt8.toInt32 then some (nI 0, S) else if nI 107 = (nI m).toInt8.toInt32 then some (nI 1, S) else if nI 104 = (nI m).toInt8.toInt32 then some (nI 2, S) else if nI 116 = (nI m).toInt8.toInt32 then some (nI 3, S) else if nI 118 = (nI m).toInt8.toInt32 then some (nI 4, S) else if nI 109 = (nI m).toInt8.toInt32 then some (nI 5, S) else some (-1, S)) = _
  simp only [zv_c8 hm (show 108 < 128 by decide), zv_c8 hm (show 107 < 128 by decide), zv_c8 hm (show 104 < 128 by decide), zv_c8 hm (show 116 < 128 by decide), zv_c8 hm (show 118 < 128 by decide), zv_c8 hm (show 109 < 128 by decide)]
  unfold zv_plc
  show _ = some ((if nI m = nI 108 then some 0 else if nI m = nI 107 then some 1 else if nI m = nI 104 then some 2 else if nI m = nI 116 then some 3 else if nI m = nI 118 then some 4 else if nI m = nI 109 then some 5 else none).elim (-1) nI, S)
  (repeat' split) <;> rfl
theorem zv_idx5 (S : St) {m : Nat} (hm : m < 129) : F_J0_indexOf_0f7a4 S 5 (nI m) = some (if 60 ≤ nI m ∧ nI m ≤ 62 then nI (m - 60) else -1, S) := by
  rw [zv_idx0 S 5 (zv_nI0 m (by omega)) (show nI m ≤ nI 255 from (zv_nIle (by omega) (by omega)).mpr (by omega)) 3 (by decide) (by decide) (by decide)]
  rw [zv_ixS (by decide) (by decide), zv_ixS (by decide) (by decide), zv_ixS (by decide) (by decide), zv_ixE (by decide)]
  show (if nI 60 = (nI m).toInt8.toInt32 then some (nI 0, S) else if nI 61 = (nI m).toInt8.toInt32 then some (nI 1, S) else if nI 62 = (nI m).toInt8.toInt32 then some (nI 2, S) else some (-1, S)) = _
  simp only [zv_c8 hm (show 60 < 128 by decide), zv_c8 hm (show 61 < 128 by decide), zv_c8 hm (show 62 < 128 by decide), zv_nIeq (show m < 2147483648 by omega) (show 60 < 2147483648 by omega), zv_nIeq (show m < 2147483648 by omega) (show 61 < 2147483648 by omega), zv_nIeq (show m < 2147483648 by omega) (show 62 < 2147483648 by omega)]
  have e : (60 ≤ nI m ∧ nI m ≤ 62) ↔ (60 ≤ m ∧ m ≤ 62) := by
    rw [show (60 : Int32) = nI 60 from rfl, show (62 : Int32) = nI 62 from rfl, zv_nIle (by omega) (by omega), zv_nIle (by omega) (by omega)]
  simp only [e]
  by_cases h0 : m = 60
  · subst h0; rfl
  by_cases h1 : m = 61
  · subst h1; rfl
  by_cases h2 : m = 62
  · subst h2; rfl
  rw [if_neg h0, if_neg h1, if_neg h2, if_neg (by omega)]
/-! the class's reader -/
def zv_CB (T : Nat → Int32) (n p : Nat) (zv_S0 : St) : Prop := zv_TB T n ∧ gI zv_S0 1 0 1 = nI n ∧ (∀ i, i < n → gI zv_S0 17 0 i = T i) ∧ gR zv_S0 1 0 3 = some p
def zv_CSt (p : Nat) (zv_S0 : St) (F : List Int32) (i : Nat) (S : St) : Prop := gJ S = gJ zv_S0 ∧ gR S = gR zv_S0 ∧ (∀ f, f ≠ 0 → f ≠ 1 → f ≠ 16 → gI S f = gI zv_S0 f) ∧ (∀ a, a ≠ p → gI S 0 a = gI zv_S0 0 a ∧ gI S 16 a = gI zv_S0 16 a) ∧ (∀ j, j ≠ 1 → gI S 0 p j = gI zv_S0 0 p j) ∧ (∀ a b, ¬ (a = 0 ∧ b = 2) → gI S 1 a b = gI zv_S0 1 a b) ∧ gI S 1 0 2 = nI i ∧ gI S 0 p 1 = nI F.length ∧ (∀ j, j < F.length → gI S 16 p j = F.getD j 0)
theorem zv_c_peek {T : Nat → Int32} {n p i : Nat} {zv_S0 S : St} {F : List Int32} (hB : zv_CB T n p zv_S0) (hS : zv_CSt p zv_S0 F i S) (hi : i ≤ n) : F_X1_peeked S = some (zv_pk T n i, S) := by
  obtain ⟨⟨b1, b2⟩, b3, b4, b5⟩ := hB
  obtain ⟨s1, s2, s3, s4, s5, s6, s7, s8, s9⟩ := hS
  unfold F_X1_peeked zv_pk
  rw [s7, s6 0 1 (by omega), b3, if_neg (zv_nIneg (by omega))]
  by_cases h : i < n
  · obtain ⟨m, m1, m2⟩ := zv_to127 (b2 i h)
    rw [if_neg (show ¬ nI n ≤ nI i by rw [zv_nIle (by omega) (by omega)]; omega), if_neg (show ¬ (100 : Int32) ≤ nI i by rw [show (100 : Int32) = nI 100 from rfl, zv_nIle (by omega) (by omega)]; omega), if_pos (zv_gd (by omega)), zv_nIcl (by omega), s3 17 (by decide) (by decide) (by decide), b4 i h, if_pos h, m2, zv_u16a m (by omega)]
  · rw [if_pos (show nI n ≤ nI i by rw [zv_nIle (by omega) (by omega)]; omega), if_neg h]
theorem zv_c_at {p i : Nat} {zv_S0 S : St} {F : List Int32} (hS : zv_CSt p zv_S0 F i S) (i' : Nat) : zv_CSt p zv_S0 F i' (sI S 1 0 2 (nI i')) := by
  obtain ⟨s1, s2, s3, s4, s5, s6, s7, s8, s9⟩ := hS
  refine ⟨s1, s2, fun f h0 h1 h2 => by rw [zv_gI_f h1]; exact s3 f h0 h1 h2, fun a ha => by rw [zv_gI_f (by decide), zv_gI_f (by decide)]; exact s4 a ha, fun j hj => by rw [zv_gI_f (by decide)]; exact s5 j hj, fun a b h => ?_, ?_, by rw [zv_gI_f (by decide)]; exact s8, fun j hj => by rw [zv_gI_f (by decide)]; exact s9 j hj⟩
  · rw [gI_sI, if_neg (by rintro ⟨-, h1, h2⟩; exact h ⟨h1, h2⟩)]; exact s6 a b h
  · rw [gI_sI, if_pos ⟨rfl, rfl, rfl⟩]
theorem zv_c_tk {T : Nat → Int32} {n p i : Nat} {zv_S0 S : St} {F : List Int32} (hB : zv_CB T n p zv_S0) (hS : zv_CSt p zv_S0 F i S) (hi : i ≤ n) (ch : Int32) : (zv_pk T n i = ch → F_X1_takes S ch = some (1, sI S 1 0 2 (nI (i + 1)))) ∧ (¬ zv_pk T n i = ch → F_X1_takes S ch = some (0, S)) := by
  have hn := hB.1.1
  unfold F_X1_takes
  rw [zv_c_peek hB hS hi, zv_bndS, hS.2.2.2.2.2.2.1, zv_nIs i (by omega)]
  exact ⟨fun h => if_pos h, fun h => if_neg h⟩
theorem zv_c_add {p i : Nat} {zv_S0 S : St} {F : List Int32} (hS : zv_CSt p zv_S0 F i S) (hl : F.length < 100) (a b d : Int32) : ∃ S', F_X0_addStep S p a b d = some ((), S') ∧ zv_CSt p zv_S0 (F ++ [a * 1000 + b * 100 + d]) i S' := by
  obtain ⟨s1, s2, s3, s4, s5, s6, s7, s8, s9⟩ := hS
  unfold F_X0_addStep
  rw [s8, if_neg (show ¬ (100 : Int32) ≤ nI F.length by rw [show (100 : Int32) = nI 100 from rfl, zv_nIle (by omega) (by omega)]; omega), if_pos (zv_gd hl), zv_nIcl (by omega)]
  refine ⟨_, rfl, s1, s2, fun f h0 h1 h2 => by rw [zv_gI_f h0, zv_gI_f h2]; exact s3 f h0 h1 h2, fun x hx => ?_, fun j hj => ?_, fun x y h => by rw [zv_gI_f (by decide), zv_gI_f (by decide)]; exact s6 x y h, by rw [zv_gI_f (by decide), zv_gI_f (by decide)]; exact s7, ?_, fun j hj => ?_⟩
  · rw [zv_gI_i hx, zv_gI_f (by decide), zv_gI_f (by decide), zv_gI_i hx]; exact s4 x hx
  · rw [gI_sI, if_neg (by rintro ⟨-, -, h⟩; exact hj h), zv_gI_f (by decide)]; exact s5 j hj
  · rw [gI_sI, if_pos ⟨rfl, rfl, rfl⟩, zv_gI_f (by decide), s8, zv_nIs _ (by omega), List.length_append]; rfl
  · rw [List.length_append, List.length_singleton] at hj
    rw [zv_gI_f (by decide), gI_sI]
    by_cases hq : j = F.length
    · rw [if_pos ⟨rfl, rfl, hq⟩, hq]
      exact (zv_getD_app_r (l := F) (r := [a * 1000 + b * 100 + d]) (j := 0)).symm
    · rw [if_neg (by rintro ⟨-, -, h⟩; exact hq h), s9 j (by omega), zv_getD_app_l (by omega)]
theorem zv_dgN {m : Nat} (hm : m < 129) : (zv_dgt (nI m) = none ↔ (nI m < 48 ∨ 57 < nI m)) ∧ (¬ nI m < 48 → ¬ 57 < nI m → 48 ≤ m ∧ m ≤ 57 ∧ zv_dgt (nI m) = some (m - 48)) := by
  have e1 : (nI m < 48) ↔ m < 48 := zv_nIlt (b := 48) (by omega) (by omega)
  have e2 : (57 < nI m) ↔ 57 < m := zv_nIlt (a := 57) (by omega) (by omega)
  have e3 : (48 ≤ nI m ∧ nI m ≤ 57) ↔ (48 ≤ m ∧ m ≤ 57) := by
    rw [show (48 : Int32) = nI 48 from rfl, show (57 : Int32) = nI 57 from rfl, zv_nIle (by omega) (by omega), zv_nIle (by omega) (by omega)]
  unfold zv_dgt
  rw [zv_nIcl (by omega)]
  by_cases q : 48 ≤ m ∧ m ≤ 57
  · rw [if_pos (e3.mpr q), e1, e2]
    refine ⟨⟨fun z => (nomatch z), fun z => by omega⟩, fun _ _ => ⟨q.1, q.2, rfl⟩⟩
  · rw [if_neg (fun z => q (e3.mp z)), e1, e2]
    exact ⟨⟨fun _ => by omega, fun _ => rfl⟩, fun h1 h2 => by omega⟩
theorem zv_c_num {T : Nat → Int32} {n p i : Nat} {zv_S0 S : St} {F : List Int32} (hB : zv_CB T n p zv_S0) (hS : zv_CSt p zv_S0 F i S) (hi : i ≤ n) : (zv_numP T n i = none → F_X1_number S = some (-1, S)) ∧ (∀ z, zv_numP T n i = some z → ∃ S', F_X1_number S = some (nI z.1, S') ∧ zv_CSt p zv_S0 F z.2 S') := by
  obtain ⟨m, hm, em, hm1, hm2⟩ := zv_pkN hB.1 i
  have hn := hB.1.1
  obtain ⟨d1, d2⟩ := zv_dgN hm
  unfold F_X1_number zv_numP
  rw [em, L_X1_number_4.eq_2, if_neg (show ¬ (2 : Int32) ≤ 0 by decide), zv_c_peek hB hS hi, zv_bndS, em]
  by_cases h1 : nI m < 48
  · rw [if_pos h1, d1.mpr (.inl h1)]
    exact ⟨fun _ => rfl, fun z e => nomatch e⟩
  · rw [if_neg h1, zv_c_peek hB hS hi, zv_bndS, em]
    by_cases h2 : 57 < nI m
    · rw [if_pos h2, d1.mpr (.inr h2)]
      exact ⟨fun _ => rfl, fun z e => nomatch e⟩
    · obtain ⟨k1, k2, k3⟩ := d2 h1 h2
      have hin : i < n := by
        apply Classical.byContradiction
        intro q; have := hm2 q; omega
      have hS1 := zv_c_at hS (i + 1)
      obtain ⟨m', hm', em', hm1', hm2'⟩ := zv_pkN hB.1 (i + 1)
      obtain ⟨d1', d2'⟩ := zv_dgN hm'
      have ev : ((if (-1 : Int32) < 0 then (0 : Int32) else -1) * 10) + nI m - 48 = nI (m - 48) := by
        rw [if_pos (by decide), show (0 : Int32) * 10 = 0 by decide, Int32.zero_add]
        exact zv_nIsb (b := 48) k1 (by omega)
      rw [if_neg h2, zv_c_peek hB hS hi, zv_bndS, em, ev, k3, hS.2.2.2.2.2.2.1, zv_nIs i (by omega), em', L_X1_number_4.eq_2, if_neg (show ¬ (2 : Int32) ≤ 0 + 1 by decide), zv_c_peek hB hS1 (by omega), zv_bndS, em']
      by_cases h1' : nI m' < 48
      · rw [if_pos h1', d1'.mpr (.inl h1')]
        exact ⟨fun e => (nomatch e), fun z e => by cases e; exact ⟨_, rfl, hS1⟩⟩
      · rw [if_neg h1', zv_c_peek hB hS1 (by omega), zv_bndS, em']
        by_cases h2' : 57 < nI m'
        · rw [if_pos h2', d1'.mpr (.inr h2')]
          exact ⟨fun e => (nomatch e), fun z e => by cases e; exact ⟨_, rfl, hS1⟩⟩
        · obtain ⟨k1', k2', k3'⟩ := d2' h1' h2'
          have hS2 := zv_c_at hS1 (i + 2)
          have ev2 : ((if nI (m - 48) < 0 then (0 : Int32) else nI (m - 48)) * 10) + nI m' - 48 = nI (10 * (m - 48) + (m' - 48)) := by
            rw [if_neg (zv_nIneg (by omega)), show (10 : Int32) = nI 10 from rfl, zv_nIm (by omega) (by omega), zv_nIa _ _ (by omega) (by omega), show (48 : Int32) = nI 48 from rfl, zv_nIsb (by omega) (by omega)]
            congr 1; omega
          rw [if_neg h2', zv_c_peek hB hS1 (by omega), zv_bndS, em', ev2, k3', hS1.2.2.2.2.2.2.1, zv_nIs (i + 1) (by omega), L_X1_number_4.eq_2, if_pos (show (2 : Int32) ≤ 0 + 1 + 1 by decide)]
          exact ⟨fun e => (nomatch e), fun z e => by cases e; exact ⟨_, rfl, hS2⟩⟩
theorem zv_elS {α β : Type} {x : α} {d : Option β} {f : α → Option β} : (some x).elim d f = f x := rfl
def zv_FS (T : Nat → Int32) (n p : Nat) (zv_S0 : St) (fac : St → Option (Int32 × St)) (fp : Nat → Bool × Nat × List Int32) : Prop := ∀ F i S, zv_CSt p zv_S0 F i S → i ≤ n → F.length ≤ i → ∃ S', fac S = some (zv_bI (fp i).1, S') ∧ ((fp i).1 = true → zv_CSt p zv_S0 (F ++ (fp i).2.2) (fp i).2.1 S') ∧ ((fp i).1 = false → ∃ F', zv_CSt p zv_S0 F' (fp i).2.1 S')
theorem zv_c_R {T : Nat → Int32} {n p i : Nat} {zv_S0 S : St} {F : List Int32} (hB : zv_CB T n p zv_S0) (hS : zv_CSt p zv_S0 F i S) : gR S 1 0 3 = some p := by rw [hS.2.1]; exact hB.2.2.2
theorem zv_tokE {f r v : Nat} (hf : f ≤ 5) (hr : r ≤ 2) (hv : v ≤ 99) : nI f * 1000 + nI r * 100 + nI v = nI (1000 * f + 100 * r + v) := by
  rw [show (1000 : Int32) = nI 1000 from rfl, show (100 : Int32) = nI 100 from rfl, zv_nIm' (by omega) (by omega) (by omega), zv_nIm' (by omega) (by omega) (by omega), zv_nIa' (by omega), zv_nIa' (by omega)]
  congr 1; omega
theorem zv_c_tst {T : Nat → Int32} {n p : Nat} {zv_S0 : St} (hB : zv_CB T n p zv_S0) : zv_FS T n p zv_S0 F_X1_test (zv_tstP T n) := by
  intro F i S hS hi hl
  obtain ⟨m, hm, em, hm1, hm2⟩ := zv_pkN hB.1 i
  have hn := hB.1.1
  unfold F_X1_test zv_tstP
  rw [zv_c_peek hB hS hi, zv_bndS, em, zv_idx4 S hm, zv_bndS]
  cases h1 : zv_plc (nI m) with
  | none =>
    rw [show (Option.elim (none : Option Nat) (-1 : Int32) nI) = -1 from rfl, if_neg (show ¬ (0 : Int32) ≤ -1 by decide)]
    exact ⟨S, rfl, fun z => (nomatch z), fun _ => ⟨F, hS⟩⟩
  | some f =>
    obtain ⟨b1, b2⟩ := zv_plB (T := T) (n := n) (i := i) (by rw [em]; exact h1)
    have hS1 := zv_c_at hS (i + 1)
    obtain ⟨m', hm', em', hm1', hm2'⟩ := zv_pkN hB.1 (i + 1)
    rw [show (Option.elim (some f) (-1 : Int32) nI) = nI f from rfl, if_pos (zv_nI0 f (by omega)), hS.2.2.2.2.2.2.1, zv_nIs i (by omega), zv_c_peek hB hS1 (by omega), zv_bndS, em', zv_idx5 _ hm', zv_bndS]
    simp only []
    by_cases hq : 60 ≤ nI m' ∧ nI m' ≤ 62
    · obtain ⟨r1, r2, -⟩ := zv_rel3 hq
      rw [zv_nIcl (by omega)] at r1 r2
      have hin : i + 1 < n := by
        apply Classical.byContradiction
        intro q; have := hm2' q; omega
      have hS2 := zv_c_at hS1 (i + 2)
      obtain ⟨y1, y2⟩ := zv_c_num hB hS2 (by omega)
      rw [if_pos hq, if_pos hq, if_pos (zv_nI0 _ (by omega)), hS1.2.2.2.2.2.2.1, zv_nIs (i + 1) (by omega), zv_nIcl (by omega)]
      cases h2 : zv_numP T n (i + 2) with
      | none =>
        rw [y1 h2, zv_bndS, zv_c_R hB hS2, zv_elS]
        obtain ⟨S3, e3, hS3⟩ := zv_c_add hS2 (show F.length < 100 by omega) (nI f) (nI (m' - 60)) (if (-1 : Int32) < 0 then 0 else -1)
        rw [e3, zv_bndS, if_pos (show (-1 : Int32) < 0 by decide)]
        exact ⟨S3, rfl, fun z => (nomatch z), fun _ => ⟨_, hS3⟩⟩
      | some z =>
        obtain ⟨zv_c1, c2, c3, c4⟩ := zv_nuB h2
        obtain ⟨S3, e3, hS3⟩ := y2 z h2
        obtain ⟨S4, e4, hS4⟩ := zv_c_add hS3 (show F.length < 100 by omega) (nI f) (nI (m' - 60)) (nI z.1)
        rw [e3, zv_bndS, zv_c_R hB hS3, zv_elS, if_neg (zv_nIneg (show z.1 < 2147483648 by omega)), e4, zv_bndS, if_neg (zv_nIneg (show z.1 < 2147483648 by omega))]
        rw [zv_tokE b2 (by omega) c4] at hS4
        exact ⟨S4, rfl, fun _ => hS4, fun z => (nomatch z)⟩
    · rw [if_neg hq, if_neg hq, if_neg (show ¬ (0 : Int32) ≤ -1 by decide)]
      exact ⟨_, rfl, fun z => (nomatch z), fun _ => ⟨F, hS1⟩⟩
theorem zv_tok7 : (7 : Int32) * 1000 + 0 * 100 + 0 = 7000 := by decide
theorem zv_tok8 : (8 : Int32) * 1000 + 0 * 100 + 0 = 8000 := by decide
theorem zv_tok6 : (6 : Int32) * 1000 + 0 * 100 + 0 = 6000 := by decide
theorem zv_c_exL {T : Nat → Int32} {n p : Nat} {zv_S0 : St} (hB : zv_CB T n p zv_S0) {fac : St → Int32 → Option (Int32 × St)} {a1 : Int32} {fp : Nat → Bool × Nat × List Int32} (hf : zv_FS T n p zv_S0 (fun S => fac S a1) fp) (hfb : ∀ i, i ≤ n → zv_okR n i (fp i)) :
    ∀ (m j fuel : Nat) (w : Bool) (F : List Int32) (i : Nat) (S : St), j + m = 100 → m < fuel → zv_CSt p zv_S0 F i S → i ≤ n → F.length + (zv_w8 w).length ≤ i → ∃ S', L_X1_expression_14 a1 fac (fun y2_6 y3_6 T_6 => if y2_6 = 0 then (some ((1 : Int32), T_6))
      else ((gR T_6 1 0 3).elim none
      (fun p8 => bnd (F_X0_addStep T_6 p8 (8 : Int32) (0 : Int32) (0 : Int32)) (fun r11 S12 =>
      some ((1 : Int32), S12))))) fuel (zv_bI w) (nI j) S = some (zv_bI (zv_expL T n fp m w i).1, S') ∧ ((zv_expL T n fp m w i).1 = true → zv_CSt p zv_S0 (F ++ (zv_expL T n fp m w i).2.2) (zv_expL T n fp m w i).2.1 S') ∧ ((zv_expL T n fp m w i).1 = false → ∃ F', zv_CSt p zv_S0 F' (zv_expL T n fp m w i).2.1 S') := by
  have hn := hB.1.1
  intro m
  generalize eK : (fun (y2_6 y3_6 : Int32) (T_6 : St) => if y2_6 = 0 then (some ((1 : Int32), T_6))
      else ((gR T_6 1 0 3).elim none
      (fun p8 => bnd (F_X0_addStep T_6 p8 (8 : Int32) (0 : Int32) (0 : Int32)) (fun r11 S12 =>
      some ((1 : Int32), S12))))) = K
  have fin : ∀ (w : Bool) (y : Int32) (F : List Int32) (i : Nat) (S : St), zv_CSt p zv_S0 F i S → i ≤ n → F.length + (zv_w8 w).length ≤ i → ∃ S', K (zv_bI w) y S = some (1, S') ∧ zv_CSt p zv_S0 (F ++ zv_w8 w) i S' := by
    intro w y F i S hS hi hl
    subst eK
    cases w
    · exact ⟨S, rfl, by rw [show zv_w8 false = [] from rfl, List.append_nil]; exact hS⟩
    · have : (zv_w8 true).length = 1 := rfl
      obtain ⟨S', e, h⟩ := zv_c_add hS (by omega) 8 0 0
      rw [zv_tok8] at h
      simp only []
      rw [if_neg (show ¬ zv_bI true = 0 by decide), zv_c_R hB hS, zv_elS, e, zv_bndS]
      exact ⟨S', rfl, h⟩
  induction m with
  | zero =>
    intro j fuel w F i S hj hfu hS hi hl
    obtain ⟨fu, rfl⟩ : ∃ z, fuel = z + 1 := ⟨fuel - 1, by omega⟩
    obtain rfl : j = 100 := by omega
    obtain ⟨S', e, h⟩ := fin w (nI 100) F i S hS hi hl
    rw [L_X1_expression_14.eq_2, if_pos (show (100 : Int32) ≤ nI 100 by decide), e]
    exact ⟨S', rfl, fun _ => h, fun z => (nomatch z)⟩
  | succ m ih =>
    intro j fuel w F i S hj hfu hS hi hl
    obtain ⟨fu, rfl⟩ : ∃ z, fuel = z + 1 := ⟨fuel - 1, by omega⟩
    rw [L_X1_expression_14.eq_2, if_neg (show ¬ (100 : Int32) ≤ nI j by rw [show (100 : Int32) = nI 100 from rfl, zv_nIle (by omega) (by omega)]; omega), zv_c_peek hB hS hi, zv_bndS]
    unfold zv_expL
    by_cases h1 : zv_pk T n i = 38
    · have hin := zv_pkB h1 (by decide)
      have hS1 := zv_c_at hS (i + 1)
      obtain ⟨t1, -⟩ := zv_c_tk hB hS hi 38
      rw [if_pos h1, if_pos h1, t1 h1, zv_bndS, if_neg zv_z10]
      obtain ⟨S2, e2, k1, k2⟩ := hf F (i + 1) _ hS1 (by omega) (by omega)
      simp only [] at e2
      rw [e2, zv_bndS]
      obtain ⟨o1, o2, o3⟩ := hfb (i + 1) (by omega)
      cases hr : (fp (i + 1)).1 with
      | false =>
        obtain ⟨F', hF'⟩ := k2 hr
        rw [if_pos (show zv_bI false = 0 from rfl)]
        exact ⟨S2, rfl, fun z => (nomatch z), fun _ => ⟨F', hF'⟩⟩
      | true =>
        have hS2 := k1 hr
        have o3' := o3 hr
        obtain ⟨S3, e3, hS3⟩ := zv_c_add hS2 (by rw [List.length_append]; omega) 7 0 0
        rw [zv_tok7] at hS3
        obtain ⟨S4, e4, q1, q2⟩ := ih (j + 1) fu w _ _ S3 (by omega) (by omega) hS3 o2 (by simp only [List.length_append, List.length_singleton]; omega)
        rw [if_neg (show ¬ zv_bI true = 0 by decide), if_neg zv_z10, zv_c_R hB hS2, zv_elS, e3, zv_bndS, zv_nIs j (by omega), e4]
        simp only [Bool.true_and, reduceIte]
        refine ⟨S4, rfl, fun z => ?_, q2⟩
        have := q1 z
        rw [List.append_assoc, List.append_assoc] at this
        exact this
    · rw [if_neg h1, zv_c_peek hB hS hi, zv_bndS, if_neg h1]
      by_cases h2 : zv_pk T n i = 124
      · have hin := zv_pkB h2 (by decide)
        have hS1 := zv_c_at hS (i + 1)
        obtain ⟨-, t1⟩ := zv_c_tk hB hS hi 38
        rw [if_pos h2, if_pos h2, t1 h1, zv_bndS, if_pos rfl, hS.2.2.2.2.2.2.1, zv_nIs i (by omega)]
        obtain ⟨o1, o2, o3⟩ := hfb (i + 1) (by omega)
        cases w with
        | false =>
          obtain ⟨S2, e2, k1, k2⟩ := hf F (i + 1) _ hS1 (by omega) (by omega)
          simp only [] at e2
          rw [if_pos (show zv_bI false = 0 from rfl), e2, zv_bndS]
          cases hr : (fp (i + 1)).1 with
          | false =>
            obtain ⟨F', hF'⟩ := k2 hr
            rw [if_pos (show zv_bI false = 0 from rfl)]
            exact ⟨S2, rfl, fun z => (nomatch z), fun _ => ⟨F', hF'⟩⟩
          | true =>
            have hS2 := k1 hr
            have o3' := o3 hr
            obtain ⟨S4, e4, q1, q2⟩ := ih (j + 1) fu true _ _ S2 (by omega) (by omega) hS2 o2 (by have : (zv_w8 true).length = 1 := rfl; simp only [List.length_append]; omega)
            rw [if_neg (show ¬ zv_bI true = 0 by decide), if_pos rfl, zv_nIs j (by omega)]
            rw [show zv_bI true = 1 from rfl] at e4
            rw [e4]
            simp only [Bool.true_and, reduceIte]
            refine ⟨S4, rfl, fun z => ?_, q2⟩
            have := q1 z
            rw [List.append_assoc] at this
            exact this
        | true =>
          have hl1 : (zv_w8 true).length = 1 := rfl
          obtain ⟨zv_S1, e1, hS1'⟩ := zv_c_add hS1 (by omega) 8 0 0
          rw [zv_tok8] at hS1'
          obtain ⟨S2, e2, k1, k2⟩ := hf _ (i + 1) _ hS1' (by omega) (by rw [List.length_append, List.length_singleton]; omega)
          simp only [] at e2
          rw [if_neg (show ¬ zv_bI true = 0 by decide), zv_c_R hB hS1, zv_elS, e1, zv_bndS, e2, zv_bndS]
          cases hr : (fp (i + 1)).1 with
          | false =>
            obtain ⟨F', hF'⟩ := k2 hr
            rw [if_pos (show zv_bI false = 0 from rfl)]
            exact ⟨S2, rfl, fun z => (nomatch z), fun _ => ⟨F', hF'⟩⟩
          | true =>
            have hS2 := k1 hr
            have o3' := o3 hr
            obtain ⟨S4, e4, q1, q2⟩ := ih (j + 1) fu true _ _ S2 (by omega) (by omega) hS2 o2 (by simp only [List.length_append, List.length_singleton]; omega)
            rw [if_neg (show ¬ zv_bI true = 0 by decide), if_pos rfl, zv_nIs j (by omega)]
            rw [show zv_bI true = 1 from rfl] at e4
            rw [e4]
            simp only [Bool.true_and, reduceIte]
            refine ⟨S4, rfl, fun z => ?_, q2⟩
            have := q1 z
            rw [List.append_assoc, List.append_assoc] at this
            exact this
      · rw [if_neg h2, if_neg h2]
        obtain ⟨S', e, h⟩ := fin w (nI j) F i S hS hi hl
        rw [e]
        exact ⟨S', rfl, fun _ => h, fun z => (nomatch z)⟩
theorem zv_c_exp {T : Nat → Int32} {n p : Nat} {zv_S0 : St} (hB : zv_CB T n p zv_S0) {fac : St → Int32 → Option (Int32 × St)} {a1 : Int32} {fp : Nat → Bool × Nat × List Int32} (hf : zv_FS T n p zv_S0 (fun S => fac S a1) fp) (hfb : ∀ i, i ≤ n → zv_okR n i (fp i)) : zv_FS T n p zv_S0 (fun S => F_X1_expression fac S a1) (zv_expP T n fp) := by
  intro F i S hS hi hl
  obtain ⟨S2, e2, k1, k2⟩ := hf F i S hS hi hl
  simp only [] at e2
  obtain ⟨o1, o2, o3⟩ := hfb i hi
  simp only []
  unfold F_X1_expression zv_expP
  rw [e2, zv_bndS]
  cases hr : (fp i).1 with
  | false =>
    obtain ⟨F', hF'⟩ := k2 hr
    rw [if_pos (show zv_bI false = 0 from rfl)]
    exact ⟨S2, rfl, fun z => (nomatch z), fun _ => ⟨F', hF'⟩⟩
  | true =>
    have hS2 := k1 hr
    have o3' := o3 hr
    obtain ⟨S4, e4, q1, q2⟩ := zv_c_exL hB hf hfb 100 0 1000 false _ _ S2 (by omega) (by omega) hS2 o2 (by have : (zv_w8 false).length = 0 := rfl; simp only [List.length_append]; omega)
    rw [if_neg (show ¬ zv_bI true = 0 by decide)]
    rw [show zv_bI false = 0 from rfl, show nI 0 = (0 : Int32) from rfl] at e4
    rw [e4]
    simp only [Bool.true_and, reduceIte]
    refine ⟨S4, rfl, fun z => ?_, q2⟩
    have := q1 z
    rw [List.append_assoc] at this
    exact this
theorem zv_c_fac {T : Nat → Int32} {n p : Nat} {zv_S0 : St} (hB : zv_CB T n p zv_S0) : ∀ (k fuel : Nat) (a1 : Nat), a1 + k = 4 → k < fuel → zv_FS T n p zv_S0 (fun S => F_X1_factor fuel S (nI a1)) (zv_facP T n k) := by
  have hn := hB.1.1
  intro k
  induction k with
  | zero =>
    intro fuel a1 ha hfu F i S hS hi hl
    obtain ⟨fu, rfl⟩ : ∃ z, fuel = z + 1 := ⟨fuel - 1, by omega⟩
    obtain rfl : a1 = 4 := by omega
    obtain ⟨S', e, k1, k2⟩ := zv_c_tst hB F i S hS hi hl
    simp only []
    rw [F_X1_factor.eq_2, if_pos (show (4 : Int32) ≤ nI 4 by decide), if_pos (show (4 : Int32) ≤ nI 4 by decide), e, zv_bndS]
    exact ⟨S', rfl, k1, k2⟩
  | succ k ih =>
    intro fuel a1 ha hfu F i S hS hi hl
    obtain ⟨fu, rfl⟩ : ∃ z, fuel = z + 1 := ⟨fuel - 1, by omega⟩
    have h4 : ¬ (4 : Int32) ≤ nI a1 := by rw [show (4 : Int32) = nI 4 from rfl, zv_nIle (by omega) (by omega)]; omega
    have ihh := ih fu (a1 + 1) (by omega) (by omega)
    simp only []
    rw [F_X1_factor.eq_2, if_neg h4]
    unfold zv_facP
    obtain ⟨t1, t2⟩ := zv_c_tk hB hS hi 33
    obtain ⟨t3, t4⟩ := zv_c_tk hB hS hi 40
    by_cases h1 : zv_pk T n i = 33
    · have hin := zv_pkB h1 (by decide)
      rw [t1 h1, zv_bndS, if_neg zv_z10, if_pos h1, zv_nIs a1 (by omega)]
      obtain ⟨S2, e2, k1, k2⟩ := ihh F (i + 1) _ (zv_c_at hS (i + 1)) (by omega) (by omega)
      simp only [] at e2
      rw [e2, zv_bndS]
      obtain ⟨o1, o2, o3⟩ := zv_faB (T := T) k (i + 1) (show i + 1 ≤ n by omega)
      cases hr : (zv_facP T n k (i + 1)).1 with
      | false =>
        obtain ⟨F', hF'⟩ := k2 hr
        rw [if_pos (show zv_bI false = 0 from rfl)]
        exact ⟨S2, rfl, fun z => (nomatch z), fun _ => ⟨F', hF'⟩⟩
      | true =>
        have hS2 := k1 hr
        have o3' := o3 hr
        obtain ⟨S3, e3, hS3⟩ := zv_c_add hS2 (by rw [List.length_append]; omega) 6 0 0
        rw [zv_tok6, List.append_assoc] at hS3
        rw [if_neg (show ¬ zv_bI true = 0 by decide), zv_c_R hB hS2, zv_elS, e3, zv_bndS]
        exact ⟨S3, rfl, fun _ => hS3, fun z => (nomatch z)⟩
    · rw [t2 h1, zv_bndS, if_pos rfl, if_neg h4, if_neg h1]
      by_cases h2 : zv_pk T n i = 40
      · have hin := zv_pkB h2 (by decide)
        rw [t3 h2, zv_bndS, if_neg zv_z10, if_pos h2, zv_nIs a1 (by omega)]
        obtain ⟨S2, e2, k1, k2⟩ := zv_c_exp hB (fac := F_X1_factor fu) (a1 := nI (a1 + 1)) ihh (fun i hi => zv_faB k i hi) F (i + 1) _ (zv_c_at hS (i + 1)) (by omega) (by omega)
        simp only [] at e2
        rw [e2, zv_bndS]
        obtain ⟨o1, o2, o3⟩ := zv_epB (T := T) (n := n) (fac := zv_facP T n k) (fun i hi => zv_faB k i hi) (i := i + 1) (by omega)
        generalize zv_expP T n (zv_facP T n k) (i + 1) = r at *
        cases hr : r.1 with
        | false =>
          obtain ⟨F', hF'⟩ := k2 hr
          rw [if_pos (show zv_bI false = 0 from rfl)]
          simp only [Bool.false_and, Bool.false_eq_true, false_and, reduceIte]
          exact ⟨S2, rfl, fun z => (nomatch z), fun _ => ⟨F', hF'⟩⟩
        | true =>
          have hS2 := k1 hr
          obtain ⟨v1, v2⟩ := zv_c_tk hB hS2 o2 41
          rw [if_neg (show ¬ zv_bI true = 0 by decide)]
          by_cases h3 : zv_pk T n r.2.1 = 41
          · have h5 := zv_pkB h3 (by decide)
            rw [v1 h3, zv_bndS, if_neg zv_z10]
            simp only [h3, Bool.true_and, decide_true, and_self, reduceIte]
            exact ⟨_, rfl, fun _ => zv_c_at hS2 _, fun z => (nomatch z)⟩
          · rw [v2 h3, zv_bndS, if_pos rfl]
            simp only [h3, Bool.true_and, decide_false, and_false, reduceIte]
            exact ⟨S2, rfl, fun z => (nomatch z), fun _ => ⟨_, hS2⟩⟩
      · rw [t4 h2, zv_bndS, if_pos rfl, if_neg h2]
        obtain ⟨S', e, k1, k2⟩ := zv_c_tst hB F i S hS hi hl
        rw [e, zv_bndS]
        exact ⟨S', rfl, k1, k2⟩
def zv_hdW (r : Int32) : Nat := if r = 98 then 2 else if r = 100 then 1 else if r = 117 then 0 else 3
def zv_wrdP (T : Nat → Int32) (n : Nat) : List Int32 → Nat → Bool × Nat
  | [], i => (true, i)
  | c :: r, i => if zv_pk T n i = c then zv_wrdP T n r (i + 1) else (false, i)
def zv_clsP (T : Nat → Int32) (n i : Nat) : Bool × Nat × zv_Cl :=
  if (zv_wrdP T n (bytK.getD (zv_hdW (zv_pk T n i)) []) i).1 = true then
    (match zv_numP T n (zv_wrdP T n (bytK.getD (zv_hdW (zv_pk T n i)) []) i).2 with
      | none => (false, (zv_wrdP T n (bytK.getD (zv_hdW (zv_pk T n i)) []) i).2, zv_d0)
      | some z => if 2 ≤ zv_hdW (zv_pk T n i) then (true, z.2, (nI (zv_hdW (zv_pk T n i)), nI z.1, []))
        else if zv_pk T n z.2 = 32 then ((zv_expP T n (zv_facP T n 4) (z.2 + 1)).1, (zv_expP T n (zv_facP T n 4) (z.2 + 1)).2.1, (nI (zv_hdW (zv_pk T n i)), nI z.1, (zv_expP T n (zv_facP T n 4) (z.2 + 1)).2.2))
        else (false, z.2, zv_d0))
  else (false, (zv_wrdP T n (bytK.getD (zv_hdW (zv_pk T n i)) []) i).2, zv_d0)
theorem zv_hdB (r : Int32) : zv_hdW r ≤ 3 := by
  unfold zv_hdW
  (repeat' split) <;> omega
theorem zv_wrB {T : Nat → Int32} {n : Nat} : ∀ (l : List Int32) (i : Nat), i ≤ n → (∀ c, c ∈ l → c ≠ 128) → i ≤ (zv_wrdP T n l i).2 ∧ (zv_wrdP T n l i).2 ≤ n ∧ ((zv_wrdP T n l i).1 = true → (zv_wrdP T n l i).2 = i + l.length) := by
  intro l
  induction l with
  | nil => intro i hi _; exact ⟨Nat.le_refl _, hi, fun _ => rfl⟩
  | cons c l ih =>
    intro i hi hc
    unfold zv_wrdP
    by_cases h : zv_pk T n i = c
    · have hin := zv_pkB h (hc c List.mem_cons_self)
      rw [if_pos h]
      obtain ⟨a1, a2, a3⟩ := ih (i + 1) (by omega) (fun x hx => hc x (List.mem_cons_of_mem _ hx))
      exact ⟨by omega, a2, fun z => by rw [a3 z, List.length_cons]; omega⟩
    · rw [if_neg h]
      exact ⟨Nat.le_refl _, hi, fun z => (nomatch z)⟩
theorem zv_bt128 (w : Nat) (h : w ≤ 3) : (∀ c, c ∈ bytK.getD w [] → c ≠ 128) ∧ 3 ≤ (bytK.getD w []).length := by
  have : w = 0 ∨ w = 1 ∨ w = 2 ∨ w = 3 := by omega
  rcases this with rfl | rfl | rfl | rfl <;> exact ⟨by decide, by decide⟩
theorem zv_nI99 {v : Nat} (h : v ≤ 99) : 0 ≤ nI v ∧ nI v ≤ 99 := ⟨zv_nI0 v (by omega), (zv_nIle (b := 99) (by omega) (by omega)).mpr h⟩
theorem zv_flatA : ∀ (a b : List zv_Cl), zv_flat (a ++ b) = zv_flat a ++ zv_flat b := by
  intro a
  induction a with
  | nil => intro b; rfl
  | cons c a ih => intro b; rw [List.cons_append, zv_flat, zv_flat, ih, List.append_assoc]
theorem zv_clsB {T : Nat → Int32} {n i : Nat} (hi : i ≤ n) : i ≤ (zv_clsP T n i).2.1 ∧ (zv_clsP T n i).2.1 ≤ n ∧ ((zv_clsP T n i).1 = true → zv_okC (zv_clsP T n i).2.2 ∧ i < (zv_clsP T n i).2.1 ∧ (zv_flat [(zv_clsP T n i).2.2]).length + i ≤ (zv_clsP T n i).2.1 ∧ (zv_clsP T n i).2.2.2.2.length + i ≤ (zv_clsP T n i).2.1) := by
  obtain ⟨b1, b2⟩ := zv_bt128 (zv_hdW (zv_pk T n i)) (zv_hdB _)
  obtain ⟨w1, w2, w3⟩ := zv_wrB (T := T) (n := n) (bytK.getD (zv_hdW (zv_pk T n i)) []) i hi b1
  have hw3 := zv_hdB (zv_pk T n i)
  unfold zv_clsP
  generalize zv_hdW (zv_pk T n i) = w at *
  by_cases h : (zv_wrdP T n (bytK.getD w []) i).1 = true
  · have w4 := w3 h
    rw [if_pos h]
    cases h2 : zv_numP T n (zv_wrdP T n (bytK.getD w []) i).2 with
    | none => exact ⟨w1, w2, fun z => (nomatch z)⟩
    | some z =>
      obtain ⟨zv_c1, c2, c3, c4⟩ := zv_nuB h2
      simp only []
      by_cases h3 : 2 ≤ w
      · rw [if_pos h3]
        have hw : w = 2 ∨ w = 3 := by omega
        refine ⟨by simp only []; omega, c2, fun _ => ⟨⟨(zv_nI99 c4).1, (zv_nI99 c4).2, zv_nI0 w (by omega), (zv_nIle (b := 3) (by omega) (by omega)).mpr hw3, fun q => ?_⟩, by simp only []; omega, ?_, by simp only [List.length_nil]; omega⟩⟩
        · simp only [] at q
          have := (zv_nIlt (b := 2) (by omega) (by omega)).mp q
          omega
        · rcases hw with rfl | rfl
          · show (zv_flat [(nI 2, nI z.1, [])]).length + i ≤ z.2
            rw [zv_flat, if_neg (show ¬ nI 2 = 0 by decide), if_neg (show ¬ nI 2 = 1 by decide)]
            show 0 + i ≤ z.2; omega
          · show (zv_flat [(nI 3, nI z.1, [])]).length + i ≤ z.2
            rw [zv_flat, if_neg (show ¬ nI 3 = 0 by decide), if_neg (show ¬ nI 3 = 1 by decide)]
            show 0 + i ≤ z.2; omega
      · rw [if_neg h3]
        by_cases h4 : zv_pk T n z.2 = 32
        · have hin := zv_pkB h4 (by decide)
          obtain ⟨o1, o2, o3⟩ := zv_epB (T := T) (n := n) (fac := zv_facP T n 4) (fun i hi => zv_faB 4 i hi) (i := z.2 + 1) (by omega)
          rw [if_pos h4]
          simp only []
          refine ⟨by omega, o2, fun q => ?_⟩
          have o4 := o3 q
          have hD := zv_exD q
          refine ⟨⟨(zv_nI99 c4).1, (zv_nI99 c4).2, zv_nI0 w (by omega), (zv_nIle (b := 3) (by omega) (by omega)).mpr hw3, fun _ => hD⟩, by omega, ?_, by omega⟩
          have hw : w = 0 ∨ w = 1 := by omega
          rcases hw with rfl | rfl
          · rw [zv_flat, if_pos (show nI 0 = 0 from rfl)]
            simp only [zv_flat, List.length_append, List.length_singleton, List.append_nil]
            omega
          · rw [zv_flat, if_neg (show ¬ nI 1 = 0 by decide), if_pos (show nI 1 = 1 from rfl)]
            simp only [zv_flat, List.length_append, List.length_singleton, List.append_nil]
            omega
        · rw [if_neg h4]
          exact ⟨by simp only []; omega, c2, fun z => (nomatch z)⟩
  · rw [if_neg h]
    exact ⟨w1, w2, fun z => (nomatch z)⟩
/-! the class at clauses -/
def zv_CTf (p : Nat) (zv_S0 : St) (F : List Int32) (b z : Int32) (i : Nat) (S : St) : Prop := gJ S = gJ zv_S0 ∧ gR S = gR zv_S0 ∧ (∀ f, f ≠ 0 → f ≠ 1 → f ≠ 16 → gI S f = gI zv_S0 f) ∧ (∀ a, a ≠ p → gI S 0 a = gI zv_S0 0 a ∧ gI S 16 a = gI zv_S0 16 a) ∧ (gI S 0 p 2 = b ∧ gI S 0 p 3 = z) ∧ (∀ a b, ¬ (a = 0 ∧ b = 2) → gI S 1 a b = gI zv_S0 1 a b) ∧ gI S 1 0 2 = nI i ∧ gI S 0 p 1 = nI F.length ∧ (∀ j, j < F.length → gI S 16 p j = F.getD j 0)
theorem zv_CTs {p : Nat} {zv_S0 : St} {F : List Int32} {b z : Int32} {i : Nat} {S : St} (h : zv_CTf p zv_S0 F b z i S) : zv_CSt p S F i S := ⟨rfl, rfl, fun _ _ _ _ => rfl, fun _ _ => ⟨rfl, rfl⟩, fun _ _ => rfl, fun _ _ _ => rfl, h.2.2.2.2.2.2.1, h.2.2.2.2.2.2.2.1, h.2.2.2.2.2.2.2.2⟩
theorem zv_CTg {p : Nat} {zv_S0 : St} {F F' : List Int32} {b z : Int32} {i i' : Nat} {S S' : St} (h : zv_CTf p zv_S0 F b z i S) (h2 : zv_CSt p S F' i' S') : zv_CTf p zv_S0 F' b z i' S' :=
  ⟨h2.1.trans h.1, h2.2.1.trans h.2.1, fun f a b c => (h2.2.2.1 f a b c).trans (h.2.2.1 f a b c), fun a ha => ⟨(h2.2.2.2.1 a ha).1.trans (h.2.2.2.1 a ha).1, (h2.2.2.2.1 a ha).2.trans (h.2.2.2.1 a ha).2⟩, ⟨(h2.2.2.2.2.1 2 (by decide)).trans h.2.2.2.2.1.1, (h2.2.2.2.2.1 3 (by decide)).trans h.2.2.2.2.1.2⟩, fun a b q => (h2.2.2.2.2.2.1 a b q).trans (h.2.2.2.2.2.1 a b q), h2.2.2.2.2.2.2.1, h2.2.2.2.2.2.2.2.1, h2.2.2.2.2.2.2.2.2⟩
theorem zv_CTb {T : Nat → Int32} {n p : Nat} {zv_S0 : St} {F : List Int32} {b z : Int32} {i : Nat} {S : St} (hB : zv_CB T n p zv_S0) (h : zv_CTf p zv_S0 F b z i S) : zv_CB T n p S := by
  obtain ⟨h1, h2, h3, h4⟩ := hB
  exact ⟨h1, by rw [h.2.2.2.2.2.1 0 1 (by omega)]; exact h2, fun j hj => by rw [h.2.2.1 17 (by decide) (by decide) (by decide)]; exact h3 j hj, by rw [h.2.1]; exact h4⟩
theorem zv_c_len (S : St) (w : Nat) (h : w ≤ 3) : F_J0_length_8abf5 S w = some (nI (bytK.getD w []).length, S) := by
  have : w = 0 ∨ w = 1 ∨ w = 2 ∨ w = 3 := by omega
  rcases this with rfl | rfl | rfl | rfl <;> rfl
theorem zv_c_ch (S : St) (w j : Nat) (h : w ≤ 3) (hj : j < (bytK.getD w []).length) : F_J0_charAt_5068e S w (nI j) = some ((bytK.getD w []).getD j 0, S) := by
  have : w = 0 ∨ w = 1 ∨ w = 2 ∨ w = 3 := by omega
  rcases this with rfl | rfl | rfl | rfl
  · have : j = 0 ∨ j = 1 ∨ j = 2 := by simp [bytK] at hj; omega
    rcases this with rfl | rfl | rfl <;> rfl
  · have : j = 0 ∨ j = 1 ∨ j = 2 ∨ j = 3 ∨ j = 4 := by simp [bytK] at hj; omega
    rcases this with rfl | rfl | rfl | rfl | rfl <;> rfl
  · have : j = 0 ∨ j = 1 ∨ j = 2 ∨ j = 3 ∨ j = 4 := by simp [bytK] at hj; omega
    rcases this with rfl | rfl | rfl | rfl | rfl <;> rfl
  · have : j = 0 ∨ j = 1 ∨ j = 2 ∨ j = 3 ∨ j = 4 := by simp [bytK] at hj; omega
    rcases this with rfl | rfl | rfl | rfl | rfl <;> rfl
theorem zv_gDm {l : List Int32} {j : Nat} (h : j < l.length) : l.getD j 0 ∈ l := by
  rw [List.getD_eq_getElem?_getD, List.getElem?_eq_getElem h]
  exact List.getElem_mem h
theorem zv_c_wrd {T : Nat → Int32} {n p w : Nat} {zv_S0 : St} (hB : zv_CB T n p zv_S0) (hw : w ≤ 3) : ∀ (r : List Int32) (j fuel : Nat) (F : List Int32) (i : Nat) (S : St), j + r.length = (bytK.getD w []).length → (∀ x, x < r.length → (bytK.getD w []).getD (j + x) 0 = r.getD x 0) → r.length < fuel → zv_CSt p zv_S0 F i S → i ≤ n → ∃ S', L_X1_word_2 w (fun y2_1 T_1 => some ((1 : Int32), T_1)) fuel (nI j) S = some (zv_bI (zv_wrdP T n r i).1, S') ∧ zv_CSt p zv_S0 F (zv_wrdP T n r i).2 S' := by
  have hn := hB.1.1
  have hlen : (bytK.getD w []).length ≤ 5 := by
    have : w = 0 ∨ w = 1 ∨ w = 2 ∨ w = 3 := by omega
    rcases this with rfl | rfl | rfl | rfl <;> decide
  intro r
  induction r with
  | nil =>
    intro j fuel F i S hj hx hf hS hi
    obtain ⟨fu, rfl⟩ : ∃ z, fuel = z + 1 := ⟨fuel - 1, by simp at hf; omega⟩
    simp only [List.length_nil, Nat.add_zero] at hj
    rw [L_X1_word_2.eq_2, zv_c_len S w hw, zv_bndS, hj, if_pos (Int32.le_refl _)]
    exact ⟨S, rfl, hS⟩
  | cons c r ih =>
    intro j fuel F i S hj hx hf hS hi
    simp only [List.length_cons] at hj hx hf
    obtain ⟨fu, rfl⟩ : ∃ z, fuel = z + 1 := ⟨fuel - 1, by omega⟩
    have hc : (bytK.getD w []).getD j 0 = c := by
      have := hx 0 (by omega)
      rw [Nat.add_zero] at this; exact this
    have hc128 : c ≠ 128 := (zv_bt128 w hw).1 c (hc ▸ zv_gDm (by omega))
    obtain ⟨t1, t2⟩ := zv_c_tk hB hS hi c
    rw [L_X1_word_2.eq_2, zv_c_len S w hw, zv_bndS, if_neg (by rw [zv_nIle (by omega) (by omega)]; omega), zv_c_ch S w j hw (by omega), zv_bndS, hc]
    unfold zv_wrdP
    by_cases h : zv_pk T n i = c
    · have hin := zv_pkB h hc128
      rw [t1 h, zv_bndS, if_neg zv_z10, if_pos h, zv_nIs j (by omega)]
      exact ih (j + 1) fu F (i + 1) _ (by omega) (fun x hx2 => by rw [Nat.add_assoc, Nat.add_comm 1 x, hx (x + 1) (by omega)]; rfl) (by omega) (zv_c_at hS (i + 1)) (by omega)
    · rw [t2 h, zv_bndS, if_pos rfl, if_neg h]
      exact ⟨S, rfl, hS⟩
theorem zv_lastA (w d : Int32) (cs : List zv_Cl) (c : zv_Cl) : zv_lastW w d (cs ++ [c]) = if c.1 = w then c.2.1 else zv_lastW w d cs := by
  unfold zv_lastW
  rw [List.foldl_append]; rfl
theorem zv_CTbase {p : Nat} {zv_S0 : St} {F : List Int32} {b z : Int32} {i : Nat} {S : St} (h : zv_CTf p zv_S0 F b z i S) (x : Int32) : zv_CTf p zv_S0 F x z i (sI S 0 p 2 x) := by
  obtain ⟨s1, s2, s3, s4, ⟨s5, s5'⟩, s6, s7, s8, s9⟩ := h
  refine ⟨s1, s2, fun f a b c => by rw [zv_gI_f a]; exact s3 f a b c, fun a ha => ⟨by rw [zv_gI_i ha]; exact (s4 a ha).1, by rw [zv_gI_f (by decide)]; exact (s4 a ha).2⟩, ⟨by rw [gI_sI, if_pos ⟨rfl, rfl, rfl⟩], by rw [gI_sI, if_neg (by omega)]; exact s5'⟩, fun a b q => by rw [zv_gI_f (by decide)]; exact s6 a b q, by rw [zv_gI_f (by decide)]; exact s7, by rw [gI_sI, if_neg (by omega)]; exact s8, fun j hj => by rw [zv_gI_f (by decide)]; exact s9 j hj⟩
theorem zv_CTsafe {p : Nat} {zv_S0 : St} {F : List Int32} {b z : Int32} {i : Nat} {S : St} (h : zv_CTf p zv_S0 F b z i S) (x : Int32) : zv_CTf p zv_S0 F b x i (sI S 0 p 3 x) := by
  obtain ⟨s1, s2, s3, s4, ⟨s5, s5'⟩, s6, s7, s8, s9⟩ := h
  refine ⟨s1, s2, fun f a b c => by rw [zv_gI_f a]; exact s3 f a b c, fun a ha => ⟨by rw [zv_gI_i ha]; exact (s4 a ha).1, by rw [zv_gI_f (by decide)]; exact (s4 a ha).2⟩, ⟨by rw [gI_sI, if_neg (by omega)]; exact s5, by rw [gI_sI, if_pos ⟨rfl, rfl, rfl⟩]⟩, fun a b q => by rw [zv_gI_f (by decide)]; exact s6 a b q, by rw [zv_gI_f (by decide)]; exact s7, by rw [gI_sI, if_neg (by omega)]; exact s8, fun j hj => by rw [zv_gI_f (by decide)]; exact s9 j hj⟩
def zv_CTt (p : Nat) (zv_S0 : St) (cs : List zv_Cl) (i : Nat) (S : St) : Prop := zv_CTf p zv_S0 (zv_flat cs) (zv_baseA cs) (zv_safeA cs) i S
theorem zv_flat1 (v : Int32) (ts : List Int32) : zv_flat [((0 : Int32), v, ts)] = ts ++ [9000 + v] ∧ zv_flat [((1 : Int32), v, ts)] = ts ++ [10000 + v] ∧ zv_flat [((2 : Int32), v, ts)] = [] ∧ zv_flat [((3 : Int32), v, ts)] = [] := by
  refine ⟨?_, ?_, ?_, ?_⟩
  · rw [zv_flat, if_pos rfl, zv_flat, List.append_nil]
  · rw [zv_flat, if_neg (show ¬ (1 : Int32) = 0 by decide), if_pos rfl, zv_flat, List.append_nil]
  · rw [zv_flat, if_neg (show ¬ (2 : Int32) = 0 by decide), if_neg (show ¬ (2 : Int32) = 1 by decide), zv_flat, List.append_nil]
  · rw [zv_flat, if_neg (show ¬ (3 : Int32) = 0 by decide), if_neg (show ¬ (3 : Int32) = 1 by decide), zv_flat, List.append_nil]
theorem zv_wid (S : St) (r : Int32) : F_X1_wordWith S r = some (zv_hdW r, S) := by
  unfold F_X1_wordWith zv_hdW
  (repeat' split) <;> rfl
theorem zv_wr115 {T : Nat → Int32} {n i : Nat} (h : (zv_wrdP T n (bytK.getD 3 []) i).1 = true) : zv_pk T n i = 115 := by
  have e : bytK.getD 3 [] = [115, 97, 102, 101, 32] := rfl
  rw [e] at h
  unfold zv_wrdP at h
  by_cases q : zv_pk T n i = 115
  · exact q
  · rw [if_neg q] at h; cases h
theorem zv_c_cls {T : Nat → Int32} {n p i : Nat} {zv_S0 S : St} {cs : List zv_Cl} (hB : zv_CB T n p zv_S0) (hS : zv_CTt p zv_S0 cs i S) (hi : i ≤ n) (hl : (zv_flat cs).length ≤ i) :
    ∃ S', F_X1_clause S = some (zv_bI (zv_clsP T n i).1, S') ∧ ((zv_clsP T n i).1 = true → zv_CTt p zv_S0 (cs ++ [(zv_clsP T n i).2.2]) (zv_clsP T n i).2.1 S') ∧ ((zv_clsP T n i).1 = false → ∃ F b z, zv_CTf p zv_S0 F b z (zv_clsP T n i).2.1 S') := by
  have hn := hB.1.1
  have hB1 := zv_CTb hB hS
  have hS1 := zv_CTs hS
  obtain ⟨b1, b2⟩ := zv_bt128 (zv_hdW (zv_pk T n i)) (zv_hdB _)
  obtain ⟨w1, w2, w3⟩ := zv_wrB (T := T) (n := n) (bytK.getD (zv_hdW (zv_pk T n i)) []) i hi b1
  have hw3 := zv_hdB (zv_pk T n i)
  unfold F_X1_clause zv_clsP F_X1_word
  rw [zv_c_peek hB1 hS1 hi, zv_bndS, zv_wid, zv_bndS]
  obtain ⟨S2, e2, hS2⟩ := zv_c_wrd hB1 hw3 (bytK.getD (zv_hdW (zv_pk T n i)) []) 0 1000 _ i S (by omega) (fun x hx => by rw [Nat.zero_add]) (by have : (bytK.getD (zv_hdW (zv_pk T n i)) []).length ≤ 5 := (by have : zv_hdW (zv_pk T n i) = 0 ∨ zv_hdW (zv_pk T n i) = 1 ∨ zv_hdW (zv_pk T n i) = 2 ∨ zv_hdW (zv_pk T n i) = 3 := (by omega); rcases this with h | h | h | h <;> rw [h] <;> decide); omega) hS1 hi
  rw [show nI 0 = (0 : Int32) from rfl] at e2
  rw [e2, zv_bndS]
  by_cases h : (zv_wrdP T n (bytK.getD (zv_hdW (zv_pk T n i)) []) i).1 = true
  · have w4 := w3 h
    rw [h, if_neg (show ¬ zv_bI true = 0 by decide), if_pos rfl]
    obtain ⟨y1, y2⟩ := zv_c_num hB1 hS2 w2
    cases h2 : zv_numP T n (zv_wrdP T n (bytK.getD (zv_hdW (zv_pk T n i)) []) i).2 with
    | none =>
      rw [y1 h2, zv_bndS, if_neg (show ¬ (0 : Int32) ≤ -1 by decide)]
      exact ⟨S2, rfl, fun z => (nomatch z), fun _ => ⟨_, _, _, zv_CTg hS hS2⟩⟩
    | some z =>
      obtain ⟨zv_c1, c2, c3, c4⟩ := zv_nuB h2
      obtain ⟨S3, e3, hS3⟩ := y2 z h2
      have hT3 := zv_CTg hS hS3
      rw [e3, zv_bndS, if_pos (zv_nI0 z.1 (by omega))]
      simp only []
      by_cases r98 : zv_pk T n i = 98
      · have hw : zv_hdW (zv_pk T n i) = 2 := by unfold zv_hdW; rw [if_pos r98]
        rw [if_pos r98, hw, if_pos (show 2 ≤ 2 by decide), zv_c_R hB1 hS3, zv_elS]
        have hT4 := zv_CTbase hT3 (if (400 : Int32) < 10 * nI z.1 then (400 : Int32) else 10 * nI z.1)
        refine ⟨_, rfl, fun _ => ?_, fun q => (nomatch q)⟩
        unfold zv_CTt
        have eb : zv_baseA (cs ++ [(nI 2, nI z.1, [])]) = (if (400 : Int32) < 10 * nI z.1 then (400 : Int32) else 10 * nI z.1) := by
          unfold zv_baseA
          rw [zv_lastA, if_pos (show (nI 2, nI z.1, ([] : List Int32)).1 = 2 from rfl)]
          simp only [Int32.lt_iff_toInt_lt, Int32.le_iff_toInt_le]
          (repeat' split) <;> first | rfl | (exfalso; omega)
        have es : zv_safeA (cs ++ [(nI 2, nI z.1, [])]) = zv_safeA cs := by
          unfold zv_safeA
          rw [zv_lastA, if_neg (show ¬ (nI 2, nI z.1, ([] : List Int32)).1 = 3 from (show ¬ nI 2 = 3 by decide))]
        rw [eb, es, zv_flatA, show zv_flat [(nI 2, nI z.1, [])] = [] from (zv_flat1 _ _).2.2.1, List.append_nil]
        exact hT4
      · rw [if_neg r98]
        by_cases r115 : zv_pk T n i = 115
        · have hw : zv_hdW (zv_pk T n i) = 3 := by rw [r115]; decide
          rw [if_pos r115, hw, if_pos (show 2 ≤ 3 by decide), zv_c_R hB1 hS3, zv_elS]
          have hT4 := zv_CTsafe hT3 (10 * nI z.1)
          refine ⟨_, rfl, fun _ => ?_, fun q => (nomatch q)⟩
          unfold zv_CTt
          have eb : zv_baseA (cs ++ [(nI 3, nI z.1, [])]) = zv_baseA cs := by
            unfold zv_baseA
            rw [zv_lastA, if_neg (show ¬ (nI 3, nI z.1, ([] : List Int32)).1 = 2 from (show ¬ nI 3 = 2 by decide))]
          have es : zv_safeA (cs ++ [(nI 3, nI z.1, [])]) = 10 * nI z.1 := by
            unfold zv_safeA
            rw [zv_lastA, if_pos (show (nI 3, nI z.1, ([] : List Int32)).1 = 3 from rfl)]
          rw [eb, es, zv_flatA, show zv_flat [(nI 3, nI z.1, [])] = [] from (zv_flat1 _ _).2.2.2, List.append_nil]
          exact hT4
        · have hw2 : zv_hdW (zv_pk T n i) ≠ 3 := fun q => by
            rw [q] at h
            exact r115 (zv_wr115 h)
          have hw01 : (zv_hdW (zv_pk T n i) = 0 ∧ zv_pk T n i = 117) ∨ (zv_hdW (zv_pk T n i) = 1 ∧ ¬ zv_pk T n i = 117) := by
            unfold zv_hdW at hw2 ⊢
            rw [if_neg r98] at hw2 ⊢
            by_cases r100 : zv_pk T n i = 100
            · rw [if_pos r100]; exact .inr ⟨rfl, by rw [r100]; decide⟩
            · rw [if_neg r100] at hw2 ⊢
              by_cases r117 : zv_pk T n i = 117
              · rw [if_pos r117]; exact .inl ⟨rfl, r117⟩
              · rw [if_neg r117] at hw2; exact absurd rfl hw2
          rw [if_neg r115, if_neg (show ¬ 2 ≤ zv_hdW (zv_pk T n i) by omega)]
          obtain ⟨t1, t2⟩ := zv_c_tk hB1 hS3 c2 32
          by_cases h4 : zv_pk T n z.2 = 32
          · have hin := zv_pkB h4 (by decide)
            have hS4 := zv_c_at hS3 (z.2 + 1)
            obtain ⟨S5, e5, k1, k2⟩ := zv_c_exp hB1 (fac := F_X1_factor 6) (a1 := nI 0) (zv_c_fac hB1 4 6 0 rfl (by decide)) (fun i hi => zv_faB 4 i hi) _ (z.2 + 1) _ hS4 (by omega) (by omega)
            simp only [] at e5
            rw [show nI 0 = (0 : Int32) from rfl] at e5
            obtain ⟨o1, o2, o3⟩ := zv_epB (T := T) (n := n) (fac := zv_facP T n 4) (fun i hi => zv_faB 4 i hi) (i := z.2 + 1) (by omega)
            rw [t1 h4, zv_bndS, if_neg zv_z10, e5, zv_bndS, if_pos h4]
            cases hr : (zv_expP T n (zv_facP T n 4) (z.2 + 1)).1 with
            | false =>
              obtain ⟨F', hF'⟩ := k2 hr
              rw [if_pos (show zv_bI false = 0 from rfl)]
              exact ⟨S5, rfl, fun q => (nomatch q), fun _ => ⟨F', _, _, zv_CTg hS hF'⟩⟩
            | true =>
              have hS5 := k1 hr
              have o4 := o3 hr
              rw [if_neg (show ¬ zv_bI true = 0 by decide), zv_c_R hB1 hS5, zv_elS]
              have unb : ∀ (w : Int32) (v : Int32) (ts : List Int32), ¬ w = 2 → ¬ w = 3 → zv_baseA (cs ++ [(w, v, ts)]) = zv_baseA cs ∧ zv_safeA (cs ++ [(w, v, ts)]) = zv_safeA cs := fun w v ts q2 q3 => by
                constructor
                · unfold zv_baseA; rw [zv_lastA, if_neg q2]
                · unfold zv_safeA; rw [zv_lastA, if_neg q3]
              rcases hw01 with ⟨q0, q1⟩ | ⟨q0, q1⟩
              · obtain ⟨S6, e6, hS6⟩ := zv_c_add hS5 (by rw [List.length_append]; omega) 9 0 (nI z.1)
                rw [if_pos q1, e6, zv_bndS]
                refine ⟨S6, rfl, fun _ => ?_, fun q => (nomatch q)⟩
                simp only [q0]
                unfold zv_CTt
                obtain ⟨u1, u2⟩ := unb (nI 0) (nI z.1) (zv_expP T n (zv_facP T n 4) (z.2 + 1)).2.2 (by decide) (by decide)
                rw [u1, u2, zv_flatA, show zv_flat [(nI 0, nI z.1, (zv_expP T n (zv_facP T n 4) (z.2 + 1)).2.2)] = _ from (zv_flat1 _ _).1, ← List.append_assoc, show (9000 : Int32) = 9 * 1000 + 0 * 100 by decide]
                exact zv_CTg hS hS6
              · obtain ⟨S6, e6, hS6⟩ := zv_c_add hS5 (by rw [List.length_append]; omega) 10 0 (nI z.1)
                rw [if_neg q1, e6, zv_bndS]
                refine ⟨S6, rfl, fun _ => ?_, fun q => (nomatch q)⟩
                simp only [q0]
                unfold zv_CTt
                obtain ⟨u1, u2⟩ := unb (nI 1) (nI z.1) (zv_expP T n (zv_facP T n 4) (z.2 + 1)).2.2 (by decide) (by decide)
                rw [u1, u2, zv_flatA, show zv_flat [(nI 1, nI z.1, (zv_expP T n (zv_facP T n 4) (z.2 + 1)).2.2)] = _ from (zv_flat1 _ _).2.1, ← List.append_assoc, show (10000 : Int32) = 10 * 1000 + 0 * 100 by decide]
                exact zv_CTg hS hS6
          · rw [t2 h4, zv_bndS, if_pos rfl, if_neg h4]
            exact ⟨S3, rfl, fun q => (nomatch q), fun _ => ⟨_, _, _, hT3⟩⟩
  · have hf : (zv_wrdP T n (bytK.getD (zv_hdW (zv_pk T n i)) []) i).1 = false := by
      cases hq : (zv_wrdP T n (bytK.getD (zv_hdW (zv_pk T n i)) []) i).1 with
      | true => exact absurd hq h
      | false => rfl
    rw [hf, if_pos (show zv_bI false = 0 from rfl), if_neg (by decide)]
    exact ⟨S2, rfl, fun z => (nomatch z), fun _ => ⟨_, _, _, zv_CTg hS hS2⟩⟩
def zv_txtL (T : Nat → Int32) (n : Nat) : Nat → Nat → Bool × Nat × List zv_Cl
  | 0, i => (decide (i = n), i, [])
  | m + 1, i => if zv_pk T n i = 59 then
      ((zv_clsP T n (i + 1)).1 && (zv_txtL T n m (zv_clsP T n (i + 1)).2.1).1, (if (zv_clsP T n (i + 1)).1 then (zv_txtL T n m (zv_clsP T n (i + 1)).2.1).2.1 else (zv_clsP T n (i + 1)).2.1), (zv_clsP T n (i + 1)).2.2 :: (zv_txtL T n m (zv_clsP T n (i + 1)).2.1).2.2)
    else (decide (i = n), i, [])
def zv_txtP (T : Nat → Int32) (n : Nat) : Bool × Nat × List zv_Cl := ((zv_clsP T n 0).1 && (zv_txtL T n 9 (zv_clsP T n 0).2.1).1, (if (zv_clsP T n 0).1 then (zv_txtL T n 9 (zv_clsP T n 0).2.1).2.1 else (zv_clsP T n 0).2.1), (zv_clsP T n 0).2.2 :: (zv_txtL T n 9 (zv_clsP T n 0).2.1).2.2)
theorem zv_txB {T : Nat → Int32} {n : Nat} : ∀ (m i : Nat), i ≤ n → (zv_txtL T n m i).2.1 ≤ n ∧ ((zv_txtL T n m i).1 = true → (zv_txtL T n m i).2.1 = n ∧ (∀ c, c ∈ (zv_txtL T n m i).2.2 → zv_okC c) ∧ (zv_txtL T n m i).2.2.length ≤ m ∧ (zv_flat (zv_txtL T n m i).2.2).length + i ≤ n) := by
  intro m
  induction m with
  | zero =>
    intro i hi
    refine ⟨hi, fun z => ?_⟩
    have : i = n := of_decide_eq_true z
    exact ⟨this, fun c hc => (nomatch hc), Nat.le_refl _, by show 0 + i ≤ n; omega⟩
  | succ m ih =>
    intro i hi
    unfold zv_txtL
    by_cases h : zv_pk T n i = 59
    · have hin := zv_pkB h (by decide)
      rw [if_pos h]
      obtain ⟨zv_c1, c2, c3⟩ := zv_clsB (T := T) (n := n) (i := i + 1) (by omega)
      obtain ⟨t1, t2⟩ := ih (zv_clsP T n (i + 1)).2.1 c2
      simp only []
      cases hb : (zv_clsP T n (i + 1)).1 with
      | false => exact ⟨by simp only [Bool.false_eq_true, reduceIte]; exact c2, fun z => (nomatch z)⟩
      | true =>
        simp only [reduceIte, Bool.true_and]
        refine ⟨t1, fun z => ?_⟩
        obtain ⟨u1, u2, u3, u4⟩ := t2 z
        obtain ⟨v1, v2, v3, -⟩ := c3 hb
        refine ⟨u1, fun c hc => ?_, by rw [List.length_cons]; omega, ?_⟩
        · rcases List.mem_cons.mp hc with rfl | hc
          · exact v1
          · exact u2 c hc
        · rw [show (zv_clsP T n (i + 1)).2.2 :: (zv_txtL T n m (zv_clsP T n (i + 1)).2.1).2.2 = [(zv_clsP T n (i + 1)).2.2] ++ (zv_txtL T n m (zv_clsP T n (i + 1)).2.1).2.2 from rfl, zv_flatA, List.length_append]
          omega
    · rw [if_neg h]
      refine ⟨hi, fun z => ?_⟩
      have : i = n := of_decide_eq_true z
      exact ⟨this, fun c hc => (nomatch hc), Nat.zero_le _, by show 0 + i ≤ n; omega⟩
theorem zv_tpB {T : Nat → Int32} {n : Nat} : (zv_txtP T n).2.1 ≤ n ∧ ((zv_txtP T n).1 = true → (∀ c, c ∈ (zv_txtP T n).2.2 → zv_okC c) ∧ (zv_txtP T n).2.2.length ≤ 10 ∧ (zv_flat (zv_txtP T n).2.2).length ≤ n) := by
  obtain ⟨zv_c1, c2, c3⟩ := zv_clsB (T := T) (n := n) (i := 0) (Nat.zero_le _)
  obtain ⟨t1, t2⟩ := zv_txB (T := T) (n := n) 9 (zv_clsP T n 0).2.1 c2
  unfold zv_txtP
  simp only []
  cases hb : (zv_clsP T n 0).1 with
  | false => exact ⟨by simp only [Bool.false_eq_true, reduceIte]; exact c2, fun z => (nomatch z)⟩
  | true =>
    simp only [reduceIte, Bool.true_and]
    refine ⟨t1, fun z => ?_⟩
    obtain ⟨u1, u2, u3, u4⟩ := t2 z
    obtain ⟨v1, v2, v3, -⟩ := c3 hb
    refine ⟨fun c hc => ?_, by rw [List.length_cons]; omega, ?_⟩
    · rcases List.mem_cons.mp hc with rfl | hc
      · exact v1
      · exact u2 c hc
    · rw [show (zv_clsP T n 0).2.2 :: (zv_txtL T n 9 (zv_clsP T n 0).2.1).2.2 = [(zv_clsP T n 0).2.2] ++ (zv_txtL T n 9 (zv_clsP T n 0).2.1).2.2 from rfl, zv_flatA, List.length_append]
      omega
theorem zv_CT_at {p i : Nat} {zv_S0 S : St} {F : List Int32} {b z : Int32} (hS : zv_CTf p zv_S0 F b z i S) (i' : Nat) : zv_CTf p zv_S0 F b z i' (sI S 1 0 2 (nI i')) := zv_CTg hS (zv_c_at (zv_CTs hS) i')
theorem zv_c_txL {T : Nat → Int32} {n p : Nat} {zv_S0 : St} (hB : zv_CB T n p zv_S0) : ∀ (m j fuel : Nat) (cs : List zv_Cl) (i : Nat) (S : St), j + m = 10 → m < fuel → zv_CTt p zv_S0 cs i S → i ≤ n → (zv_flat cs).length ≤ i →
    ∃ S', L_X1_parse_25 (fun y2_10 T_10 => if (gI T_10 1 0 2) = (gI T_10 1 0 1) then (some ((1 : Int32), T_10)) else (some ((0 : Int32), T_10))) fuel (nI j) S = some (zv_bI (zv_txtL T n m i).1, S') ∧ ((zv_txtL T n m i).1 = true → zv_CTt p zv_S0 (cs ++ (zv_txtL T n m i).2.2) (zv_txtL T n m i).2.1 S') ∧ ((zv_txtL T n m i).1 = false → ∃ F b z, zv_CTf p zv_S0 F b z (zv_txtL T n m i).2.1 S') := by
  have hn := hB.1.1
  intro m
  generalize eK : (fun (y2_10 : Int32) (T_10 : St) => if (gI T_10 1 0 2) = (gI T_10 1 0 1) then (some ((1 : Int32), T_10)) else (some ((0 : Int32), T_10))) = K
  have fin : ∀ (y : Int32) (cs : List zv_Cl) (i : Nat) (S : St), zv_CTt p zv_S0 cs i S → i ≤ n → ∃ S', K y S = some (zv_bI (decide (i = n)), S') ∧ (decide (i = n) = true → zv_CTt p zv_S0 (cs ++ []) i S') ∧ (decide (i = n) = false → ∃ F b z, zv_CTf p zv_S0 F b z i S') := by
    intro y cs i S hS hi
    subst eK
    simp only []
    rw [hS.2.2.2.2.2.2.1, hS.2.2.2.2.2.1 0 1 (by omega), hB.2.1, List.append_nil]
    by_cases h : i = n
    · rw [if_pos (by rw [h]), decide_eq_true h]
      exact ⟨S, rfl, fun _ => hS, fun z => (nomatch z)⟩
    · rw [if_neg (fun z => h ((zv_nIeq (by omega) (by omega)).mp z)), decide_eq_false h]
      exact ⟨S, rfl, fun z => (nomatch z), fun _ => ⟨_, _, _, hS⟩⟩
  induction m with
  | zero =>
    intro j fuel cs i S hj hf hS hi hl
    obtain ⟨fu, rfl⟩ : ∃ z, fuel = z + 1 := ⟨fuel - 1, by omega⟩
    obtain rfl : j = 10 := by omega
    rw [L_X1_parse_25.eq_2, if_pos (show (10 : Int32) ≤ nI 10 by decide)]
    exact fin (nI 10) cs i S hS hi
  | succ m ih =>
    intro j fuel cs i S hj hf hS hi hl
    obtain ⟨fu, rfl⟩ : ∃ z, fuel = z + 1 := ⟨fuel - 1, by omega⟩
    obtain ⟨t1, t2⟩ := zv_c_tk (zv_CTb hB hS) (zv_CTs hS) hi 59
    rw [L_X1_parse_25.eq_2, if_neg (show ¬ (10 : Int32) ≤ nI j by rw [show (10 : Int32) = nI 10 from rfl, zv_nIle (by omega) (by omega)]; omega)]
    unfold zv_txtL
    by_cases h : zv_pk T n i = 59
    · have hin := zv_pkB h (by decide)
      obtain ⟨S2, e2, k1, k2⟩ := zv_c_cls hB (zv_CT_at hS (i + 1)) (by omega) (by omega)
      obtain ⟨zv_c1, c2, c3⟩ := zv_clsB (T := T) (n := n) (i := i + 1) (by omega)
      rw [t1 h, zv_bndS, if_neg zv_z10, e2, zv_bndS, if_pos h]
      cases hb : (zv_clsP T n (i + 1)).1 with
      | false =>
        rw [if_pos (show zv_bI false = 0 from rfl)]
        exact ⟨S2, rfl, fun z => (nomatch z), fun _ => k2 hb⟩
      | true =>
        obtain ⟨v1, v2, v3, -⟩ := c3 hb
        obtain ⟨S3, e3, q1, q2⟩ := ih (j + 1) fu _ _ S2 (by omega) (by omega) (k1 hb) c2 (by rw [zv_flatA, List.length_append]; omega)
        rw [if_neg (show ¬ zv_bI true = 0 by decide), zv_nIs j (by omega), e3]
        simp only [Bool.true_and, reduceIte]
        refine ⟨S3, rfl, fun z => ?_, q2⟩
        have := q1 z
        rw [List.append_assoc] at this
        exact this
    · rw [t2 h, zv_bndS, if_pos rfl, if_neg h]
      exact fin (nI j) cs i S hS hi
theorem zv_c_txt {T : Nat → Int32} {n p : Nat} {S : St} (hT : zv_TB T n) (hl : gI S 1 0 1 = nI n) (hb : ∀ i, i < n → gI S 17 0 i = T i) :
    ∃ S', F_X1_parse S p = some (zv_bI (zv_txtP T n).1, S') ∧ ((zv_txtP T n).1 = true → zv_CTt p (sR S 1 0 3 (some p)) (zv_txtP T n).2.2 (zv_txtP T n).2.1 S') ∧ ((zv_txtP T n).1 = false → ∃ F b z, zv_CTf p (sR S 1 0 3 (some p)) F b z (zv_txtP T n).2.1 S') := by
  have hn := hT.1
  have hB : zv_CB T n p (sR S 1 0 3 (some p)) := ⟨hT, hl, hb, by rw [gR_sR, if_pos ⟨rfl, rfl, rfl⟩]⟩
  have hS0 : zv_CTt p (sR S 1 0 3 (some p)) [] 0 (sI (sR (sI (sI (sI S 0 p 1 0) 0 p 2 400) 0 p 3 80) 1 0 3 (some p)) 1 0 2 0) := by
    refine ⟨rfl, rfl, fun f a b c => ?_, fun a ha => ⟨?_, ?_⟩, ⟨?_, ?_⟩, fun a b q => ?_, ?_, ?_, fun j hj => absurd hj (Nat.not_lt_zero _)⟩
    · rw [zv_gI_f b, zv_kI_sR, zv_gI_f a, zv_gI_f a, zv_gI_f a]; rfl
    · rw [zv_gI_f (by decide), zv_kI_sR, zv_gI_i ha, zv_gI_i ha, zv_gI_i ha]; rfl
    · rw [zv_gI_f (by decide), zv_kI_sR, zv_gI_f (by decide), zv_gI_f (by decide), zv_gI_f (by decide)]; rfl
    · rw [zv_gI_f (by decide), zv_kI_sR, gI_sI, if_neg (by omega), gI_sI, if_pos ⟨rfl, rfl, rfl⟩]; decide
    · rw [zv_gI_f (by decide), zv_kI_sR, gI_sI, if_pos ⟨rfl, rfl, rfl⟩]; decide
    · rw [gI_sI, if_neg (by rintro ⟨-, h1, h2⟩; exact q ⟨h1, h2⟩), zv_kI_sR, zv_gI_f (by decide), zv_gI_f (by decide), zv_gI_f (by decide)]; rfl
    · rw [gI_sI, if_pos ⟨rfl, rfl, rfl⟩]; rfl
    · rw [zv_gI_f (by decide), zv_kI_sR, gI_sI, if_neg (by omega), gI_sI, if_neg (by omega), gI_sI, if_pos ⟨rfl, rfl, rfl⟩]; rfl
  unfold F_X1_parse F_X0_begin zv_txtP
  rw [zv_bndS]
  obtain ⟨S2, e2, k1, k2⟩ := zv_c_cls hB hS0 (Nat.zero_le _) (Nat.zero_le _)
  obtain ⟨zv_c1, c2, c3⟩ := zv_clsB (T := T) (n := n) (i := 0) (Nat.zero_le _)
  rw [e2, zv_bndS]
  cases hb : (zv_clsP T n 0).1 with
  | false =>
    rw [if_pos (show zv_bI false = 0 from rfl)]
    exact ⟨S2, rfl, fun z => (nomatch z), fun _ => k2 hb⟩
  | true =>
    obtain ⟨v1, v2, v3, -⟩ := c3 hb
    obtain ⟨S3, e3, q1, q2⟩ := zv_c_txL hB 9 1 1000 _ _ S2 (by omega) (by omega) (k1 hb) c2 (by rw [List.nil_append]; omega)
    rw [if_neg (show ¬ zv_bI true = 0 by decide)]
    rw [show nI 1 = (1 : Int32) from rfl] at e3
    rw [e3]
    simp only [Bool.true_and, reduceIte]
    exact ⟨S3, rfl, q1, q2⟩
