def zv_encB (s : List Bool) (x : Int32) : Prop := s.length ≤ 31 ∧ ∀ i, i < 32 → x.toBitVec.getLsbD i = s.getD i false
theorem zv_gDd {α : Type} {s : List α} {i : Nat} {d : α} (h : s.length ≤ i) : s.getD i d = d := by
  rw [List.getD_eq_getElem?_getD, List.getElem?_eq_none h]; rfl
def zv_bI (b : Bool) : Int32 := if b then 1 else 0
theorem zv_s131 : ((1 : Int32) &&& 31) = 1 := by decide
theorem zv_s1sm : ((1 : Int32).toBitVec.smod 32) = 1#32 := by decide
theorem zv_i32ext {x y : Int32} (h : ∀ i, i < 32 → x.toBitVec.getLsbD i = y.toBitVec.getLsbD i) : x = y := by
  apply Int32.toBitVec_inj.mp
  apply BitVec.eq_of_getLsbD_eq
  intro i hi
  exact h i hi
theorem zv_bit1 (i : Nat) : (1 : Int32).toBitVec.getLsbD i = decide (i = 0) := by
  show (1#32).getLsbD i = _
  simp
theorem zv_bit0 (i : Nat) : (0 : Int32).toBitVec.getLsbD i = false := by
  show (0#32).getLsbD i = _
  simp
theorem zv_bitb (b : Bool) (i : Nat) : (zv_bI b).toBitVec.getLsbD i = (b && decide (i = 0)) := by
  cases b
  · exact zv_bit0 i
  · simp only [zv_bI, reduceIte, zv_bit1, Bool.true_and]
theorem zv_bitm2 (i : Nat) (hi : i < 32) : (-2 : Int32).toBitVec.getLsbD i = !decide (i = 0) := by
  rcases i with _ | i
  · decide
  · have : (-2 : Int32).toBitVec = ~~~ (1#32) := by decide
    rw [this, BitVec.getLsbD_not, show (1#32).getLsbD (i + 1) = false by simp]
    simp [hi]
theorem zv_encNil : zv_encB [] 0 := ⟨by simp, fun i _ => by rw [zv_bit0]; simp⟩
theorem zv_eXor {b : Bool} {s : List Bool} {x : Int32} (h : zv_encB (b :: s) x) : zv_encB ((!b) :: s) (x ^^^ 1) := by
  refine ⟨h.1, fun i hi => ?_⟩
  have := h.2 i hi
  rw [Int32.toBitVec_xor, BitVec.getLsbD_xor, this, zv_bit1]
  cases i with
  | zero => simp
  | succ n => simp
theorem zv_bShr (x : Int32) (i : Nat) (hi : i < 32) : (x >>> ((1 : Int32) &&& 31)).toBitVec.getLsbD i = if i + 1 < 32 then x.toBitVec.getLsbD (i + 1) else x.toBitVec.getLsbD 31 := by
  rw [zv_s131, Int32.toBitVec_shiftRight, zv_s1sm]
  show (x.toBitVec.sshiftRight 1).getLsbD i = _
  rw [BitVec.getLsbD_sshiftRight, Nat.add_comm]
  simp only [show ¬ 32 ≤ i by omega, decide_false, Bool.not_false, Bool.true_and]
  rfl
theorem zv_eShr {b : Bool} {s : List Bool} {x : Int32} (h : zv_encB (b :: s) x) : zv_encB s (x >>> ((1 : Int32) &&& 31)) := by
  have hl := h.1
  simp only [List.length_cons] at hl
  refine ⟨by omega, fun i hi => ?_⟩
  rw [zv_bShr x i hi]
  split
  · rw [h.2 (i + 1) (by omega)]; simp
  · have : i = 31 := by omega
    subst this
    rw [h.2 31 (by omega)]
    rw [zv_gDd (by simp; omega), zv_gDd (by omega)]
theorem zv_eTop {b : Bool} {s : List Bool} {x : Int32} (h : zv_encB (b :: s) x) : x &&& 1 = zv_bI b := by
  apply zv_i32ext
  intro i hi
  rw [Int32.toBitVec_and, BitVec.getLsbD_and, h.2 i hi, zv_bit1, zv_bitb]
  rcases i with _ | i <;> simp
theorem zv_eAnd {a b : Bool} {s : List Bool} {x : Int32} (h : zv_encB (b :: a :: s) x) : zv_encB ((a && b) :: s) ((x >>> ((1 : Int32) &&& 31)) &&& ((x &&& (1 : Int32)) ||| (-2 : Int32))) := by
  have h1 := zv_eShr h
  refine ⟨h1.1, fun i hi => ?_⟩
  rw [zv_eTop h, Int32.toBitVec_and, BitVec.getLsbD_and, h1.2 i hi, Int32.toBitVec_or, BitVec.getLsbD_or, zv_bitb, zv_bitm2 i hi]
  rcases i with _ | i <;> simp
theorem zv_eOr {a b : Bool} {s : List Bool} {x : Int32} (h : zv_encB (b :: a :: s) x) : zv_encB ((a || b) :: s) ((x >>> ((1 : Int32) &&& 31)) ||| (x &&& (1 : Int32))) := by
  have h1 := zv_eShr h
  refine ⟨h1.1, fun i hi => ?_⟩
  rw [zv_eTop h, Int32.toBitVec_or, BitVec.getLsbD_or, h1.2 i hi, zv_bitb]
  rcases i with _ | i <;> simp
theorem zv_ePush {b : Bool} {s : List Bool} {x : Int32} (h : zv_encB s x) (zv_hs : s.length ≤ 30) : zv_encB (b :: s) ((x <<< ((1 : Int32) &&& 31)) ||| zv_bI b) := by
  refine ⟨by simp; omega, fun i hi => ?_⟩
  rw [zv_s131, Int32.toBitVec_or, BitVec.getLsbD_or, zv_bitb, Int32.toBitVec_shiftLeft, zv_s1sm]
  show ((x.toBitVec <<< 1).getLsbD i || _) = _
  rw [BitVec.getLsbD_shiftLeft]
  rcases i with _ | i
  · simp
  · rw [show i + 1 - 1 = i by omega, h.2 i (by omega)]
    simp [hi]
theorem zv_eZero {x : Int32} (h : zv_encB [] x) : x = 0 := by
  apply zv_i32ext
  intro i hi
  rw [h.2 i hi, zv_bit0]
  simp
theorem zv_bImul (b : Bool) (n : Int32) : zv_bI b * n = if b then n else 0 := by
  cases b
  · simp [zv_bI]
  · simp [zv_bI]
def zv_ctxS (S : St) (l : Nat) (h t : Int32) : Int32 → Int32 := zv_ctxF (gI S 3 l 0) (gI S 3 l 2) (gI S 3 l 3) (gI S 3 l 4) h t
theorem zv_x0_val (S : St) (f : Int32) (l : Nat) (h t : Int32) : F_X0_valueOf S f l h t = some (zv_ctxS S l h t f, S) := by
  unfold F_X0_valueOf zv_ctxS zv_ctxF
  (repeat' split) <;> rfl
theorem zv_x0_tst (S : St) (t x : Int32) : F_X0_tested S t x = some (zv_bI (zv_tst t x), S) := by
  unfold F_X0_tested zv_tst zv_bI
  simp only [Int32.le_iff_toInt_le, Int32.lt_iff_toInt_lt]
  (repeat' split) <;> first | rfl | (exfalso; simp_all <;> omega)
theorem zv_tkd {v : Int32} (h0 : 0 ≤ v) (h1 : v < 6000) : ¬ v / 1000 = 6 ∧ ¬ v / 1000 = 7 ∧ ¬ v / 1000 = 8 ∧ ¬ v / 1000 = 9 ∧ ¬ v / 1000 = 10 := by
  rw [Int32.le_iff_toInt_le] at h0
  rw [Int32.lt_iff_toInt_lt] at h1
  simp only [Int32.reduceToInt] at h0 h1
  simp only [← Int32.toInt_inj, zv_idv v 1000 (by decide) h0, Int32.reduceToInt]
  omega
theorem zv_stp6 (g : Int32 → Int32) (b : Bool) (s : List Bool) : zv_stp g (b :: s) 6000 = (!b) :: s := by
  unfold zv_stp; rw [if_pos (by decide)]
theorem zv_stp7 (g : Int32 → Int32) (a b : Bool) (s : List Bool) : zv_stp g (b :: a :: s) 7000 = (a && b) :: s := by
  unfold zv_stp; rw [if_neg (by decide), if_pos (by decide)]
theorem zv_stp8 (g : Int32 → Int32) (a b : Bool) (s : List Bool) : zv_stp g (b :: a :: s) 8000 = (a || b) :: s := by
  unfold zv_stp; rw [if_neg (by decide), if_neg (by decide), if_pos (by decide)]
theorem zv_stp0 (g : Int32 → Int32) (s : List Bool) {v : Int32} (k1 : ¬ v / 1000 = 6) (k2 : ¬ v / 1000 = 7) (k3 : ¬ v / 1000 = 8) : zv_stp g s v = zv_tst v (g (v / 1000)) :: s := by
  unfold zv_stp; rw [if_neg k1, if_neg k2, if_neg k3]
theorem zv_stl {s : List Bool} {g : Int32 → Int32} {v : Int32} {r : List Int32} (h : zv_dep (v :: r) s.length) : zv_dep r (zv_stp g s v).length := by
  unfold zv_dep at h
  by_cases h6 : v = 6000
  · subst h6
    simp only [reduceIte] at h
    rcases s with _ | ⟨b, s⟩
    · simp at h
    · rw [zv_stp6]; exact h.2
  rw [if_neg h6] at h
  by_cases h78 : v = 7000 ∨ v = 8000
  · rw [if_pos h78] at h
    rcases s with _ | ⟨b, _ | ⟨a, s⟩⟩
    · simp at h
    · simp at h
    · rcases h78 with rfl | rfl
      · rw [zv_stp7]; exact h.2
      · rw [zv_stp8]; exact h.2
  · rw [if_neg h78] at h
    obtain ⟨k1, k2, k3, k4, k5⟩ := zv_tkd h.1 h.2.1
    rw [zv_stp0 _ _ k1 k2 k3]
    exact h.2.2.2
theorem zv_mx_tok {S : St} {a l : Nat} {h t : Int32} {K : Int32 → Int32 → Int32 → St → Option (Int32 × St)} {v pile sum : Int32} {i T fuel : Nat} {s : List Bool} {r : List Int32} (hv : gI S 16 a i = v) (hi : i < T) (hT : gI S 0 a 1 = nI T) (h100 : T ≤ 100) (he : zv_encB s pile) (hd : zv_dep (v :: r) s.length) :
    ∃ pile', zv_encB (zv_stp (zv_ctxS S l h t) s v) pile' ∧ L_X0_more_9 a l h t K (fuel + 1) pile sum (nI i) S = L_X0_more_9 a l h t K fuel pile' sum (nI (i + 1)) S := by
  rw [L_X0_more_9.eq_2, hT, if_neg (by rw [zv_nIle (by omega) (by omega)]; omega), if_pos (zv_gd (by omega)), zv_nIcl (by omega), hv, zv_nIs i (by omega)]
  unfold zv_dep at hd
  by_cases h6 : v = 6000
  · subst h6
    simp only [reduceIte] at hd
    rw [if_pos (by decide)]
    rcases s with _ | ⟨b, s⟩
    · simp at hd
    · rw [zv_stp6]; exact ⟨_, zv_eXor he, rfl⟩
  rw [if_neg h6] at hd
  by_cases h78 : v = 7000 ∨ v = 8000
  · rw [if_pos h78] at hd
    rcases s with _ | ⟨b, _ | ⟨a, s⟩⟩
    · simp at hd
    · simp at hd
    · rcases h78 with rfl | rfl
      · rw [if_neg (by decide), if_pos (by decide), zv_stp7]
        exact ⟨_, zv_eAnd he, rfl⟩
      · rw [if_neg (by decide), if_neg (by decide), if_pos (by decide), zv_stp8]
        exact ⟨_, zv_eOr he, rfl⟩
  · rw [if_neg h78] at hd
    obtain ⟨k1, k2, k3, k4, k5⟩ := zv_tkd hd.1 hd.2.1
    rw [if_neg k1, if_neg k2, if_neg k3, if_neg k4, if_neg k5, if_pos ⟨zv_nI0 i (by omega), by omega⟩, zv_x0_val]
    simp only [bnd]
    rw [zv_x0_tst]
    rw [zv_stp0 _ _ k1 k2 k3]
    exact ⟨_, zv_ePush he (by omega), rfl⟩
theorem zv_mx_toks {S : St} {a l : Nat} {h t : Int32} {K : Int32 → Int32 → Int32 → St → Option (Int32 × St)} {sum : Int32} {T fuel : Nat} (hT : gI S 0 a 1 = nI T) (h100 : T ≤ 100) : ∀ (r : List Int32) (s : List Bool) (pile : Int32) (i : Nat), zv_encB s pile → zv_dep r s.length → i + r.length ≤ T → (∀ j, j < r.length → gI S 16 a (i + j) = r.getD j 0) →
    ∃ pile', zv_encB (r.foldl (zv_stp (zv_ctxS S l h t)) s) pile' ∧ (r.foldl (zv_stp (zv_ctxS S l h t)) s).length = 1 ∧ L_X0_more_9 a l h t K (fuel + r.length) pile sum (nI i) S = L_X0_more_9 a l h t K fuel pile' sum (nI (i + r.length)) S := by
  intro r
  induction r with
  | nil =>
    intro s pile i he hd _ _
    exact ⟨pile, he, hd, rfl⟩
  | cons v r ih =>
    intro s pile i he hd hi hS
    simp only [List.length_cons] at hi hS
    obtain ⟨p1, e1, e2⟩ := zv_mx_tok (fuel := fuel + r.length) (l := l) (h := h) (t := t) (K := K) (sum := sum) (by have := hS 0 (by omega); rw [Nat.add_zero] at this; exact this) (by omega) hT h100 he hd
    obtain ⟨p2, e3, e4, e5⟩ := ih _ p1 (i + 1) e1 (zv_stl hd) (by omega) (fun j hj => by rw [Nat.add_right_comm i 1 j, Nat.add_assoc i j 1, hS (j + 1) (by omega)]; rfl)
    refine ⟨p2, e3, e4, ?_⟩
    rw [List.length_cons, ← Nat.add_assoc, e2, e5, Nat.add_right_comm i 1, Nat.add_assoc i]
theorem zv_mx_len {g : Int32 → Int32} : ∀ (r : List Int32) (s : List Bool), zv_dep r s.length → (r.foldl (zv_stp g) s).length = 1
  | [], _, h => h
  | _ :: r, _, h => zv_mx_len r _ (zv_stl h)
theorem zv_cl90 {n : Int32} (h0 : 0 ≤ n) (h9 : n ≤ 99) : (9000 + n) / 1000 = 9 ∧ (9000 + n) - (9000 + n) / 100 * 100 = n := by
  simp only [Int32.le_iff_toInt_le, Int32.lt_iff_toInt_lt, ← Int32.toInt_inj, zv_ia, zv_is_, zv_im, zv_ing, zv_iit, Int32.reduceToInt] at h0 h9
  have e : (9000 + n).toInt = 9000 + n.toInt := by rw [zv_ia]; simp only [Int32.reduceToInt]; omega
  constructor
  · rw [← Int32.toInt_inj, zv_idv _ 1000 (by decide) (by omega), e]; simp only [Int32.reduceToInt]; omega
  · rw [← Int32.toInt_inj, zv_is_, zv_im, zv_idv _ 100 (by decide) (by omega), e]; simp only [Int32.reduceToInt]; omega
theorem zv_cl91 {n : Int32} (h0 : 0 ≤ n) (h9 : n ≤ 99) : (10000 + n) / 1000 = 10 ∧ (10000 + n) - (10000 + n) / 100 * 100 = n := by
  simp only [Int32.le_iff_toInt_le, Int32.lt_iff_toInt_lt, ← Int32.toInt_inj, zv_ia, zv_is_, zv_im, zv_ing, zv_iit, Int32.reduceToInt] at h0 h9
  have e : (10000 + n).toInt = 10000 + n.toInt := by rw [zv_ia]; simp only [Int32.reduceToInt]; omega
  constructor
  · rw [← Int32.toInt_inj, zv_idv _ 1000 (by decide) (by omega), e]; simp only [Int32.reduceToInt]; omega
  · rw [← Int32.toInt_inj, zv_is_, zv_im, zv_idv _ 100 (by decide) (by omega), e]; simp only [Int32.reduceToInt]; omega
theorem zv_len1 {s : List Bool} (h : s.length = 1) : s = [s.headD false] := by
  rcases s with _ | ⟨b, _ | ⟨a, s⟩⟩
  · simp at h
  · rfl
  · simp at h
theorem zv_getD_app_l {l r : List Int32} {j : Nat} (h : j < l.length) : (l ++ r).getD j 0 = l.getD j 0 := by
  rw [List.getD_eq_getElem?_getD, List.getD_eq_getElem?_getD, List.getElem?_append_left h]
theorem zv_getD_app_r {l r : List Int32} {j : Nat} : (l ++ r).getD (l.length + j) 0 = r.getD j 0 := by
  rw [List.getD_eq_getElem?_getD, List.getD_eq_getElem?_getD, List.getElem?_append_right (by omega), Nat.add_sub_cancel_left]
theorem zv_mx_cls {S : St} {a l : Nat} {h t : Int32} {K : Int32 → Int32 → Int32 → St → Option (Int32 × St)} {T fuel : Nat} (hT : gI S 0 a 1 = nI T) (h100 : T ≤ 100) : ∀ (cs : List zv_Cl) (sum : Int32) (i : Nat), (∀ c, c ∈ cs → zv_okC c) → i + (zv_flat cs).length ≤ T → (∀ j, j < (zv_flat cs).length → gI S 16 a (i + j) = (zv_flat cs).getD j 0) →
    L_X0_more_9 a l h t K (fuel + (zv_flat cs).length) 0 sum (nI i) S = L_X0_more_9 a l h t K fuel 0 (cs.foldl (zv_addC (zv_ctxS S l h t)) sum) (nI (i + (zv_flat cs).length)) S := by
  intro cs
  induction cs with
  | nil => intro sum i _ _ _; rfl
  | cons c cs ih =>
    intro sum i hok hi hS
    have ok := hok c (List.mem_cons_self)
    obtain ⟨o1, o2, o3, o4, o5⟩ := ok
    have hok' : ∀ c, c ∈ cs → zv_okC c := fun x hx => hok x (List.mem_cons_of_mem _ hx)
    rw [List.foldl_cons]
    by_cases hc : c.1 = 0 ∨ c.1 = 1
    · obtain ⟨z, ez, e9, e10⟩ : ∃ z : Int32, zv_flat (c :: cs) = c.2.2 ++ ([z] ++ zv_flat cs) ∧ (z / 1000 = if c.1 = 0 then 9 else 10) ∧ z - z / 100 * 100 = c.2.1 := by
        rcases hc with hc | hc
        · exact ⟨9000 + c.2.1, by rw [zv_flat, if_pos hc, List.append_assoc], by rw [if_pos hc]; exact (zv_cl90 o1 o2).1, (zv_cl90 o1 o2).2⟩
        · exact ⟨10000 + c.2.1, by rw [zv_flat, if_neg (by rw [hc]; decide), if_pos hc, List.append_assoc], by rw [if_neg (by rw [hc]; decide)]; exact (zv_cl91 o1 o2).1, (zv_cl91 o1 o2).2⟩
      rw [ez] at hi hS ⊢
      simp only [List.length_append, List.length_cons, List.length_nil, Nat.zero_add] at hi hS ⊢
      have hd := o5 (by rcases hc with hc | hc <;> (rw [hc]; decide))
      obtain ⟨p, f1, f2, f3⟩ := zv_mx_toks (l := l) (h := h) (t := t) (K := K) (sum := sum) (fuel := fuel + (zv_flat cs).length + 1) hT h100 c.2.2 [] 0 i zv_encNil hd (by omega) (fun j hj => by rw [hS j (by omega), zv_getD_app_l hj])
      have hz : gI S 16 a (i + c.2.2.length) = z := by
        have := hS (c.2.2.length) (by omega)
        rw [this]
        exact zv_getD_app_r (j := 0)
      rw [show fuel + (c.2.2.length + (1 + (zv_flat cs).length)) = fuel + (zv_flat cs).length + 1 + c.2.2.length by omega, f3]
      rw [zv_len1 f2] at f1
      have e0 : p >>> ((1 : Int32) &&& 31) = 0 := zv_eZero (zv_eShr f1)
      have et := zv_eTop f1
      rw [L_X0_more_9.eq_2, hT, if_neg (by rw [zv_nIle (by omega) (by omega)]; omega), if_pos (zv_gd (by omega)), zv_nIcl (by omega), hz, zv_nIs _ (by omega), e9, e10, e0, et, zv_bImul]
      have ihh := fun s => ih s (i + c.2.2.length + 1) hok' (by omega) (fun j hj => by
        have := hS (c.2.2.length + (1 + j)) (by omega)
        rw [zv_getD_app_r] at this
        rw [show i + c.2.2.length + 1 + j = i + (c.2.2.length + (1 + j)) by omega, this]
        exact zv_getD_app_r (l := [z]))
      rw [show i + (c.2.2.length + (1 + (zv_flat cs).length)) = i + c.2.2.length + 1 + (zv_flat cs).length by omega]
      have ev : (List.foldl (zv_stp (zv_ctxS S l h t)) [] c.2.2).headD false = zv_evl (zv_ctxS S l h t) c.2.2 := rfl
      rw [ev]
      rcases hc with hc | hc
      · rw [if_pos hc, if_neg (by decide), if_neg (by decide), if_neg (by decide), if_pos rfl, if_pos ⟨zv_nI0 _ (by omega), by omega⟩, ihh]
        unfold zv_addC
        rw [if_pos hc]
        congr 2
        by_cases hv : zv_evl (zv_ctxS S l h t) c.2.2 = true
        · rw [if_pos hv, if_pos hv]
        · rw [if_neg hv, if_neg hv]; exact Int32.add_zero _
      · have hc0 : ¬ c.1 = 0 := by rw [hc]; decide
        rw [if_neg hc0, if_neg (by decide), if_neg (by decide), if_neg (by decide), if_neg (by decide), if_pos rfl, if_pos ⟨zv_nI0 _ (by omega), by omega⟩, ihh]
        unfold zv_addC
        rw [if_neg hc0, if_pos hc]
        congr 2
        by_cases hv : zv_evl (zv_ctxS S l h t) c.2.2 = true
        · rw [if_pos hv, if_pos hv]
        · rw [if_neg hv, if_neg hv]; exact Int32.sub_zero _
    · have e : zv_flat (c :: cs) = zv_flat cs := by rw [zv_flat, if_neg (fun q => hc (.inl q)), if_neg (fun q => hc (.inr q))]; rfl
      rw [e] at hi hS ⊢
      rw [ih sum i hok' hi hS]
      congr 2
      unfold zv_addC
      rw [if_neg (fun q => hc (.inl q)), if_neg (fun q => hc (.inr q))]
theorem zv_x0_more {S : St} {a l : Nat} {h t : Int32} {cs : List zv_Cl} (hv : zv_RV1 cs (gI S 0 a) (gI S 16 a)) (hok : ∀ c, c ∈ cs → zv_okC c) : F_X0_more S a l h t = some (zv_sumA (zv_ctxS S l h t) cs, S) := by
  obtain ⟨h1, h2, h3, -⟩ := hv
  unfold F_X0_more
  rw [show (1000 : Nat) = (1000 - (zv_flat cs).length - 1 + 1) + (zv_flat cs).length by omega, show (0 : Int32) = nI 0 from rfl]
  have := zv_mx_cls (fuel := 1000 - (zv_flat cs).length - 1 + 1) (l := l) (h := h) (t := t) (K := fun y4_1 y5_1 y6_1 T_1 => some (y5_1, T_1)) h1 h2 cs 0 0 hok (by omega) (fun j hj => by rw [Nat.zero_add]; exact h3 j hj)
  rw [show (0 : Int32) = nI 0 from rfl] at this
  rw [this, L_X0_more_9.eq_2, h1, Nat.zero_add, if_pos (by rw [zv_nIle (by omega) (by omega)]; omega)]
  rfl
def zv_cutT (t : Int32) : Int32 := if (99 : Int32) < (t / (10 : Int32)) then (99 : Int32) else (t / (10 : Int32))
def zv_XC (q : Nat) (cs : Nat → List zv_Cl) (S S' : St) : Prop := gJ S' = gJ S ∧ (∀ f, f ≠ 3 → gI S' f = gI S f) ∧ (∀ i j, j < 6 → gI S' 3 i j = gI S 3 i j) ∧ (∀ f, f ≠ 3 → gR S' f = gR S f) ∧ zv_RC q cs (gI S' 3) (gR S' 3)
theorem zv_x3_gain {S : St} {l a q : Nat} {cs : Nat → List zv_Cl} {h t : Int32} (hv : zv_RV1 (cs a) (gI S 0 a) (gI S 16 a)) (hok : ∀ c, c ∈ cs a → zv_okC c) (ha : a ≤ q) (hC : zv_RC q cs (gI S 3) (gR S 3)) (hl : l < 12) :
    ∃ S', F_X3_gain S l a h t = some (gI S 3 l 5 + zv_sumA (zv_ctxS S l (h / 50) (zv_cutT t)) (cs a), S') ∧ zv_XC q cs S S' := by
  have fresh : bnd (F_X0_more (sI (sI (sR S 3 l 6 (some a)) 3 l 7 (h / (50 : Int32))) 3 l 8 (if (99 : Int32) < (t / (10 : Int32)) then (99 : Int32) else (t / (10 : Int32)))) a l (h / (50 : Int32)) (if (99 : Int32) < (t / (10 : Int32)) then (99 : Int32) else (t / (10 : Int32)))) (fun r4 S5 =>
      some ((gI (sI S5 3 l 9 r4) 3 l 5) + (gI (sI S5 3 l 9 r4) 3 l 9), (sI S5 3 l 9 r4))) = some (gI S 3 l 5 + zv_sumA (zv_ctxS S l (h / 50) (zv_cutT t)) (cs a), sI (sI (sI (sR S 3 l 6 (some a)) 3 l 7 (h / 50)) 3 l 8 (zv_cutT t)) 3 l 9 (zv_sumA (zv_ctxS S l (h / 50) (zv_cutT t)) (cs a))) := by
    rw [zv_x0_more (cs := cs a) (by simp only [gI_sI, zv_gI_f, zv_gI_i, gI_sI, zv_gJ_f, zv_gIc_f, zv_gIc_i, zv_kJ_sI, zv_kR_sI, zv_kI_sJ, zv_kR_sJ, zv_kI_sR, zv_kJ_sR, zv_kJ_cI, zv_kR_cI, zv_kI_cJ, zv_kR_cJ, ne_eq, Nat.reduceEqDiff, Nat.reduceMul, Nat.reduceAdd, not_false_eq_true, not_true_eq_false, false_and, and_false, and_true, true_and, and_self, reduceIte, Nat.one_ne_zero, Nat.zero_ne_one, Nat.zero_add, Nat.mul_zero]; exact hv) hok]
    simp only [bnd, zv_ctxS, gI_sI, zv_gI_f, zv_gI_i, gI_sI, zv_gJ_f, zv_gIc_f, zv_gIc_i, zv_kJ_sI, zv_kR_sI, zv_kI_sJ, zv_kR_sJ, zv_kI_sR, zv_kJ_sR, zv_kJ_cI, zv_kR_cI, zv_kI_cJ, zv_kR_cJ, ne_eq, Nat.reduceEqDiff, Nat.reduceMul, Nat.reduceAdd, not_false_eq_true, not_true_eq_false, false_and, and_false, and_true, true_and, and_self, reduceIte, Nat.one_ne_zero, Nat.zero_ne_one, Nat.zero_add, Nat.mul_zero]
    rfl
  have fr : zv_XC q cs S (sI (sI (sI (sR S 3 l 6 (some a)) 3 l 7 (h / 50)) 3 l 8 (zv_cutT t)) 3 l 9 (zv_sumA (zv_ctxS S l (h / 50) (zv_cutT t)) (cs a))) := by
    refine ⟨rfl, fun f hf => ?_, fun i j hj => ?_, fun f hf => ?_, fun i hi b hb => ?_⟩
    · simp only [zv_gI_f hf, zv_kI_sR]
    · rw [gI_sI, gI_sI, gI_sI, if_neg (by omega), if_neg (by omega), if_neg (by omega)]
      rfl
    · simp only [zv_kR_sI]
      exact zv_gR_f hf
    · simp only [zv_kR_sI, gR_sR] at hb
      by_cases hq : i = l
      · subst hq
        simp only [and_self, reduceIte] at hb
        obtain rfl : a = b := by simpa using hb
        refine ⟨ha, ?_⟩
        simp only [gI_sI, zv_kI_sR, zv_gI_f, zv_gI_i, gI_sI, zv_gJ_f, zv_gIc_f, zv_gIc_i, zv_kJ_sI, zv_kR_sI, zv_kI_sJ, zv_kR_sJ, zv_kI_sR, zv_kJ_sR, zv_kJ_cI, zv_kR_cI, zv_kI_cJ, zv_kR_cJ, ne_eq, Nat.reduceEqDiff, Nat.reduceMul, Nat.reduceAdd, not_false_eq_true, not_true_eq_false, false_and, and_false, and_true, true_and, and_self, reduceIte, Nat.one_ne_zero, Nat.zero_ne_one, Nat.zero_add, Nat.mul_zero]
        rfl
      · rw [if_neg (fun z => hq z.2.1)] at hb
        have := hC i hi b hb
        simp only [gI_sI, zv_kI_sR, hq, zv_gI_f, zv_gI_i, gI_sI, zv_gJ_f, zv_gIc_f, zv_gIc_i, zv_kJ_sI, zv_kR_sI, zv_kI_sJ, zv_kR_sJ, zv_kI_sR, zv_kJ_sR, zv_kJ_cI, zv_kR_cI, zv_kI_cJ, zv_kR_cJ, ne_eq, Nat.reduceEqDiff, Nat.reduceMul, Nat.reduceAdd, not_false_eq_true, not_true_eq_false, false_and, and_false, and_true, true_and, and_self, reduceIte, Nat.one_ne_zero, Nat.zero_ne_one, Nat.zero_add, Nat.mul_zero]
        exact this
  unfold F_X3_gain
  cases hr : gR S 3 l 6 with
  | none =>
    simp only [Option.elim]
    rw [fresh]
    exact ⟨_, rfl, fr⟩
  | some b =>
    simp only [Option.elim]
    by_cases e1 : b = a
    · rw [if_pos e1]
      by_cases e2 : gI S 3 l 7 = h / 50
      · rw [if_pos e2]
        by_cases e3 : gI S 3 l 8 = if (99 : Int32) < (t / (10 : Int32)) then (99 : Int32) else (t / (10 : Int32))
        · rw [if_pos e3]
          refine ⟨S, ?_, rfl, fun _ _ => rfl, fun _ _ _ => rfl, fun _ _ => rfl, hC⟩
          have := (hC l hl b hr).2
          rw [this, e1, e2, e3]
          rfl
        · rw [if_neg e3, fresh]
          exact ⟨_, rfl, fr⟩
      · rw [if_neg e2, fresh]
        exact ⟨_, rfl, fr⟩
    · rw [if_neg e1, fresh]
      exact ⟨_, rfl, fr⟩
def zv_gnA (cs : List zv_Cl) (n k v m p h t : Int32) : Int32 := p + zv_sumA (zv_ctxF n k v m (h / 50) (zv_cutT t)) cs
def zv_clA (cs : List zv_Cl) (n k v m p : Int32) (row : Nat → Int32) (h t : Int32) : Int32 :=
  if k = 1 then zv_gnA cs n k v m p h t + v / 2 else if k = 2 then zv_gnA cs n k v m p h t / 2 else if k = 3 then (if t < 100 then zv_gnA cs n k v m p h t else -2)
  else if k = 4 then (if h ≤ 40 * v then zv_gnA cs n k v m p h t + v / 2 else 0) else if k = 5 then (if t - t / (v + 2) * (v + 2) = 0 then -1 else zv_gnA cs n k v m p h t / 2)
  else if k = 6 then (if t < 100 then zv_gnA cs n k v m p h t + row (t.toNatClampNeg % 4) else -2 + row (t.toNatClampNeg % 4)) else zv_gnA cs n k v m p h t
theorem zv_v2ne {v : Int32} (h0 : 0 ≤ v) (h9 : v ≤ 9) : ¬ v + 2 = 0 := by
  simp only [Int32.le_iff_toInt_le, Int32.lt_iff_toInt_lt, ← Int32.toInt_inj, zv_ia, zv_is_, zv_im, zv_ing, zv_iit, Int32.reduceToInt] at *
  omega
theorem zv_and3 {t : Int32} (h : 0 ≤ t) : 0 ≤ t &&& 3 ∧ (t &&& 3).toNatClampNeg < 4 ∧ (t &&& 3).toNatClampNeg = t.toNatClampNeg % 4 := by
  obtain ⟨n, hn, rfl⟩ := zv_asW (c := 2147483647) h (zv_iB t).2
  have e : nI n &&& 3 = nI (n % 4) := by
    apply Int32.toBitVec_inj.mp
    rw [Int32.toBitVec_and]
    show BitVec.ofNat 32 n &&& 3#32 = BitVec.ofNat 32 (n % 4)
    apply BitVec.eq_of_toNat_eq
    rw [BitVec.toNat_and, BitVec.toNat_ofNat, BitVec.toNat_ofNat, BitVec.toNat_ofNat]
    have : n % 2 ^ 32 &&& 3 = n % 2 ^ 32 % 2 ^ 2 := Nat.and_two_pow_sub_one_eq_mod _ 2
    rw [show 3 % 2 ^ 32 = 3 by decide, this]
    omega
  rw [e, zv_nIcl (by omega), zv_nIcl (by omega)]
  exact ⟨zv_nI0 _ (by omega), by omega, rfl⟩
theorem zv_x3_climb {S : St} {l a q : Nat} {cs : Nat → List zv_Cl} {h t : Int32} (hv : zv_RV1 (cs a) (gI S 0 a) (gI S 16 a)) (hok : ∀ c, c ∈ cs a → zv_okC c) (ha : a ≤ q) (hC : zv_RC q cs (gI S 3) (gR S 3)) (hl : l < 12) (v0 : 0 ≤ gI S 3 l 3) (v9 : gI S 3 l 3 ≤ 9) (ht : 0 ≤ t) :
    ∃ S', F_X3_climb S l a h t = some (zv_clA (cs a) (gI S 3 l 0) (gI S 3 l 2) (gI S 3 l 3) (gI S 3 l 4) (gI S 3 l 5) (gI S 13 l) h t, S') ∧ zv_XC q cs S S' := by
  obtain ⟨S', e1, e2⟩ := zv_x3_gain (h := h) (t := t) hv hok ha hC hl
  refine ⟨S', ?_, e2⟩
  obtain ⟨f1, f2, f3, f4, f5⟩ := e2
  unfold F_X3_climb
  rw [e1]
  obtain ⟨t1, t2, t3⟩ := zv_and3 ht
  simp only [bnd, f3 l 2 (by decide), f3 l 3 (by decide), f2 13 (by decide), t1, t2, true_and, reduceIte, zv_v2ne v0 v9]
  unfold zv_clA zv_gnA
  simp only [zv_ctxS, t3]
  (repeat' split) <;> rfl
def zv_AV (a : Nat) (cs : List zv_Cl) (S : St) : Prop := gI S 8 0 12 = nI a - 1 ∧ a ≤ 6 ∧ (a = 0 → cs = []) ∧ (1 ≤ a → zv_RV2 (a - 1) cs (gI S 28 0) (gI S 29 0) (gI S 30 0) (gI S 31 0) (gI S 32 0) (gI S 33 0)) ∧ cs.length ≤ 10 ∧ ∀ c, c ∈ cs → zv_okC c
def zv_M36 (S S' : St) : Prop := gJ S' = gJ S ∧ gR S' = gR S ∧ ∀ f, f ≠ 36 → gI S' f = gI S f
theorem zv_M36r (S : St) : zv_M36 S S := ⟨rfl, rfl, fun _ _ => rfl⟩
theorem zv_M36t {A B C : St} (h1 : zv_M36 A B) (h2 : zv_M36 B C) : zv_M36 A C := ⟨h2.1.trans h1.1, h2.2.1.trans h1.2.1, fun f hf => (h2.2.2 f hf).trans (h1.2.2 f hf)⟩
theorem zv_M36s (S : St) (j : Nat) (x : Int32) : zv_M36 S (sI S 36 0 j x) := ⟨rfl, rfl, fun f hf => zv_gI_f hf⟩
theorem zv_AVc {a : Nat} {cs : List zv_Cl} {S S' : St} (h : zv_M36 S S') (hA : zv_AV a cs S) : zv_AV a cs S' := by
  unfold zv_AV at *
  rw [h.2.2 8 (by decide), h.2.2 28 (by decide), h.2.2 29 (by decide), h.2.2 30 (by decide), h.2.2 31 (by decide), h.2.2 32 (by decide), h.2.2 33 (by decide)]
  exact hA
theorem zv_nIpm (n : Nat) (h : n < 1000) : nI (n + 1) + (-1) = nI n := by
  apply zv_inI; rw [zv_ia, zv_iN (by omega)]; simp only [Int32.reduceToInt]; omega
theorem zv_nIq (n : Nat) (h : n < 1000) : nI (n + 1) - 1 = nI n := by
  apply zv_inI; rw [zv_is_, zv_iN (by omega)]; simp only [Int32.reduceToInt]; omega
theorem zv_ge' {l N : Nat} (h : l < N) (hl : l < 100000) : 0 ≤ nI l ∧ l < N := ⟨zv_nI0 l (by omega), h⟩
theorem zv_nIm10 (n : Nat) (h : n < 1000) : 10 * nI n = nI (10 * n) := by
  apply zv_inI; rw [zv_im, zv_iN (by omega)]; simp only [Int32.reduceToInt]; omega
theorem zv_nIa (m n : Nat) (h : m < 100000) (h' : n < 100000) : nI m + nI n = nI (m + n) := by
  apply zv_inI; rw [zv_ia, zv_iN (by omega), zv_iN (by omega)]; omega
theorem zv_thA {a : Nat} (ha : a ≤ 6) : (0 ≤ nI a - 1 ↔ 1 ≤ a) := by
  rw [Int32.le_iff_toInt_le, zv_is_, zv_iN (by omega)]; simp only [Int32.reduceToInt]; omega
theorem zv_thB {a : Nat} (ha : a ≤ 6) (h1 : 1 ≤ a) : nI a - 1 = nI (a - 1) := by
  have := zv_nIq (a - 1) (by omega); rw [show a - 1 + 1 = a by omega] at this; exact this
theorem zv_m_begin {a : Nat} {cs : List zv_Cl} {S : St} (hA : zv_AV a cs S) : F_X8_begin S = some (nI (10 * (a - 1)), S) := by
  obtain ⟨h1, h2, h3, -⟩ := hA
  unfold F_X8_begin
  rw [h1]
  by_cases h : 1 ≤ a
  · rw [if_pos ((zv_thA h2).mpr h), zv_thB h2 h, zv_nIm10 _ (by omega)]
  · rw [if_neg (fun q => h ((zv_thA h2).mp q)), show a = 0 by omega]; rfl
theorem zv_m_behind {a : Nat} {cs : List zv_Cl} {S : St} (hA : zv_AV a cs S) : F_X8_behind S = some (nI (10 * (a - 1) + cs.length), S) := by
  obtain ⟨h1, h2, h3, h4, h5, -⟩ := hA
  unfold F_X8_behind
  rw [h1]
  by_cases h : 1 ≤ a
  · obtain ⟨e, -⟩ := h4 h
    rw [if_pos ((zv_thA h2).mpr h), zv_thB h2 h, if_pos (zv_gd (by omega)), zv_nIcl (by omega), e, zv_nIm10 _ (by omega), zv_nIa _ _ (by omega) (by omega)]
  · rw [if_neg (fun q => h ((zv_thA h2).mp q)), h3 (by omega), show a = 0 by omega]; rfl
def zv_d0 : zv_Cl := (0, 0, [])
theorem zv_m_lastL {a : Nat} {cs : List zv_Cl} {S : St} (hA : zv_AV a cs S) (w : Int32) (K : Int32 → Int32 → St → Option (Int32 × St)) : ∀ (r : List zv_Cl) (i : Nat) (x : Int32) (fuel : Nat), (∀ j, j < r.length → cs.getD (i + j) zv_d0 = r.getD j zv_d0) → i + r.length = cs.length → r.length < fuel →
    L_X8_lastOf_8 w K fuel x (nI (10 * (a - 1) + i)) S = K (zv_lastW w x r) (nI (10 * (a - 1) + cs.length)) S := by
  have hA' := hA
  obtain ⟨h1, h2, h3, h4, h5, h6⟩ := hA'
  intro r
  induction r with
  | nil =>
    intro i x fuel hj hi hf
    obtain ⟨n, rfl⟩ : ∃ n, fuel = n + 1 := ⟨fuel - 1, by simp at hf; omega⟩
    simp only [List.length_nil, Nat.add_zero] at hi
    rw [L_X8_lastOf_8.eq_2, zv_m_behind hA, hi]
    simp only [bnd]
    rw [if_pos (Int32.le_refl _)]
    rfl
  | cons c r ih =>
    intro i x fuel hj hi hf
    simp only [List.length_cons] at hj hi hf
    obtain ⟨n, rfl⟩ : ∃ n, fuel = n + 1 := ⟨fuel - 1, by omega⟩
    have ha : 1 ≤ a := by
      apply Classical.byContradiction
      intro q
      have := h3 (by omega)
      rw [this] at hi; simp at hi
    have hz := (h4 ha).2 i (by omega)
    have h0 : cs.getD i zv_d0 = c := by
      have := hj 0 (by omega)
      rw [Nat.add_zero] at this; exact this
    rw [show ((0, 0, []) : zv_Cl) = zv_d0 from rfl, h0] at hz
    rw [L_X8_lastOf_8.eq_2, zv_m_behind hA]
    simp only [bnd]
    rw [if_neg (by rw [zv_nIle (by omega) (by omega)]; omega), if_pos (zv_gd (by omega)), zv_nIcl (by omega), hz.1, hz.2.1, zv_nIs _ (by omega), Nat.add_assoc]
    have ihh := fun x => ih (i + 1) x n (fun j hj2 => by rw [Nat.add_assoc, Nat.add_comm 1 j, hj (j + 1) (by omega)]; rfl) (by omega) (by omega)
    rw [ihh, ihh]
    by_cases hw : c.1 = w
    · rw [if_pos hw, if_pos (zv_ge' (by omega) (by omega))]
      unfold zv_lastW
      rw [List.foldl_cons, if_pos hw]
    · rw [if_neg hw]
      unfold zv_lastW
      rw [List.foldl_cons, if_neg hw]
theorem zv_m_last {a : Nat} {cs : List zv_Cl} {S : St} (hA : zv_AV a cs S) (w d : Int32) : F_X8_lastOf S w d = some (zv_lastW w d cs, S) := by
  unfold F_X8_lastOf
  rw [zv_m_begin hA]
  simp only [bnd]
  have := zv_m_lastL hA w (fun y3_5 y4_5 T_5 => some (y3_5, T_5)) cs 0 d 1000 (fun j _ => by rw [Nat.zero_add]) (by omega) (by have := hA.2.2.2.2.1; omega)
  rw [Nat.add_zero] at this
  rw [this]
theorem zv_m_base {a : Nat} {cs : List zv_Cl} {S : St} (hA : zv_AV a cs S) : F_X8_base S = some (zv_baseA cs, S) := by
  unfold F_X8_base
  rw [zv_m_last hA]
  simp only [bnd, zv_baseA]
  (repeat' split) <;> rfl
theorem zv_m_safe {a : Nat} {cs : List zv_Cl} {S : St} (hA : zv_AV a cs S) : F_X8_safe S = some (zv_safeA cs, S) := by
  unfold F_X8_safe
  rw [zv_m_last hA]
  rfl
theorem zv_vpn1 : vp_nar .boolean (1 : Int32) = 1 := by decide
theorem zv_vpn0 : vp_nar .boolean (0 : Int32) = 0 := by decide
def zv_encM (s : List Bool) (A : Nat → Int32) : Prop := s.length ≤ 31 ∧ ∀ j, j < s.length → A (s.length - 1 - j) = zv_bI (s.getD j false)
def zv_ctxM (S : St) (l : Nat) : Int32 → Int32 := zv_ctxF (nI l) (gI S 22 0 l) (gI S 23 0 l) (gI S 24 0 l) (gI S 8 0 3 / 50) (zv_cutT (gI S 8 0 1))
theorem zv_x8_fact (S : St) {l : Nat} (hl : l < 6) (f : Int32) : F_X8_factOf S f (nI l) = some (zv_ctxM S l f, S) := by
  unfold F_X8_factOf
  simp only [zv_nIcl (show l < 2147483648 by omega), zv_nI0 l (by omega), hl, and_self, reduceIte]
  unfold zv_ctxM zv_ctxF zv_cutT
  simp only [Int32.le_iff_toInt_le, Int32.lt_iff_toInt_lt]
  (repeat' split) <;> first | rfl | (exfalso; omega)
theorem zv_ctxMc {S S' : St} (h : zv_M36 S S') (l : Nat) : zv_ctxM S' l = zv_ctxM S l := by
  unfold zv_ctxM
  rw [h.2.2 8 (by decide), h.2.2 22 (by decide), h.2.2 23 (by decide), h.2.2 24 (by decide)]
theorem zv_mNil (A : Nat → Int32) : zv_encM [] A := ⟨by simp, fun j hj => by simp at hj⟩
theorem zv_mTop {b : Bool} {s : List Bool} {A : Nat → Int32} (h : zv_encM (b :: s) A) : A s.length = zv_bI b := by
  have := h.2 0 (by simp)
  simpa using this
theorem zv_mTop2 {b a : Bool} {s : List Bool} {A : Nat → Int32} (h : zv_encM (b :: a :: s) A) : A (s.length + 1) = zv_bI b ∧ A s.length = zv_bI a := by
  have h1 := h.2 0 (by simp)
  have h2 := h.2 1 (by simp)
  simp at h1 h2
  exact ⟨h1, h2⟩
theorem zv_mSet {b : Bool} {s : List Bool} {A A' : Nat → Int32} (h : ∀ j, j < s.length → A (s.length - 1 - j) = zv_bI (s.getD j false)) (zv_hs : s.length ≤ 30) (e : A' s.length = zv_bI b) (e2 : ∀ j, j < s.length → A' j = A j) : zv_encM (b :: s) A' := by
  refine ⟨by simp; omega, fun j hj => ?_⟩
  simp only [List.length_cons] at hj ⊢
  rcases j with _ | j
  · simpa using e
  · rw [show s.length + 1 - 1 - (j + 1) = s.length - 1 - j by omega, e2 _ (by omega), h j (by omega)]
    rfl
theorem zv_mTl {b : Bool} {s : List Bool} {A : Nat → Int32} (h : zv_encM (b :: s) A) : ∀ j, j < s.length → A (s.length - 1 - j) = zv_bI (s.getD j false) := by
  intro j hj
  have := h.2 (j + 1) (by simp; omega)
  simp only [List.length_cons] at this
  rw [show s.length + 1 - 1 - (j + 1) = s.length - 1 - j by omega] at this
  exact this
theorem zv_bI0 (b : Bool) : (zv_bI b = 0) ↔ b = false := by cases b <;> decide
theorem zv_tk33 : zv_tkM 6000 = -33 := by decide
theorem zv_tk38 : zv_tkM 7000 = -38 := by decide
theorem zv_tk124 : zv_tkM 8000 = -124 := by decide
theorem zv_hm_tok {S : St} {c l : Nat} (hl : l < 6) (hc : c < 60) {K : Int32 → Int32 → St → Option (Int32 × St)} {v : Int32} {i e fuel : Nat} {s : List Bool} {r : List Int32} (hE : gI S 32 0 c = nI e) (he6 : e ≤ 600) (hv : gI S 33 0 i = zv_tkM v) (hi : i < e) (he : zv_encM s (gI S 36 0)) (hd : zv_dep (v :: r) s.length) :
    ∃ S', zv_M36 S S' ∧ zv_encM (zv_stp (zv_ctxM S l) s v) (gI S' 36 0) ∧ L_X8_holds_10 (nI c) (nI l) K (fuel + 1) (nI s.length) (nI i) S = L_X8_holds_10 (nI c) (nI l) K fuel (nI (zv_stp (zv_ctxM S l) s v).length) (nI (i + 1)) S' := by
  rw [L_X8_holds_10.eq_2, if_pos (zv_gd (by omega)), zv_nIcl (by omega), hE, if_neg (by rw [zv_nIle (by omega) (by omega)]; omega), if_pos (zv_gd (by omega)), zv_nIcl (by omega), hv, zv_nIs i (by omega)]
  unfold zv_dep at hd
  have hs31 := he.1
  by_cases h6 : v = 6000
  · subst h6
    simp only [reduceIte] at hd
    rcases s with _ | ⟨b, s⟩
    · simp at hd
    simp only [List.length_cons] at hd hs31 ⊢
    rw [zv_tk33, if_pos rfl, zv_stp6, zv_nIq _ (by omega), if_pos (zv_gd (by omega)), zv_nIcl (by omega), zv_mTop he, if_pos (zv_ge' (by omega) (by omega)), if_pos (zv_ge' (by omega) (by omega)), zv_vpn1, zv_vpn0]
    cases b
    · exact ⟨_, zv_M36s _ _ _, zv_mSet (zv_mTl he) (by omega) (by rw [gI_sI]; simp [zv_bI]) (fun j hj => by rw [gI_sI, if_neg (by omega)]), rfl⟩
    · exact ⟨_, zv_M36s _ _ _, zv_mSet (zv_mTl he) (by omega) (by rw [gI_sI]; simp [zv_bI]) (fun j hj => by rw [gI_sI, if_neg (by omega)]), rfl⟩
  rw [if_neg h6] at hd
  by_cases h78 : v = 7000 ∨ v = 8000
  · rw [if_pos h78] at hd
    rcases s with _ | ⟨b, _ | ⟨a, s⟩⟩
    · simp at hd
    · simp at hd
    simp only [List.length_cons] at hd hs31 ⊢
    obtain ⟨t1, t2⟩ := zv_mTop2 he
    have mt := zv_mTl he
    have mt2 : ∀ j, j < s.length → gI S 36 0 (s.length - 1 - j) = zv_bI (s.getD j false) := by
      intro j hj
      have := mt (j + 1) (by simp; omega)
      simp only [List.length_cons] at this
      rw [show s.length + 1 - 1 - (j + 1) = s.length - 1 - j by omega] at this
      exact this
    rcases h78 with rfl | rfl
    · rw [zv_tk38, if_neg (by decide), if_neg (by decide), if_pos rfl, zv_stp7]
      simp only [zv_nIpm _ (show s.length + 1 < 1000 by omega), zv_nIq _ (show s.length < 1000 by omega), zv_nIcl (show s.length < 2147483648 by omega), zv_nIcl (show s.length + 1 < 2147483648 by omega), zv_nI0 s.length (by omega), zv_nI0 (s.length + 1) (by omega), show s.length < 100 by omega, show s.length + 1 < 100 by omega, and_self, reduceIte, t1, t2, zv_bI0, zv_vpn1, zv_vpn0, List.length_cons]
      cases a <;> cases b <;> exact ⟨_, zv_M36s _ _ _, zv_mSet mt2 (by omega) (by rw [gI_sI]; simp [zv_bI]) (fun j hj => by rw [gI_sI, if_neg (by omega)]), rfl⟩
    · rw [zv_tk124, if_neg (by decide), if_neg (by decide), if_neg (by decide), zv_stp8]
      simp only [zv_nIpm _ (show s.length + 1 < 1000 by omega), zv_nIq _ (show s.length < 1000 by omega), zv_nIcl (show s.length < 2147483648 by omega), zv_nIcl (show s.length + 1 < 2147483648 by omega), zv_nI0 s.length (by omega), zv_nI0 (s.length + 1) (by omega), show s.length < 100 by omega, show s.length + 1 < 100 by omega, and_self, reduceIte, t1, t2, zv_bI0, zv_vpn1, zv_vpn0, List.length_cons]
      cases a <;> cases b <;> exact ⟨_, zv_M36s _ _ _, zv_mSet mt2 (by omega) (by rw [gI_sI]; simp [zv_bI]) (fun j hj => by rw [gI_sI, if_neg (by omega)]), rfl⟩
  · rw [if_neg h78] at hd
    obtain ⟨k1, k2, k3, k4, k5⟩ := zv_tkd hd.1 hd.2.1
    have hk : zv_tkM v = v := by unfold zv_tkM; rw [if_neg h6, if_neg (fun q => h78 (.inl q)), if_neg (fun q => h78 (.inr q))]
    have hn : ¬ v = -33 := by
      rintro rfl
      exact absurd hd.1 (by decide)
    rw [hk, if_neg hn, if_pos hd.1, zv_x8_fact S hl, zv_stp0 _ _ k1 k2 k3]
    simp only [bnd, zv_nIcl (show s.length < 2147483648 by omega), zv_nI0 s.length (by omega), show s.length < 100 by omega, and_self, reduceIte, zv_nIs s.length (by omega), zv_vpn1, zv_vpn0, List.length_cons]
    have fin : ∀ b : Bool, ∃ S', zv_M36 S S' ∧ zv_encM (b :: s) (gI S' 36 0) ∧ L_X8_holds_10 (nI c) (nI l) K fuel (nI (s.length + 1)) (nI (i + 1)) (sI S 36 0 s.length (zv_bI b)) = L_X8_holds_10 (nI c) (nI l) K fuel (nI (s.length + 1)) (nI (i + 1)) S' := fun b =>
      ⟨_, zv_M36s _ _ _, zv_mSet he.2 (by omega) (by rw [gI_sI]; simp) (fun j hj => by rw [gI_sI, if_neg (by omega)]), rfl⟩
    have f0 := fin false
    have f1 := fin true
    simp only [zv_bI, reduceIte, Bool.false_eq_true] at f0 f1
    generalize ex : zv_ctxM S l (v / 1000) = x
    unfold zv_tst
    by_cases r0 : v / 100 - v / 100 / 10 * 10 = 0
    · simp only [r0, reduceIte]
      by_cases r1 : v - v / 100 * 100 ≤ x
      · have : ¬ x < v - v / 100 * 100 := by rw [Int32.lt_iff_toInt_lt]; rw [Int32.le_iff_toInt_le] at r1; omega
        simp only [r1, this, reduceIte, decide_false]; exact f0
      · have : x < v - v / 100 * 100 := by rw [Int32.lt_iff_toInt_lt]; rw [Int32.le_iff_toInt_le] at r1; omega
        simp only [r1, this, reduceIte, decide_true]; exact f1
    · simp only [r0, reduceIte]
      by_cases r2 : v / 100 - v / 100 / 10 * 10 = 1
      · simp only [r2, reduceIte]
        by_cases r1 : x = v - v / 100 * 100
        · simp only [r1, reduceIte, decide_true]; exact f1
        · simp only [r1, reduceIte, decide_false]; exact f0
      · simp only [r2, reduceIte]
        by_cases r1 : x ≤ v - v / 100 * 100
        · have : ¬ v - v / 100 * 100 < x := by rw [Int32.lt_iff_toInt_lt]; rw [Int32.le_iff_toInt_le] at r1; omega
          simp only [r1, this, reduceIte, decide_false]; exact f0
        · have : v - v / 100 * 100 < x := by rw [Int32.lt_iff_toInt_lt]; rw [Int32.le_iff_toInt_le] at r1; omega
          simp only [r1, this, reduceIte, decide_true]; exact f1
theorem zv_hm_toks {c l : Nat} (hl : l < 6) (hc : c < 60) {K : Int32 → Int32 → St → Option (Int32 × St)} {e fuel : Nat} (he6 : e ≤ 600) {g : Int32 → Int32} : ∀ (r : List Int32) (s : List Bool) (i : Nat) (S : St), zv_ctxM S l = g → gI S 32 0 c = nI e → zv_encM s (gI S 36 0) → zv_dep r s.length → i + r.length ≤ e → (∀ j, j < r.length → gI S 33 0 (i + j) = zv_tkM (r.getD j 0)) →
    ∃ S', zv_M36 S S' ∧ zv_encM (r.foldl (zv_stp g) s) (gI S' 36 0) ∧ L_X8_holds_10 (nI c) (nI l) K (fuel + r.length) (nI s.length) (nI i) S = L_X8_holds_10 (nI c) (nI l) K fuel (nI (r.foldl (zv_stp g) s).length) (nI (i + r.length)) S' := by
  intro r
  induction r with
  | nil => intro s i S _ _ he _ _ _; exact ⟨S, zv_M36r S, he, rfl⟩
  | cons v r ih =>
    intro s i S hg hE he hd hi hS
    simp only [List.length_cons] at hi hS
    obtain ⟨zv_S1, m1, e1, e2⟩ := zv_hm_tok (fuel := fuel + r.length) hl hc (K := K) hE he6 (v := v) (by have := hS 0 (by omega); rw [Nat.add_zero] at this; exact this) (by omega) he hd
    rw [hg] at e1 e2
    obtain ⟨S2, m2, e3, e4⟩ := ih (zv_stp g s v) (i + 1) zv_S1 (by rw [zv_ctxMc m1, hg]) (by rw [m1.2.2 32 (by decide)]; exact hE) e1 (zv_stl hd) (by omega) (fun j hj => by rw [m1.2.2 33 (by decide), Nat.add_right_comm i 1 j, Nat.add_assoc i j 1, hS (j + 1) (by omega)]; rfl)
    refine ⟨S2, zv_M36t m1 m2, e3, ?_⟩
    rw [List.length_cons, ← Nat.add_assoc, e2, e4, Nat.add_right_comm i 1, Nat.add_assoc i, List.foldl_cons]
theorem zv_m_holds {a c l : Nat} {cs : List zv_Cl} {S : St} (hA : zv_AV a cs S) (hl : l < 6) (hc : c < cs.length) (hw : (cs.getD c zv_d0).1 < 2) :
    ∃ S', zv_M36 S S' ∧ F_X8_holds S (nI (10 * (a - 1) + c)) (nI l) = some (zv_bI (zv_evl (zv_ctxM S l) (cs.getD c zv_d0).2.2), S') := by
  have hA' := hA
  obtain ⟨h1, h2, h3, h4, h5, h6⟩ := hA'
  have ha : 1 ≤ a := by
    apply Classical.byContradiction
    intro q
    have := h3 (by omega)
    rw [this] at hc; simp at hc
  obtain ⟨z1, z2, z3⟩ := (h4 ha).2 c hc
  obtain ⟨p, e, hpe, he6', y1, y2, y3, y4⟩ := z3 hw
  have he6 : e ≤ 600 := by omega
  rw [show ((0, 0, []) : zv_Cl) = zv_d0 from rfl] at y3 y4
  have hmem : cs.getD c zv_d0 ∈ cs := by
    rw [List.getD_eq_getElem?_getD, List.getElem?_eq_getElem hc]
    exact List.getElem_mem hc
  have hd := (h6 _ hmem).2.2.2.2 hw
  generalize (cs.getD c zv_d0).2.2 = ts at *
  have h60 : 10 * (a - 1) + c < 60 := by omega
  unfold F_X8_holds
  rw [if_pos (zv_gd h60), zv_nIcl (by omega), y1]
  obtain ⟨S', m, e1, e2⟩ := zv_hm_toks (fuel := 1000 - ts.length) hl h60 (K := fun y3_3 y4_3 T_3 => if 0 ≤ (0 : Int32) ∧ (0 : Int32).toNatClampNeg < 100 then (if (gI T_3 36 0 (0 : Int32).toNatClampNeg) = 0 ∨ (gI T_3 36 0 (0 : Int32).toNatClampNeg) = 1 then some (gI T_3 36 0 (0 : Int32).toNatClampNeg, T_3) else none)
  else none) he6 ts [] p S rfl y2 (zv_mNil _) hd (by omega) y4
  rw [show 1000 - ts.length + ts.length = 1000 by omega, List.length_nil, show nI 0 = (0 : Int32) from rfl] at e2
  refine ⟨S', m, ?_⟩
  rw [e2, show 1000 - ts.length = (999 - ts.length) + 1 by omega, L_X8_holds_10.eq_2, if_pos (zv_gd h60), zv_nIcl (by omega), m.2.2 32 (by decide), y2, if_pos (by rw [zv_nIle (by omega) (by omega)]; omega)]
  have hlen := zv_mx_len (g := zv_ctxM S l) ts [] hd
  have ev : zv_evl (zv_ctxM S l) ts = (ts.foldl (zv_stp (zv_ctxM S l)) []).headD false := rfl
  rw [ev]
  rw [zv_len1 hlen] at e1
  have := zv_mTop e1
  rw [List.length_nil] at this
  rw [show (0 : Int32).toNatClampNeg = 0 from rfl, if_pos ⟨by decide, by decide⟩, this, if_pos (by cases (List.foldl (zv_stp (zv_ctxM S l)) [] ts).headD false <;> decide)]
theorem zv_m_gainL {a l : Nat} {cs : List zv_Cl} (hl : l < 6) {g : Int32 → Int32} (K : Int32 → Int32 → St → Option (Int32 × St)) : ∀ (r : List zv_Cl) (i : Nat) (x : Int32) (fuel : Nat) (S : St), zv_AV a cs S → zv_ctxM S l = g → (∀ j, j < r.length → cs.getD (i + j) zv_d0 = r.getD j zv_d0) → i + r.length = cs.length → r.length < fuel →
    ∃ S', zv_M36 S S' ∧ L_X8_gain_12 (nI l) K fuel x (nI (10 * (a - 1) + i)) S = K (r.foldl (zv_addC g) x) (nI (10 * (a - 1) + cs.length)) S' := by
  intro r
  induction r with
  | nil =>
    intro i x fuel S hA hg hj hi hf
    obtain ⟨n, rfl⟩ : ∃ n, fuel = n + 1 := ⟨fuel - 1, by simp at hf; omega⟩
    simp only [List.length_nil, Nat.add_zero] at hi
    refine ⟨S, zv_M36r S, ?_⟩
    rw [L_X8_gain_12.eq_2, zv_m_behind hA, hi]
    simp only [bnd]
    rw [if_pos (Int32.le_refl _)]
    rfl
  | cons c r ih =>
    intro i x fuel S hA hg hj hi hf
    have hA' := hA
    obtain ⟨h1, h2, h3, h4, h5, h6⟩ := hA'
    simp only [List.length_cons] at hj hi hf
    obtain ⟨n, rfl⟩ : ∃ n, fuel = n + 1 := ⟨fuel - 1, by omega⟩
    have ha : 1 ≤ a := by
      apply Classical.byContradiction
      intro q
      have := h3 (by omega)
      rw [this] at hi; simp at hi
    have hz := (h4 ha).2 i (by omega)
    have h0 : cs.getD i zv_d0 = c := by
      have := hj 0 (by omega)
      rw [Nat.add_zero] at this; exact this
    have hmem : c ∈ cs := by
      rw [← h0, List.getD_eq_getElem?_getD, List.getElem?_eq_getElem (show i < cs.length by omega)]
      exact List.getElem_mem _
    have hok := h6 c hmem
    rw [show ((0, 0, []) : zv_Cl) = zv_d0 from rfl, h0] at hz
    rw [L_X8_gain_12.eq_2, zv_m_behind hA]
    simp only [bnd]
    rw [if_neg (by rw [zv_nIle (by omega) (by omega)]; omega), if_pos (zv_gd (by omega)), zv_nIcl (by omega), hz.1, zv_nIs _ (by omega), Nat.add_assoc]
    have ihh := fun x S => ih (i + 1) x n S
    have hj' : ∀ j, j < r.length → cs.getD (i + 1 + j) zv_d0 = r.getD j zv_d0 := fun j hj2 => by rw [Nat.add_assoc, Nat.add_comm 1 j, hj (j + 1) (by omega)]; rfl
    rw [List.foldl_cons]
    by_cases hw : (1 : Int32) < c.1
    · rw [if_pos hw]
      have e : zv_addC g x c = x := by
        unfold zv_addC
        rw [if_neg (by intro q; rw [q] at hw; exact absurd hw (by decide)), if_neg (by intro q; rw [q] at hw; exact absurd hw (by decide))]
      rw [e]
      exact ihh x S hA hg hj' (by omega) (by omega)
    · have hw2 : c.1 < 2 := by
        rw [Int32.lt_iff_toInt_lt] at hw ⊢
        simp only [Int32.reduceToInt] at hw ⊢; omega
      rw [if_neg hw]
      obtain ⟨zv_S1, m1, e1⟩ := zv_m_holds hA hl (c := i) (by omega) (by rw [h0]; exact hw2)
      rw [e1, h0, hg]
      have hA1 := zv_AVc m1 hA
      simp only [m1.2.2 29 (by decide), m1.2.2 30 (by decide), hz.1, hz.2.1, if_pos (zv_ge' (show 10 * (a - 1) + i < 60 by omega) (by omega))]
      unfold zv_addC
      by_cases hv : zv_evl g c.2.2 = true
      · rw [hv, if_neg (by decide)]
        by_cases hc : c.1 = 0
        · rw [if_pos hc, if_pos hc, if_pos rfl]
          obtain ⟨S2, m2, e2⟩ := ihh (x + c.2.1) zv_S1 hA1 (by rw [zv_ctxMc m1, hg]) hj' (by omega) (by omega)
          exact ⟨S2, zv_M36t m1 m2, e2⟩
        · have hc1 : c.1 = 1 := by
            have h0 := hok.2.2.1
            simp only [Int32.le_iff_toInt_le, Int32.lt_iff_toInt_lt, ← Int32.toInt_inj, zv_ia, zv_is_, zv_im, zv_ing, zv_iit, Int32.reduceToInt] at hw hc h0 ⊢
            omega
          rw [if_neg hc, if_neg hc, if_pos hc1, if_pos rfl]
          obtain ⟨S2, m2, e2⟩ := ihh (x - c.2.1) zv_S1 hA1 (by rw [zv_ctxMc m1, hg]) hj' (by omega) (by omega)
          rw [show x + -c.2.1 = x - c.2.1 from (Int32.sub_eq_add_neg x c.2.1).symm]
          exact ⟨S2, zv_M36t m1 m2, e2⟩
      · rw [Bool.not_eq_true] at hv
        rw [hv, if_pos (by decide)]
        simp only [Bool.false_eq_true, reduceIte, ite_self]
        obtain ⟨S2, m2, e2⟩ := ihh x zv_S1 hA1 (by rw [zv_ctxMc m1, hg]) hj' (by omega) (by omega)
        exact ⟨S2, zv_M36t m1 m2, e2⟩
theorem zv_addC_x {g : Int32 → Int32} : ∀ (cs : List zv_Cl) (x : Int32), cs.foldl (zv_addC g) x = x + zv_sumA g cs := by
  intro cs
  induction cs with
  | nil => intro x; exact (Int32.add_zero x).symm
  | cons c cs ih =>
    intro x
    unfold zv_sumA
    rw [List.foldl_cons, List.foldl_cons, ih, ih (zv_addC g 0 c), ← Int32.add_assoc]
    congr 1
    unfold zv_addC
    (repeat' split) <;> simp [Int32.sub_eq_add_neg]
theorem zv_m_gain {a l : Nat} {cs : List zv_Cl} {S : St} (hA : zv_AV a cs S) (hl : l < 6) : ∃ S', zv_M36 S S' ∧ F_X8_gain S (nI l) = some (gI S 25 0 l + zv_sumA (zv_ctxM S l) cs, S') := by
  unfold F_X8_gain
  rw [if_pos (zv_gd hl), zv_m_begin hA, zv_nIcl (by omega)]
  simp only [bnd]
  obtain ⟨S', m, e⟩ := zv_m_gainL (a := a) (cs := cs) hl (g := zv_ctxM S l) (fun y2_7 y3_7 T_7 => some (y2_7, T_7)) cs 0 (gI S 25 0 l) 1000 S hA rfl (fun j _ => by rw [Nat.zero_add]) (by omega) (by have := hA.2.2.2.2.1; omega)
  rw [Nat.add_zero] at e
  exact ⟨S', m, by rw [e, zv_addC_x]⟩
theorem zv_nIm4 (n : Nat) (h : n < 1000) : 4 * nI n = nI (4 * n) := by
  apply zv_inI; rw [zv_im, zv_iN (by omega)]; simp only [Int32.reduceToInt]; omega
theorem zv_md4 {t : Int32} (h : 0 ≤ t) : t - t / 4 * 4 = nI (t.toNatClampNeg % 4) := by
  obtain ⟨n, hn, rfl⟩ := zv_asW (c := 2147483647) h (zv_iB t).2
  apply zv_inI
  rw [zv_is_, zv_im, zv_idv _ 4 (by decide) (by rw [zv_iN (by omega)]; omega), zv_iN (by omega), zv_nIcl (by omega)]
  simp only [Int32.reduceToInt]
  omega
theorem zv_m_climb {a l : Nat} {cs : List zv_Cl} {S : St} (hA : zv_AV a cs S) (hl : l < 6) (v0 : 0 ≤ gI S 23 0 l) (v9 : gI S 23 0 l ≤ 9) (ht : 0 ≤ gI S 8 0 1) :
    ∃ S', zv_M36 S S' ∧ F_X8_climb S (nI l) = some (zv_clA cs (nI l) (gI S 22 0 l) (gI S 23 0 l) (gI S 24 0 l) (gI S 25 0 l) (fun p => gI S 26 0 (4 * l + p)) (gI S 8 0 3) (gI S 8 0 1), S') := by
  obtain ⟨S', m, e⟩ := zv_m_gain hA hl
  refine ⟨S', m, ?_⟩
  unfold F_X8_climb
  rw [e]
  have hm : 4 * l + (gI S 8 0 1).toNatClampNeg % 4 < 24 := by omega
  simp only [bnd, m.2.2 8 (by decide), m.2.2 22 (by decide), m.2.2 23 (by decide), m.2.2 26 (by decide), zv_md4 ht, zv_nIm4 l (by omega), zv_nIa (4 * l) ((gI S 8 0 1).toNatClampNeg % 4) (by omega) (by omega), zv_nIcl (show 4 * l + (gI S 8 0 1).toNatClampNeg % 4 < 2147483648 by omega), zv_nI0 (4 * l + (gI S 8 0 1).toNatClampNeg % 4) (by omega), hm, zv_nIcl (show l < 2147483648 by omega), zv_nI0 l (by omega), hl, true_and, reduceIte, and_self, zv_v2ne v0 v9]
  unfold zv_clA zv_gnA
  simp only [zv_ctxM]
  (repeat' split) <;> rfl
