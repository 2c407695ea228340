def TH {ρ : Type} (p : Program) (l : Launch) (e : Env) (R : Room) (k0 s0 mc ms : Nat) (QQ : ρ → St → Array Value → State → Outcome → State → Prop) (s : State) (m : MethodId) (args : Array Value) (below : List Frame) (meth : Method) (c : Code) (D : va_G) (cy : Nat → ClassId) (ad : Nat → Nat → Nat) (n : Nat → Nat) (S : St) (pc : Nat) (ls : List (Nat × Value)) (st : List Value) (res : Option (ρ × St)) : Prop :=
  ∀ (r : ρ) (S1 : St), res = some (r, S1) → ∀ (H : Heap) (locs : List Loc) (la : Array Slot), lv_has la c.maxLocals ls → wP D cy ad n S H → va_S (wA ad n s.heap.size) s.heap H locs →
    W p l e R s m args below meth c H locs k0 s0 (MQ below (QQ r S1) args s mc ms (wA ad n s.heap.size)) (F0 m pc la st)
section THR
variable {p : Program} {l : Launch} {e : Env} {R : Room} {k0 s0 mc ms : Nat} {s : State} {m : MethodId} {args : Array Value} {below : List Frame} {meth : Method} {c : Code} {D : va_G} {cy : Nat → ClassId} {ad : Nat → Nat → Nat} {n : Nat → Nat} {ρ : Type} {QQ : ρ → St → Array Value → State → Outcome → State → Prop} {S : St} {pc q : Nat} {ls : List (Nat × Value)} {rest : List Value} {res : Option (ρ × St)} {cc : ByteArray} {own : String} {nL : Nat} {ret : Option FieldType}
theorem H_none {st : List Value} : TH p l e R k0 s0 mc ms QQ s m args below meth c D cy ad n S pc ls st none := fun r S1 hr => by cases hr
theorem H_case {A B : Option (ρ × St)} {P : Prop} [Decidable P] {st : List Value} (h1 : P → TH p l e R k0 s0 mc ms QQ s m args below meth c D cy ad n S pc ls st A) (h2 : ¬ P → TH p l e R k0 s0 mc ms QQ s m args below meth c D cy ad n S pc ls st B) : TH p l e R k0 s0 mc ms QQ s m args below meth c D cy ad n S pc ls st (if P then A else B) := by
  intro r S1 hr
  by_cases h : P
  · rw [if_pos h] at hr; exact h1 h r S1 hr
  · rw [if_neg h] at hr; exact h2 h r S1 hr
theorem H_guard {A : Option (ρ × St)} {P : Prop} [Decidable P] {st : List Value} (h1 : P → TH p l e R k0 s0 mc ms QQ s m args below meth c D cy ad n S pc ls st A) : TH p l e R k0 s0 mc ms QQ s m args below meth c D cy ad n S pc ls st (if P then A else none) := H_case h1 (fun _ => H_none)
theorem H_elim {A : Option (ρ × St)} {B : Nat → Option (ρ × St)} {x : Option Nat} {st : List Value} (h1 : x = none → TH p l e R k0 s0 mc ms QQ s m args below meth c D cy ad n S pc ls st A) (h2 : ∀ a, x = some a → TH p l e R k0 s0 mc ms QQ s m args below meth c D cy ad n S pc ls st (B a)) : TH p l e R k0 s0 mc ms QQ s m args below meth c D cy ad n S pc ls st (x.elim A B) := by
  cases x with
  | none => exact h1 rfl
  | some a => exact h2 a rfl
theorem H_aload_n (cx : CX p s m meth c args cc own nL ret D cy ad n) {z : Fin 4} {x : Nat} (hd : decode cc pc = .ok (.aload_n z, 1)) (hq : pc + 1 = q) (hv : lkp ls (z : Nat) = some (.ref x)) (k : TH p l e R k0 s0 mc ms QQ s m args below meth c D cy ad n S q ls (.ref x :: rest) res) : TH p l e R k0 s0 mc ms QQ s m args below meth c D cy ad n S pc ls rest res := by
  subst hq
  intro r S1 hr H locs la hl hP hS
  exact lv_aload_n cx.1 cx.2.1 hd rfl (lkp_at hl hv) (k r S1 hr H locs la hl hP hS)
theorem H_iload_n (cx : CX p s m meth c args cc own nL ret D cy ad n) {z : Fin 4} {x : Int32} (hd : decode cc pc = .ok (.iload_n z, 1)) (hq : pc + 1 = q) (hv : lkp ls (z : Nat) = some (.int x)) (k : TH p l e R k0 s0 mc ms QQ s m args below meth c D cy ad n S q ls (.int x :: rest) res) : TH p l e R k0 s0 mc ms QQ s m args below meth c D cy ad n S pc ls rest res := by
  subst hq
  intro r S1 hr H locs la hl hP hS
  exact lv_iload_n cx.1 cx.2.1 hd rfl (lkp_at hl hv) (k r S1 hr H locs la hl hP hS)
theorem H_astore_n (cx : CX p s m meth c args cc own nL ret D cy ad n) {z : Fin 4} {i : Nat} {x : Nat} {ls' : List (Nat × Value)} (hd : decode cc pc = .ok (.astore_n z, 1)) (hq : pc + 1 = q) (hi : (z : Nat) = i) (hn : i < nL) (hls : (i, Value.ref x) :: ls.filter (fun q => !(q.1 == i) && !(q.1 + 1 == i && q.2.category == 2)) = ls') (k : TH p l e R k0 s0 mc ms QQ s m args below meth c D cy ad n S q ls' rest res) : TH p l e R k0 s0 mc ms QQ s m args below meth c D cy ad n S pc ls (.ref x :: rest) res := by
  subst hq
  intro r S1 hr H locs la hl hP hS
  exact lv_astore_n cx.1 cx.2.1 hd hi hl (by rw [cx.2.2.1]; exact hn) hls (fun la' hl' => k r S1 hr H locs la' hl' hP hS)
theorem H_istore_n (cx : CX p s m meth c args cc own nL ret D cy ad n) {z : Fin 4} {i : Nat} {x : Int32} {ls' : List (Nat × Value)} (hd : decode cc pc = .ok (.istore_n z, 1)) (hq : pc + 1 = q) (hi : (z : Nat) = i) (hn : i < nL) (hls : (i, Value.int x) :: ls.filter (fun q => !(q.1 == i) && !(q.1 + 1 == i && q.2.category == 2)) = ls') (k : TH p l e R k0 s0 mc ms QQ s m args below meth c D cy ad n S q ls' rest res) : TH p l e R k0 s0 mc ms QQ s m args below meth c D cy ad n S pc ls (.int x :: rest) res := by
  subst hq
  intro r S1 hr H locs la hl hP hS
  exact lv_istore_n cx.1 cx.2.1 hd hi hl (by rw [cx.2.2.1]; exact hn) hls (fun la' hl' => k r S1 hr H locs la' hl' hP hS)
theorem H_iconst (cx : CX p s m meth c args cc own nL ret D cy ad n) {z : Int} {v : Int32} (hd : decode cc pc = .ok (.iconst z, 1)) (hq : pc + 1 = q) (hv : Int32.ofInt z = v) (k : TH p l e R k0 s0 mc ms QQ s m args below meth c D cy ad n S q ls (.int v :: rest) res) : TH p l e R k0 s0 mc ms QQ s m args below meth c D cy ad n S pc ls rest res := by
  subst hq
  intro r S1 hr H locs la hl hP hS
  exact lv_iconst cx.1 cx.2.1 hd hv (k r S1 hr H locs la hl hP hS)
theorem H_bipush (cx : CX p s m meth c args cc own nL ret D cy ad n) {z : Int} {v : Int32} (hd : decode cc pc = .ok (.bipush z, 2)) (hq : pc + 2 = q) (hv : (Int8.ofInt z).toInt32 = v) (k : TH p l e R k0 s0 mc ms QQ s m args below meth c D cy ad n S q ls (.int v :: rest) res) : TH p l e R k0 s0 mc ms QQ s m args below meth c D cy ad n S pc ls rest res := by
  subst hq
  intro r S1 hr H locs la hl hP hS
  exact lv_bipush cx.1 cx.2.1 hd hv (k r S1 hr H locs la hl hP hS)
theorem H_isub (cx : CX p s m meth c args cc own nL ret D cy ad n) {x y : Int32} (hd : decode cc pc = .ok (.isub, 1)) (hq : pc + 1 = q)  (k : TH p l e R k0 s0 mc ms QQ s m args below meth c D cy ad n S q ls (.int (x - y) :: rest) res) : TH p l e R k0 s0 mc ms QQ s m args below meth c D cy ad n S pc ls (.int y :: .int x :: rest) res := by
  subst hq
  intro r S1 hr H locs la hl hP hS
  exact lv_isub cx.1 cx.2.1 hd  (k r S1 hr H locs la hl hP hS)
theorem H_iadd (cx : CX p s m meth c args cc own nL ret D cy ad n) {x y : Int32} (hd : decode cc pc = .ok (.iadd, 1)) (hq : pc + 1 = q)  (k : TH p l e R k0 s0 mc ms QQ s m args below meth c D cy ad n S q ls (.int (x + y) :: rest) res) : TH p l e R k0 s0 mc ms QQ s m args below meth c D cy ad n S pc ls (.int y :: .int x :: rest) res := by
  subst hq
  intro r S1 hr H locs la hl hP hS
  exact lv_iadd cx.1 cx.2.1 hd  (k r S1 hr H locs la hl hP hS)
theorem H_dup (cx : CX p s m meth c args cc own nL ret D cy ad n) {va : Value} (hd : decode cc pc = .ok (.dup, 1)) (hq : pc + 1 = q) (hva : va.category = 1) (k : TH p l e R k0 s0 mc ms QQ s m args below meth c D cy ad n S q ls (va :: va :: rest) res) : TH p l e R k0 s0 mc ms QQ s m args below meth c D cy ad n S pc ls (va :: rest) res := by
  subst hq
  intro r S1 hr H locs la hl hP hS
  exact lv_dup cx.1 cx.2.1 hd hva (k r S1 hr H locs la hl hP hS)
theorem H_if_ne (cx : CX p s m meth c args cc own nL ret D cy ad n) {x : Int32} {off : Int} {t : Nat} (hd : decode cc pc = .ok (.ifCond .ne off, 3)) (hq : pc + 3 = q) (ht : (pc : Int) + off = (t : Int)) {A B : Option (ρ × St)} (kt : ¬ (x = 0) → TH p l e R k0 s0 mc ms QQ s m args below meth c D cy ad n S t ls rest A) (kf : x = 0 → TH p l e R k0 s0 mc ms QQ s m args below meth c D cy ad n S q ls rest B) : TH p l e R k0 s0 mc ms QQ s m args below meth c D cy ad n S pc ls (.int x :: rest) (if x = 0 then B else A) := by
  subst hq
  intro r S1 hr H locs la hl hP hS
  refine lv_if_ne cx.1 cx.2.1 hd ht (fun h => ?_) (fun h => ?_)
  · rw [if_neg h] at hr; exact kt h r S1 hr H locs la hl hP hS
  · rw [if_pos h] at hr; exact kf h r S1 hr H locs la hl hP hS
theorem H_icmp_lt (cx : CX p s m meth c args cc own nL ret D cy ad n) {x y : Int32} {off : Int} {t : Nat} (hd : decode cc pc = .ok (.if_icmp .lt off, 3)) (hq : pc + 3 = q) (ht : (pc : Int) + off = (t : Int)) {A B : Option (ρ × St)} (kt : x < y → TH p l e R k0 s0 mc ms QQ s m args below meth c D cy ad n S t ls rest A) (kf : ¬ (x < y) → TH p l e R k0 s0 mc ms QQ s m args below meth c D cy ad n S q ls rest B) : TH p l e R k0 s0 mc ms QQ s m args below meth c D cy ad n S pc ls (.int y :: .int x :: rest) (if x < y then A else B) := by
  subst hq
  intro r S1 hr H locs la hl hP hS
  refine lv_icmp_lt cx.1 cx.2.1 hd ht (fun h => ?_) (fun h => ?_)
  · rw [if_pos h] at hr; exact kt h r S1 hr H locs la hl hP hS
  · rw [if_neg h] at hr; exact kf h r S1 hr H locs la hl hP hS
theorem H_ifnonnull (cx : CX p s m meth c args cc own nL ret D cy ad n) {x : Nat} {off : Int} {t : Nat} (hd : decode cc pc = .ok (.ifnonnull off, 3)) (ht : (pc : Int) + off = (t : Int)) (k : TH p l e R k0 s0 mc ms QQ s m args below meth c D cy ad n S t ls rest res) : TH p l e R k0 s0 mc ms QQ s m args below meth c D cy ad n S pc ls (.ref x :: rest) res := by
  intro r S1 hr H locs la hl hP hS
  exact lv_ifnonnull cx.1 cx.2.1 hd ht (k r S1 hr H locs la hl hP hS)
theorem H_ifnonnullN (cx : CX p s m meth c args cc own nL ret D cy ad n) {off : Int} (hd : decode cc pc = .ok (.ifnonnull off, 3)) (hq : pc + 3 = q) (k : TH p l e R k0 s0 mc ms QQ s m args below meth c D cy ad n S q ls rest res) : TH p l e R k0 s0 mc ms QQ s m args below meth c D cy ad n S pc ls (.null :: rest) res := by
  subst hq
  intro r S1 hr H locs la hl hP hS
  exact lv_ifnonnullN cx.1 cx.2.1 hd (k r S1 hr H locs la hl hP hS)
theorem H_geti (cx : CX p s m meth c args cc own nL ret D cy ad n) {f i j index : Nat} (hd : decode cc pc = .ok (.getfield index, 3)) (hq : pc + 3 = q) (cf : CF f) (hw : fLink own index f j ∈ lwG) (hj : j < kn f) (hk : kf f j = 0) (hi : i < n f) (k : TH p l e R k0 s0 mc ms QQ s m args below meth c D cy ad n S q ls (.int (gI S f i j) :: rest) res) : TH p l e R k0 s0 mc ms QQ s m args below meth c D cy ad n S pc ls (.ref (ad f i) :: rest) res := by
  subst hq
  intro r S1 hr H locs la hl hP hS
  obtain ⟨hx, hb, hml0, hown, hts, hK, hJ, hE, hret, hlk⟩ := cx
  obtain ⟨c1, c2, c3, c4, -, -⟩ := cf
  have h1 := wP_one hP c4 hi
  rw [ct_obj c3] at h1
  exact va_get (D := D) (C := cN f) (T := cT f) (N := kn f) hx hb hts c2 hown hK h1 0 rfl c1 j hj (hts _ hw) (fun _ h => h) (v := .int (gI S f i j)) (by rw [List.getElem?_map, List.getElem?_range hj]; show some (fv ad f i (gI S f i) (gR S f i) j) = _; unfold fv; rw [hk]; rfl) hd (k r S1 hr H locs la hl hP hS)
theorem H_getr (cx : CX p s m meth c args cc own nL ret D cy ad n) {f i j index g i' : Nat} (hd : decode cc pc = .ok (.getfield index, 3)) (hq : pc + 3 = q) (cf : CF f) (hw : fLink own index f j ∈ lwG) (hj : j < kn f) (hk : kf f j = 1) (hg : kg f j i = (g, i')) (hi : i < n f) (k : TH p l e R k0 s0 mc ms QQ s m args below meth c D cy ad n S q ls (.ref (ad g i') :: rest) res) : TH p l e R k0 s0 mc ms QQ s m args below meth c D cy ad n S pc ls (.ref (ad f i) :: rest) res := by
  subst hq
  intro r S1 hr H locs la hl hP hS
  obtain ⟨hx, hb, hml0, hown, hts, hK, hJ, hE, hret, hlk⟩ := cx
  obtain ⟨c1, c2, c3, c4, -, -⟩ := cf
  have h1 := wP_one hP c4 hi
  rw [ct_obj c3] at h1
  exact va_get (D := D) (C := cN f) (T := cT f) (N := kn f) hx hb hts c2 hown hK h1 0 rfl c1 j hj (hts _ hw) (fun _ h => h) (v := .ref (ad g i')) (by rw [List.getElem?_map, List.getElem?_range hj]; show some (fv ad f i (gI S f i) (gR S f i) j) = _; unfold fv; rw [hk, hg]; rfl) hd (k r S1 hr H locs la hl hP hS)
theorem H_geta (cx : CX p s m meth c args cc own nL ret D cy ad n) {f i j index : Nat} (hd : decode cc pc = .ok (.getfield index, 3)) (hq : pc + 3 = q) (cf : CF f) (hw : fLink own index f j ∈ lwG) (hj : j < kn f) (hk : kf f j = 2) (hi : i < n f) {A : Option (ρ × St)} {B : Nat → Option (ρ × St)} (k1 : gR S f i j = none → TH p l e R k0 s0 mc ms QQ s m args below meth c D cy ad n S q ls (.null :: rest) A) (k2 : ∀ a, gR S f i j = some a → a < n 0 → TH p l e R k0 s0 mc ms QQ s m args below meth c D cy ad n S q ls (.ref (ad 0 a) :: rest) (B a)) : TH p l e R k0 s0 mc ms QQ s m args below meth c D cy ad n S pc ls (.ref (ad f i) :: rest) ((gR S f i j).elim A B) := by
  subst hq
  intro r S1 hr H locs la hl hP hS
  obtain ⟨hx, hb, hml0, hown, hts, hK, hJ, hE, hret, hlk⟩ := cx
  obtain ⟨c1, c2, c3, c4, -, -⟩ := cf
  have h1 := wP_one hP c4 hi
  rw [ct_obj c3] at h1
  refine va_get (D := D) (C := cN f) (T := cT f) (N := kn f) hx hb hts c2 hown hK h1 0 rfl c1 j hj (hts _ hw) (fun _ h => h) (v := va_rf ((gR S f i j).map (ad 0))) (by rw [List.getElem?_map, List.getElem?_range hj]; show some (fv ad f i (gI S f i) (gR S f i) j) = _; unfold fv; rw [hk]; rfl) hd ?_
  cases hg : gR S f i j with
  | none => rw [hg] at hr; exact k1 hg r S1 hr H locs la hl hP hS
  | some a => rw [hg] at hr; exact k2 a hg (hP.2 _ _ _ _ hg) r S1 hr H locs la hl hP hS
theorem H_puti (cx : CX p s m meth c args cc own nL ret D cy ad n) {f i j index : Nat} {x : Int32} {ty : FieldType} (hd : decode cc pc = .ok (.putfield index, 3)) (hq : pc + 3 = q) (cf : CF f) (hw : fLink own index f j ∈ lwG) (hj : j < kn f) (hk : kf f j = 0) (hfin : (cT f j).2.2.2 = false) (hty : parseFieldDescriptor (cT f j).2.2.1 = some ty) (hn : narrow ty (.int x) = .int x) (hfit : fits ty (.int x) = true) (hi : i < n f) (k : TH p l e R k0 s0 mc ms QQ s m args below meth c D cy ad n (sI S f i j x) q ls rest res) : TH p l e R k0 s0 mc ms QQ s m args below meth c D cy ad n S pc ls (.int x :: .ref (ad f i) :: rest) res := by
  subst hq
  intro r S1 hr H locs la hl hP hS
  obtain ⟨hx, hb, hml0, hown, hts, hK, hJ, hE, hret, hlk⟩ := cx
  obtain ⟨c1, c2, c3, c4, ⟨ty0, c5⟩, c6⟩ := cf
  obtain ⟨kk, hkk⟩ := wl_at (g := ct cy ad S) hJ c4 hi
  have hkk2 := hkk
  rw [ct_obj c3] at hkk2
  refine va_put (D := D) (C := cN f) (T := cT f) (N := kn f) hx hb hts c2 ty0 c5 c6 hown hK (wl_P hP.1) (wl_D hJ) hS kk hkk2 c1 j hj (hts _ hw) (fun _ h => h) hfin hty hn hfit (by simpa using hj) hd (fun H1 locs1 hP1 _ hS1 => ?_)
  refine k r S1 hr H1 locs1 la hl (wP_setI hJ hP.2 c4 hi hkk (e := _) ?_ hP1) hS1
  rw [ct_obj c3, fv_set_gi hk, gI_self]
  rfl
theorem H_puta (cx : CX p s m meth c args cc own nL ret D cy ad n) {f i j index a : Nat} {ty : FieldType} (hd : decode cc pc = .ok (.putfield index, 3)) (hq : pc + 3 = q) (cf : CF f) (hw : fLink own index f j ∈ lwG) (hj : j < kn f) (hk : kf f j = 2) (hfin : (cT f j).2.2.2 = false) (hty : parseFieldDescriptor (cT f j).2.2.1 = some ty) (hn : ∀ v, narrow ty (.ref v) = .ref v) (hfit : ∀ v, fits ty (.ref v) = true) (ha : a < n 0) (hi : i < n f) (k : TH p l e R k0 s0 mc ms QQ s m args below meth c D cy ad n (sR S f i j (some a)) q ls rest res) : TH p l e R k0 s0 mc ms QQ s m args below meth c D cy ad n S pc ls (.ref (ad 0 a) :: .ref (ad f i) :: rest) res := by
  subst hq
  intro r S1 hr H locs la hl hP hS
  obtain ⟨hx, hb, hml0, hown, hts, hK, hJ, hE, hret, hlk⟩ := cx
  obtain ⟨c1, c2, c3, c4, ⟨ty0, c5⟩, c6⟩ := cf
  obtain ⟨kk, hkk⟩ := wl_at (g := ct cy ad S) hJ c4 hi
  have hkk2 := hkk
  rw [ct_obj c3] at hkk2
  refine va_put (D := D) (C := cN f) (T := cT f) (N := kn f) hx hb hts c2 ty0 c5 c6 hown hK (wl_P hP.1) (wl_D hJ) hS kk hkk2 c1 j hj (hts _ hw) (fun _ h => h) hfin hty (hn _) (hfit _) (by simpa using hj) hd (fun H1 locs1 hP1 _ hS1 => ?_)
  refine k r S1 hr H1 locs1 la hl (wP_setR hJ hP.2 (fun b hb => by cases hb; exact ha) c4 hi hkk (e := _) ?_ hP1) hS1
  rw [ct_obj c3, show (Value.ref (ad 0 a)) = va_rf ((some a).map (ad 0)) from rfl, fv_set_gr hk, gR_self]
  rfl
theorem H_aaldA (cx : CX p s m meth c args cc own nL ret D cy ad n) {i : Nat} {x : Int32} (hd : decode cc pc = .ok (.aaload, 1)) (hq : pc + 1 = q) (hi : i < n 9) {A : Option (ρ × St)} {B : Nat → Option (ρ × St)} (k1 : 0 ≤ x → x.toNatClampNeg < 6 → gR S 9 i x.toNatClampNeg = none → TH p l e R k0 s0 mc ms QQ s m args below meth c D cy ad n S q ls (.null :: rest) A) (k2 : 0 ≤ x → x.toNatClampNeg < 6 → ∀ a, gR S 9 i x.toNatClampNeg = some a → a < n 0 → TH p l e R k0 s0 mc ms QQ s m args below meth c D cy ad n S q ls (.ref (ad 0 a) :: rest) (B a)) : TH p l e R k0 s0 mc ms QQ s m args below meth c D cy ad n S pc ls (.int x :: .ref (ad 9 i) :: rest) (if 0 ≤ x ∧ x.toNatClampNeg < 6 then (gR S 9 i x.toNatClampNeg).elim A B else none) := by
  subst hq
  refine H_guard (fun h => ?_)
  intro r S1 hr H locs la hl hP hS
  obtain ⟨hx, hb, hml0, hown, hts, hK, hJ, hE, hret, hlk⟩ := cx
  have h1 := wP_one hP (show 9 < 64 by decide) hi
  rw [ct_air rfl] at h1
  refine va_aldq hx hb hK h1 0 4 rfl rfl (vp_of h) hd ?_
  show W p l e R s m args below meth c H locs k0 s0 _ (F0 m (pc + 1) la (va_rf ((gR S 9 i x.toNatClampNeg).map (ad 0)) :: rest))
  cases hg : gR S 9 i x.toNatClampNeg with
  | none => rw [hg] at hr; exact k1 h.1 h.2 hg r S1 hr H locs la hl hP hS
  | some a => rw [hg] at hr; exact k2 h.1 h.2 a hg (hP.2 _ _ _ _ hg) r S1 hr H locs la hl hP hS
theorem hcall_end {ρ' : Type} {toV' : ρ' → Option Value} {okr' : ρ' → Prop} {r' : ρ'} {S' S1 : St} {r : ρ} {H : Heap} {locs : List Loc} {la : Array Slot} {K : ρ' → St → Option (ρ × St)} {st : List Value} {aa : Array Value} (hr : K r' S' = some (r, S1)) (hl : lv_has la c.maxLocals ls) (hS : va_S (wA ad n s.heap.size) s.heap H locs)
    (run : va_Run p l e R s m args below meth c H locs k0 s0 0 0 (F0 m pc la st) rest (wQ D cy ad n toV' okr' r' S' (wA ad n H.size) aa) (wA ad n H.size)) (k : okr' r' → TH p l e R k0 s0 mc ms QQ s m args below meth c D cy ad n S' (pc + 3) ls ((toV' r').toList ++ rest) (K r' S')) : W p l e R s m args below meth c H locs k0 s0 (MQ below (QQ r S1) args s mc ms (wA ad n s.heap.size)) (F0 m pc la st) := by
  intro T hT X
  obtain ⟨v, st₀, t, T', L, h0, X', hL, e1, e2, ⟨⟨hv, hok, hP'⟩, hF1, hF2⟩, go⟩ := run T hT X
  have hv2 : v = toV' r' := by injection hv
  subst hv2
  rw [h0] at hF1 hF2
  have hin := wA_in hS
  obtain ⟨t2, a1, b1⟩ := k hok r S1 hr T'.heap (locs ++ L) la hl (by rw [e1]; exact hP') ⟨Nat.le_trans hS.1 (by rw [e1]; exact hF1), fun q h1 h2 => by
      rw [e1, hF2 q (Nat.lt_of_lt_of_le h1 hS.1) (fun z => h2 (hin q z))]
      exact hS.2.1 q h1 h2, fun q hq => by
      rcases List.mem_append.mp hq with h | h
      · exact hS.2.2 q h
      · exact hin _ (hL q h)⟩ T' rfl X'
  exact ⟨t2, go t2 a1, b1⟩
theorem H_callV {ρ' : Type} {toV' : ρ' → Option Value} {okr' : ρ' → Prop} {y : MethodName} {b : ByteArray} {mL d' nA : Nat} {ret' : Option FieldType} {As : List Value} {f i index : Nat} {resc : Option (ρ' × St)} {K : ρ' → St → Option (ρ × St)} {st : List Value} {stk : ρ' → List Value}
    (cx : CX p s m meth c args cc own nL ret D cy ad n) (hd : decode cc pc = .ok (.invokevirtual index, 3)) (hq : pc + 3 = q) (cf : CF f) (hi : i < n f) (hml : ML own index y (cN f) b mL ret' nA) (hst : st = As.reverse ++ .ref (ad f i) :: rest) (hA : As.length = nA) (hw : (rest.map fun v => v.category).sum ≤ 8) (hR : d' + 1 ≤ R.frames ∧ 8 + (mL + 11) + 60 * d' ≤ R.locals) (hk : k0 ≤ R.cells ∧ s0 ≤ R.slots) (hm : mL ≤ 41) (hC : CT l y b mL ret' d' D cy ad n toV' okr' (.ref (ad f i) :: As) S resc)
    (hsk : ∀ r, (toV' r).toList ++ rest = stk r) (k : ∀ r S', resc = some (r, S') → okr' r → TH p l e R k0 s0 mc ms QQ s m args below meth c D cy ad n S' q ls (stk r) (K r S')) : TH p l e R k0 s0 mc ms QQ s m args below meth c D cy ad n S pc ls st (bnd resc K) := by
  subst hq; subst hst
  intro r S1 hr H locs la hl hP hS
  cases hc : resc with
  | none => rw [hc] at hr; cases hr
  | some z =>
    obtain ⟨r', S'⟩ := z
    rw [hc] at hr
    have hr : K r' S' = some (r, S1) := hr
    obtain ⟨hx, hb, hml0, hown, hts, hK, hJ, hE, hret, hlk⟩ := cx
    obtain ⟨c1, c2, c3, c4, -, -⟩ := cf
    obtain ⟨m1, m2, m3, m4, m5, m6, m7⟩ := hml
    have h1 := wP_one hP c4 hi
    rw [ct_obj c3] at h1
    have cw : CallW R s args own (cN f) index y b mL ret' (.code y b mL ret' :: lwG) (rmk d') 0 0 nA := ⟨callB_of nA hts (lwG_good (fun w h => (List.mem_cons.mp h).elim (fun e => e ▸ m5) id)) rfl rfl rfl (hts _ m4) (hts _ m1) ⟨m6.1, m6.2, m7⟩ hR, hts _ m2, hts _ m3⟩
    exact hcall_end hr hl hS (va_runV (As := As) (rest := rest) (b := ad f i) ⟨hx, hb, hml0, hown, hts⟩ (hC r' S' hc H.size) cw ⟨wB_blind, va_recv hK h1 c1 (q0 := 0) rfl, fun U hU hW => ⟨rfl, wB_of hK hE hP hS hU hW⟩⟩ rfl hA (hml0 ▸ hl.1) rfl (lv_room hw) hd hk) (fun ho => by rw [hsk]; exact k r' S' hc ho)
theorem H_iret (cx : CX p s m meth c args cc own nL ret D cy ad n) {r : Int32} {x : ρ} (hret : ret = some .int) (hd : decode cc pc = .ok (.ireturn, 1)) (h1 : k0 ≤ mc) (h2 : s0 ≤ ms) (hq : ∀ t : State, wP D cy ad n S t.heap → va_F (wA ad n s.heap.size) s t → QQ x S args s (.returned (some (.int r))) t) : TH p l e R k0 s0 mc ms QQ s m args below meth c D cy ad n S pc ls [.int r] (some (x, S)) := by
  intro r' S1 hr H locs la hl hP hS
  cases hr
  refine W.widen h1 h2 ?_
  exact W.iret cx.1 cx.2.1 (cx.2.2.2.2.2.2.2.2.1.trans hret) (fun t ht hW => hq t (by rw [ht]; exact hP) (hS.F ht)) hS.2.2 hd (hlocks := cx.2.2.2.2.2.2.2.2.2)
theorem H_widen {st : List Value} {k1 s1 : Nat} (h1 : k0 ≤ k1) (h2 : s0 ≤ s1) (h : TH p l e R k1 s1 mc ms QQ s m args below meth c D cy ad n S pc ls st res) : TH p l e R k0 s0 mc ms QQ s m args below meth c D cy ad n S pc ls st res := fun r S1 hr H locs la hl hP hS => W.widen h1 h2 (h r S1 hr H locs la hl hP hS)
end THR
def F_air_rest (k : Nat) (S : St) : Option ((Int32 × Nat) × St) :=
  if 0 ≤ (gI S 7 0 8) ∧ (gI S 7 0 8).toNatClampNeg < 6 then ((gR S 9 0 (gI S 7 0 8).toNatClampNeg).elim none
  (fun p3 => bnd (F_X1_parse S p3) (fun r6 S7 =>
  if r6 = 0 then (some (((-10 : Int32) - (gI (sI S7 1 0 1 (0 : Int32)) 1 0 2), k), (sI S7 1 0 1 (0 : Int32))))
  else (some (((gI (sI (sR (sI S7 1 0 1 (0 : Int32)) 5 0 8 (some p3)) 7 0 8 ((gI (sR (sI S7 1 0 1 (0 : Int32)) 5 0 8 (some p3)) 7 0 8) + (1 : Int32))) 7 0 8) - (1 : Int32), k), (sI (sR (sI S7 1 0 1 (0 : Int32)) 5 0 8 (some p3)) 7 0 8 ((gI (sR (sI S7 1 0 1 (0 : Int32)) 5 0 8 (some p3)) 7 0 8) + (1 : Int32))))))))
  else none
def RAir : Room := { frames := 24, cells := 2, slots := 104, locals := 60 * 24 }
theorem air_rest {p : Program} {l : Launch} {e : Env} {s : State} {m : MethodId} {args : Array Value} {below : List Frame} {meth : Method} {c : Code} {D : va_G} {cy : Nat → ClassId} {ad : Nat → Nat → Nat} {k : Nat} {QQ : Int32 × Nat → St → Array Value → State → Outcome → State → Prop} (cx : CX p s m meth c args cX7_air RX7 3 (some .int) D cy ad (nX k)) (hQ : ∀ (t : State) (r : Int32) (S : St), wP D cy ad (nX k) S t.heap → va_F (wA ad (nX k) s.heap.size) s t → QQ (r, k) S args s (.returned (some (.int r))) t) (S : St) : TH p l e RAir 2 104 2 104 QQ s m args below meth c D cy ad (nX k) S 40 [(0, .ref (ad 7 0))] [] (F_air_rest k S) := by
  have hJ : wJ ad (nX k) := cx.2.2.2.2.2.2.1
  unfold F_air_rest
  refine H_aload_n (q := 41) cx dX7_air_40 rfl rfl ?_
  refine H_getr (q := 44) (g := 9) (i' := 0) cx dX7_air_41 rfl cf_7 fl_RX7_44 (Nat.le_of_ble_eq_true rfl) rfl rfl (Nat.le_of_ble_eq_true rfl) ?_
  refine H_aload_n (q := 45) cx dX7_air_44 rfl rfl ?_
  refine H_geti (q := 48) cx dX7_air_45 rfl cf_7 fl_RX7_58 (Nat.le_of_ble_eq_true rfl) rfl (Nat.le_of_ble_eq_true rfl) ?_
  refine H_aaldA (q := 49) cx dX7_air_48 rfl (Nat.le_of_ble_eq_true rfl) (fun g1 g2 e4 => ?_) (fun g1 g2 p3 e5 h_p3 => ?_)
  · exact H_none
  refine H_astore_n (q := 50) (ls' := [(1, .ref (ad 0 p3)), (0, .ref (ad 7 0))]) cx dX7_air_49 rfl rfl (Nat.le_of_ble_eq_true rfl) rfl ?_
  refine H_aload_n (q := 51) cx dX7_air_50 rfl rfl ?_
  refine H_getr (q := 54) (g := 1) (i' := 0) cx dX7_air_51 rfl cf_7 fl_RX7_40 (Nat.le_of_ble_eq_true rfl) rfl rfl (Nat.le_of_ble_eq_true rfl) ?_
  refine H_aload_n (q := 55) cx dX7_air_54 rfl rfl ?_
  refine H_callV (q := 58) (d' := 23) (f := 1) (i := 0) (As := [.ref (ad 0 p3)]) (rest := []) (stk := fun r6 => [.int r6]) cx dX7_air_55 rfl cf_1 (Nat.le_of_ble_eq_true rfl) ml_RX7_138 rfl rfl (Nat.le_of_ble_eq_true rfl) ⟨Nat.le_of_ble_eq_true rfl, Nat.le_of_ble_eq_true rfl⟩ ⟨Nat.le_of_ble_eq_true rfl, Nat.le_of_ble_eq_true rfl⟩ (Nat.le_of_ble_eq_true rfl) (c_X1_parse l hJ _ p3 h_p3) (fun _ => rfl) (fun r6 S7 h8 o9 => ?_)
  refine H_istore_n (q := 59) (ls' := [(2, .int r6), (1, .ref (ad 0 p3)), (0, .ref (ad 7 0))]) cx dX7_air_58 rfl rfl (Nat.le_of_ble_eq_true rfl) rfl ?_
  refine H_aload_n (q := 60) cx dX7_air_59 rfl rfl ?_
  refine H_getr (q := 63) (g := 1) (i' := 0) cx dX7_air_60 rfl cf_7 fl_RX7_40 (Nat.le_of_ble_eq_true rfl) rfl rfl (Nat.le_of_ble_eq_true rfl) ?_
  refine H_iconst (q := 64) (v := (0 : Int32)) cx dX7_air_63 rfl (by decide) ?_
  refine H_puti (q := 67) cx dX7_air_64 rfl cf_1 fl_RX7_131 (Nat.le_of_ble_eq_true rfl) rfl rfl rfl rfl rfl (Nat.le_of_ble_eq_true rfl) ?_
  refine H_iload_n (q := 68) cx dX7_air_67 rfl rfl ?_
  refine H_if_ne (q := 71) (t := 82) cx dX7_air_68 rfl (by decide) (fun c10 => ?_) (fun c10 => ?_)
  · refine H_aload_n (q := 83) cx dX7_air_82 rfl rfl ?_
    refine H_getr (q := 86) (g := 5) (i' := 0) cx dX7_air_83 rfl cf_7 fl_RX7_23 (Nat.le_of_ble_eq_true rfl) rfl rfl (Nat.le_of_ble_eq_true rfl) ?_
    refine H_aload_n (q := 87) cx dX7_air_86 rfl rfl ?_
    refine H_puta (q := 90) cx dX7_air_87 rfl cf_5 fl_RX7_109 (Nat.le_of_ble_eq_true rfl) rfl rfl rfl (fun _ => rfl) (fun _ => rfl) h_p3 (Nat.le_of_ble_eq_true rfl) ?_
    refine H_aload_n (q := 91) cx dX7_air_90 rfl rfl ?_
    refine H_dup (q := 92) cx dX7_air_91 rfl rfl ?_
    refine H_geti (q := 95) cx dX7_air_92 rfl cf_7 fl_RX7_58 (Nat.le_of_ble_eq_true rfl) rfl (Nat.le_of_ble_eq_true rfl) ?_
    refine H_iconst (q := 96) (v := (1 : Int32)) cx dX7_air_95 rfl (by decide) ?_
    refine H_iadd (q := 97) cx dX7_air_96 rfl ?_
    refine H_puti (q := 100) cx dX7_air_97 rfl cf_7 fl_RX7_58 (Nat.le_of_ble_eq_true rfl) rfl rfl rfl rfl rfl (Nat.le_of_ble_eq_true rfl) ?_
    refine H_aload_n (q := 101) cx dX7_air_100 rfl rfl ?_
    refine H_geti (q := 104) cx dX7_air_101 rfl cf_7 fl_RX7_58 (Nat.le_of_ble_eq_true rfl) rfl (Nat.le_of_ble_eq_true rfl) ?_
    refine H_iconst (q := 105) (v := (1 : Int32)) cx dX7_air_104 rfl (by decide) ?_
    refine H_isub (q := 106) cx dX7_air_105 rfl ?_
    exact H_iret cx rfl dX7_air_106 (Nat.le_refl _) (Nat.le_refl _) (fun t h1 h2 => hQ t _ _ h1 h2)
  refine H_bipush (q := 73) (v := (-10 : Int32)) cx dX7_air_71 rfl (by decide) ?_
  refine H_aload_n (q := 74) cx dX7_air_73 rfl rfl ?_
  refine H_getr (q := 77) (g := 1) (i' := 0) cx dX7_air_74 rfl cf_7 fl_RX7_40 (Nat.le_of_ble_eq_true rfl) rfl rfl (Nat.le_of_ble_eq_true rfl) ?_
  refine H_geti (q := 80) cx dX7_air_77 rfl cf_1 fl_RX7_142 (Nat.le_of_ble_eq_true rfl) rfl (Nat.le_of_ble_eq_true rfl) ?_
  refine H_isub (q := 81) cx dX7_air_80 rfl ?_
  exact H_iret cx rfl dX7_air_81 (Nat.le_refl _) (Nat.le_refl _) (fun t h1 h2 => hQ t _ _ h1 h2)
/-! a new Air: the cell and its row come to the families -/
def adN (ad : Nat → Nat → Nat) (K a b : Nat) : Nat → Nat → Nat := fun f i => if f = 0 ∧ i = K then a else if f = 16 ∧ i = K then b else ad f i
def newAir (S : St) (K : Nat) : St := sI (sI (sI (cI S 16 K (fun _ => 0)) 0 K 1 0) 0 K 2 400) 0 K 3 80
theorem adN_o {ad : Nat → Nat → Nat} {K a b f i : Nat} (h0 : ¬ (f = 0 ∧ i = K)) (h1 : ¬ (f = 16 ∧ i = K)) : adN ad K a b f i = ad f i := by unfold adN; rw [if_neg h0, if_neg h1]
theorem adN_0 {ad : Nat → Nat → Nat} {K a b : Nat} : adN ad K a b 0 K = a := by unfold adN; rw [if_pos ⟨rfl, rfl⟩]
theorem adN_1 {ad : Nat → Nat → Nat} {K a b : Nat} : adN ad K a b 16 K = b := by unfold adN; rw [if_neg (by omega), if_pos ⟨rfl, rfl⟩]
theorem nX_old {k f i : Nat} (hi : i < nX (k + 1) f) : i < nX k f ∨ (f = 0 ∧ i = 1 + k) ∨ (f = 16 ∧ i = 1 + k) := by
  by_cases h0 : f = 0
  · subst h0
    have hi : i < 1 + (k + 1) := hi
    by_cases hk : i = 1 + k
    · exact Or.inr (Or.inl ⟨rfl, hk⟩)
    · exact Or.inl (show i < 1 + k by omega)
  · by_cases h1 : f = 16
    · subst h1
      have hi : i < 1 + (k + 1) := hi
      by_cases hk : i = 1 + k
      · exact Or.inr (Or.inr ⟨rfl, hk⟩)
      · exact Or.inl (show i < 1 + k by omega)
    · refine Or.inl ?_
      have e : nX (k + 1) f = nX k f := by
        unfold nX
        split <;> first | rfl | (exact absurd rfl h0) | (exact absurd rfl h1)
      rw [← e]; exact hi
theorem nX_new0 {k : Nat} : 1 + k < nX (k + 1) 0 := show 1 + k < 1 + (k + 1) by omega
theorem nX_new1 {k : Nat} : 1 + k < nX (k + 1) 16 := show 1 + k < 1 + (k + 1) by omega
theorem nX_le {k f i : Nat} (hi : i < nX k f) : i < nX (k + 1) f := by
  by_cases h0 : f = 0
  · subst h0; have hi : i < 1 + k := hi; exact show i < 1 + (k + 1) by omega
  · by_cases h1 : f = 16
    · subst h1; have hi : i < 1 + k := hi; exact show i < 1 + (k + 1) by omega
    · have e : nX (k + 1) f = nX k f := by
        unfold nX
        split <;> first | rfl | (exact absurd rfl h0) | (exact absurd rfl h1)
      rw [e]; exact hi
theorem nX_ne {k f i : Nat} (hi : i < nX k f) : ¬ (f = 0 ∧ i = 1 + k) ∧ ¬ (f = 16 ∧ i = 1 + k) := by
  refine ⟨?_, ?_⟩
  · rintro ⟨rfl, rfl⟩
    exact absurd (show 1 + k < 1 + k from hi) (Nat.lt_irrefl _)
  · rintro ⟨rfl, rfl⟩
    exact absurd (show 1 + k < 1 + k from hi) (Nat.lt_irrefl _)
/-- where a static target lies: never at a cell that isn't there yet -/
theorem kg_ne {k f i j : Nat} (hi : i < nX k f) (hk : kf f j = 1) : ¬ ((kg f j i).1 = 0 ∧ (kg f j i).2 = 1 + k) ∧ ¬ ((kg f j i).1 = 16 ∧ (kg f j i).2 = 1 + k) := by
  have h16 : f = 0 → i < 1 + k := fun e => by subst e; exact hi
  unfold kf at hk
  unfold kg
  split at hk <;> (try (split at hk)) <;> first | (exact absurd hk (by decide)) | (simp only; refine ⟨?_, ?_⟩ <;> rintro ⟨h1, h2⟩ <;> first | (exact absurd h1 (by decide)) | omega | (have := h16 rfl; omega))
theorem fv_adN {ad : Nat → Nat → Nat} {k a b f i j : Nat} {gi : Nat → Int32} {gr : Nat → Option Nat} (hi : i < nX k f) (hr : ∀ x, gr j = some x → x < nX k 0) : fv (adN ad (1 + k) a b) f i gi gr j = fv ad f i gi gr j := by
  unfold fv
  split
  · rfl
  · next h =>
    obtain ⟨h1, h2⟩ := kg_ne hi h
    rw [adN_o h1 h2]
  · cases hg : gr j with
    | none => rfl
    | some x =>
      have hx : x < 1 + k := hr x hg
      show Value.ref _ = Value.ref _
      rw [adN_o (by omega) (by omega)]
theorem ct_adN {cy : Nat → ClassId} {ad : Nat → Nat → Nat} {S : St} {k a b f i : Nat} (hi : i < nX k f) (hr : ∀ f i j x, gR S f i j = some x → x < nX k 0) : ct cy (adN ad (1 + k) a b) S f i = ct cy ad S f i := by
  have e1 : (List.range (kn f)).map (fv (adN ad (1 + k) a b) f i (gI S f i) (gR S f i)) = (List.range (kn f)).map (fv ad f i (gI S f i) (gR S f i)) := List.map_congr_left (fun j _ => fv_adN hi (fun x hx => hr f i j x hx))
  have e2 : (fun j => (gR S f i j).map (adN ad (1 + k) a b 0)) = (fun j => (gR S f i j).map (ad 0)) := by
    funext j
    cases hg : gR S f i j with
    | none => rfl
    | some x =>
      have hx : x < 1 + k := hr _ _ _ _ hg
      show some _ = some _
      rw [adN_o (by omega) (by omega)]
  have e3 : ∀ x, adN ad (1 + k) a b 3 x = ad 3 x := fun x => adN_o (by omega) (by omega)
  have e4 : ∀ x, adN ad (1 + k) a b 6 x = ad 6 x := fun x => adN_o (by omega) (by omega)
  unfold ct ctf
  rw [e1, e2]
  simp only [e3, e4]
theorem newAir_gI {S : St} {K f i : Nat} (h0 : ¬ (f = 0 ∧ i = K)) (h1 : ¬ (f = 16 ∧ i = K)) : gI (newAir S K) f i = gI S f i := by
  unfold newAir
  rw [gI_ne h0, gI_ne h0, gI_ne h0, gI_cI_ne h1]
theorem air_world {cy : Nat → ClassId} {D : va_G} {ad : Nat → Nat → Nat} {S : St} {k a b : Nat} {A : Nat → Prop} {H : Heap} (hJ : wJ ad (nX k)) (hk : k ≤ 14) (hr : ∀ f i j x, gR S f i j = some x → x < nX k 0)
    (hP : va_P D vwCl (wl (nX k) ad (ct cy ad S) ++ [(a, .inr (0, [.ref b, .int 0, .int 400, .int 80])), (b, .inl (cy 0, (100, .inl (fun _ => 0))))]) H)
    (hD : va_D A (wl (nX k) ad (ct cy ad S) ++ [(a, .inr (0, [.ref b, .int 0, .int 400, .int 80])), (b, .inl (cy 0, (100, .inl (fun _ => 0))))])) :
    wJ (adN ad (1 + k) a b) (nX (k + 1)) ∧ wP D cy (adN ad (1 + k) a b) (nX (k + 1)) (newAir S (1 + k)) H := by
  have hlen : ∀ (j : Nat) (q : Nat × va_E), (wl (nX k) ad (ct cy ad S))[j]? = some q → j < (wl (nX k) ad (ct cy ad S)).length := fun j q h => (List.getElem?_eq_some_iff.mp h).1
  have at0 : (wl (nX k) ad (ct cy ad S) ++ [(a, .inr (0, [.ref b, .int 0, .int 400, .int 80])), (b, .inl (cy 0, (100, .inl (fun _ => 0))))] : va_W)[(wl (nX k) ad (ct cy ad S)).length]? = some (a, .inr (0, [.ref b, .int 0, .int 400, .int 80])) := by
    rw [List.getElem?_append_right (Nat.le_refl _), Nat.sub_self]; rfl
  have at1 : (wl (nX k) ad (ct cy ad S) ++ [(a, .inr (0, [.ref b, .int 0, .int 400, .int 80])), (b, .inl (cy 0, (100, .inl (fun _ => 0))))] : va_W)[(wl (nX k) ad (ct cy ad S)).length + 1]? = some (b, .inl (cy 0, (100, .inl (fun _ => 0)))) := by
    rw [List.getElem?_append_right (by omega), show (wl (nX k) ad (ct cy ad S)).length + 1 - (wl (nX k) ad (ct cy ad S)).length = 1 by omega]; rfl
  have old : ∀ f i, f < 64 → i < nX k f → ∃ j, j < (wl (nX k) ad (ct cy ad S)).length ∧ (wl (nX k) ad (ct cy ad S) ++ [(a, .inr (0, [.ref b, .int 0, .int 400, .int 80])), (b, .inl (cy 0, (100, .inl (fun _ => 0))))] : va_W)[j]? = some (ad f i, ct cy ad S f i) := by
    intro f i hf hi
    obtain ⟨j, hj⟩ := wl_at (g := ct cy ad S) hJ hf hi
    exact ⟨j, hlen j _ hj, by rw [List.getElem?_append_left (hlen j _ hj)]; exact hj⟩
  have place : ∀ f i, f < 64 → i < nX (k + 1) f → ∃ j e, (wl (nX k) ad (ct cy ad S) ++ [(a, .inr (0, [.ref b, .int 0, .int 400, .int 80])), (b, .inl (cy 0, (100, .inl (fun _ => 0))))] : va_W)[j]? = some (adN ad (1 + k) a b f i, e) ∧ ((j < (wl (nX k) ad (ct cy ad S)).length ∧ i < nX k f) ∨ (j = (wl (nX k) ad (ct cy ad S)).length ∧ f = 0 ∧ i = 1 + k) ∨ (j = (wl (nX k) ad (ct cy ad S)).length + 1 ∧ f = 16 ∧ i = 1 + k)) := by
    intro f i hf hi
    rcases nX_old hi with h | ⟨rfl, rfl⟩ | ⟨rfl, rfl⟩
    · obtain ⟨j, h1, h2⟩ := old f i hf h
      obtain ⟨n0, n1⟩ := nX_ne h
      exact ⟨j, _, by rw [adN_o n0 n1]; exact h2, Or.inl ⟨h1, h⟩⟩
    · exact ⟨_, _, by rw [adN_0]; exact at0, Or.inr (Or.inl ⟨rfl, rfl, rfl⟩)⟩
    · exact ⟨_, _, by rw [adN_1]; exact at1, Or.inr (Or.inr ⟨rfl, rfl, rfl⟩)⟩
  refine ⟨⟨fun f => ?_, fun f i f' i' hf hf' hi hi' he => ?_⟩, fun f i hf hi => ?_, fun f i j x hx => ?_⟩
  · have h := hJ.1 f
    by_cases h0 : f = 0
    · subst h0; exact show 1 + (k + 1) ≤ 16 by omega
    · by_cases h1 : f = 16
      · subst h1; exact show 1 + (k + 1) ≤ 16 by omega
      · have e : nX (k + 1) f = nX k f := by
          unfold nX
          split <;> first | rfl | (exact absurd rfl h0) | (exact absurd rfl h1)
        rw [e]; exact h
  · obtain ⟨j, e, hj, cj⟩ := place f i hf hi
    obtain ⟨j', e', hj', cj'⟩ := place f' i' hf' hi'
    have hjj := hD.1 j j' _ _ hj hj' he
    subst hjj
    rcases cj with ⟨c1, c2⟩ | ⟨c1, c2, c3⟩ | ⟨c1, c2, c3⟩ <;> rcases cj' with ⟨d1, d2⟩ | ⟨d1, d2, d3⟩ | ⟨d1, d2, d3⟩ <;> first | omega | skip
    · obtain ⟨n0, n1⟩ := nX_ne c2
      obtain ⟨n2, n3⟩ := nX_ne d2
      rw [adN_o n0 n1, adN_o n2 n3] at he
      exact hJ.2 f i f' i' hf hf' c2 d2 he
    all_goals exact ⟨by omega, by omega⟩
  · rcases nX_old hi with h | ⟨rfl, rfl⟩ | ⟨rfl, rfl⟩
    · obtain ⟨j, h1, h2⟩ := old f i hf h
      obtain ⟨n0, n1⟩ := nX_ne h
      have hw := hP j _ h2
      rw [adN_o n0 n1]
      have e : ct cy (adN ad (1 + k) a b) (newAir S (1 + k)) f i = ct cy ad S f i := by
        rw [← ct_adN (a := a) (b := b) h hr]
        unfold ct
        rw [newAir_gI n0 n1]
        rfl
      rw [e]
      exact hw
    · have hw := hP _ _ at0
      rw [adN_0]
      have e : ct cy (adN ad (1 + k) a b) (newAir S (1 + k)) 0 (1 + k) = .inr (0, [.ref b, .int 0, .int 400, .int 80]) := by
        rw [ct_obj rfl]
        have q0 : fv (adN ad (1 + k) a b) 0 (1 + k) (gI (newAir S (1 + k)) 0 (1 + k)) (gR (newAir S (1 + k)) 0 (1 + k)) 0 = .ref b := by
          show Value.ref (adN ad (1 + k) a b 16 (1 + k)) = _
          rw [adN_1]
        have q1 : gI (newAir S (1 + k)) 0 (1 + k) 1 = 0 := by simp [newAir, gI_sI]
        have q2 : gI (newAir S (1 + k)) 0 (1 + k) 2 = 400 := by simp [newAir, gI_sI]
        have q3 : gI (newAir S (1 + k)) 0 (1 + k) 3 = 80 := by simp [newAir, gI_sI]
        show Sum.inr (0, [fv _ 0 (1 + k) _ _ 0, .int (gI (newAir S (1 + k)) 0 (1 + k) 1), .int (gI (newAir S (1 + k)) 0 (1 + k) 2), .int (gI (newAir S (1 + k)) 0 (1 + k) 3)]) = _
        rw [q0, q1, q2, q3]
      rw [e]
      exact hw
    · have hw := hP _ _ at1
      rw [adN_1]
      have e : ct cy (adN ad (1 + k) a b) (newAir S (1 + k)) 16 (1 + k) = .inl (cy 0, (100, .inl (fun _ => 0))) := by
        rw [ct_int rfl]
        have q : gI (newAir S (1 + k)) 16 (1 + k) = fun _ => 0 := by
          unfold newAir
          rw [gI_ne (by omega), gI_ne (by omega), gI_ne (by omega), gI_cI_self]
        rw [q]
        rfl
      rw [e]
      exact hw
  · have h1 : x < 1 + k := hr f i j x hx
    exact show x < 1 + (k + 1) by omega

