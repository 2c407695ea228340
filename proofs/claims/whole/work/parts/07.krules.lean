/-! constructors: explicit worlds -/
def KR (d mc ms : Nat) : Room := { frames := d, cells := mc, slots := ms, locals := 60 * d }
def KAO (o : Bool) (U : State) : Prop := o = true → va_AO RX0 U ∧ va_AO RX3 U ∧ va_AO RX6 U
theorem KAO.moved {o : Bool} {u U : State} (hvm : u.vm.Alike U.vm) (h : KAO o u) : KAO o U := fun q => ⟨va_AO.moved hvm (h q).1, va_AO.moved hvm (h q).2.1, va_AO.moved hvm (h q).2.2⟩
def KB (o : Bool) (D : va_G) (cy : Nat → ClassId) (sz : Nat) (pre : va_W) : State → Prop := fun U => U.heap.size = sz ∧ va_P D vwCl pre U.heap ∧ va_D (fun _ => True) pre ∧ va_K D vwCl (tyl cy) U ∧ KAO o U
def KQ (D : va_G) (sz : Nat) (pre : va_W) (post : (Nat → Nat) → va_W) : Array Value → State → Outcome → State → Prop := fun _ st o t => (o = .returned none ∧ ∃ q : Nat → Nat, va_P D vwCl (post q) t.heap ∧ va_D (va_A pre sz) (post q)) ∧ va_F (va_A pre sz) st t
def KT (o : Bool) (l : Launch) (y : MethodName) (b : ByteArray) (mL d mc ms : Nat) (D : va_G) (cy : Nat → ClassId) (av : List Value) (pre : va_W) (post : (Nat → Nat) → va_W) : Prop :=
  ∀ sz : Nat, Met l y (.code y b mL none :: lwG) (KR d mc ms) (va_Pc av (KB o D cy sz pre)) (KQ D sz pre post) mc ms (va_A pre sz)
def CK (o : Bool) (p : Program) (R : Room) (s : State) (m : MethodId) (meth : Method) (c : Code) (args : Array Value) (cc : ByteArray) (own : String) (nL : Nat) (D : va_G) (cy : Nat → ClassId) (A : Nat → Prop) : Prop :=
  p.tables.exec = Jvm.exec ∧ c.code = cc ∧ c.maxLocals = nL ∧ s.vm.findClass own = some m.cls ∧ (∀ w ∈ lwG, w.before args s = true) ∧ va_K D vwCl (tyl cy) s ∧ (∀ q, s.heap.size ≤ q → A q) ∧ KAO o s
def TK (p : Program) (l : Launch) (e : Env) (R : Room) (s : State) (m : MethodId) (args : Array Value) (below : List Frame) (meth : Method) (c : Code) (D : va_G) (A : Nat → Prop) (Q : State → Prop) (cells slots : Nat) (ws : va_W) (pc : Nat) (ls : List (Nat × Value)) (st : List Value) : Prop :=
  ∀ (H : Heap) (locs : List Loc) (la : Array Slot), lv_has la c.maxLocals ls → va_P D vwCl ws H → va_D A ws → va_S A s.heap H locs → W p l e R s m args below meth c H locs cells slots Q (F0 m pc la st)
theorem KB_blind {o : Bool} {D : va_G} {cy : Nat → ClassId} {sz : Nat} {pre : va_W} {av : List Value} : FrameBlind (va_Pc av (KB o D cy sz pre)) := fun a U g mk q => ⟨q.1, q.2.1, q.2.2.1, q.2.2.2.1, va_K.moved (u := U) (U := U.calling g mk a) (Vm.Alike.refl U.vm) q.2.2.2.2.1, KAO.moved (u := U) (U := U.calling g mk a) (Vm.Alike.refl U.vm) q.2.2.2.2.2⟩
theorem KT.of {o : Bool} {l : Launch} {y : MethodName} {b : ByteArray} {mL d mc ms : Nat} {D : va_G} {cy : Nat → ClassId} {av : List Value} {pre : va_W} {post : (Nat → Nat) → va_W} {ls : List (Nat × Value)} (own : String) (hy : plainName y.cls = true) (hown : y.cls = own) (hyn : y.name = "<init>") (hle : (lg_sl av).length ≤ mL) (hls : lv_args 0 av = ls)
    (body : ∀ (p : Program) (e : Env) (s : State) (m : MethodId) (below : List Frame) (meth : Method) (c : Code) (A : Nat → Prop), CK o p (KR d mc ms) s m meth c av.toArray b own mL D cy A → meth.name = "<init>" → (∀ (cells slots : Nat) (q : Nat → Nat) (pc : Nat) (ls : List (Nat × Value)), decode b pc = .ok (.return_, 1) → cells ≤ mc → slots ≤ ms → TK p l e (KR d mc ms) s m av.toArray below meth c D A (MQ below (KQ D s.heap.size pre post) av.toArray s mc ms A) cells slots (post q) pc ls []) → TK p l e (KR d mc ms) s m av.toArray below meth c D A (MQ below (KQ D s.heap.size pre post) av.toArray s mc ms A) 0 0 pre 0 ls []) : KT o l y b mL d mc ms D cy av pre post := by
  intro sz
  refine Met.ofW (cc := b) (maxL := mL) (ret := none) hy rfl ?_
  intro p e s m args below meth c s₁ B hml hv
  obtain ⟨rfl, hsz, hP, hD0, hK, hO⟩ := hv
  subst hsz
  have hts := atoms_spec (ws := .code y b mL none :: lwG) B.pre
  have ho : s.vm.findClass own = some m.cls := by rw [← hown]; exact findClass_of_methodNamed B.named
  have hin : meth.name = "<init>" := by rw [← hyn]; exact (name_of_methodNamed B.named B.method).1
  have ck : CK o p (KR d mc ms) s m meth c av.toArray b own mL D cy (va_A pre s.heap.size) := ⟨B.exec, B.bytes, hml, ho, fun w hw => hts w (List.mem_cons_of_mem _ hw), hK, fun q h => Or.inr h, hO⟩
  rw [lg_entry_eq]
  have hl := lv_entry av (n := mL) hle
  rw [hls] at hl
  refine body p e s m below meth c _ ck hin (fun cells slots q pc ls hd h1 h2 => ?_) s.heap [] _ (by rw [hml]; exact hl) hP hD0.self va_S.rf
  intro H locs la hl hP hD hS
  refine W.widen h1 h2 ?_
  exact W.vret B.exec B.bytes B.returns (fun t ht hW => ⟨⟨rfl, q, by rw [ht]; exact hP, hD⟩, hS.F ht⟩) hS.2.2 hd (hlocks := B.notSynchronized)
section TKR
variable {o : Bool} {p : Program} {l : Launch} {e : Env} {R : Room} {s : State} {m : MethodId} {args : Array Value} {below : List Frame} {meth : Method} {c : Code} {D : va_G} {cy : Nat → ClassId} {A : Nat → Prop} {Q : State → Prop} {cells slots : Nat} {ws : va_W} {pc q : Nat} {ls : List (Nat × Value)} {rest : List Value} {cc : ByteArray} {own : String} {nL : Nat}
theorem K_iconst (cx : CK o p R s m meth c args cc own nL D cy A) {z : Int} {v : Int32} (hd : decode cc pc = .ok (.iconst z, 1)) (hq : pc + 1 = q) (hv : Int32.ofInt z = v) (kk : TK p l e R s m args below meth c D A Q cells slots ws q ls (.int v :: rest)) : TK p l e R s m args below meth c D A Q cells slots ws pc ls rest := by
  subst hq
  intro H locs la hl hP hD hS
  exact lv_iconst cx.1 cx.2.1 hd hv (kk H locs la hl hP hD hS)
theorem K_bipush (cx : CK o p R s m meth c args cc own nL D cy A) {z : Int} {v : Int32} (hd : decode cc pc = .ok (.bipush z, 2)) (hq : pc + 2 = q) (hv : (Int8.ofInt z).toInt32 = v) (kk : TK p l e R s m args below meth c D A Q cells slots ws q ls (.int v :: rest)) : TK p l e R s m args below meth c D A Q cells slots ws pc ls rest := by
  subst hq
  intro H locs la hl hP hD hS
  exact lv_bipush cx.1 cx.2.1 hd hv (kk H locs la hl hP hD hS)
theorem K_sipush (cx : CK o p R s m meth c args cc own nL D cy A) {z : Int} {v : Int32} (hd : decode cc pc = .ok (.sipush z, 3)) (hq : pc + 3 = q) (hv : (Int16.ofInt z).toInt32 = v) (kk : TK p l e R s m args below meth c D A Q cells slots ws q ls (.int v :: rest)) : TK p l e R s m args below meth c D A Q cells slots ws pc ls rest := by
  subst hq
  intro H locs la hl hP hD hS
  exact lv_sipush cx.1 cx.2.1 hd hv (kk H locs la hl hP hD hS)
theorem K_dup (cx : CK o p R s m meth c args cc own nL D cy A) {va : Value} (hd : decode cc pc = .ok (.dup, 1)) (hq : pc + 1 = q) (hva : va.category = 1) (kk : TK p l e R s m args below meth c D A Q cells slots ws q ls (va :: va :: rest)) : TK p l e R s m args below meth c D A Q cells slots ws pc ls (va :: rest) := by
  subst hq
  intro H locs la hl hP hD hS
  exact lv_dup cx.1 cx.2.1 hd hva (kk H locs la hl hP hD hS)
theorem K_null (cx : CK o p R s m meth c args cc own nL D cy A)  (hd : decode cc pc = .ok (.aconst_null, 1)) (hq : pc + 1 = q)  (kk : TK p l e R s m args below meth c D A Q cells slots ws q ls (.null :: rest)) : TK p l e R s m args below meth c D A Q cells slots ws pc ls rest := by
  subst hq
  intro H locs la hl hP hD hS
  exact lv_null cx.1 cx.2.1 hd  (kk H locs la hl hP hD hS)
theorem K_iload_n (cx : CK o p R s m meth c args cc own nL D cy A) {z : Fin 4} {x : Int32} (hd : decode cc pc = .ok (.iload_n z, 1)) (hq : pc + 1 = q) (hv : lkp ls (z : Nat) = some (.int x)) (kk : TK p l e R s m args below meth c D A Q cells slots ws q ls (.int x :: rest)) : TK p l e R s m args below meth c D A Q cells slots ws pc ls rest := by
  subst hq
  intro H locs la hl hP hD hS
  exact lv_iload_n cx.1 cx.2.1 hd rfl (lkp_at hl hv) (kk H locs la hl hP hD hS)
theorem K_istore_n (cx : CK o p R s m meth c args cc own nL D cy A) {z : Fin 4} {i : Nat} {x : Int32} {ls' : List (Nat × Value)} (hd : decode cc pc = .ok (.istore_n z, 1)) (hq : pc + 1 = q) (hi : (z : Nat) = i) (hn : i < nL) (hls : (i, Value.int x) :: ls.filter (fun q => !(q.1 == i) && !(q.1 + 1 == i && q.2.category == 2)) = ls') (kk : TK p l e R s m args below meth c D A Q cells slots ws q ls' rest) : TK p l e R s m args below meth c D A Q cells slots ws pc ls (.int x :: rest) := by
  subst hq
  intro H locs la hl hP hD hS
  exact lv_istore_n cx.1 cx.2.1 hd hi hl (by rw [cx.2.2.1]; exact hn) hls (fun la' hl' => kk H locs la' hl' hP hD hS)
theorem K_aload_n (cx : CK o p R s m meth c args cc own nL D cy A) {z : Fin 4} {x : Nat} (hd : decode cc pc = .ok (.aload_n z, 1)) (hq : pc + 1 = q) (hv : lkp ls (z : Nat) = some (.ref x)) (kk : TK p l e R s m args below meth c D A Q cells slots ws q ls (.ref x :: rest)) : TK p l e R s m args below meth c D A Q cells slots ws pc ls rest := by
  subst hq
  intro H locs la hl hP hD hS
  exact lv_aload_n cx.1 cx.2.1 hd rfl (lkp_at hl hv) (kk H locs la hl hP hD hS)
theorem K_astore_n (cx : CK o p R s m meth c args cc own nL D cy A) {z : Fin 4} {i : Nat} {x : Nat} {ls' : List (Nat × Value)} (hd : decode cc pc = .ok (.astore_n z, 1)) (hq : pc + 1 = q) (hi : (z : Nat) = i) (hn : i < nL) (hls : (i, Value.ref x) :: ls.filter (fun q => !(q.1 == i) && !(q.1 + 1 == i && q.2.category == 2)) = ls') (kk : TK p l e R s m args below meth c D A Q cells slots ws q ls' rest) : TK p l e R s m args below meth c D A Q cells slots ws pc ls (.ref x :: rest) := by
  subst hq
  intro H locs la hl hP hD hS
  exact lv_astore_n cx.1 cx.2.1 hd hi hl (by rw [cx.2.2.1]; exact hn) hls (fun la' hl' => kk H locs la' hl' hP hD hS)
theorem K_iinc (cx : CK o p R s m meth c args cc own nL D cy A) {i j : Nat} {z : Int} {x v : Int32} {ls' : List (Nat × Value)} (hd : decode cc pc = .ok (.iinc i z, 3)) (hq : pc + 3 = q) (hk : ls[j]? = some (i, .int x)) (hv : x + Int32.ofInt z = v) (hn : i < nL) (hls : (i, Value.int v) :: ls.filter (fun q => !(q.1 == i) && !(q.1 + 1 == i && q.2.category == 2)) = ls') (kk : TK p l e R s m args below meth c D A Q cells slots ws q ls' rest) : TK p l e R s m args below meth c D A Q cells slots ws pc ls rest := by
  subst hq
  intro H locs la hl hP hD hS
  exact lv_iinc cx.1 cx.2.1 hd hl hk hv (by rw [cx.2.2.1]; exact hn) hls (fun la' hl' => kk H locs la' hl' hP hD hS)
theorem K_obj (cx : CK o p R s m meth c args cc own nL D cy A) {index a : Nat} (hd : decode cc pc = .ok (.invokespecial index, 3)) (hq : pc + 3 = q) (hw : Cond.methodLink own index objectInit ∈ lwG) (hw2 : Cond.instanceMethod objectInit ∈ lwG ∧ Cond.code objectInit ⟨#[0xb1]⟩ 1 none ∈ lwG) (hR : 1 ≤ R.frames) (hR2 : 60 ≤ R.locals) (hs : (rest.map fun v => v.category).sum ≤ 8) (kk : TK p l e R s m args below meth c D A Q cells slots ws q ls rest) : TK p l e R s m args below meth c D A Q cells slots ws pc ls (.ref a :: rest) := by
  subst hq
  intro H locs la hl hP hD hS
  obtain ⟨hx, hb, hml0, hown, hts, hK, hA, hO⟩ := cx
  refine W.objInit hx hb hown (hts _ hw) (hts _ hw2.1) (hts _ hw2.2) rfl hl.1 rfl hd hR (by show 2 * 0 + _ + 12 ≤ _; omega) ?_
  exact kk H locs la hl hP hD hS
theorem K_new (cx : CK o p R s m meth c args cc own nL D cy A) {index f N : Nat} {fs : List Value} {C : String} {T : u_T} {ty : Nat → FieldType} (hd : decode cc pc = .ok (.new index, 3)) (hq : pc + 3 = q) (hc : vwCl[f]? = some (C, T, N)) (hin : ∀ w ∈ u_ws C T N, w ∈ lwG) (hty : ∀ k, k < N → parseFieldDescriptor (T k).2.2.1 = some (ty k)) (hw : Cond.classLink own index C ∈ lwG ∧ Cond.instantiable C N ∈ lwG ∧ Cond.initialized C ∈ lwG) (hfs : ∀ j, j < N → defaultValue (ty j) = vp_V fs j) (hR : cells + 1 ≤ R.cells ∧ slots + N ≤ R.slots) (kk : ∀ a : Nat, TK p l e R s m args below meth c D A Q (cells + 1) (slots + N) (ws ++ [(a, .inr (f, fs))]) q ls (.ref a :: rest)) : TK p l e R s m args below meth c D A Q cells slots ws pc ls rest := by
  subst hq
  intro H locs la hl hP hD hS
  obtain ⟨hx, hb, hml0, hown, hts, hK, hA, hO⟩ := cx
  exact va_new hx hb hts hin ty hty hown (hts _ hw.1) (hts _ hw.2.1) (hts _ hw.2.2) hK hP hD hS hA hc hfs hR.1 hR.2 hd (fun a H1 hP1 hD1 hS1 => kk a H1 locs la hl hP1 hD1 hS1)
theorem tyl_same {U : State} {c1 : ClassId} {ty : FieldType} {j : Nat} (hK : va_K D vwCl (tyl cy) U) (hj : (tyl cy)[j]? = some (cy j, ty)) (hK2 : va_K D vwCl (tyl cy ++ [(c1, ty)]) U) : c1 = cy j := by
  have h1 := (hK.2 j _ hj).2
  have h2 := (hK2.2 (tyl cy).length (c1, ty) (by rw [List.getElem?_append_right (Nat.le_refl _), Nat.sub_self]; rfl)).2
  have e : ∀ (t : FieldType) (c2 : ClassId), va_RA U c2 t → U.vm.findClass ("[" ++ t.toString) = some c2 := by
    intro t c2 h
    cases t with
    | object C => obtain ⟨_, _, _, _, _, h4⟩ := h; exact h4
    | _ => exact h
  have e1 := e _ _ h1
  have e2 := e _ _ h2
  rw [e1] at e2
  exact (Option.some.inj e2).symm
theorem K_newa (cx : CK o p R s m meth c args cc own nL D cy A) {atype : ArrayType} {ty : FieldType} {j N' : Nat} {z : Int32} {a0 : vp_A} (hd : decode cc pc = .ok (.newarray atype, 2)) (hq : pc + 2 = q) (hty : newarray.typeOf atype = ty) (hw : Cond.arrayClass (newarray.typeOf atype) ∈ lwG) (hj : (tyl cy)[j]? = some (cy j, ty)) (ha : ∀ cA : ClassId, vp_cell cA a0 = arrV cA N' (fun _ => defaultValue ty)) (hn : ¬ z < 0) (hN : z.toNatClampNeg = N') (hbytes : N' * componentBytes ty ≤ 536870912) (hR : cells + 1 ≤ R.cells ∧ slots + N' ≤ R.slots) (kk : ∀ a : Nat, TK p l e R s m args below meth c D A Q (cells + 1) (slots + N') (ws ++ [(a, .inl (cy j, a0))]) q ls (.ref a :: rest)) : TK p l e R s m args below meth c D A Q cells slots ws pc ls (.int z :: rest) := by
  subst hq
  intro H locs la hl hP hD hS
  obtain ⟨hx, hb, hml0, hown, hts, hK, hA, hO⟩ := cx
  refine va_newa hx hb (hts _ hw) hty hK hP hD hS hA ha hn hN hbytes hR.1 hR.2 hd (fun a cA H1 hK1 hP1 hD1 hS1 => ?_)
  have e := tyl_same hK hj hK1
  subst e
  exact kk a H1 locs la hl hP1 hD1 hS1
theorem K_newq (cx : CK o p R s m meth c args cc own nL D cy A) {index j N' : Nat} {z : Int32} {C : String} (hd : decode cc pc = .ok (.anewarray index, 3)) (hq : pc + 3 = q) (hw : Cond.classLink own index C ∈ lwG) (hO : va_AO C s) (hj : (tyl cy)[j]? = some (cy j, .object C)) (hn : ¬ z < 0) (hN : z.toNatClampNeg = N') (hbytes : N' * 4 ≤ 536870912) (hR : cells + 1 ≤ R.cells ∧ slots + N' ≤ R.slots) (kk : ∀ a : Nat, TK p l e R s m args below meth c D A Q (cells + 1) (slots + N') (ws ++ [(a, .inl (cy j, N', .inr (.inr (.inr (.inr (fun _ => none))))))]) q ls (.ref a :: rest)) : TK p l e R s m args below meth c D A Q cells slots ws pc ls (.int z :: rest) := by
  subst hq
  intro H locs la hl hP hD hS
  obtain ⟨hx, hb, hml0, hown, hts, hK, hA, hO'⟩ := cx
  refine va_newq hx hb hown (hts _ hw) hO hK hP hD hS hA hn hN hbytes hR.1 hR.2 hd (fun a cA H1 hK1 hP1 hD1 hS1 => ?_)
  have e := tyl_same hK hj hK1
  subst e
  exact kk a H1 locs la hl hP1 hD1 hS1
theorem K_put (cx : CK o p R s m meth c args cc own nL D cy A) (hinit : meth.name = "<init>") {index f j a : Nat} {fs : List Value} {v : Value} {ty : FieldType} {ws' : va_W} (q0 : Nat) (hd : decode cc pc = .ok (.putfield index, 3)) (hq : pc + 3 = q) (cf : CF f) (hw : fLink own index f j ∈ lwG) (hj : j < kn f) (hown2 : (cT f j).1 = own) (hty : parseFieldDescriptor (cT f j).2.2.1 = some ty) (hn : narrow ty v = v) (hfit : fits ty v = true) (he : ws[q0]? = some (a, .inr (f, fs))) (hl2 : j < fs.length) (hws : ws.set q0 (a, .inr (f, fs.set j v)) = ws') (kk : TK p l e R s m args below meth c D A Q cells slots ws' q ls rest) : TK p l e R s m args below meth c D A Q cells slots ws pc ls (v :: .ref a :: rest) := by
  subst hq; subst hws
  intro H locs la hl hP hD hS
  obtain ⟨hx, hb, hml0, hown, hts, hK, hA, hO⟩ := cx
  obtain ⟨c1, c2, c3, c4, ⟨ty0, c5⟩, c6⟩ := cf
  by_cases hfin : (cT f j).2.2.2 = true
  · exact va_putF (D := D) (C := cN f) (T := cT f) (N := kn f) hx hb hts c2 ty0 c5 c6 hown hK hP hD hS q0 he c1 j hj (hts _ hw) (fun _ h => h) hfin hinit hown2 hty hn hfit hl2 hd (fun H1 locs1 hP1 hD1 hS1 => kk H1 locs1 la hl hP1 hD1 hS1)
  · exact va_put (D := D) (C := cN f) (T := cT f) (N := kn f) hx hb hts c2 ty0 c5 c6 hown hK hP hD hS q0 he c1 j hj (hts _ hw) (fun _ h => h) (by simpa using hfin) hty hn hfit hl2 hd (fun H1 locs1 hP1 hD1 hS1 => kk H1 locs1 la hl hP1 hD1 hS1)
theorem K_get (cx : CK o p R s m meth c args cc own nL D cy A) {index f j a : Nat} {fs : List Value} {v : Value} (q0 : Nat) (hd : decode cc pc = .ok (.getfield index, 3)) (hq : pc + 3 = q) (cf : CF f) (hw : fLink own index f j ∈ lwG) (hj : j < kn f) (he : ws[q0]? = some (a, .inr (f, fs))) (hv : fs[j]? = some v) (kk : TK p l e R s m args below meth c D A Q cells slots ws q ls (v :: rest)) : TK p l e R s m args below meth c D A Q cells slots ws pc ls (.ref a :: rest) := by
  subst hq
  intro H locs la hl hP hD hS
  obtain ⟨hx, hb, hml0, hown, hts, hK, hA, hO⟩ := cx
  obtain ⟨c1, c2, c3, c4, ⟨ty0, c5⟩, c6⟩ := cf
  exact va_get (D := D) (C := cN f) (T := cT f) (N := kn f) hx hb hts c2 hown hK hP q0 he c1 j hj (hts _ hw) (fun _ h => h) hv hd (kk H locs la hl hP hD hS)
theorem K_iast (cx : CK o p R s m meth c args cc own nL D cy A) {a N : Nat} {g g' : Nat → Int32} {x v : Int32} {ws' : va_W} (q0 : Nat) (hd : decode cc pc = .ok (.iastore, 1)) (hq : pc + 1 = q) (he : ws[q0]? = some (a, .inl (cy 0, N, .inl g))) (hin : vp_in x N) (hg : upd g x.toNatClampNeg v = g') (hws : ws.set q0 (a, .inl (cy 0, N, .inl g')) = ws') (kk : TK p l e R s m args below meth c D A Q cells slots ws' q ls rest) : TK p l e R s m args below meth c D A Q cells slots ws pc ls (.int v :: .int x :: .ref a :: rest) := by
  subst hq; subst hws; subst hg
  intro H locs la hl hP hD hS
  exact va_iast cx.1 cx.2.1 cx.2.2.2.2.2.1 hP hD hS q0 0 he rfl hin hd (fun H1 locs1 hP1 hD1 hS1 => kk H1 locs1 la hl hP1 hD1 hS1)
theorem K_astq (cx : CK o p R s m meth c args cc own nL D cy A) {a N v f j : Nat} {fs : List Value} {g g' : Nat → Option Nat} {x : Int32} {ws' : va_W} {r : vw_C} (q0 qk : Nat) (hd : decode cc pc = .ok (.aastore, 1)) (hq : pc + 1 = q) (he : ws[q0]? = some (a, .inl (cy j, N, .inr (.inr (.inr (.inr g)))))) (hj : (tyl cy)[j]? = some (cy j, .object r.1)) (hv : ws[qk]? = some (v, .inr (f, fs))) (hc : vwCl[f]? = some r) (hin : vp_in x N) (hg : va_up g x.toNatClampNeg (some v) = g') (hws : ws.set q0 (a, .inl (cy j, N, .inr (.inr (.inr (.inr g'))))) = ws') (kk : TK p l e R s m args below meth c D A Q cells slots ws' q ls rest) : TK p l e R s m args below meth c D A Q cells slots ws pc ls (.ref v :: .int x :: .ref a :: rest) := by
  subst hq; subst hws; subst hg
  intro H locs la hl hP hD hS
  exact va_astq cx.1 cx.2.1 cx.2.2.2.2.2.1 hP hD hS q0 j qk f he hj hv hc hin hd (fun H1 locs1 hP1 hD1 hS1 => kk H1 locs1 la hl hP1 hD1 hS1)
theorem K_alen (cx : CK o p R s m meth c args cc own nL D cy A) {a j : Nat} {x : vp_A} {ty : FieldType} {v : Int32} (q0 : Nat) (hd : decode cc pc = .ok (.arraylength, 1)) (hq : pc + 1 = q) (he : ws[q0]? = some (a, .inl (cy j, x))) (hj : (tyl cy)[j]? = some (cy j, ty)) (hv : Int32.ofNat x.1 = v) (kk : TK p l e R s m args below meth c D A Q cells slots ws q ls (.int v :: rest)) : TK p l e R s m args below meth c D A Q cells slots ws pc ls (.ref a :: rest) := by
  subst hq
  intro H locs la hl hP hD hS
  exact va_alen cx.1 cx.2.1 cx.2.2.2.2.2.1 hP q0 j he hj hv hd (kk H locs la hl hP hD hS)
theorem K_icmp_ge_y (cx : CK o p R s m meth c args cc own nL D cy A) {x y : Int32} {off : Int} {t : Nat} (hd : decode cc pc = .ok (.if_icmp .ge off, 3)) (ht : (pc : Int) + off = (t : Int)) (h : y ≤ x) (kk : TK p l e R s m args below meth c D A Q cells slots ws t ls rest) : TK p l e R s m args below meth c D A Q cells slots ws pc ls (.int y :: .int x :: rest) := by
  intro H locs la hl hP hD hS
  exact lv_icmp_ge cx.1 cx.2.1 hd ht (fun _ => kk H locs la hl hP hD hS) (fun z => absurd h z)
theorem K_icmp_ge_n (cx : CK o p R s m meth c args cc own nL D cy A) {x y : Int32} {off : Int} {t : Nat} (hd : decode cc pc = .ok (.if_icmp .ge off, 3)) (hq : pc + 3 = q) (ht : (pc : Int) + off = (t : Int)) (h : ¬ y ≤ x) (kk : TK p l e R s m args below meth c D A Q cells slots ws q ls rest) : TK p l e R s m args below meth c D A Q cells slots ws pc ls (.int y :: .int x :: rest) := by
  subst hq
  intro H locs la hl hP hD hS
  exact lv_icmp_ge cx.1 cx.2.1 hd ht (fun z => absurd z h) (fun _ => kk H locs la hl hP hD hS)
theorem K_goto (cx : CK o p R s m meth c args cc own nL D cy A) {off : Int} {t : Nat} (hd : decode cc pc = .ok (.goto off, 3)) (ht : (pc : Int) + off = (t : Int)) (kk : TK p l e R s m args below meth c D A Q cells slots ws t ls rest) : TK p l e R s m args below meth c D A Q cells slots ws pc ls rest := by
  intro H locs la hl hP hD hS
  exact lv_goto cx.1 cx.2.1 hd ht (kk H locs la hl hP hD hS)
theorem K_widen {cells' slots' : Nat} (h1 : cells ≤ cells') (h2 : slots ≤ slots') (kk : TK p l e R s m args below meth c D A Q cells' slots' ws pc ls rest) : TK p l e R s m args below meth c D A Q cells slots ws pc ls rest := fun H locs la hl hP hD hS => W.widen h1 h2 (kk H locs la hl hP hD hS)
theorem K_eq {ws' : va_W} (h : ws = ws') (kk : TK p l e R s m args below meth c D A Q cells slots ws' pc ls rest) : TK p l e R s m args below meth c D A Q cells slots ws pc ls rest := by subst h; exact kk
theorem K_call {y : MethodName} {bb : ByteArray} {mL d' mc ms nA index b : Nat} {As : List Value} {pre wr : va_W} {post : (Nat → Nat) → va_W} {ws' : (Nat → Nat) → va_W} {st : List Value} (cx : CK o p R s m meth c args cc own nL D cy A) (isC isR : List Nat) (hd : decode cc pc = .ok (.invokespecial index, 3)) (hq : pc + 3 = q) (hst : st = As.reverse ++ .ref b :: rest) (hw : Cond.methodLink own index y ∈ lwG ∧ Cond.instanceMethod y ∈ lwG ∧ Cond.initialized y.cls ∈ lwG ∧ Cond.code y bb mL none ∈ lwG ∧ y.name = "<init>" ∧ (y.cls ≠ "java/lang/invoke/MethodHandle" ∧ y.cls ≠ "java/lang/invoke/VarHandle") ∧ (parseMethodDescriptor y.desc).map (fun d => d.parameters.length) = some nA) (hA : As.length = nA) (hs : (rest.map fun v => v.category).sum ≤ 8) (hR : d' + 1 ≤ R.frames ∧ 8 + (mL + 11) + 60 * d' ≤ R.locals) (hR2 : cells + mc ≤ R.cells ∧ slots + ms ≤ R.slots) (hC : KT o l y bb mL d' mc ms D cy (.ref b :: As) pre post)
    (hCe : isC.map (fun i => ws[i]?) = pre.map some) (hRe : isR.map (fun i => ws[i]?) = wr.map some) (hnC : va_nd isC = true) (hnR : va_nd isR = true) (hdis : ∀ i ∈ isR, i ∉ isC) (hws : ∀ z, wr ++ post z = ws' z) (kk : ∀ z : Nat → Nat, TK p l e R s m args below meth c D A Q (cells + mc) (slots + ms) (ws' z) q ls rest) : TK p l e R s m args below meth c D A Q cells slots ws pc ls st := by
  subst hq; subst hst
  intro H locs la hl hP hD hS
  obtain ⟨hx, hb, hml0, hown, hts, hK, hA0, hO⟩ := cx
  obtain ⟨m1, m2, m3, m4, m5, m6, m7⟩ := hw
  have hfm : ∀ (is : List Nat) (w : va_W), is.map (fun i => ws[i]?) = w.map some → is.filterMap (fun i => ws[i]?) = w := by
    intro is
    induction is with
    | nil => intro w h; cases w with
      | nil => rfl
      | cons a w => cases h
    | cons i is ih => intro w h; cases w with
      | nil => cases h
      | cons a w =>
        rw [List.map_cons, List.map_cons] at h
        injection h with h1 h2
        rw [List.filterMap_cons, h1]
        show a :: _ = a :: w
        rw [ih w h2]
  have hPc := hP.sub (ws' := pre) isC (hfm isC pre hCe)
  have hDc := hD.sub (ws' := pre) isC hnC hCe
  have hFc := va_free (wc := pre) hD hS hA0 isC hCe
  have run := va_runI (b := b) (As := As) (rest := rest) (g := F0 m pc la (As.reverse ++ .ref b :: rest)) (locs := locs) (cells := cells) (slots := slots) (below := below) (meth := meth) (e := e) ⟨hx, hb, hml0, hown, hts⟩ (hC H.size) (cwI (own := own) (index := index) (R := R) nA hts (lwG_good (fun w h => (List.mem_cons.mp h).elim (fun e => e ▸ m4) id)) rfl rfl rfl (hts _ m3) (hts _ m1) (hts _ m2) m5 ⟨m6.1, m6.2, m7⟩ hR) ⟨KB_blind, fun U hU hW => ⟨rfl, by rw [hU], by rw [hU]; exact hPc, hDc.weaken (fun _ _ _ _ => trivial), va_K.moved hW.alike hK, hO.moved hW.alike⟩⟩ rfl hA (hml0 ▸ hl.1) rfl (lv_room hs) hd hR2
  intro T hT X
  obtain ⟨v, st₀, t, T', Lc, h0, X', hL, e1, e2, ⟨⟨hv, z, hP', hD'⟩, hF1, hF2⟩, go⟩ := run T hT X
  have hv2 : v = none := by injection hv
  subst hv2
  rw [h0] at hF1 hF2
  have hk1 : ∀ q : Nat, q < H.size → ¬ va_A pre H.size q → t.heap[q]? = H[q]? := hF2
  obtain ⟨hPj, hDj⟩ := va_join (wr := wr) (w1 := post z) hP hD isC isR hCe hRe hnR hdis hk1 hFc hP' hD'
  rw [hws] at hPj hDj
  obtain ⟨t2, a1, b1⟩ := kk z T'.heap (locs ++ Lc) la hl (by rw [e1]; exact hPj) hDj ⟨Nat.le_trans hS.1 (by rw [e1]; exact hF1), fun q h1 h2 => by
      rw [e1, hF2 q (Nat.lt_of_lt_of_le h1 hS.1) (fun w => h2 (hFc q w))]
      exact hS.2.1 q h1 h2, fun q hq => by
      rcases List.mem_append.mp hq with h | h
      · exact hS.2.2 q h
      · exact hFc _ (hL q h)⟩ T' rfl X'
  exact ⟨t2, go t2 a1, b1⟩
end TKR
