
def lwG : List Cond := lw_tbl.filter goodWord
theorem inG {w : Cond} (h : w ∈ lw_tbl) (g : goodWord w = true) : w ∈ lwG := List.mem_filter.mpr ⟨h, g⟩
theorem lwG_good {ws : List Cond} (h : ∀ w ∈ ws, w ∈ lwG) : GoodIn lwG ws := fun w hw => ⟨h w hw, good_of_word (List.mem_filter.mp (h w hw)).2⟩
theorem inT {w : Cond} (k : Nat) (h : tables_1[k]? = some w) : w ∈ lw_tbl := List.mem_append_right _ (List.mem_of_getElem? h)
theorem inS {w : Cond} (k : Nat) (h : (k2_sels lw_privs)[k]? = some w) : w ∈ lw_tbl := List.mem_append_left _ (List.mem_of_getElem? h)
def tyl (cy : Nat → ClassId) : List (ClassId × FieldType) := [(cy 0, .int), (cy 1, .byte), (cy 2, .boolean), (cy 3, .long), (cy 4, .object RX0), (cy 5, .object RX3), (cy 6, .object RX6)]
def rmk (d : Nat) : Room := { frames := d, cells := 0, slots := 0, locals := 60 * d }
def wQ {ρ : Type} (D : va_G) (cy : Nat → ClassId) (ad : Nat → Nat → Nat) (n : Nat → Nat) (toV : ρ → Option Value) (okr : ρ → Prop) (r : ρ) (S : St) (A : Nat → Prop) : Array Value → State → Outcome → State → Prop := fun _ st o t => (o = .returned (toV r) ∧ okr r ∧ wP D cy ad n S t.heap) ∧ va_F A st t
def wB (D : va_G) (cy : Nat → ClassId) (ad : Nat → Nat → Nat) (n : Nat → Nat) (S : St) (sz : Nat) : State → Prop := fun U => U.heap.size = sz ∧ wP D cy ad n S U.heap ∧ va_K D vwCl (tyl cy) U ∧ EX ad (wA ad n sz) U U.heap
/-- a method's contract: in any state of its cells for which 'res' is an answer and a state, it gives them -/
def CT {ρ : Type} (l : Launch) (y : MethodName) (b : ByteArray) (mL : Nat) (ret : Option FieldType) (d : Nat) (D : va_G) (cy : Nat → ClassId) (ad : Nat → Nat → Nat) (n : Nat → Nat) (toV : ρ → Option Value) (okr : ρ → Prop) (av : List Value) (S : St) (res : Option (ρ × St)) : Prop :=
  ∀ (r : ρ) (S1 : St), res = some (r, S1) → ∀ sz : Nat, Met l y (.code y b mL ret :: lwG) (rmk d) (va_Pc av (wB D cy ad n S sz)) (wQ D cy ad n toV okr r S1 (wA ad n sz)) 0 0 (wA ad n sz)
def CX (p : Program) (s : State) (m : MethodId) (meth : Method) (c : Code) (args : Array Value) (cc : ByteArray) (own : String) (nL : Nat) (ret : Option FieldType) (D : va_G) (cy : Nat → ClassId) (ad : Nat → Nat → Nat) (n : Nat → Nat) : Prop :=
  p.tables.exec = Jvm.exec ∧ c.code = cc ∧ c.maxLocals = nL ∧ s.vm.findClass own = some m.cls ∧ (∀ w ∈ lwG, w.before args s = true) ∧ va_K D vwCl (tyl cy) s ∧ wJ ad n ∧ EX ad (wA ad n s.heap.size) s s.heap ∧ meth.sig.returnType = ret ∧ meth.locks = false
def TG {ρ : Type} (p : Program) (l : Launch) (e : Env) (d : Nat) (s : State) (m : MethodId) (args : Array Value) (below : List Frame) (meth : Method) (c : Code) (D : va_G) (cy : Nat → ClassId) (ad : Nat → Nat → Nat) (n : Nat → Nat) (toV : ρ → Option Value) (okr : ρ → Prop) (S : St) (pc : Nat) (ls : List (Nat × Value)) (st : List Value) (res : Option (ρ × St)) : Prop :=
  ∀ (r : ρ) (S1 : St), res = some (r, S1) → ∀ (H : Heap) (locs : List Loc) (la : Array Slot), lv_has la c.maxLocals ls → wP D cy ad n S H → va_S (wA ad n s.heap.size) s.heap H locs →
    W p l e (rmk d) s m args below meth c H locs 0 0 (MQ below (wQ D cy ad n toV okr r S1 (wA ad n s.heap.size)) args s 0 0 (wA ad n s.heap.size)) (F0 m pc la st)
def bnd {ρ' ρ : Type} (x : Option (ρ' × St)) (K : ρ' → St → Option (ρ × St)) : Option (ρ × St) := match x with
  | some (r, S) => K r S
  | none => none
def toI : Int32 → Option Value := fun r => some (.int r)
def toJ : Int64 → Option Value := fun r => some (.long r)
def toU : Unit → Option Value := fun _ => none
def okT {ρ : Type} : ρ → Prop := fun _ => True
def okZ : Int32 → Prop := fun r => narrow .boolean (.int r) = .int r
def okC : Int32 → Prop := fun r => narrow .char (.int r) = .int r
def lkp (ls : List (Nat × Value)) (i : Nat) : Option Value := (ls.find? (fun q => q.1 == i)).map (fun q => q.2)
theorem lkp_at {la : Array Slot} {nL : Nat} {ls : List (Nat × Value)} {i : Nat} {v : Value} (h : lv_has la nL ls) (hk : lkp ls i = some v) : la[i]? = some (.val v) := by
  unfold lkp at hk
  cases hf : ls.find? (fun q => q.1 == i) with
  | none => rw [hf] at hk; cases hk
  | some q =>
    rw [hf] at hk
    cases hk
    have h1 := List.find?_some hf
    have h2 := h.2.2 q (List.mem_of_find?_eq_some hf)
    have h3 : q.1 = i := by simpa using h1
    rw [← h3]; exact h2
/-- a class of vwCl, whole -/
def cN : Nat → String := fun f => match f with
  | 0 => RX0
  | 1 => RX1
  | 2 => RX2
  | 3 => RX3
  | 4 => RX4
  | 5 => RX5
  | 6 => RX6
  | 7 => RX7
  | 8 => RX8
  | _ => ""
def cT : Nat → u_T := fun f => match f with
  | 0 => TX0
  | 1 => TX1
  | 2 => TX2
  | 3 => TX3
  | 4 => TX4
  | 5 => TX5
  | 6 => TX6
  | 7 => TX7
  | 8 => TX8
  | _ => fun _ => ("", "", "", false)
def CF (f : Nat) : Prop := vwCl[f]? = some (cN f, cT f, kn f) ∧ (∀ w ∈ u_ws (cN f) (cT f) (kn f), w ∈ lwG) ∧ ka f = 0 ∧ f < 64 ∧ (∃ ty0 : Nat → FieldType, ∀ k, k < kn f → parseFieldDescriptor (cT f k).2.2.1 = some (ty0 k)) ∧ ∀ a, a < kn f → ∀ b, b < kn f → a ≠ b → (cT f a).2.1 ≠ (cT f b).2.1
theorem cf_0 : CF 0 := ⟨rfl, fun w h => inG (inX0 w h) (by obtain ⟨k, -, rfl⟩ := List.mem_map.mp h; unfold u_lay; split <;> rfl), rfl, by decide, ⟨tyX0, tyX0_ok⟩, nmX0⟩
theorem cf_1 : CF 1 := ⟨rfl, fun w h => inG (inX1 w h) (by obtain ⟨k, -, rfl⟩ := List.mem_map.mp h; unfold u_lay; split <;> rfl), rfl, by decide, ⟨tyX1, tyX1_ok⟩, nmX1⟩
theorem cf_2 : CF 2 := ⟨rfl, fun w h => inG (inX2 w h) (by obtain ⟨k, -, rfl⟩ := List.mem_map.mp h; unfold u_lay; split <;> rfl), rfl, by decide, ⟨tyX2, tyX2_ok⟩, nmX2⟩
theorem cf_3 : CF 3 := ⟨rfl, fun w h => inG (inX3 w h) (by obtain ⟨k, -, rfl⟩ := List.mem_map.mp h; unfold u_lay; split <;> rfl), rfl, by decide, ⟨tyX3, tyX3_ok⟩, nmX3⟩
theorem cf_4 : CF 4 := ⟨rfl, fun w h => inG (inX4 w h) (by obtain ⟨k, -, rfl⟩ := List.mem_map.mp h; unfold u_lay; split <;> rfl), rfl, by decide, ⟨tyX4, tyX4_ok⟩, nmX4⟩
theorem cf_5 : CF 5 := ⟨rfl, fun w h => inG (inX5 w h) (by obtain ⟨k, -, rfl⟩ := List.mem_map.mp h; unfold u_lay; split <;> rfl), rfl, by decide, ⟨tyX5, tyX5_ok⟩, nmX5⟩
theorem cf_6 : CF 6 := ⟨rfl, fun w h => inG (inX6 w h) (by obtain ⟨k, -, rfl⟩ := List.mem_map.mp h; unfold u_lay; split <;> rfl), rfl, by decide, ⟨tyX6, tyX6_ok⟩, nmX6⟩
theorem cf_7 : CF 7 := ⟨rfl, fun w h => inG (inX7 w h) (by obtain ⟨k, -, rfl⟩ := List.mem_map.mp h; unfold u_lay; split <;> rfl), rfl, by decide, ⟨tyX7, tyX7_ok⟩, nmX7⟩
theorem cf_8 : CF 8 := ⟨rfl, fun w h => inG (inX8 w h) (by obtain ⟨k, -, rfl⟩ := List.mem_map.mp h; unfold u_lay; split <;> rfl), rfl, by decide, ⟨tyX8, tyX8_ok⟩, nmX8⟩
def fLink (own : String) (idx f j : Nat) : Cond := .fieldLink own idx (cT f j).1 (cT f j).2.1 (cT f j).2.2.1
/-- what a call's link says -/
def ML (own : String) (idx : Nat) (y : MethodName) (C : String) (b : ByteArray) (mL : Nat) (ret : Option FieldType) (nA : Nat) : Prop :=
  Cond.methodLink own idx y ∈ lwG ∧ Cond.instanceMethod y ∈ lwG ∧ Cond.selects C y y ∈ lwG ∧ Cond.initialized y.cls ∈ lwG ∧ Cond.code y b mL ret ∈ lwG ∧ (y.cls ≠ "java/lang/invoke/MethodHandle" ∧ y.cls ≠ "java/lang/invoke/VarHandle") ∧ (parseMethodDescriptor y.desc).map (fun d => d.parameters.length) = some nA
def MLs (own : String) (idx : Nat) (y : MethodName) (b : ByteArray) (mL : Nat) (ret : Option FieldType) (nA : Nat) : Prop :=
  Cond.methodLink own idx y ∈ lwG ∧ Cond.static y ∈ lwG ∧ Cond.initialized y.cls ∈ lwG ∧ Cond.code y b mL ret ∈ lwG ∧ (y.cls ≠ "java/lang/invoke/MethodHandle" ∧ y.cls ≠ "java/lang/invoke/VarHandle") ∧ (parseMethodDescriptor y.desc).map (fun d => d.parameters.length) = some nA
theorem wB_blind {D : va_G} {cy : Nat → ClassId} {ad : Nat → Nat → Nat} {n : Nat → Nat} {S : St} {sz : Nat} {av : List Value} : FrameBlind (va_Pc av (wB D cy ad n S sz)) := fun a U g mk q => ⟨q.1, q.2.1, q.2.2.1, va_K.moved (u := U) (U := U.calling g mk a) (Vm.Alike.refl U.vm) q.2.2.2.1, EX.same (s := U) (U := U.calling g mk a) rfl q.2.2.2.2⟩
/-- the entry -/
theorem CT.of {ρ : Type} {toV : ρ → Option Value} {okr : ρ → Prop} {l : Launch} {y : MethodName} {b : ByteArray} {mL : Nat} {ret : Option FieldType} {d : Nat} {D : va_G} {cy : Nat → ClassId} {ad : Nat → Nat → Nat} {n : Nat → Nat} {av : List Value} {S : St} {res : Option (ρ × St)} {ls : List (Nat × Value)} (own : String) (hy : plainName y.cls = true) (hown : y.cls = own) (hJ : wJ ad n) (hle : (lg_sl av).length ≤ mL) (hls : lv_args 0 av = ls)
    (body : ∀ (p : Program) (e : Env) (s : State) (m : MethodId) (below : List Frame) (meth : Method) (c : Code), CX p s m meth c av.toArray b own mL ret D cy ad n → TG p l e d s m av.toArray below meth c D cy ad n toV okr S 0 ls [] res) : CT l y b mL ret d D cy ad n toV okr av S res := by
  intro r S1 hr sz
  refine Met.ofW (cc := b) (maxL := mL) (ret := ret) hy rfl ?_
  intro p e s m args below meth c s₁ B hml hv
  obtain ⟨rfl, hsz, hP, hK, hE⟩ := hv
  subst hsz
  have hts := atoms_spec (ws := .code y b mL ret :: lwG) B.pre
  have ho : s.vm.findClass own = some m.cls := by rw [← hown]; exact findClass_of_methodNamed B.named
  have cx : CX p s m meth c av.toArray b own mL ret D cy ad n := ⟨B.exec, B.bytes, hml, ho, fun w hw => hts w (List.mem_cons_of_mem _ hw), hK, hJ, hE, B.returns, B.notSynchronized⟩
  rw [lg_entry_eq]
  have hl := lv_entry av (n := mL) hle
  rw [hls] at hl
  exact body p e s m below meth c cx r S1 hr s.heap [] _ (by rw [hml]; exact hl) hP va_S.rf
section TGR
variable {p : Program} {l : Launch} {e : Env} {d : Nat} {s : State} {m : MethodId} {args : Array Value} {below : List Frame} {meth : Method} {c : Code} {D : va_G} {cy : Nat → ClassId} {ad : Nat → Nat → Nat} {n : Nat → Nat} {ρ : Type} {toV : ρ → Option Value} {okr : ρ → Prop} {S : St} {pc q : Nat} {ls : List (Nat × Value)} {rest : List Value} {res : Option (ρ × St)} {cc : ByteArray} {own : String} {nL : Nat} {ret : Option FieldType}
theorem G_none {st : List Value} : TG p l e d s m args below meth c D cy ad n toV okr S pc ls st none := fun r S1 hr => by cases hr
theorem G_case {A B : Option (ρ × St)} {P : Prop} [Decidable P] {st : List Value} (h1 : P → TG p l e d s m args below meth c D cy ad n toV okr S pc ls st A) (h2 : ¬ P → TG p l e d s m args below meth c D cy ad n toV okr S pc ls st B) : TG p l e d s m args below meth c D cy ad n toV okr S pc ls st (if P then A else B) := by
  intro r S1 hr
  by_cases h : P
  · rw [if_pos h] at hr; exact h1 h r S1 hr
  · rw [if_neg h] at hr; exact h2 h r S1 hr
theorem G_guard {A : Option (ρ × St)} {P : Prop} [Decidable P] {st : List Value} (h1 : P → TG p l e d s m args below meth c D cy ad n toV okr S pc ls st A) : TG p l e d s m args below meth c D cy ad n toV okr S pc ls st (if P then A else none) := G_case h1 (fun _ => G_none)
theorem G_elim {A : Option (ρ × St)} {B : Nat → Option (ρ × St)} {x : Option Nat} {st : List Value} (h1 : x = none → TG p l e d s m args below meth c D cy ad n toV okr S pc ls st A) (h2 : ∀ a, x = some a → TG p l e d s m args below meth c D cy ad n toV okr S pc ls st (B a)) : TG p l e d s m args below meth c D cy ad n toV okr S pc ls st (x.elim A B) := by
  cases x with
  | none => exact h1 rfl
  | some a => exact h2 a rfl
theorem G_eq {st : List Value} {S' : St} {res' : Option (ρ × St)} (hS : S = S') (hr : res = res') (h : TG p l e d s m args below meth c D cy ad n toV okr S' pc ls st res') : TG p l e d s m args below meth c D cy ad n toV okr S pc ls st res := by subst hS; subst hr; exact h
/-- the locals in another order, or fewer -/
theorem G_loc {st : List Value} {ls' : List (Nat × Value)} (ks : List Nat) (hl : lv_pick ls ks = ls') (h : TG p l e d s m args below meth c D cy ad n toV okr S pc ls' st res) : TG p l e d s m args below meth c D cy ad n toV okr S pc ls st res := fun r S1 hr H locs la hla => h r S1 hr H locs la (lv_sub hla ks hl)
theorem G_iconst (cx : CX p s m meth c args cc own nL ret D cy ad n) {z : Int} {v : Int32} (hd : decode cc pc = .ok (.iconst z, 1)) (hq : pc + 1 = q) (hv : Int32.ofInt z = v) (k : TG p l e d s m args below meth c D cy ad n toV okr S q ls (.int v :: rest) res) : TG p l e d s m args below meth c D cy ad n toV okr S pc ls rest res := by
  subst hq
  intro r S1 hr H locs la hl hP hS
  exact lv_iconst cx.1 cx.2.1 hd hv (k r S1 hr H locs la hl hP hS)
theorem G_bipush (cx : CX p s m meth c args cc own nL ret D cy ad n) {z : Int} {v : Int32} (hd : decode cc pc = .ok (.bipush z, 2)) (hq : pc + 2 = q) (hv : (Int8.ofInt z).toInt32 = v) (k : TG p l e d s m args below meth c D cy ad n toV okr S q ls (.int v :: rest) res) : TG p l e d s m args below meth c D cy ad n toV okr S pc ls rest res := by
  subst hq
  intro r S1 hr H locs la hl hP hS
  exact lv_bipush cx.1 cx.2.1 hd hv (k r S1 hr H locs la hl hP hS)
theorem G_sipush (cx : CX p s m meth c args cc own nL ret D cy ad n) {z : Int} {v : Int32} (hd : decode cc pc = .ok (.sipush z, 3)) (hq : pc + 3 = q) (hv : (Int16.ofInt z).toInt32 = v) (k : TG p l e d s m args below meth c D cy ad n toV okr S q ls (.int v :: rest) res) : TG p l e d s m args below meth c D cy ad n toV okr S pc ls rest res := by
  subst hq
  intro r S1 hr H locs la hl hP hS
  exact lv_sipush cx.1 cx.2.1 hd hv (k r S1 hr H locs la hl hP hS)
theorem G_lconst (cx : CX p s m meth c args cc own nL ret D cy ad n) {z : Fin 2} {v : Int64} (hd : decode cc pc = .ok (.lconst z, 1)) (hq : pc + 1 = q) (hv : Int64.ofNat (z : Nat) = v) (k : TG p l e d s m args below meth c D cy ad n toV okr S q ls (.long v :: rest) res) : TG p l e d s m args below meth c D cy ad n toV okr S pc ls rest res := by
  subst hq
  intro r S1 hr H locs la hl hP hS
  exact lv_lconst cx.1 cx.2.1 hd hv (k r S1 hr H locs la hl hP hS)
theorem G_iload_n (cx : CX p s m meth c args cc own nL ret D cy ad n) {z : Fin 4} {x : Int32} (hd : decode cc pc = .ok (.iload_n z, 1)) (hq : pc + 1 = q) (hv : lkp ls (z : Nat) = some (.int x)) (k : TG p l e d s m args below meth c D cy ad n toV okr S q ls (.int x :: rest) res) : TG p l e d s m args below meth c D cy ad n toV okr S pc ls rest res := by
  subst hq
  intro r S1 hr H locs la hl hP hS
  exact lv_iload_n cx.1 cx.2.1 hd rfl (lkp_at hl hv) (k r S1 hr H locs la hl hP hS)
theorem G_iload (cx : CX p s m meth c args cc own nL ret D cy ad n) {z : Nat} {x : Int32} (hd : decode cc pc = .ok (.iload z, 2)) (hq : pc + 2 = q) (hv : lkp ls z = some (.int x)) (k : TG p l e d s m args below meth c D cy ad n toV okr S q ls (.int x :: rest) res) : TG p l e d s m args below meth c D cy ad n toV okr S pc ls rest res := by
  subst hq
  intro r S1 hr H locs la hl hP hS
  exact lv_iload cx.1 cx.2.1 hd (lkp_at hl hv) (k r S1 hr H locs la hl hP hS)
theorem G_istore_n (cx : CX p s m meth c args cc own nL ret D cy ad n) {z : Fin 4} {i : Nat} {x : Int32} {ls' : List (Nat × Value)} (hd : decode cc pc = .ok (.istore_n z, 1)) (hq : pc + 1 = q) (hi : (z : Nat) = i) (hn : i < nL) (hls : (i, Value.int x) :: ls.filter (fun q => !(q.1 == i) && !(q.1 + 1 == i && q.2.category == 2)) = ls') (k : TG p l e d s m args below meth c D cy ad n toV okr S q ls' rest res) : TG p l e d s m args below meth c D cy ad n toV okr S pc ls (.int x :: rest) res := by
  subst hq
  intro r S1 hr H locs la hl hP hS
  exact lv_istore_n cx.1 cx.2.1 hd hi hl (by rw [cx.2.2.1]; exact hn) hls (fun la' hl' => k r S1 hr H locs la' hl' hP hS)
theorem G_istore (cx : CX p s m meth c args cc own nL ret D cy ad n) {i : Nat} {x : Int32} {ls' : List (Nat × Value)} (hd : decode cc pc = .ok (.istore i, 2)) (hq : pc + 2 = q) (hn : i < nL) (hls : (i, Value.int x) :: ls.filter (fun q => !(q.1 == i) && !(q.1 + 1 == i && q.2.category == 2)) = ls') (k : TG p l e d s m args below meth c D cy ad n toV okr S q ls' rest res) : TG p l e d s m args below meth c D cy ad n toV okr S pc ls (.int x :: rest) res := by
  subst hq
  intro r S1 hr H locs la hl hP hS
  exact lv_istore cx.1 cx.2.1 hd hl (by rw [cx.2.2.1]; exact hn) hls (fun la' hl' => k r S1 hr H locs la' hl' hP hS)
theorem G_lload_n (cx : CX p s m meth c args cc own nL ret D cy ad n) {z : Fin 4} {x : Int64} (hd : decode cc pc = .ok (.lload_n z, 1)) (hq : pc + 1 = q) (hv : lkp ls (z : Nat) = some (.long x)) (k : TG p l e d s m args below meth c D cy ad n toV okr S q ls (.long x :: rest) res) : TG p l e d s m args below meth c D cy ad n toV okr S pc ls rest res := by
  subst hq
  intro r S1 hr H locs la hl hP hS
  exact lv_lload_n cx.1 cx.2.1 hd rfl (lkp_at hl hv) (k r S1 hr H locs la hl hP hS)
theorem G_lload (cx : CX p s m meth c args cc own nL ret D cy ad n) {z : Nat} {x : Int64} (hd : decode cc pc = .ok (.lload z, 2)) (hq : pc + 2 = q) (hv : lkp ls z = some (.long x)) (k : TG p l e d s m args below meth c D cy ad n toV okr S q ls (.long x :: rest) res) : TG p l e d s m args below meth c D cy ad n toV okr S pc ls rest res := by
  subst hq
  intro r S1 hr H locs la hl hP hS
  exact lv_lload cx.1 cx.2.1 hd (lkp_at hl hv) (k r S1 hr H locs la hl hP hS)
theorem G_lstore_n (cx : CX p s m meth c args cc own nL ret D cy ad n) {z : Fin 4} {i : Nat} {x : Int64} {ls' : List (Nat × Value)} (hd : decode cc pc = .ok (.lstore_n z, 1)) (hq : pc + 1 = q) (hi : (z : Nat) = i) (hn : i + 1 < nL) (hls : (i, Value.long x) :: ls.filter (fun q => !(q.1 == i) && (!(q.1 == i + 1) && !(q.1 + 1 == i && q.2.category == 2))) = ls') (k : TG p l e d s m args below meth c D cy ad n toV okr S q ls' rest res) : TG p l e d s m args below meth c D cy ad n toV okr S pc ls (.long x :: rest) res := by
  subst hq
  intro r S1 hr H locs la hl hP hS
  exact lv_lstore_n cx.1 cx.2.1 hd hi hl (by rw [cx.2.2.1]; exact hn) hls (fun la' hl' => k r S1 hr H locs la' hl' hP hS)
theorem G_lstore (cx : CX p s m meth c args cc own nL ret D cy ad n) {i : Nat} {x : Int64} {ls' : List (Nat × Value)} (hd : decode cc pc = .ok (.lstore i, 2)) (hq : pc + 2 = q) (hn : i + 1 < nL) (hls : (i, Value.long x) :: ls.filter (fun q => !(q.1 == i) && (!(q.1 == i + 1) && !(q.1 + 1 == i && q.2.category == 2))) = ls') (k : TG p l e d s m args below meth c D cy ad n toV okr S q ls' rest res) : TG p l e d s m args below meth c D cy ad n toV okr S pc ls (.long x :: rest) res := by
  subst hq
  intro r S1 hr H locs la hl hP hS
  exact lv_lstore cx.1 cx.2.1 hd hl (by rw [cx.2.2.1]; exact hn) hls (fun la' hl' => k r S1 hr H locs la' hl' hP hS)
theorem G_aload_n (cx : CX p s m meth c args cc own nL ret D cy ad n) {z : Fin 4} {x : Nat} (hd : decode cc pc = .ok (.aload_n z, 1)) (hq : pc + 1 = q) (hv : lkp ls (z : Nat) = some (.ref x)) (k : TG p l e d s m args below meth c D cy ad n toV okr S q ls (.ref x :: rest) res) : TG p l e d s m args below meth c D cy ad n toV okr S pc ls rest res := by
  subst hq
  intro r S1 hr H locs la hl hP hS
  exact lv_aload_n cx.1 cx.2.1 hd rfl (lkp_at hl hv) (k r S1 hr H locs la hl hP hS)
theorem G_aload (cx : CX p s m meth c args cc own nL ret D cy ad n) {z : Nat} {x : Nat} (hd : decode cc pc = .ok (.aload z, 2)) (hq : pc + 2 = q) (hv : lkp ls z = some (.ref x)) (k : TG p l e d s m args below meth c D cy ad n toV okr S q ls (.ref x :: rest) res) : TG p l e d s m args below meth c D cy ad n toV okr S pc ls rest res := by
  subst hq
  intro r S1 hr H locs la hl hP hS
  exact lv_aload cx.1 cx.2.1 hd (lkp_at hl hv) (k r S1 hr H locs la hl hP hS)
theorem G_astore_n (cx : CX p s m meth c args cc own nL ret D cy ad n) {z : Fin 4} {i : Nat} {x : Nat} {ls' : List (Nat × Value)} (hd : decode cc pc = .ok (.astore_n z, 1)) (hq : pc + 1 = q) (hi : (z : Nat) = i) (hn : i < nL) (hls : (i, Value.ref x) :: ls.filter (fun q => !(q.1 == i) && !(q.1 + 1 == i && q.2.category == 2)) = ls') (k : TG p l e d s m args below meth c D cy ad n toV okr S q ls' rest res) : TG p l e d s m args below meth c D cy ad n toV okr S pc ls (.ref x :: rest) res := by
  subst hq
  intro r S1 hr H locs la hl hP hS
  exact lv_astore_n cx.1 cx.2.1 hd hi hl (by rw [cx.2.2.1]; exact hn) hls (fun la' hl' => k r S1 hr H locs la' hl' hP hS)
theorem G_astore (cx : CX p s m meth c args cc own nL ret D cy ad n) {i : Nat} {x : Nat} {ls' : List (Nat × Value)} (hd : decode cc pc = .ok (.astore i, 2)) (hq : pc + 2 = q) (hn : i < nL) (hls : (i, Value.ref x) :: ls.filter (fun q => !(q.1 == i) && !(q.1 + 1 == i && q.2.category == 2)) = ls') (k : TG p l e d s m args below meth c D cy ad n toV okr S q ls' rest res) : TG p l e d s m args below meth c D cy ad n toV okr S pc ls (.ref x :: rest) res := by
  subst hq
  intro r S1 hr H locs la hl hP hS
  exact lv_astore cx.1 cx.2.1 hd hl (by rw [cx.2.2.1]; exact hn) hls (fun la' hl' => k r S1 hr H locs la' hl' hP hS)
theorem G_iinc (cx : CX p s m meth c args cc own nL ret D cy ad n) {i j : Nat} {z : Int} {x v : Int32} {ls' : List (Nat × Value)} (hd : decode cc pc = .ok (.iinc i z, 3)) (hq : pc + 3 = q) (hk : ls[j]? = some (i, .int x)) (hv : x + Int32.ofInt z = v) (hn : i < nL) (hls : (i, Value.int v) :: ls.filter (fun q => !(q.1 == i) && !(q.1 + 1 == i && q.2.category == 2)) = ls') (k : TG p l e d s m args below meth c D cy ad n toV okr S q ls' rest res) : TG p l e d s m args below meth c D cy ad n toV okr S pc ls rest res := by
  subst hq
  intro r S1 hr H locs la hl hP hS
  exact lv_iinc cx.1 cx.2.1 hd hl hk hv (by rw [cx.2.2.1]; exact hn) hls (fun la' hl' => k r S1 hr H locs la' hl' hP hS)
theorem G_iadd (cx : CX p s m meth c args cc own nL ret D cy ad n) {x y : Int32} (hd : decode cc pc = .ok (.iadd, 1)) (hq : pc + 1 = q)  (k : TG p l e d s m args below meth c D cy ad n toV okr S q ls (.int (x + y) :: rest) res) : TG p l e d s m args below meth c D cy ad n toV okr S pc ls (.int y :: .int x :: rest) res := by
  subst hq
  intro r S1 hr H locs la hl hP hS
  exact lv_iadd cx.1 cx.2.1 hd  (k r S1 hr H locs la hl hP hS)
theorem G_isub (cx : CX p s m meth c args cc own nL ret D cy ad n) {x y : Int32} (hd : decode cc pc = .ok (.isub, 1)) (hq : pc + 1 = q)  (k : TG p l e d s m args below meth c D cy ad n toV okr S q ls (.int (x - y) :: rest) res) : TG p l e d s m args below meth c D cy ad n toV okr S pc ls (.int y :: .int x :: rest) res := by
  subst hq
  intro r S1 hr H locs la hl hP hS
  exact lv_isub cx.1 cx.2.1 hd  (k r S1 hr H locs la hl hP hS)
theorem G_imul (cx : CX p s m meth c args cc own nL ret D cy ad n) {x y : Int32} (hd : decode cc pc = .ok (.imul, 1)) (hq : pc + 1 = q)  (k : TG p l e d s m args below meth c D cy ad n toV okr S q ls (.int (x * y) :: rest) res) : TG p l e d s m args below meth c D cy ad n toV okr S pc ls (.int y :: .int x :: rest) res := by
  subst hq
  intro r S1 hr H locs la hl hP hS
  exact lv_imul cx.1 cx.2.1 hd  (k r S1 hr H locs la hl hP hS)
theorem G_iand (cx : CX p s m meth c args cc own nL ret D cy ad n) {x y : Int32} (hd : decode cc pc = .ok (.iand, 1)) (hq : pc + 1 = q)  (k : TG p l e d s m args below meth c D cy ad n toV okr S q ls (.int (x &&& y) :: rest) res) : TG p l e d s m args below meth c D cy ad n toV okr S pc ls (.int y :: .int x :: rest) res := by
  subst hq
  intro r S1 hr H locs la hl hP hS
  exact lv_iand cx.1 cx.2.1 hd  (k r S1 hr H locs la hl hP hS)
theorem G_ior (cx : CX p s m meth c args cc own nL ret D cy ad n) {x y : Int32} (hd : decode cc pc = .ok (.ior, 1)) (hq : pc + 1 = q)  (k : TG p l e d s m args below meth c D cy ad n toV okr S q ls (.int (x ||| y) :: rest) res) : TG p l e d s m args below meth c D cy ad n toV okr S pc ls (.int y :: .int x :: rest) res := by
  subst hq
  intro r S1 hr H locs la hl hP hS
  exact lv_ior cx.1 cx.2.1 hd  (k r S1 hr H locs la hl hP hS)
theorem G_ixor (cx : CX p s m meth c args cc own nL ret D cy ad n) {x y : Int32} (hd : decode cc pc = .ok (.ixor, 1)) (hq : pc + 1 = q)  (k : TG p l e d s m args below meth c D cy ad n toV okr S q ls (.int (x ^^^ y) :: rest) res) : TG p l e d s m args below meth c D cy ad n toV okr S pc ls (.int y :: .int x :: rest) res := by
  subst hq
  intro r S1 hr H locs la hl hP hS
  exact lv_ixor cx.1 cx.2.1 hd  (k r S1 hr H locs la hl hP hS)
theorem G_ishl (cx : CX p s m meth c args cc own nL ret D cy ad n) {x y : Int32} (hd : decode cc pc = .ok (.ishl, 1)) (hq : pc + 1 = q)  (k : TG p l e d s m args below meth c D cy ad n toV okr S q ls (.int (x <<< (y &&& 31)) :: rest) res) : TG p l e d s m args below meth c D cy ad n toV okr S pc ls (.int y :: .int x :: rest) res := by
  subst hq
  intro r S1 hr H locs la hl hP hS
  exact lv_ishl cx.1 cx.2.1 hd  (k r S1 hr H locs la hl hP hS)
theorem G_ishr (cx : CX p s m meth c args cc own nL ret D cy ad n) {x y : Int32} (hd : decode cc pc = .ok (.ishr, 1)) (hq : pc + 1 = q)  (k : TG p l e d s m args below meth c D cy ad n toV okr S q ls (.int (x >>> (y &&& 31)) :: rest) res) : TG p l e d s m args below meth c D cy ad n toV okr S pc ls (.int y :: .int x :: rest) res := by
  subst hq
  intro r S1 hr H locs la hl hP hS
  exact lv_ishr cx.1 cx.2.1 hd  (k r S1 hr H locs la hl hP hS)
theorem G_idiv (cx : CX p s m meth c args cc own nL ret D cy ad n) {x y : Int32} (hd : decode cc pc = .ok (.idiv, 1)) (hq : pc + 1 = q) (hy : ¬ y = 0) (k : TG p l e d s m args below meth c D cy ad n toV okr S q ls (.int (x / y) :: rest) res) : TG p l e d s m args below meth c D cy ad n toV okr S pc ls (.int y :: .int x :: rest) res := by
  subst hq
  intro r S1 hr H locs la hl hP hS
  exact lv_idiv cx.1 cx.2.1 hd hy (k r S1 hr H locs la hl hP hS)
theorem G_irem (cx : CX p s m meth c args cc own nL ret D cy ad n) {x y : Int32} (hd : decode cc pc = .ok (.irem, 1)) (hq : pc + 1 = q) (hy : ¬ y = 0) (k : TG p l e d s m args below meth c D cy ad n toV okr S q ls (.int (x - x / y * y) :: rest) res) : TG p l e d s m args below meth c D cy ad n toV okr S pc ls (.int y :: .int x :: rest) res := by
  subst hq
  intro r S1 hr H locs la hl hP hS
  exact lv_irem cx.1 cx.2.1 hd hy (k r S1 hr H locs la hl hP hS)
theorem G_ineg (cx : CX p s m meth c args cc own nL ret D cy ad n) {x : Int32} (hd : decode cc pc = .ok (.ineg, 1)) (hq : pc + 1 = q)  (k : TG p l e d s m args below meth c D cy ad n toV okr S q ls (.int (-x) :: rest) res) : TG p l e d s m args below meth c D cy ad n toV okr S pc ls (.int x :: rest) res := by
  subst hq
  intro r S1 hr H locs la hl hP hS
  exact lv_ineg cx.1 cx.2.1 hd  (k r S1 hr H locs la hl hP hS)
theorem G_land (cx : CX p s m meth c args cc own nL ret D cy ad n) {x y : Int64} (hd : decode cc pc = .ok (.land, 1)) (hq : pc + 1 = q)  (k : TG p l e d s m args below meth c D cy ad n toV okr S q ls (.long (x &&& y) :: rest) res) : TG p l e d s m args below meth c D cy ad n toV okr S pc ls (.long y :: .long x :: rest) res := by
  subst hq
  intro r S1 hr H locs la hl hP hS
  exact lv_land cx.1 cx.2.1 hd  (k r S1 hr H locs la hl hP hS)
theorem G_lor (cx : CX p s m meth c args cc own nL ret D cy ad n) {x y : Int64} (hd : decode cc pc = .ok (.lor, 1)) (hq : pc + 1 = q)  (k : TG p l e d s m args below meth c D cy ad n toV okr S q ls (.long (x ||| y) :: rest) res) : TG p l e d s m args below meth c D cy ad n toV okr S pc ls (.long y :: .long x :: rest) res := by
  subst hq
  intro r S1 hr H locs la hl hP hS
  exact lv_lor cx.1 cx.2.1 hd  (k r S1 hr H locs la hl hP hS)
theorem G_lshl (cx : CX p s m meth c args cc own nL ret D cy ad n) {x : Int64} {y : Int32} (hd : decode cc pc = .ok (.lshl, 1)) (hq : pc + 1 = q)  (k : TG p l e d s m args below meth c D cy ad n toV okr S q ls (.long (x <<< (y.toInt64 &&& 63)) :: rest) res) : TG p l e d s m args below meth c D cy ad n toV okr S pc ls (.int y :: .long x :: rest) res := by
  subst hq
  intro r S1 hr H locs la hl hP hS
  exact lv_lshl cx.1 cx.2.1 hd rfl (k r S1 hr H locs la hl hP hS)
theorem G_i2l (cx : CX p s m meth c args cc own nL ret D cy ad n) {x : Int32} (hd : decode cc pc = .ok (.i2l, 1)) (hq : pc + 1 = q)  (k : TG p l e d s m args below meth c D cy ad n toV okr S q ls (.long x.toInt64 :: rest) res) : TG p l e d s m args below meth c D cy ad n toV okr S pc ls (.int x :: rest) res := by
  subst hq
  intro r S1 hr H locs la hl hP hS
  exact lv_i2l cx.1 cx.2.1 hd rfl (k r S1 hr H locs la hl hP hS)
theorem G_l2i (cx : CX p s m meth c args cc own nL ret D cy ad n) {x : Int64} (hd : decode cc pc = .ok (.l2i, 1)) (hq : pc + 1 = q)  (k : TG p l e d s m args below meth c D cy ad n toV okr S q ls (.int x.toInt32 :: rest) res) : TG p l e d s m args below meth c D cy ad n toV okr S pc ls (.long x :: rest) res := by
  subst hq
  intro r S1 hr H locs la hl hP hS
  exact lv_l2i cx.1 cx.2.1 hd rfl (k r S1 hr H locs la hl hP hS)
theorem G_i2b (cx : CX p s m meth c args cc own nL ret D cy ad n) {x : Int32} (hd : decode cc pc = .ok (.i2b, 1)) (hq : pc + 1 = q)  (k : TG p l e d s m args below meth c D cy ad n toV okr S q ls (.int x.toInt8.toInt32 :: rest) res) : TG p l e d s m args below meth c D cy ad n toV okr S pc ls (.int x :: rest) res := by
  subst hq
  intro r S1 hr H locs la hl hP hS
  exact lv_i2b cx.1 cx.2.1 hd rfl (k r S1 hr H locs la hl hP hS)
theorem G_i2s (cx : CX p s m meth c args cc own nL ret D cy ad n) {x : Int32} (hd : decode cc pc = .ok (.i2s, 1)) (hq : pc + 1 = q)  (k : TG p l e d s m args below meth c D cy ad n toV okr S q ls (.int x.toInt16.toInt32 :: rest) res) : TG p l e d s m args below meth c D cy ad n toV okr S pc ls (.int x :: rest) res := by
  subst hq
  intro r S1 hr H locs la hl hP hS
  exact lv_i2s cx.1 cx.2.1 hd rfl (k r S1 hr H locs la hl hP hS)
theorem G_i2c (cx : CX p s m meth c args cc own nL ret D cy ad n) {x : Int32} (hd : decode cc pc = .ok (.i2c, 1)) (hq : pc + 1 = q)  (k : TG p l e d s m args below meth c D cy ad n toV okr S q ls (.int (x.toUInt32 % 65536).toInt32 :: rest) res) : TG p l e d s m args below meth c D cy ad n toV okr S pc ls (.int x :: rest) res := by
  subst hq
  intro r S1 hr H locs la hl hP hS
  exact lv_i2c cx.1 cx.2.1 hd rfl (k r S1 hr H locs la hl hP hS)
theorem G_lcmp (cx : CX p s m meth c args cc own nL ret D cy ad n) {x y : Int64} (hd : decode cc pc = .ok (.lcmp, 1)) (hq : pc + 1 = q)  (k : TG p l e d s m args below meth c D cy ad n toV okr S q ls (.int (lg_cmp x y) :: rest) res) : TG p l e d s m args below meth c D cy ad n toV okr S pc ls (.long y :: .long x :: rest) res := by
  subst hq
  intro r S1 hr H locs la hl hP hS
  exact W.lcmp cx.1 cx.2.1 hd  (k r S1 hr H locs la hl hP hS)
theorem G_dup (cx : CX p s m meth c args cc own nL ret D cy ad n) {va : Value} (hd : decode cc pc = .ok (.dup, 1)) (hq : pc + 1 = q) (hva : va.category = 1) (k : TG p l e d s m args below meth c D cy ad n toV okr S q ls (va :: va :: rest) res) : TG p l e d s m args below meth c D cy ad n toV okr S pc ls (va :: rest) res := by
  subst hq
  intro r S1 hr H locs la hl hP hS
  exact lv_dup cx.1 cx.2.1 hd hva (k r S1 hr H locs la hl hP hS)
theorem G_pop (cx : CX p s m meth c args cc own nL ret D cy ad n) {va : Value} (hd : decode cc pc = .ok (.pop, 1)) (hq : pc + 1 = q) (hva : va.category = 1) (k : TG p l e d s m args below meth c D cy ad n toV okr S q ls rest res) : TG p l e d s m args below meth c D cy ad n toV okr S pc ls (va :: rest) res := by
  subst hq
  intro r S1 hr H locs la hl hP hS
  exact lv_pop cx.1 cx.2.1 hd hva (k r S1 hr H locs la hl hP hS)
theorem G_null (cx : CX p s m meth c args cc own nL ret D cy ad n)  (hd : decode cc pc = .ok (.aconst_null, 1)) (hq : pc + 1 = q)  (k : TG p l e d s m args below meth c D cy ad n toV okr S q ls (.null :: rest) res) : TG p l e d s m args below meth c D cy ad n toV okr S pc ls rest res := by
  subst hq
  intro r S1 hr H locs la hl hP hS
  exact lv_null cx.1 cx.2.1 hd  (k r S1 hr H locs la hl hP hS)
theorem G_dup2 (cx : CX p s m meth c args cc own nL ret D cy ad n) {va vb : Value} (hd : decode cc pc = .ok (.dup2, 1)) (hq : pc + 1 = q) (hva : va.category = 1) (hvb : vb.category = 1) (k : TG p l e d s m args below meth c D cy ad n toV okr S q ls (va :: vb :: va :: vb :: rest) res) : TG p l e d s m args below meth c D cy ad n toV okr S pc ls (va :: vb :: rest) res := by
  subst hq
  intro r S1 hr H locs la hl hP hS
  exact lv_dup2_11 cx.1 cx.2.1 hd hva hvb (k r S1 hr H locs la hl hP hS)
theorem G_if_ne (cx : CX p s m meth c args cc own nL ret D cy ad n) {x : Int32} {off : Int} {t : Nat} (hd : decode cc pc = .ok (.ifCond .ne off, 3)) (hq : pc + 3 = q) (ht : (pc : Int) + off = (t : Int)) {A B : Option (ρ × St)} (kt : ¬ (x = 0) → TG p l e d s m args below meth c D cy ad n toV okr S t ls rest A) (kf : x = 0 → TG p l e d s m args below meth c D cy ad n toV okr S q ls rest B) : TG p l e d s m args below meth c D cy ad n toV okr S pc ls (.int x :: rest) (if x = 0 then B else A) := by
  subst hq
  intro r S1 hr H locs la hl hP hS
  refine lv_if_ne cx.1 cx.2.1 hd ht (fun h => ?_) (fun h => ?_)
  · rw [if_neg h] at hr; exact kt h r S1 hr H locs la hl hP hS
  · rw [if_pos h] at hr; exact kf h r S1 hr H locs la hl hP hS
theorem G_if_ne_y (cx : CX p s m meth c args cc own nL ret D cy ad n) {x : Int32} {off : Int} {t : Nat} (hd : decode cc pc = .ok (.ifCond .ne off, 3)) (hq : pc + 3 = q) (ht : (pc : Int) + off = (t : Int)) (h : ¬ (x = 0)) (k : TG p l e d s m args below meth c D cy ad n toV okr S t ls rest res) : TG p l e d s m args below meth c D cy ad n toV okr S pc ls (.int x :: rest) res := by
  subst hq
  intro r S1 hr H locs la hl hP hS
  exact lv_if_ne cx.1 cx.2.1 hd ht (fun _ => k r S1 hr H locs la hl hP hS) (fun z => absurd z h)
theorem G_if_ne_n (cx : CX p s m meth c args cc own nL ret D cy ad n) {x : Int32} {off : Int} {t : Nat} (hd : decode cc pc = .ok (.ifCond .ne off, 3)) (hq : pc + 3 = q) (ht : (pc : Int) + off = (t : Int)) (h : x = 0) (k : TG p l e d s m args below meth c D cy ad n toV okr S q ls rest res) : TG p l e d s m args below meth c D cy ad n toV okr S pc ls (.int x :: rest) res := by
  subst hq
  intro r S1 hr H locs la hl hP hS
  exact lv_if_ne cx.1 cx.2.1 hd ht (fun z => absurd h z) (fun _ => k r S1 hr H locs la hl hP hS)
theorem G_icmp_ne (cx : CX p s m meth c args cc own nL ret D cy ad n) {x y : Int32} {off : Int} {t : Nat} (hd : decode cc pc = .ok (.if_icmp .ne off, 3)) (hq : pc + 3 = q) (ht : (pc : Int) + off = (t : Int)) {A B : Option (ρ × St)} (kt : ¬ (x = y) → TG p l e d s m args below meth c D cy ad n toV okr S t ls rest A) (kf : x = y → TG p l e d s m args below meth c D cy ad n toV okr S q ls rest B) : TG p l e d s m args below meth c D cy ad n toV okr S pc ls (.int y :: .int x :: rest) (if x = y then B else A) := by
  subst hq
  intro r S1 hr H locs la hl hP hS
  refine lv_icmp_ne cx.1 cx.2.1 hd ht (fun h => ?_) (fun h => ?_)
  · rw [if_neg h] at hr; exact kt h r S1 hr H locs la hl hP hS
  · rw [if_pos h] at hr; exact kf h r S1 hr H locs la hl hP hS
theorem G_icmp_ne_y (cx : CX p s m meth c args cc own nL ret D cy ad n) {x y : Int32} {off : Int} {t : Nat} (hd : decode cc pc = .ok (.if_icmp .ne off, 3)) (hq : pc + 3 = q) (ht : (pc : Int) + off = (t : Int)) (h : ¬ (x = y)) (k : TG p l e d s m args below meth c D cy ad n toV okr S t ls rest res) : TG p l e d s m args below meth c D cy ad n toV okr S pc ls (.int y :: .int x :: rest) res := by
  subst hq
  intro r S1 hr H locs la hl hP hS
  exact lv_icmp_ne cx.1 cx.2.1 hd ht (fun _ => k r S1 hr H locs la hl hP hS) (fun z => absurd z h)
theorem G_icmp_ne_n (cx : CX p s m meth c args cc own nL ret D cy ad n) {x y : Int32} {off : Int} {t : Nat} (hd : decode cc pc = .ok (.if_icmp .ne off, 3)) (hq : pc + 3 = q) (ht : (pc : Int) + off = (t : Int)) (h : x = y) (k : TG p l e d s m args below meth c D cy ad n toV okr S q ls rest res) : TG p l e d s m args below meth c D cy ad n toV okr S pc ls (.int y :: .int x :: rest) res := by
  subst hq
  intro r S1 hr H locs la hl hP hS
  exact lv_icmp_ne cx.1 cx.2.1 hd ht (fun z => absurd h z) (fun _ => k r S1 hr H locs la hl hP hS)
theorem G_if_eq (cx : CX p s m meth c args cc own nL ret D cy ad n) {x : Int32} {off : Int} {t : Nat} (hd : decode cc pc = .ok (.ifCond .eq off, 3)) (hq : pc + 3 = q) (ht : (pc : Int) + off = (t : Int)) {A B : Option (ρ × St)} (kt : x = 0 → TG p l e d s m args below meth c D cy ad n toV okr S t ls rest A) (kf : ¬ (x = 0) → TG p l e d s m args below meth c D cy ad n toV okr S q ls rest B) : TG p l e d s m args below meth c D cy ad n toV okr S pc ls (.int x :: rest) (if x = 0 then A else B) := by
  subst hq
  intro r S1 hr H locs la hl hP hS
  refine lv_if_eq cx.1 cx.2.1 hd ht (fun h => ?_) (fun h => ?_)
  · rw [if_pos h] at hr; exact kt h r S1 hr H locs la hl hP hS
  · rw [if_neg h] at hr; exact kf h r S1 hr H locs la hl hP hS
theorem G_if_eq_y (cx : CX p s m meth c args cc own nL ret D cy ad n) {x : Int32} {off : Int} {t : Nat} (hd : decode cc pc = .ok (.ifCond .eq off, 3)) (hq : pc + 3 = q) (ht : (pc : Int) + off = (t : Int)) (h : x = 0) (k : TG p l e d s m args below meth c D cy ad n toV okr S t ls rest res) : TG p l e d s m args below meth c D cy ad n toV okr S pc ls (.int x :: rest) res := by
  subst hq
  intro r S1 hr H locs la hl hP hS
  exact lv_if_eq cx.1 cx.2.1 hd ht (fun _ => k r S1 hr H locs la hl hP hS) (fun z => absurd h z)
theorem G_if_eq_n (cx : CX p s m meth c args cc own nL ret D cy ad n) {x : Int32} {off : Int} {t : Nat} (hd : decode cc pc = .ok (.ifCond .eq off, 3)) (hq : pc + 3 = q) (ht : (pc : Int) + off = (t : Int)) (h : ¬ (x = 0)) (k : TG p l e d s m args below meth c D cy ad n toV okr S q ls rest res) : TG p l e d s m args below meth c D cy ad n toV okr S pc ls (.int x :: rest) res := by
  subst hq
  intro r S1 hr H locs la hl hP hS
  exact lv_if_eq cx.1 cx.2.1 hd ht (fun z => absurd z h) (fun _ => k r S1 hr H locs la hl hP hS)
theorem G_icmp_eq (cx : CX p s m meth c args cc own nL ret D cy ad n) {x y : Int32} {off : Int} {t : Nat} (hd : decode cc pc = .ok (.if_icmp .eq off, 3)) (hq : pc + 3 = q) (ht : (pc : Int) + off = (t : Int)) {A B : Option (ρ × St)} (kt : x = y → TG p l e d s m args below meth c D cy ad n toV okr S t ls rest A) (kf : ¬ (x = y) → TG p l e d s m args below meth c D cy ad n toV okr S q ls rest B) : TG p l e d s m args below meth c D cy ad n toV okr S pc ls (.int y :: .int x :: rest) (if x = y then A else B) := by
  subst hq
  intro r S1 hr H locs la hl hP hS
  refine lv_icmp_eq cx.1 cx.2.1 hd ht (fun h => ?_) (fun h => ?_)
  · rw [if_pos h] at hr; exact kt h r S1 hr H locs la hl hP hS
  · rw [if_neg h] at hr; exact kf h r S1 hr H locs la hl hP hS
theorem G_icmp_eq_y (cx : CX p s m meth c args cc own nL ret D cy ad n) {x y : Int32} {off : Int} {t : Nat} (hd : decode cc pc = .ok (.if_icmp .eq off, 3)) (hq : pc + 3 = q) (ht : (pc : Int) + off = (t : Int)) (h : x = y) (k : TG p l e d s m args below meth c D cy ad n toV okr S t ls rest res) : TG p l e d s m args below meth c D cy ad n toV okr S pc ls (.int y :: .int x :: rest) res := by
  subst hq
  intro r S1 hr H locs la hl hP hS
  exact lv_icmp_eq cx.1 cx.2.1 hd ht (fun _ => k r S1 hr H locs la hl hP hS) (fun z => absurd h z)
theorem G_icmp_eq_n (cx : CX p s m meth c args cc own nL ret D cy ad n) {x y : Int32} {off : Int} {t : Nat} (hd : decode cc pc = .ok (.if_icmp .eq off, 3)) (hq : pc + 3 = q) (ht : (pc : Int) + off = (t : Int)) (h : ¬ (x = y)) (k : TG p l e d s m args below meth c D cy ad n toV okr S q ls rest res) : TG p l e d s m args below meth c D cy ad n toV okr S pc ls (.int y :: .int x :: rest) res := by
  subst hq
  intro r S1 hr H locs la hl hP hS
  exact lv_icmp_eq cx.1 cx.2.1 hd ht (fun z => absurd z h) (fun _ => k r S1 hr H locs la hl hP hS)
theorem G_if_lt (cx : CX p s m meth c args cc own nL ret D cy ad n) {x : Int32} {off : Int} {t : Nat} (hd : decode cc pc = .ok (.ifCond .lt off, 3)) (hq : pc + 3 = q) (ht : (pc : Int) + off = (t : Int)) {A B : Option (ρ × St)} (kt : x < 0 → TG p l e d s m args below meth c D cy ad n toV okr S t ls rest A) (kf : ¬ (x < 0) → TG p l e d s m args below meth c D cy ad n toV okr S q ls rest B) : TG p l e d s m args below meth c D cy ad n toV okr S pc ls (.int x :: rest) (if x < 0 then A else B) := by
  subst hq
  intro r S1 hr H locs la hl hP hS
  refine lv_if_lt cx.1 cx.2.1 hd ht (fun h => ?_) (fun h => ?_)
  · rw [if_pos h] at hr; exact kt h r S1 hr H locs la hl hP hS
  · rw [if_neg h] at hr; exact kf h r S1 hr H locs la hl hP hS
theorem G_if_lt_y (cx : CX p s m meth c args cc own nL ret D cy ad n) {x : Int32} {off : Int} {t : Nat} (hd : decode cc pc = .ok (.ifCond .lt off, 3)) (hq : pc + 3 = q) (ht : (pc : Int) + off = (t : Int)) (h : x < 0) (k : TG p l e d s m args below meth c D cy ad n toV okr S t ls rest res) : TG p l e d s m args below meth c D cy ad n toV okr S pc ls (.int x :: rest) res := by
  subst hq
  intro r S1 hr H locs la hl hP hS
  exact lv_if_lt cx.1 cx.2.1 hd ht (fun _ => k r S1 hr H locs la hl hP hS) (fun z => absurd h z)
theorem G_if_lt_n (cx : CX p s m meth c args cc own nL ret D cy ad n) {x : Int32} {off : Int} {t : Nat} (hd : decode cc pc = .ok (.ifCond .lt off, 3)) (hq : pc + 3 = q) (ht : (pc : Int) + off = (t : Int)) (h : ¬ (x < 0)) (k : TG p l e d s m args below meth c D cy ad n toV okr S q ls rest res) : TG p l e d s m args below meth c D cy ad n toV okr S pc ls (.int x :: rest) res := by
  subst hq
  intro r S1 hr H locs la hl hP hS
  exact lv_if_lt cx.1 cx.2.1 hd ht (fun z => absurd z h) (fun _ => k r S1 hr H locs la hl hP hS)
theorem G_icmp_lt (cx : CX p s m meth c args cc own nL ret D cy ad n) {x y : Int32} {off : Int} {t : Nat} (hd : decode cc pc = .ok (.if_icmp .lt off, 3)) (hq : pc + 3 = q) (ht : (pc : Int) + off = (t : Int)) {A B : Option (ρ × St)} (kt : x < y → TG p l e d s m args below meth c D cy ad n toV okr S t ls rest A) (kf : ¬ (x < y) → TG p l e d s m args below meth c D cy ad n toV okr S q ls rest B) : TG p l e d s m args below meth c D cy ad n toV okr S pc ls (.int y :: .int x :: rest) (if x < y then A else B) := by
  subst hq
  intro r S1 hr H locs la hl hP hS
  refine lv_icmp_lt cx.1 cx.2.1 hd ht (fun h => ?_) (fun h => ?_)
  · rw [if_pos h] at hr; exact kt h r S1 hr H locs la hl hP hS
  · rw [if_neg h] at hr; exact kf h r S1 hr H locs la hl hP hS
theorem G_icmp_lt_y (cx : CX p s m meth c args cc own nL ret D cy ad n) {x y : Int32} {off : Int} {t : Nat} (hd : decode cc pc = .ok (.if_icmp .lt off, 3)) (hq : pc + 3 = q) (ht : (pc : Int) + off = (t : Int)) (h : x < y) (k : TG p l e d s m args below meth c D cy ad n toV okr S t ls rest res) : TG p l e d s m args below meth c D cy ad n toV okr S pc ls (.int y :: .int x :: rest) res := by
  subst hq
  intro r S1 hr H locs la hl hP hS
  exact lv_icmp_lt cx.1 cx.2.1 hd ht (fun _ => k r S1 hr H locs la hl hP hS) (fun z => absurd h z)
theorem G_icmp_lt_n (cx : CX p s m meth c args cc own nL ret D cy ad n) {x y : Int32} {off : Int} {t : Nat} (hd : decode cc pc = .ok (.if_icmp .lt off, 3)) (hq : pc + 3 = q) (ht : (pc : Int) + off = (t : Int)) (h : ¬ (x < y)) (k : TG p l e d s m args below meth c D cy ad n toV okr S q ls rest res) : TG p l e d s m args below meth c D cy ad n toV okr S pc ls (.int y :: .int x :: rest) res := by
  subst hq
  intro r S1 hr H locs la hl hP hS
  exact lv_icmp_lt cx.1 cx.2.1 hd ht (fun z => absurd z h) (fun _ => k r S1 hr H locs la hl hP hS)
theorem G_if_ge (cx : CX p s m meth c args cc own nL ret D cy ad n) {x : Int32} {off : Int} {t : Nat} (hd : decode cc pc = .ok (.ifCond .ge off, 3)) (hq : pc + 3 = q) (ht : (pc : Int) + off = (t : Int)) {A B : Option (ρ × St)} (kt : 0 ≤ x → TG p l e d s m args below meth c D cy ad n toV okr S t ls rest A) (kf : ¬ (0 ≤ x) → TG p l e d s m args below meth c D cy ad n toV okr S q ls rest B) : TG p l e d s m args below meth c D cy ad n toV okr S pc ls (.int x :: rest) (if 0 ≤ x then A else B) := by
  subst hq
  intro r S1 hr H locs la hl hP hS
  refine lv_if_ge cx.1 cx.2.1 hd ht (fun h => ?_) (fun h => ?_)
  · rw [if_pos h] at hr; exact kt h r S1 hr H locs la hl hP hS
  · rw [if_neg h] at hr; exact kf h r S1 hr H locs la hl hP hS
theorem G_if_ge_y (cx : CX p s m meth c args cc own nL ret D cy ad n) {x : Int32} {off : Int} {t : Nat} (hd : decode cc pc = .ok (.ifCond .ge off, 3)) (hq : pc + 3 = q) (ht : (pc : Int) + off = (t : Int)) (h : 0 ≤ x) (k : TG p l e d s m args below meth c D cy ad n toV okr S t ls rest res) : TG p l e d s m args below meth c D cy ad n toV okr S pc ls (.int x :: rest) res := by
  subst hq
  intro r S1 hr H locs la hl hP hS
  exact lv_if_ge cx.1 cx.2.1 hd ht (fun _ => k r S1 hr H locs la hl hP hS) (fun z => absurd h z)
theorem G_if_ge_n (cx : CX p s m meth c args cc own nL ret D cy ad n) {x : Int32} {off : Int} {t : Nat} (hd : decode cc pc = .ok (.ifCond .ge off, 3)) (hq : pc + 3 = q) (ht : (pc : Int) + off = (t : Int)) (h : ¬ (0 ≤ x)) (k : TG p l e d s m args below meth c D cy ad n toV okr S q ls rest res) : TG p l e d s m args below meth c D cy ad n toV okr S pc ls (.int x :: rest) res := by
  subst hq
  intro r S1 hr H locs la hl hP hS
  exact lv_if_ge cx.1 cx.2.1 hd ht (fun z => absurd z h) (fun _ => k r S1 hr H locs la hl hP hS)
theorem G_icmp_ge (cx : CX p s m meth c args cc own nL ret D cy ad n) {x y : Int32} {off : Int} {t : Nat} (hd : decode cc pc = .ok (.if_icmp .ge off, 3)) (hq : pc + 3 = q) (ht : (pc : Int) + off = (t : Int)) {A B : Option (ρ × St)} (kt : y ≤ x → TG p l e d s m args below meth c D cy ad n toV okr S t ls rest A) (kf : ¬ (y ≤ x) → TG p l e d s m args below meth c D cy ad n toV okr S q ls rest B) : TG p l e d s m args below meth c D cy ad n toV okr S pc ls (.int y :: .int x :: rest) (if y ≤ x then A else B) := by
  subst hq
  intro r S1 hr H locs la hl hP hS
  refine lv_icmp_ge cx.1 cx.2.1 hd ht (fun h => ?_) (fun h => ?_)
  · rw [if_pos h] at hr; exact kt h r S1 hr H locs la hl hP hS
  · rw [if_neg h] at hr; exact kf h r S1 hr H locs la hl hP hS
theorem G_icmp_ge_y (cx : CX p s m meth c args cc own nL ret D cy ad n) {x y : Int32} {off : Int} {t : Nat} (hd : decode cc pc = .ok (.if_icmp .ge off, 3)) (hq : pc + 3 = q) (ht : (pc : Int) + off = (t : Int)) (h : y ≤ x) (k : TG p l e d s m args below meth c D cy ad n toV okr S t ls rest res) : TG p l e d s m args below meth c D cy ad n toV okr S pc ls (.int y :: .int x :: rest) res := by
  subst hq
  intro r S1 hr H locs la hl hP hS
  exact lv_icmp_ge cx.1 cx.2.1 hd ht (fun _ => k r S1 hr H locs la hl hP hS) (fun z => absurd h z)
theorem G_icmp_ge_n (cx : CX p s m meth c args cc own nL ret D cy ad n) {x y : Int32} {off : Int} {t : Nat} (hd : decode cc pc = .ok (.if_icmp .ge off, 3)) (hq : pc + 3 = q) (ht : (pc : Int) + off = (t : Int)) (h : ¬ (y ≤ x)) (k : TG p l e d s m args below meth c D cy ad n toV okr S q ls rest res) : TG p l e d s m args below meth c D cy ad n toV okr S pc ls (.int y :: .int x :: rest) res := by
  subst hq
  intro r S1 hr H locs la hl hP hS
  exact lv_icmp_ge cx.1 cx.2.1 hd ht (fun z => absurd z h) (fun _ => k r S1 hr H locs la hl hP hS)
theorem G_if_gt (cx : CX p s m meth c args cc own nL ret D cy ad n) {x : Int32} {off : Int} {t : Nat} (hd : decode cc pc = .ok (.ifCond .gt off, 3)) (hq : pc + 3 = q) (ht : (pc : Int) + off = (t : Int)) {A B : Option (ρ × St)} (kt : 0 < x → TG p l e d s m args below meth c D cy ad n toV okr S t ls rest A) (kf : ¬ (0 < x) → TG p l e d s m args below meth c D cy ad n toV okr S q ls rest B) : TG p l e d s m args below meth c D cy ad n toV okr S pc ls (.int x :: rest) (if 0 < x then A else B) := by
  subst hq
  intro r S1 hr H locs la hl hP hS
  refine lv_if_gt cx.1 cx.2.1 hd ht (fun h => ?_) (fun h => ?_)
  · rw [if_pos h] at hr; exact kt h r S1 hr H locs la hl hP hS
  · rw [if_neg h] at hr; exact kf h r S1 hr H locs la hl hP hS
theorem G_if_gt_y (cx : CX p s m meth c args cc own nL ret D cy ad n) {x : Int32} {off : Int} {t : Nat} (hd : decode cc pc = .ok (.ifCond .gt off, 3)) (hq : pc + 3 = q) (ht : (pc : Int) + off = (t : Int)) (h : 0 < x) (k : TG p l e d s m args below meth c D cy ad n toV okr S t ls rest res) : TG p l e d s m args below meth c D cy ad n toV okr S pc ls (.int x :: rest) res := by
  subst hq
  intro r S1 hr H locs la hl hP hS
  exact lv_if_gt cx.1 cx.2.1 hd ht (fun _ => k r S1 hr H locs la hl hP hS) (fun z => absurd h z)
theorem G_if_gt_n (cx : CX p s m meth c args cc own nL ret D cy ad n) {x : Int32} {off : Int} {t : Nat} (hd : decode cc pc = .ok (.ifCond .gt off, 3)) (hq : pc + 3 = q) (ht : (pc : Int) + off = (t : Int)) (h : ¬ (0 < x)) (k : TG p l e d s m args below meth c D cy ad n toV okr S q ls rest res) : TG p l e d s m args below meth c D cy ad n toV okr S pc ls (.int x :: rest) res := by
  subst hq
  intro r S1 hr H locs la hl hP hS
  exact lv_if_gt cx.1 cx.2.1 hd ht (fun z => absurd z h) (fun _ => k r S1 hr H locs la hl hP hS)
theorem G_icmp_gt (cx : CX p s m meth c args cc own nL ret D cy ad n) {x y : Int32} {off : Int} {t : Nat} (hd : decode cc pc = .ok (.if_icmp .gt off, 3)) (hq : pc + 3 = q) (ht : (pc : Int) + off = (t : Int)) {A B : Option (ρ × St)} (kt : y < x → TG p l e d s m args below meth c D cy ad n toV okr S t ls rest A) (kf : ¬ (y < x) → TG p l e d s m args below meth c D cy ad n toV okr S q ls rest B) : TG p l e d s m args below meth c D cy ad n toV okr S pc ls (.int y :: .int x :: rest) (if y < x then A else B) := by
  subst hq
  intro r S1 hr H locs la hl hP hS
  refine lv_icmp_gt cx.1 cx.2.1 hd ht (fun h => ?_) (fun h => ?_)
  · rw [if_pos h] at hr; exact kt h r S1 hr H locs la hl hP hS
  · rw [if_neg h] at hr; exact kf h r S1 hr H locs la hl hP hS
theorem G_icmp_gt_y (cx : CX p s m meth c args cc own nL ret D cy ad n) {x y : Int32} {off : Int} {t : Nat} (hd : decode cc pc = .ok (.if_icmp .gt off, 3)) (hq : pc + 3 = q) (ht : (pc : Int) + off = (t : Int)) (h : y < x) (k : TG p l e d s m args below meth c D cy ad n toV okr S t ls rest res) : TG p l e d s m args below meth c D cy ad n toV okr S pc ls (.int y :: .int x :: rest) res := by
  subst hq
  intro r S1 hr H locs la hl hP hS
  exact lv_icmp_gt cx.1 cx.2.1 hd ht (fun _ => k r S1 hr H locs la hl hP hS) (fun z => absurd h z)
theorem G_icmp_gt_n (cx : CX p s m meth c args cc own nL ret D cy ad n) {x y : Int32} {off : Int} {t : Nat} (hd : decode cc pc = .ok (.if_icmp .gt off, 3)) (hq : pc + 3 = q) (ht : (pc : Int) + off = (t : Int)) (h : ¬ (y < x)) (k : TG p l e d s m args below meth c D cy ad n toV okr S q ls rest res) : TG p l e d s m args below meth c D cy ad n toV okr S pc ls (.int y :: .int x :: rest) res := by
  subst hq
  intro r S1 hr H locs la hl hP hS
  exact lv_icmp_gt cx.1 cx.2.1 hd ht (fun z => absurd z h) (fun _ => k r S1 hr H locs la hl hP hS)
theorem G_if_le (cx : CX p s m meth c args cc own nL ret D cy ad n) {x : Int32} {off : Int} {t : Nat} (hd : decode cc pc = .ok (.ifCond .le off, 3)) (hq : pc + 3 = q) (ht : (pc : Int) + off = (t : Int)) {A B : Option (ρ × St)} (kt : x ≤ 0 → TG p l e d s m args below meth c D cy ad n toV okr S t ls rest A) (kf : ¬ (x ≤ 0) → TG p l e d s m args below meth c D cy ad n toV okr S q ls rest B) : TG p l e d s m args below meth c D cy ad n toV okr S pc ls (.int x :: rest) (if x ≤ 0 then A else B) := by
  subst hq
  intro r S1 hr H locs la hl hP hS
  refine lv_if_le cx.1 cx.2.1 hd ht (fun h => ?_) (fun h => ?_)
  · rw [if_pos h] at hr; exact kt h r S1 hr H locs la hl hP hS
  · rw [if_neg h] at hr; exact kf h r S1 hr H locs la hl hP hS
theorem G_if_le_y (cx : CX p s m meth c args cc own nL ret D cy ad n) {x : Int32} {off : Int} {t : Nat} (hd : decode cc pc = .ok (.ifCond .le off, 3)) (hq : pc + 3 = q) (ht : (pc : Int) + off = (t : Int)) (h : x ≤ 0) (k : TG p l e d s m args below meth c D cy ad n toV okr S t ls rest res) : TG p l e d s m args below meth c D cy ad n toV okr S pc ls (.int x :: rest) res := by
  subst hq
  intro r S1 hr H locs la hl hP hS
  exact lv_if_le cx.1 cx.2.1 hd ht (fun _ => k r S1 hr H locs la hl hP hS) (fun z => absurd h z)
theorem G_if_le_n (cx : CX p s m meth c args cc own nL ret D cy ad n) {x : Int32} {off : Int} {t : Nat} (hd : decode cc pc = .ok (.ifCond .le off, 3)) (hq : pc + 3 = q) (ht : (pc : Int) + off = (t : Int)) (h : ¬ (x ≤ 0)) (k : TG p l e d s m args below meth c D cy ad n toV okr S q ls rest res) : TG p l e d s m args below meth c D cy ad n toV okr S pc ls (.int x :: rest) res := by
  subst hq
  intro r S1 hr H locs la hl hP hS
  exact lv_if_le cx.1 cx.2.1 hd ht (fun z => absurd z h) (fun _ => k r S1 hr H locs la hl hP hS)
theorem G_icmp_le (cx : CX p s m meth c args cc own nL ret D cy ad n) {x y : Int32} {off : Int} {t : Nat} (hd : decode cc pc = .ok (.if_icmp .le off, 3)) (hq : pc + 3 = q) (ht : (pc : Int) + off = (t : Int)) {A B : Option (ρ × St)} (kt : x ≤ y → TG p l e d s m args below meth c D cy ad n toV okr S t ls rest A) (kf : ¬ (x ≤ y) → TG p l e d s m args below meth c D cy ad n toV okr S q ls rest B) : TG p l e d s m args below meth c D cy ad n toV okr S pc ls (.int y :: .int x :: rest) (if x ≤ y then A else B) := by
  subst hq
  intro r S1 hr H locs la hl hP hS
  refine lv_icmp_le cx.1 cx.2.1 hd ht (fun h => ?_) (fun h => ?_)
  · rw [if_pos h] at hr; exact kt h r S1 hr H locs la hl hP hS
  · rw [if_neg h] at hr; exact kf h r S1 hr H locs la hl hP hS
theorem G_icmp_le_y (cx : CX p s m meth c args cc own nL ret D cy ad n) {x y : Int32} {off : Int} {t : Nat} (hd : decode cc pc = .ok (.if_icmp .le off, 3)) (hq : pc + 3 = q) (ht : (pc : Int) + off = (t : Int)) (h : x ≤ y) (k : TG p l e d s m args below meth c D cy ad n toV okr S t ls rest res) : TG p l e d s m args below meth c D cy ad n toV okr S pc ls (.int y :: .int x :: rest) res := by
  subst hq
  intro r S1 hr H locs la hl hP hS
  exact lv_icmp_le cx.1 cx.2.1 hd ht (fun _ => k r S1 hr H locs la hl hP hS) (fun z => absurd h z)
theorem G_icmp_le_n (cx : CX p s m meth c args cc own nL ret D cy ad n) {x y : Int32} {off : Int} {t : Nat} (hd : decode cc pc = .ok (.if_icmp .le off, 3)) (hq : pc + 3 = q) (ht : (pc : Int) + off = (t : Int)) (h : ¬ (x ≤ y)) (k : TG p l e d s m args below meth c D cy ad n toV okr S q ls rest res) : TG p l e d s m args below meth c D cy ad n toV okr S pc ls (.int y :: .int x :: rest) res := by
  subst hq
  intro r S1 hr H locs la hl hP hS
  exact lv_icmp_le cx.1 cx.2.1 hd ht (fun z => absurd z h) (fun _ => k r S1 hr H locs la hl hP hS)
theorem G_goto (cx : CX p s m meth c args cc own nL ret D cy ad n) {off : Int} {t : Nat} (hd : decode cc pc = .ok (.goto off, 3)) (ht : (pc : Int) + off = (t : Int)) (k : TG p l e d s m args below meth c D cy ad n toV okr S t ls rest res) : TG p l e d s m args below meth c D cy ad n toV okr S pc ls rest res := by
  intro r S1 hr H locs la hl hP hS
  exact lv_goto cx.1 cx.2.1 hd ht (k r S1 hr H locs la hl hP hS)
theorem G_ifnonnull (cx : CX p s m meth c args cc own nL ret D cy ad n) {x : Nat} {off : Int} {t : Nat} (hd : decode cc pc = .ok (.ifnonnull off, 3)) (ht : (pc : Int) + off = (t : Int)) (k : TG p l e d s m args below meth c D cy ad n toV okr S t ls rest res) : TG p l e d s m args below meth c D cy ad n toV okr S pc ls (.ref x :: rest) res := by
  intro r S1 hr H locs la hl hP hS
  exact lv_ifnonnull cx.1 cx.2.1 hd ht (k r S1 hr H locs la hl hP hS)
theorem G_ifnonnullN (cx : CX p s m meth c args cc own nL ret D cy ad n) {off : Int} (hd : decode cc pc = .ok (.ifnonnull off, 3)) (hq : pc + 3 = q) (k : TG p l e d s m args below meth c D cy ad n toV okr S q ls rest res) : TG p l e d s m args below meth c D cy ad n toV okr S pc ls (.null :: rest) res := by
  subst hq
  intro r S1 hr H locs la hl hP hS
  exact lv_ifnonnullN cx.1 cx.2.1 hd (k r S1 hr H locs la hl hP hS)
theorem G_tswIn (cx : CX p s m meth c args cc own nL ret D cy ad n) {x a : Int32} {dflt lo hi off : Int} {offs : Array Int} {len t : Nat} (hd : decode cc pc = .ok (.tableswitch dflt lo hi offs, len)) (hx : x = a) (h1 : ¬ a.toInt < lo) (h2 : ¬ hi < a.toInt) (ho : offs[(a.toInt - lo).toNat]? = some off) (ht : (pc : Int) + off = (t : Int)) (k : TG p l e d s m args below meth c D cy ad n toV okr S t ls rest res) : TG p l e d s m args below meth c D cy ad n toV okr S pc ls (.int x :: rest) res := by
  subst hx
  intro r S1 hr H locs la hl hP hS
  exact lv_tableIn cx.1 cx.2.1 hd h1 h2 ho ht (k r S1 hr H locs la hl hP hS)
theorem G_tswOut (cx : CX p s m meth c args cc own nL ret D cy ad n) {x : Int32} {dflt lo hi : Int} {offs : Array Int} {len t : Nat} (hd : decode cc pc = .ok (.tableswitch dflt lo hi offs, len)) (hx : x.toInt < lo ∨ hi < x.toInt) (ht : (pc : Int) + dflt = (t : Int)) (k : TG p l e d s m args below meth c D cy ad n toV okr S t ls rest res) : TG p l e d s m args below meth c D cy ad n toV okr S pc ls (.int x :: rest) res := by
  intro r S1 hr H locs la hl hP hS
  exact lv_tableOut cx.1 cx.2.1 hd hx ht (k r S1 hr H locs la hl hP hS)
theorem G_lsw (cx : CX p s m meth c args cc own nL ret D cy ad n) {x : Int32} {dflt off : Int} {ps : Array (Int × Int)} {len t : Nat} (hd : decode cc pc = .ok (.lookupswitch dflt ps, len)) (hp : (ps.toList.zip (ps.toList.drop 1)).all (fun (a, next) => a.1 < next.1) = true) (ho : Op.lookupswitch.offset ps.toList dflt x.toInt = off) (ht : (pc : Int) + off = (t : Int)) (k : TG p l e d s m args below meth c D cy ad n toV okr S t ls rest res) : TG p l e d s m args below meth c D cy ad n toV okr S pc ls (.int x :: rest) res := by
  intro r S1 hr H locs la hl hP hS
  exact lv_lookup cx.1 cx.2.1 hd hp ho ht (k r S1 hr H locs la hl hP hS)
/-! fields -/
theorem wP_one {f i : Nat} {H : Heap} (hP : wP D cy ad n S H) (hf : f < 64) (hi : i < n f) : va_P D vwCl [(ad f i, ct cy ad S f i)] H := by
  intro k q hk
  have hz : k < 1 := (List.getElem?_eq_some_iff.mp hk).1
  rw [show k = 0 by omega] at hk
  cases hk
  exact hP.1 f i hf hi
theorem G_geti (cx : CX p s m meth c args cc own nL ret D cy ad n) {f i j index : Nat} (hd : decode cc pc = .ok (.getfield index, 3)) (hq : pc + 3 = q) (cf : CF f) (hw : fLink own index f j ∈ lwG) (hj : j < kn f) (hk : kf f j = 0) (hi : i < n f) (k : TG p l e d s m args below meth c D cy ad n toV okr S q ls (.int (gI S f i j) :: rest) res) : TG p l e d s m args below meth c D cy ad n toV okr S pc ls (.ref (ad f i) :: rest) res := by
  subst hq
  intro r S1 hr H locs la hl hP hS
  obtain ⟨hx, hb, hml0, hown, hts, hK, hJ, hE, hret, hlk⟩ := cx
  obtain ⟨c1, c2, c3, c4, -, -⟩ := cf
  have h1 := wP_one hP c4 hi
  rw [ct_obj c3] at h1
  exact va_get (D := D) (C := cN f) (T := cT f) (N := kn f) hx hb hts c2 hown hK h1 0 rfl c1 j hj (hts _ hw) (fun _ h => h) (v := .int (gI S f i j)) (by rw [List.getElem?_map, List.getElem?_range hj]; show some (fv ad f i (gI S f i) (gR S f i) j) = _; unfold fv; rw [hk]; rfl) hd (k r S1 hr H locs la hl hP hS)
theorem G_getr (cx : CX p s m meth c args cc own nL ret D cy ad n) {f i j index g i' : Nat} (hd : decode cc pc = .ok (.getfield index, 3)) (hq : pc + 3 = q) (cf : CF f) (hw : fLink own index f j ∈ lwG) (hj : j < kn f) (hk : kf f j = 1) (hg : kg f j i = (g, i')) (hi : i < n f) (k : TG p l e d s m args below meth c D cy ad n toV okr S q ls (.ref (ad g i') :: rest) res) : TG p l e d s m args below meth c D cy ad n toV okr S pc ls (.ref (ad f i) :: rest) res := by
  subst hq
  intro r S1 hr H locs la hl hP hS
  obtain ⟨hx, hb, hml0, hown, hts, hK, hJ, hE, hret, hlk⟩ := cx
  obtain ⟨c1, c2, c3, c4, -, -⟩ := cf
  have h1 := wP_one hP c4 hi
  rw [ct_obj c3] at h1
  exact va_get (D := D) (C := cN f) (T := cT f) (N := kn f) hx hb hts c2 hown hK h1 0 rfl c1 j hj (hts _ hw) (fun _ h => h) (v := .ref (ad g i')) (by rw [List.getElem?_map, List.getElem?_range hj]; show some (fv ad f i (gI S f i) (gR S f i) j) = _; unfold fv; rw [hk, hg]; rfl) hd (k r S1 hr H locs la hl hP hS)
theorem G_geta (cx : CX p s m meth c args cc own nL ret D cy ad n) {f i j index : Nat} (hd : decode cc pc = .ok (.getfield index, 3)) (hq : pc + 3 = q) (cf : CF f) (hw : fLink own index f j ∈ lwG) (hj : j < kn f) (hk : kf f j = 2) (hi : i < n f) {A : Option (ρ × St)} {B : Nat → Option (ρ × St)} (k1 : gR S f i j = none → TG p l e d s m args below meth c D cy ad n toV okr S q ls (.null :: rest) A) (k2 : ∀ a, gR S f i j = some a → a < n 0 → TG p l e d s m args below meth c D cy ad n toV okr S q ls (.ref (ad 0 a) :: rest) (B a)) : TG p l e d s m args below meth c D cy ad n toV okr S pc ls (.ref (ad f i) :: rest) ((gR S f i j).elim A B) := by
  subst hq
  intro r S1 hr H locs la hl hP hS
  obtain ⟨hx, hb, hml0, hown, hts, hK, hJ, hE, hret, hlk⟩ := cx
  obtain ⟨c1, c2, c3, c4, -, -⟩ := cf
  have h1 := wP_one hP c4 hi
  rw [ct_obj c3] at h1
  refine va_get (D := D) (C := cN f) (T := cT f) (N := kn f) hx hb hts c2 hown hK h1 0 rfl c1 j hj (hts _ hw) (fun _ h => h) (v := va_rf ((gR S f i j).map (ad 0))) (by rw [List.getElem?_map, List.getElem?_range hj]; show some (fv ad f i (gI S f i) (gR S f i) j) = _; unfold fv; rw [hk]; rfl) hd ?_
  cases hg : gR S f i j with
  | none => rw [hg] at hr; exact k1 hg r S1 hr H locs la hl hP hS
  | some a => rw [hg] at hr; exact k2 a hg (hP.2 _ _ _ _ hg) r S1 hr H locs la hl hP hS
theorem G_puti (cx : CX p s m meth c args cc own nL ret D cy ad n) {f i j index : Nat} {x : Int32} {ty : FieldType} (hd : decode cc pc = .ok (.putfield index, 3)) (hq : pc + 3 = q) (cf : CF f) (hw : fLink own index f j ∈ lwG) (hj : j < kn f) (hk : kf f j = 0) (hfin : (cT f j).2.2.2 = false) (hty : parseFieldDescriptor (cT f j).2.2.1 = some ty) (hn : narrow ty (.int x) = .int x) (hfit : fits ty (.int x) = true) (hi : i < n f) (k : TG p l e d s m args below meth c D cy ad n toV okr (sI S f i j x) q ls rest res) : TG p l e d s m args below meth c D cy ad n toV okr S pc ls (.int x :: .ref (ad f i) :: rest) res := by
  subst hq
  intro r S1 hr H locs la hl hP hS
  obtain ⟨hx, hb, hml0, hown, hts, hK, hJ, hE, hret, hlk⟩ := cx
  obtain ⟨c1, c2, c3, c4, ⟨ty0, c5⟩, c6⟩ := cf
  obtain ⟨kk, hkk⟩ := wl_at (g := ct cy ad S) hJ c4 hi
  have hkk2 := hkk
  rw [ct_obj c3] at hkk2
  refine va_put (D := D) (C := cN f) (T := cT f) (N := kn f) hx hb hts c2 ty0 c5 c6 hown hK (wl_P hP.1) (wl_D hJ) hS kk hkk2 c1 j hj (hts _ hw) (fun _ h => h) hfin hty hn hfit (by simpa using hj) hd (fun H1 locs1 hP1 _ hS1 => ?_)
  refine k r S1 hr H1 locs1 la hl (wP_setI hJ hP.2 c4 hi hkk (e := _) ?_ hP1) hS1
  rw [ct_obj c3, fv_set_gi hk, gI_self]
  rfl
theorem G_puta (cx : CX p s m meth c args cc own nL ret D cy ad n) {f i j index a : Nat} {ty : FieldType} (hd : decode cc pc = .ok (.putfield index, 3)) (hq : pc + 3 = q) (cf : CF f) (hw : fLink own index f j ∈ lwG) (hj : j < kn f) (hk : kf f j = 2) (hfin : (cT f j).2.2.2 = false) (hty : parseFieldDescriptor (cT f j).2.2.1 = some ty) (hn : ∀ v, narrow ty (.ref v) = .ref v) (hfit : ∀ v, fits ty (.ref v) = true) (ha : a < n 0) (hi : i < n f) (k : TG p l e d s m args below meth c D cy ad n toV okr (sR S f i j (some a)) q ls rest res) : TG p l e d s m args below meth c D cy ad n toV okr S pc ls (.ref (ad 0 a) :: .ref (ad f i) :: rest) res := by
  subst hq
  intro r S1 hr H locs la hl hP hS
  obtain ⟨hx, hb, hml0, hown, hts, hK, hJ, hE, hret, hlk⟩ := cx
  obtain ⟨c1, c2, c3, c4, ⟨ty0, c5⟩, c6⟩ := cf
  obtain ⟨kk, hkk⟩ := wl_at (g := ct cy ad S) hJ c4 hi
  have hkk2 := hkk
  rw [ct_obj c3] at hkk2
  refine va_put (D := D) (C := cN f) (T := cT f) (N := kn f) hx hb hts c2 ty0 c5 c6 hown hK (wl_P hP.1) (wl_D hJ) hS kk hkk2 c1 j hj (hts _ hw) (fun _ h => h) hfin hty (hn _) (hfit _) (by simpa using hj) hd (fun H1 locs1 hP1 _ hS1 => ?_)
  refine k r S1 hr H1 locs1 la hl (wP_setR hJ hP.2 (fun b hb => by cases hb; exact ha) c4 hi hkk (e := _) ?_ hP1) hS1
  rw [ct_obj c3, show (Value.ref (ad 0 a)) = va_rf ((some a).map (ad 0)) from rfl, fv_set_gr hk, gR_self]
  rfl
theorem G_putn (cx : CX p s m meth c args cc own nL ret D cy ad n) {f i j index : Nat} {ty : FieldType} (hd : decode cc pc = .ok (.putfield index, 3)) (hq : pc + 3 = q) (cf : CF f) (hw : fLink own index f j ∈ lwG) (hj : j < kn f) (hk : kf f j = 2) (hfin : (cT f j).2.2.2 = false) (hty : parseFieldDescriptor (cT f j).2.2.1 = some ty) (hn : narrow ty .null = .null) (hfit : fits ty .null = true) (hi : i < n f) (k : TG p l e d s m args below meth c D cy ad n toV okr (sR S f i j none) q ls rest res) : TG p l e d s m args below meth c D cy ad n toV okr S pc ls (.null :: .ref (ad f i) :: rest) res := by
  subst hq
  intro r S1 hr H locs la hl hP hS
  obtain ⟨hx, hb, hml0, hown, hts, hK, hJ, hE, hret, hlk⟩ := cx
  obtain ⟨c1, c2, c3, c4, ⟨ty0, c5⟩, c6⟩ := cf
  obtain ⟨kk, hkk⟩ := wl_at (g := ct cy ad S) hJ c4 hi
  have hkk2 := hkk
  rw [ct_obj c3] at hkk2
  refine va_put (D := D) (C := cN f) (T := cT f) (N := kn f) hx hb hts c2 ty0 c5 c6 hown hK (wl_P hP.1) (wl_D hJ) hS kk hkk2 c1 j hj (hts _ hw) (fun _ h => h) hfin hty hn hfit (by simpa using hj) hd (fun H1 locs1 hP1 _ hS1 => ?_)
  refine k r S1 hr H1 locs1 la hl (wP_setR hJ hP.2 (fun b hb => by cases hb) c4 hi hkk (e := _) ?_ hP1) hS1
  rw [ct_obj c3, show (Value.null) = va_rf ((none : Option Nat).map (ad 0)) from rfl, fv_set_gr hk, gR_self]
  rfl
/-! arrays -/
theorem vp_of {x : Int32} {N : Nat} (h : 0 ≤ x ∧ x.toNatClampNeg < N) : vp_in x N := by
  intro z
  rcases z with z | z
  · exact absurd (Int32.lt_of_lt_of_le z h.1) (Int32.lt_irrefl)
  · omega
theorem G_iald (cx : CX p s m meth c args cc own nL ret D cy ad n) {f i N : Nat} {x : Int32} (hd : decode cc pc = .ok (.iaload, 1)) (hq : pc + 1 = q) (hf : f < 64) (hk : ka f = 1) (hN : kl f i = N) (hi : i < n f) {A : Option (ρ × St)} (k : 0 ≤ x → x.toNatClampNeg < N → TG p l e d s m args below meth c D cy ad n toV okr S q ls (.int (gI S f i x.toNatClampNeg) :: rest) A) : TG p l e d s m args below meth c D cy ad n toV okr S pc ls (.int x :: .ref (ad f i) :: rest) (if 0 ≤ x ∧ x.toNatClampNeg < N then A else none) := by
  subst hq; subst hN
  refine G_guard (fun h => ?_)
  intro r S1 hr H locs la hl hP hS
  obtain ⟨hx, hb, hml0, hown, hts, hK, hJ, hE, hret, hlk⟩ := cx
  have h1 := wP_one hP hf hi
  rw [ct_int hk] at h1
  exact va_iald hx hb hK h1 0 0 rfl rfl (vp_of h) hd (k h.1 h.2 r S1 hr H locs la hl hP hS)
theorem G_bald (cx : CX p s m meth c args cc own nL ret D cy ad n) {f i N : Nat} {x : Int32} (hd : decode cc pc = .ok (.baload, 1)) (hq : pc + 1 = q) (hf : f < 64) (hk : ka f = 2) (hN : kl f i = N) (hi : i < n f) {A : Option (ρ × St)} (k : 0 ≤ x → x.toNatClampNeg < N → TG p l e d s m args below meth c D cy ad n toV okr S q ls (.int (gI S f i x.toNatClampNeg) :: rest) A) : TG p l e d s m args below meth c D cy ad n toV okr S pc ls (.int x :: .ref (ad f i) :: rest) (if 0 ≤ x ∧ x.toNatClampNeg < N then A else none) := by
  subst hq; subst hN
  refine G_guard (fun h => ?_)
  intro r S1 hr H locs la hl hP hS
  obtain ⟨hx, hb, hml0, hown, hts, hK, hJ, hE, hret, hlk⟩ := cx
  have h1 := wP_one hP hf hi
  rw [ct_byte hk] at h1
  exact va_bald hx hb hK h1 0 1 rfl rfl (vp_of h) hd (k h.1 h.2 r S1 hr H locs la hl hP hS)
theorem G_zald (cx : CX p s m meth c args cc own nL ret D cy ad n) {f i N : Nat} {x : Int32} (hd : decode cc pc = .ok (.baload, 1)) (hq : pc + 1 = q) (hf : f < 64) (hk : ka f = 3) (hN : kl f i = N) (hi : i < n f) {A : Option (ρ × St)} (k : 0 ≤ x → x.toNatClampNeg < N → TG p l e d s m args below meth c D cy ad n toV okr S q ls (.int (gI S f i x.toNatClampNeg) :: rest) A) : TG p l e d s m args below meth c D cy ad n toV okr S pc ls (.int x :: .ref (ad f i) :: rest) (if 0 ≤ x ∧ x.toNatClampNeg < N then A else none) := by
  subst hq; subst hN
  refine G_guard (fun h => ?_)
  intro r S1 hr H locs la hl hP hS
  obtain ⟨hx, hb, hml0, hown, hts, hK, hJ, hE, hret, hlk⟩ := cx
  have h1 := wP_one hP hf hi
  rw [ct_bool hk] at h1
  exact va_zald hx hb hK h1 0 2 rfl rfl (vp_of h) hd (k h.1 h.2 r S1 hr H locs la hl hP hS)
theorem G_lald (cx : CX p s m meth c args cc own nL ret D cy ad n) {f i N : Nat} {x : Int32} (hd : decode cc pc = .ok (.laload, 1)) (hq : pc + 1 = q) (hf : f < 64) (hk : ka f = 4) (hN : kl f i = N) (hi : i < n f) {A : Option (ρ × St)} (k : 0 ≤ x → x.toNatClampNeg < N → TG p l e d s m args below meth c D cy ad n toV okr S q ls (.long (gJ S f i x.toNatClampNeg) :: rest) A) : TG p l e d s m args below meth c D cy ad n toV okr S pc ls (.int x :: .ref (ad f i) :: rest) (if 0 ≤ x ∧ x.toNatClampNeg < N then A else none) := by
  subst hq; subst hN
  refine G_guard (fun h => ?_)
  intro r S1 hr H locs la hl hP hS
  obtain ⟨hx, hb, hml0, hown, hts, hK, hJ, hE, hret, hlk⟩ := cx
  have h1 := wP_one hP hf hi
  rw [ct_long hk] at h1
  exact va_lald hx hb hK h1 0 3 rfl rfl (vp_of h) hd (k h.1 h.2 r S1 hr H locs la hl hP hS)
theorem G_aaldL (cx : CX p s m meth c args cc own nL ret D cy ad n) {i : Nat} {x : Int32} (hd : decode cc pc = .ok (.aaload, 1)) (hq : pc + 1 = q) (hi : i < n 12) {A : Option (ρ × St)} (k : 0 ≤ x → x.toNatClampNeg < 6 → TG p l e d s m args below meth c D cy ad n toV okr S q ls (.ref (ad 3 (6 * i + x.toNatClampNeg)) :: rest) A) : TG p l e d s m args below meth c D cy ad n toV okr S pc ls (.int x :: .ref (ad 12 i) :: rest) (if 0 ≤ x ∧ x.toNatClampNeg < 6 then A else none) := by
  subst hq
  refine G_guard (fun h => ?_)
  intro r S1 hr H locs la hl hP hS
  obtain ⟨hx, hb, hml0, hown, hts, hK, hJ, hE, hret, hlk⟩ := cx
  have h1 := wP_one hP (show 12 < 64 by decide) hi
  rw [ct_lift rfl] at h1
  exact va_aldq hx hb hK h1 0 5 rfl rfl (vp_of h) hd (k h.1 h.2 r S1 hr H locs la hl hP hS)
theorem G_aaldT (cx : CX p s m meth c args cc own nL ret D cy ad n) {i : Nat} {x : Int32} (hd : decode cc pc = .ok (.aaload, 1)) (hq : pc + 1 = q) (hi : i < n 11) {A : Option (ρ × St)} (k : 0 ≤ x → x.toNatClampNeg < 6 → TG p l e d s m args below meth c D cy ad n toV okr S q ls (.ref (ad 6 x.toNatClampNeg) :: rest) A) : TG p l e d s m args below meth c D cy ad n toV okr S pc ls (.int x :: .ref (ad 11 i) :: rest) (if 0 ≤ x ∧ x.toNatClampNeg < 6 then A else none) := by
  subst hq
  refine G_guard (fun h => ?_)
  intro r S1 hr H locs la hl hP hS
  obtain ⟨hx, hb, hml0, hown, hts, hK, hJ, hE, hret, hlk⟩ := cx
  have h1 := wP_one hP (show 11 < 64 by decide) hi
  rw [ct_tape rfl] at h1
  exact va_aldq hx hb hK h1 0 6 rfl rfl (vp_of h) hd (k h.1 h.2 r S1 hr H locs la hl hP hS)
theorem G_aaldA (cx : CX p s m meth c args cc own nL ret D cy ad n) {i : Nat} {x : Int32} (hd : decode cc pc = .ok (.aaload, 1)) (hq : pc + 1 = q) (hi : i < n 9) {A : Option (ρ × St)} {B : Nat → Option (ρ × St)} (k1 : 0 ≤ x → x.toNatClampNeg < 6 → gR S 9 i x.toNatClampNeg = none → TG p l e d s m args below meth c D cy ad n toV okr S q ls (.null :: rest) A) (k2 : 0 ≤ x → x.toNatClampNeg < 6 → ∀ a, gR S 9 i x.toNatClampNeg = some a → a < n 0 → TG p l e d s m args below meth c D cy ad n toV okr S q ls (.ref (ad 0 a) :: rest) (B a)) : TG p l e d s m args below meth c D cy ad n toV okr S pc ls (.int x :: .ref (ad 9 i) :: rest) (if 0 ≤ x ∧ x.toNatClampNeg < 6 then (gR S 9 i x.toNatClampNeg).elim A B else none) := by
  subst hq
  refine G_guard (fun h => ?_)
  intro r S1 hr H locs la hl hP hS
  obtain ⟨hx, hb, hml0, hown, hts, hK, hJ, hE, hret, hlk⟩ := cx
  have h1 := wP_one hP (show 9 < 64 by decide) hi
  rw [ct_air rfl] at h1
  refine va_aldq hx hb hK h1 0 4 rfl rfl (vp_of h) hd ?_
  show W p l e (rmk d) s m args below meth c H locs 0 0 _ (F0 m (pc + 1) la (va_rf ((gR S 9 i x.toNatClampNeg).map (ad 0)) :: rest))
  cases hg : gR S 9 i x.toNatClampNeg with
  | none => rw [hg] at hr; exact k1 h.1 h.2 hg r S1 hr H locs la hl hP hS
  | some a => rw [hg] at hr; exact k2 h.1 h.2 a hg (hP.2 _ _ _ _ hg) r S1 hr H locs la hl hP hS
theorem G_iast (cx : CX p s m meth c args cc own nL ret D cy ad n) {f i N : Nat} {x v : Int32} (hd : decode cc pc = .ok (.iastore, 1)) (hq : pc + 1 = q) (hf : f < 64) (hk : ka f = 1) (hN : kl f i = N) (hi : i < n f) {A : Option (ρ × St)} (k : 0 ≤ x → x.toNatClampNeg < N → TG p l e d s m args below meth c D cy ad n toV okr (sI S f i x.toNatClampNeg v) q ls rest A) : TG p l e d s m args below meth c D cy ad n toV okr S pc ls (.int v :: .int x :: .ref (ad f i) :: rest) (if 0 ≤ x ∧ x.toNatClampNeg < N then A else none) := by
  subst hq; subst hN
  refine G_guard (fun h => ?_)
  intro r S1 hr H locs la hl hP hS
  obtain ⟨hx, hb, hml0, hown, hts, hK, hJ, hE, hret, hlk⟩ := cx
  obtain ⟨kk, hkk⟩ := wl_at (g := ct cy ad S) hJ hf hi
  have hkk2 := hkk
  rw [ct_int hk] at hkk2
  refine va_iast hx hb hK (wl_P hP.1) (wl_D hJ) hS kk 0 hkk2 rfl (vp_of h) hd (fun H1 locs1 hP1 _ hS1 => ?_)
  refine k h.1 h.2 r S1 hr H1 locs1 la hl (wP_setI hJ hP.2 hf hi hkk (e := _) ?_ hP1) hS1
  rw [ct_int hk, gI_self, upd_eq]
theorem G_bast (cx : CX p s m meth c args cc own nL ret D cy ad n) {f i N : Nat} {x v : Int32} (hd : decode cc pc = .ok (.bastore, 1)) (hq : pc + 1 = q) (hf : f < 64) (hk : ka f = 2) (hN : kl f i = N) (hi : i < n f) {A : Option (ρ × St)} (k : 0 ≤ x → x.toNatClampNeg < N → TG p l e d s m args below meth c D cy ad n toV okr (sI S f i x.toNatClampNeg (vp_nar .byte v)) q ls rest A) : TG p l e d s m args below meth c D cy ad n toV okr S pc ls (.int v :: .int x :: .ref (ad f i) :: rest) (if 0 ≤ x ∧ x.toNatClampNeg < N then A else none) := by
  subst hq; subst hN
  refine G_guard (fun h => ?_)
  intro r S1 hr H locs la hl hP hS
  obtain ⟨hx, hb, hml0, hown, hts, hK, hJ, hE, hret, hlk⟩ := cx
  obtain ⟨kk, hkk⟩ := wl_at (g := ct cy ad S) hJ hf hi
  have hkk2 := hkk
  rw [ct_byte hk] at hkk2
  refine va_bast hx hb hK (wl_P hP.1) (wl_D hJ) hS kk 1 hkk2 rfl (vp_of h) hd (fun H1 locs1 hP1 _ hS1 => ?_)
  refine k h.1 h.2 r S1 hr H1 locs1 la hl (wP_setI hJ hP.2 hf hi hkk (e := _) ?_ hP1) hS1
  rw [ct_byte hk, gI_self, upd_eq]
theorem G_zast (cx : CX p s m meth c args cc own nL ret D cy ad n) {f i N : Nat} {x v : Int32} (hd : decode cc pc = .ok (.bastore, 1)) (hq : pc + 1 = q) (hf : f < 64) (hk : ka f = 3) (hN : kl f i = N) (hi : i < n f) {A : Option (ρ × St)} (k : 0 ≤ x → x.toNatClampNeg < N → TG p l e d s m args below meth c D cy ad n toV okr (sI S f i x.toNatClampNeg (vp_nar .boolean v)) q ls rest A) : TG p l e d s m args below meth c D cy ad n toV okr S pc ls (.int v :: .int x :: .ref (ad f i) :: rest) (if 0 ≤ x ∧ x.toNatClampNeg < N then A else none) := by
  subst hq; subst hN
  refine G_guard (fun h => ?_)
  intro r S1 hr H locs la hl hP hS
  obtain ⟨hx, hb, hml0, hown, hts, hK, hJ, hE, hret, hlk⟩ := cx
  obtain ⟨kk, hkk⟩ := wl_at (g := ct cy ad S) hJ hf hi
  have hkk2 := hkk
  rw [ct_bool hk] at hkk2
  refine va_zast hx hb hK (wl_P hP.1) (wl_D hJ) hS kk 2 hkk2 rfl (vp_of h) hd (fun H1 locs1 hP1 _ hS1 => ?_)
  refine k h.1 h.2 r S1 hr H1 locs1 la hl (wP_setI hJ hP.2 hf hi hkk (e := _) ?_ hP1) hS1
  rw [ct_bool hk, gI_self, upd_eq]
theorem G_last (cx : CX p s m meth c args cc own nL ret D cy ad n) {f i N : Nat} {x : Int32} {v : Int64} (hd : decode cc pc = .ok (.lastore, 1)) (hq : pc + 1 = q) (hf : f < 64) (hk : ka f = 4) (hN : kl f i = N) (hi : i < n f) {A : Option (ρ × St)} (k : 0 ≤ x → x.toNatClampNeg < N → TG p l e d s m args below meth c D cy ad n toV okr (sJ S f i x.toNatClampNeg v) q ls rest A) : TG p l e d s m args below meth c D cy ad n toV okr S pc ls (.long v :: .int x :: .ref (ad f i) :: rest) (if 0 ≤ x ∧ x.toNatClampNeg < N then A else none) := by
  subst hq; subst hN
  refine G_guard (fun h => ?_)
  intro r S1 hr H locs la hl hP hS
  obtain ⟨hx, hb, hml0, hown, hts, hK, hJ, hE, hret, hlk⟩ := cx
  obtain ⟨kk, hkk⟩ := wl_at (g := ct cy ad S) hJ hf hi
  have hkk2 := hkk
  rw [ct_long hk] at hkk2
  refine va_last hx hb hK (wl_P hP.1) (wl_D hJ) hS kk 3 hkk2 rfl (vp_of h) hd (fun H1 locs1 hP1 _ hS1 => ?_)
  refine k h.1 h.2 r S1 hr H1 locs1 la hl (wP_setJ hJ hP.2 hf hi hkk (e := _) ?_ hP1) hS1
  rw [ct_long hk, gJ_self, updL_eq]
theorem G_alen (cx : CX p s m meth c args cc own nL ret D cy ad n) {f i t0 : Nat} {v : Int32} {ty : FieldType} {cA : ClassId} {xa : vp_A} (hd : decode cc pc = .ok (.arraylength, 1)) (hq : pc + 1 = q) (hf : f < 64) (hc : ∀ S, ct cy ad S f i = .inl (cA, xa)) (ht : (tyl cy)[t0]? = some (cA, ty)) (hv : Int32.ofNat xa.1 = v) (hi : i < n f) (k : TG p l e d s m args below meth c D cy ad n toV okr S q ls (.int v :: rest) res) : TG p l e d s m args below meth c D cy ad n toV okr S pc ls (.ref (ad f i) :: rest) res := by
  subst hq
  intro r S1 hr H locs la hl hP hS
  obtain ⟨hx, hb, hml0, hown, hts, hK, hJ, hE, hret, hlk⟩ := cx
  have h1 := wP_one hP hf hi
  rw [hc] at h1
  exact va_alen hx hb hK h1 0 t0 rfl ht hv hd (k r S1 hr H locs la hl hP hS)
/-! ends -/
theorem G_iret (cx : CX p s m meth c args cc own nL ret D cy ad n) {r : Int32} {okr : Int32 → Prop} (hret : ret = some .int) (hd : decode cc pc = .ok (.ireturn, 1)) (ho : okr r) : TG p l e d s m args below meth c D cy ad n toI okr S pc ls [.int r] (some (r, S)) := by
  intro r' S1 hr H locs la hl hP hS
  cases hr
  exact W.iret cx.1 cx.2.1 (cx.2.2.2.2.2.2.2.2.1.trans hret) (fun t ht hW => ⟨⟨rfl, ho, by rw [ht]; exact hP⟩, hS.F ht⟩) hS.2.2 hd (hlocks := cx.2.2.2.2.2.2.2.2.2)
theorem G_zret (cx : CX p s m meth c args cc own nL ret D cy ad n) {r : Int32} {okr : Int32 → Prop} {ty : FieldType} (hret : ret = some ty) (hd : decode cc pc = .ok (.ireturn, 1)) (ho : okr r) (hn : narrow ty (.int r) = .int r) : TG p l e d s m args below meth c D cy ad n toI okr S pc ls [.int r] (some (r, S)) := by
  intro r' S1 hr H locs la hl hP hS
  cases hr
  exact W.zret cx.1 cx.2.1 (cx.2.2.2.2.2.2.2.2.1.trans hret) hn (fun t ht hW => ⟨⟨rfl, ho, by rw [ht]; exact hP⟩, hS.F ht⟩) hS.2.2 hd (hlocks := cx.2.2.2.2.2.2.2.2.2)
theorem G_lret (cx : CX p s m meth c args cc own nL ret D cy ad n) {r : Int64} {okr : Int64 → Prop} (hret : ret = some .long) (hd : decode cc pc = .ok (.lreturn, 1)) (ho : okr r) : TG p l e d s m args below meth c D cy ad n toJ okr S pc ls [.long r] (some (r, S)) := by
  intro r' S1 hr H locs la hl hP hS
  cases hr
  exact W.lret cx.1 cx.2.1 (cx.2.2.2.2.2.2.2.2.1.trans hret) (fun t ht hW => ⟨⟨rfl, ho, by rw [ht]; exact hP⟩, hS.F ht⟩) hS.2.2 hd (hlocks := cx.2.2.2.2.2.2.2.2.2)
theorem G_vret (cx : CX p s m meth c args cc own nL ret D cy ad n) {okr : Unit → Prop} (hret : ret = none) (hd : decode cc pc = .ok (.return_, 1)) (ho : okr ()) : TG p l e d s m args below meth c D cy ad n toU okr S pc ls [] (some ((), S)) := by
  intro r' S1 hr H locs la hl hP hS
  cases hr
  exact W.vret cx.1 cx.2.1 (cx.2.2.2.2.2.2.2.2.1.trans hret) (fun t ht hW => ⟨⟨rfl, ho, by rw [ht]; exact hP⟩, hS.F ht⟩) hS.2.2 hd (hlocks := cx.2.2.2.2.2.2.2.2.2)
/-! calls -/
theorem wA_in {s0 H : Heap} {locs : List Loc} (hS : va_S (wA ad n s0.size) s0 H locs) : ∀ q : Nat, wA ad n H.size q → wA ad n s0.size q := by
  intro q h
  rcases h with h | h
  · exact Or.inl h
  · exact Or.inr (Nat.le_trans hS.1 h)
theorem wB_of {H : Heap} {locs : List Loc} {U : State} (hK : va_K D vwCl (tyl cy) s) (hE : EX ad (wA ad n s.heap.size) s s.heap) (hP : wP D cy ad n S H) (hS : va_S (wA ad n s.heap.size) s.heap H locs) (hU : U.heap = H) (hW : s.WarmedH U.vm) : wB D cy ad n S H.size U := by
  refine ⟨by rw [hU], by rw [hU]; exact hP, va_K.moved hW.alike hK, ?_⟩
  have h1 : EX ad (wA ad n s.heap.size) s H := hE.kept hS.2.1
  rw [hU]
  exact (h1.narrow (wA_in hS)).warm hW
theorem call_end {ρ' : Type} {toV' : ρ' → Option Value} {okr' : ρ' → Prop} {r' : ρ'} {S' S1 : St} {r : ρ} {H : Heap} {locs : List Loc} {la : Array Slot} {K : ρ' → St → Option (ρ × St)} {st : List Value} {aa : Array Value} (hr : K r' S' = some (r, S1)) (hl : lv_has la c.maxLocals ls) (hS : va_S (wA ad n s.heap.size) s.heap H locs)
    (run : va_Run p l e (rmk d) s m args below meth c H locs 0 0 0 0 (F0 m pc la st) rest (wQ D cy ad n toV' okr' r' S' (wA ad n H.size) aa) (wA ad n H.size)) (k : okr' r' → TG p l e d s m args below meth c D cy ad n toV okr S' (pc + 3) ls ((toV' r').toList ++ rest) (K r' S')) : W p l e (rmk d) s m args below meth c H locs 0 0 (MQ below (wQ D cy ad n toV okr r S1 (wA ad n s.heap.size)) args s 0 0 (wA ad n s.heap.size)) (F0 m pc la st) := by
  intro T hT X
  obtain ⟨v, st₀, t, T', L, h0, X', hL, e1, e2, ⟨⟨hv, hok, hP'⟩, hF1, hF2⟩, go⟩ := run T hT X
  have hv2 : v = toV' r' := by injection hv
  subst hv2
  rw [h0] at hF1 hF2
  have hin := wA_in hS
  obtain ⟨t2, a1, b1⟩ := k hok r S1 hr T'.heap (locs ++ L) la hl (by rw [e1]; exact hP') ⟨Nat.le_trans hS.1 (by rw [e1]; exact hF1), fun q h1 h2 => by
      rw [e1, hF2 q (Nat.lt_of_lt_of_le h1 hS.1) (fun z => h2 (hin q z))]
      exact hS.2.1 q h1 h2, fun q hq => by
      rcases List.mem_append.mp hq with h | h
      · exact hS.2.2 q h
      · exact hin _ (hL q h)⟩ T' rfl X'
  exact ⟨t2, go t2 a1, b1⟩
theorem G_callV {ρ' : Type} {toV' : ρ' → Option Value} {okr' : ρ' → Prop} {y : MethodName} {b : ByteArray} {mL d' nA : Nat} {ret' : Option FieldType} {As : List Value} {f i index : Nat} {resc : Option (ρ' × St)} {K : ρ' → St → Option (ρ × St)} {st : List Value} {stk : ρ' → List Value}
    (cx : CX p s m meth c args cc own nL ret D cy ad n) (hd : decode cc pc = .ok (.invokevirtual index, 3)) (hq : pc + 3 = q) (cf : CF f) (hi : i < n f) (hml : ML own index y (cN f) b mL ret' nA) (hst : st = As.reverse ++ .ref (ad f i) :: rest) (hA : As.length = nA) (hw : (rest.map fun v => v.category).sum ≤ 8) (hR : d' + 1 ≤ d) (hm : mL ≤ 41) (hC : CT l y b mL ret' d' D cy ad n toV' okr' (.ref (ad f i) :: As) S resc)
    (hsk : ∀ r, (toV' r).toList ++ rest = stk r) (k : ∀ r S', resc = some (r, S') → okr' r → TG p l e d s m args below meth c D cy ad n toV okr S' q ls (stk r) (K r S')) : TG p l e d s m args below meth c D cy ad n toV okr S pc ls st (bnd resc K) := by
  subst hq; subst hst
  intro r S1 hr H locs la hl hP hS
  cases hc : resc with
  | none => rw [hc] at hr; cases hr
  | some z =>
    obtain ⟨r', S'⟩ := z
    rw [hc] at hr
    have hr : K r' S' = some (r, S1) := hr
    obtain ⟨hx, hb, hml0, hown, hts, hK, hJ, hE, hret, hlk⟩ := cx
    obtain ⟨c1, c2, c3, c4, -, -⟩ := cf
    obtain ⟨m1, m2, m3, m4, m5, m6, m7⟩ := hml
    have h1 := wP_one hP c4 hi
    rw [ct_obj c3] at h1
    have cw : CallW (rmk d) s args own (cN f) index y b mL ret' (.code y b mL ret' :: lwG) (rmk d') 0 0 nA := ⟨callB_of nA hts (lwG_good (fun w h => (List.mem_cons.mp h).elim (fun e => e ▸ m5) id)) rfl rfl rfl (hts _ m4) (hts _ m1) ⟨m6.1, m6.2, m7⟩ ⟨hR, by show 8 + (mL + 11) + 60 * d' ≤ 60 * d; omega⟩, hts _ m2, hts _ m3⟩
    exact call_end hr hl hS (va_runV (As := As) (rest := rest) (b := ad f i) ⟨hx, hb, hml0, hown, hts⟩ (hC r' S' hc H.size) cw ⟨wB_blind, va_recv hK h1 c1 (q0 := 0) rfl, fun U hU hW => ⟨rfl, wB_of hK hE hP hS hU hW⟩⟩ rfl hA (hml0 ▸ hl.1) rfl (lv_room hw) hd ⟨Nat.zero_le _, Nat.zero_le _⟩) (fun ho => by rw [hsk]; exact k r' S' hc ho)
theorem G_callS {ρ' : Type} {toV' : ρ' → Option Value} {okr' : ρ' → Prop} {y : MethodName} {b : ByteArray} {mL d' nA : Nat} {ret' : Option FieldType} {As : List Value} {index : Nat} {resc : Option (ρ' × St)} {K : ρ' → St → Option (ρ × St)} {st : List Value} {stk : ρ' → List Value}
    (cx : CX p s m meth c args cc own nL ret D cy ad n) (hd : decode cc pc = .ok (.invokestatic index, 3)) (hq : pc + 3 = q) (hml : MLs own index y b mL ret' nA) (hst : st = As.reverse ++ rest) (hA : As.length = nA) (hw : (rest.map fun v => v.category).sum ≤ 8) (hR : d' + 1 ≤ d) (hm : mL ≤ 41) (hC : CT l y b mL ret' d' D cy ad n toV' okr' As S resc)
    (hsk : ∀ r, (toV' r).toList ++ rest = stk r) (k : ∀ r S', resc = some (r, S') → okr' r → TG p l e d s m args below meth c D cy ad n toV okr S' q ls (stk r) (K r S')) : TG p l e d s m args below meth c D cy ad n toV okr S pc ls st (bnd resc K) := by
  subst hq; subst hst
  intro r S1 hr H locs la hl hP hS
  cases hc : resc with
  | none => rw [hc] at hr; cases hr
  | some z =>
    obtain ⟨r', S'⟩ := z
    rw [hc] at hr
    have hr : K r' S' = some (r, S1) := hr
    obtain ⟨hx, hb, hml0, hown, hts, hK, hJ, hE, hret, hlk⟩ := cx
    obtain ⟨m1, m2, m4, m5, m6, m7⟩ := hml
    have cw := callB_of (R := rmk d) (own := own) (index := index) (mc := 0) (ms := 0) (rm := rmk d') nA hts (lwG_good (ws := .code y b mL ret' :: lwG) (fun w h => (List.mem_cons.mp h).elim (fun e => e ▸ m5) id)) rfl rfl rfl (hts _ m4) (hts _ m1) ⟨m6.1, m6.2, m7⟩ ⟨hR, by show 8 + (mL + 11) + 60 * d' ≤ 60 * d; omega⟩
    exact call_end hr hl hS (va_runS (As := As) (rest := rest) ⟨hx, hb, hml0, hown, hts⟩ (hC r' S' hc H.size) ⟨cw, hts _ m2⟩ ⟨wB_blind, fun U hU hW => ⟨rfl, wB_of hK hE hP hS hU hW⟩⟩ rfl hA (hml0 ▸ hl.1) rfl (lv_room hw) hd ⟨Nat.zero_le _, Nat.zero_le _⟩) (fun ho => by rw [hsk]; exact k r' S' hc ho)
theorem G_mmin {index : Nat} {x y : Int32} (cx : CX p s m meth c args cc own nL ret D cy ad n) (hd : decode cc pc = .ok (.invokestatic index, 3)) (hq : pc + 3 = q) (hw : Cond.methodLink own index Lib.Math.min.name ∈ lwG ∧ Cond.static Lib.Math.min.name ∈ lwG ∧ Cond.initialized "java/lang/Math" ∈ lwG ∧ Cond.code Lib.Math.min.name Lib.Math.min.code 2 (some .int) ∈ lwG) (hR : 1 ≤ d) (hs : (rest.map fun v => v.category).sum ≤ 40) (k : TG p l e d s m args below meth c D cy ad n toV okr S q ls (.int (if y < x then y else x) :: rest) res) : TG p l e d s m args below meth c D cy ad n toV okr S pc ls (.int y :: .int x :: rest) res := by
  subst hq
  intro r S1 hr H locs la hl hP hS
  obtain ⟨hx, hb, hml0, hown, hts, hK, hJ, hE, hret, hlk⟩ := cx
  exact va_mmin hx hb hl.1.symm hown (hts _ hw.1) (hts _ hw.2.1) (hts _ hw.2.2.1) (hts _ hw.2.2.2) hR (by show _ + 13 ≤ 60 * d; omega) (Nat.zero_le _) (Nat.zero_le _) hd (k r S1 hr H locs la hl hP hS)
theorem G_mmax {index : Nat} {x y : Int32} (cx : CX p s m meth c args cc own nL ret D cy ad n) (hd : decode cc pc = .ok (.invokestatic index, 3)) (hq : pc + 3 = q) (hw : Cond.methodLink own index Lib.Math.max.name ∈ lwG ∧ Cond.static Lib.Math.max.name ∈ lwG ∧ Cond.initialized "java/lang/Math" ∈ lwG ∧ Cond.code Lib.Math.max.name Lib.Math.max.code 2 (some .int) ∈ lwG) (hR : 1 ≤ d) (hs : (rest.map fun v => v.category).sum ≤ 40) (k : TG p l e d s m args below meth c D cy ad n toV okr S q ls (.int (if x < y then y else x) :: rest) res) : TG p l e d s m args below meth c D cy ad n toV okr S pc ls (.int y :: .int x :: rest) res := by
  subst hq
  intro r S1 hr H locs la hl hP hS
  obtain ⟨hx, hb, hml0, hown, hts, hK, hJ, hE, hret, hlk⟩ := cx
  exact va_mmax hx hb hl.1.symm hown (hts _ hw.1) (hts _ hw.2.1) (hts _ hw.2.2.1) (hts _ hw.2.2.2) hR (by show _ + 13 ≤ 60 * d; omega) (Nat.zero_le _) (Nat.zero_le _) hd (k r S1 hr H locs la hl hP hS)
theorem G_mabs {index : Nat} {x : Int32} (cx : CX p s m meth c args cc own nL ret D cy ad n) (hd : decode cc pc = .ok (.invokestatic index, 3)) (hq : pc + 3 = q) (hw : Cond.methodLink own index Lib.Math.abs.name ∈ lwG ∧ Cond.static Lib.Math.abs.name ∈ lwG ∧ Cond.initialized "java/lang/Math" ∈ lwG ∧ Cond.code Lib.Math.abs.name Lib.Math.abs.code 1 (some .int) ∈ lwG) (hR : 1 ≤ d) (hs : (rest.map fun v => v.category).sum ≤ 40) (k : TG p l e d s m args below meth c D cy ad n toV okr S q ls (.int (if 0 ≤ x then x else 0 - x) :: rest) res) : TG p l e d s m args below meth c D cy ad n toV okr S pc ls (.int x :: rest) res := by
  subst hq
  intro r S1 hr H locs la hl hP hS
  obtain ⟨hx, hb, hml0, hown, hts, hK, hJ, hE, hret, hlk⟩ := cx
  exact va_mabs hx hb hl.1.symm hown (hts _ hw.1) (hts _ hw.2.1) (hts _ hw.2.2.1) (hts _ hw.2.2.2) hR (by show _ + 13 ≤ 60 * d; omega) (Nat.zero_le _) (Nat.zero_le _) hd (k r S1 hr H locs la hl hP hS)
end TGR

