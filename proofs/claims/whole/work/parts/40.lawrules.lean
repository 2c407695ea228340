def R_law : String := "SomebodysLiftLaw"
def lw_P (b : Addr) (xs : List Int32) (args : Array Value) (s : State) : Prop := args = #[.ref b] ∧ s.IntsAt b xs ∧ xs.length ≤ 3072 ∧ (Jvm.Cond.and given_1 narrow_1).before args s = true
def lw_Q (_ : Array Value) (s : State) (o : Outcome) (t : State) : Prop := o = .returned (some (.int 1)) ∧ Framed s o t [] 600000 7302250
def lw_Z (below : List Frame) (a : Array Value) (s : State) : State → Prop := fun t => ∃ o, t.status = .running ∧ Ended t below o ∧ lw_Q a s o t
/-- the law's own end, with 1 on the stack, nothing written that was there before, its room as the claim has it -/
theorem lw_ret {p : Program} {l : Launch} {e : Env} {s : State} {m : MethodId} {below : List Frame} {meth : Method} {c : Code} {b : Nat} (hx : p.tables.exec = Jvm.exec) (hb : c.code = code) (hr : meth.sig.returnType = ret) (hlocks : meth.locks = false) {pc : Nat} {H : Heap} {ls : Array Slot} (hdg : decode code pc = .ok (.ireturn, 1)) : W p l e room_1 s m #[Value.ref b] below meth c H [] 600000 7302250 (lw_Z below #[Value.ref b] s) (F0 m pc ls [.int 1]) := by
  intro T hT X
  obtain ⟨fs, hret, hrun, hended, hW, hframe⟩ := X.leave (v := some (.int 1)) (hlocks := hlocks) (fun h => by rw [hr] at h; cases h)
  have hmeth' : T.vm.method? m = some meth := X.method'
  refine ⟨T.setFrames fs, ?_, .returned (some (.int 1)), hrun, hended, rfl, ⟨_, rfl⟩, hW, hframe⟩
  jvm_step X.here [X.here.top, hx, hb, hdg, hmeth', hr, ret, narrow_b1]
  (try refine ⟨rfl, ?_⟩); (try refine ⟨rfl, ?_⟩)
  first | (intro acts; rw [hret _ acts rfl rfl rfl]) | rw [hret _ _ rfl rfl rfl]
  exact Steps.refl _
/-- what holds at the law's entry: the machine, the code, the tables' words (any of lw_tbl by 'hts w (by decide +kernel)'), the script of L ints xs at the cell b, what the Statement gives of the start (any of its parts by flat_of_before) -/
def lw_At (p : Program) (s : State) (m : MethodId) (meth : Method) (c : Code) (b L : Nat) (xs : Nat → Int32) : Prop :=
  p.tables.exec = Jvm.exec ∧ c.code = code ∧ meth.sig.returnType = ret ∧ c.maxLocals = 4 ∧ s.vm.findClass R_law = some m.cls ∧ (∀ w ∈ lw_tbl, w.before #[Value.ref b] s = true) ∧ va_X b L xs s s.heap ∧ b < s.heap.size ∧ meth.locks = false ∧ (Jvm.Cond.and given_1 narrow_1).before #[Value.ref b] s = true
def lwB (s : State) : Nat → Prop := fun q => s.heap.size ≤ q
/-- where the two systems' cells lie: apart, new, and what lies outside them -/
def LJ (ad : Nat → Nat → Nat) (k : Nat) (s : State) : Prop := wJ ad (nX k) ∧ wJ ad nM ∧ (∀ f i f' i', f < 64 → i < nX k f → f' < 64 → i' < nM f' → ad f i ≠ ad f' i') ∧ (∀ f i, f < 64 → i < nX k f → s.heap.size ≤ ad f i) ∧ (∀ f i, f < 64 → i < nM f → s.heap.size ≤ ad f i) ∧ EX ad (lwB s) s s.heap
def CL (p : Program) (s : State) (m : MethodId) (meth : Method) (c : Code) (b L : Nat) (xs : Nat → Int32) (D : va_G) (cy : Nat → ClassId) (cells slots : Nat) : Prop := lw_At p s m meth c b L xs ∧ va_K D vwCl (tyl cy) s ∧ cells ≤ 600000 ∧ slots ≤ 7302250
def LT (p : Program) (l : Launch) (e : Env) (s : State) (m : MethodId) (below : List Frame) (meth : Method) (c : Code) (b : Nat) (D : va_G) (cy : Nat → ClassId) (cells slots : Nat) (ad : Nat → Nat → Nat) (k : Nat) (Sx Sm : St) (pc : Nat) (ls : List (Nat × Value)) (st : List Value) : Prop :=
  ∀ (H : Heap) (locs : List Loc) (la : Array Slot), lv_has la 4 ls → wP D cy ad (nX k) Sx H → wP D cy ad nM Sm H → va_S (lwB s) s.heap H locs → W p l e room_1 s m #[Value.ref b] below meth c H locs cells slots (lw_Z below #[Value.ref b] s) (F0 m pc la st)
section LTR
variable {p : Program} {l : Launch} {e : Env} {s : State} {m : MethodId} {below : List Frame} {meth : Method} {c : Code} {b L : Nat} {xs : Nat → Int32} {D : va_G} {cy : Nat → ClassId} {cells slots : Nat} {ad : Nat → Nat → Nat} {k : Nat} {Sx Sm : St} {pc q : Nat} {ls : List (Nat × Value)} {st rest : List Value}
theorem L_iconst (cx : CL p s m meth c b L xs D cy cells slots) {z : Int} {v : Int32} (hd : decode cL_law pc = .ok (.iconst z, 1)) (hq : pc + 1 = q) (hv : Int32.ofInt z = v) (kk : LT p l e s m below meth c b D cy cells slots ad k Sx Sm q ls (.int v :: rest)) : LT p l e s m below meth c b D cy cells slots ad k Sx Sm pc ls rest := by
  subst hq
  intro H locs la hl hP hM hS
  exact lv_iconst cx.1.1 cx.1.2.1 hd hv (kk H locs la hl hP hM hS)
theorem L_bipush (cx : CL p s m meth c b L xs D cy cells slots) {z : Int} {v : Int32} (hd : decode cL_law pc = .ok (.bipush z, 2)) (hq : pc + 2 = q) (hv : (Int8.ofInt z).toInt32 = v) (kk : LT p l e s m below meth c b D cy cells slots ad k Sx Sm q ls (.int v :: rest)) : LT p l e s m below meth c b D cy cells slots ad k Sx Sm pc ls rest := by
  subst hq
  intro H locs la hl hP hM hS
  exact lv_bipush cx.1.1 cx.1.2.1 hd hv (kk H locs la hl hP hM hS)
theorem L_iadd (cx : CL p s m meth c b L xs D cy cells slots) {x y : Int32} (hd : decode cL_law pc = .ok (.iadd, 1)) (hq : pc + 1 = q)  (kk : LT p l e s m below meth c b D cy cells slots ad k Sx Sm q ls (.int (x + y) :: rest)) : LT p l e s m below meth c b D cy cells slots ad k Sx Sm pc ls (.int y :: .int x :: rest) := by
  subst hq
  intro H locs la hl hP hM hS
  exact lv_iadd cx.1.1 cx.1.2.1 hd  (kk H locs la hl hP hM hS)
theorem L_isub (cx : CL p s m meth c b L xs D cy cells slots) {x y : Int32} (hd : decode cL_law pc = .ok (.isub, 1)) (hq : pc + 1 = q)  (kk : LT p l e s m below meth c b D cy cells slots ad k Sx Sm q ls (.int (x - y) :: rest)) : LT p l e s m below meth c b D cy cells slots ad k Sx Sm pc ls (.int y :: .int x :: rest) := by
  subst hq
  intro H locs la hl hP hM hS
  exact lv_isub cx.1.1 cx.1.2.1 hd  (kk H locs la hl hP hM hS)
theorem L_iand (cx : CL p s m meth c b L xs D cy cells slots) {x y : Int32} (hd : decode cL_law pc = .ok (.iand, 1)) (hq : pc + 1 = q)  (kk : LT p l e s m below meth c b D cy cells slots ad k Sx Sm q ls (.int (x &&& y) :: rest)) : LT p l e s m below meth c b D cy cells slots ad k Sx Sm pc ls (.int y :: .int x :: rest) := by
  subst hq
  intro H locs la hl hP hM hS
  exact lv_iand cx.1.1 cx.1.2.1 hd  (kk H locs la hl hP hM hS)
theorem L_land (cx : CL p s m meth c b L xs D cy cells slots) {x y : Int64} (hd : decode cL_law pc = .ok (.land, 1)) (hq : pc + 1 = q)  (kk : LT p l e s m below meth c b D cy cells slots ad k Sx Sm q ls (.long (x &&& y) :: rest)) : LT p l e s m below meth c b D cy cells slots ad k Sx Sm pc ls (.long y :: .long x :: rest) := by
  subst hq
  intro H locs la hl hP hM hS
  exact lv_land cx.1.1 cx.1.2.1 hd  (kk H locs la hl hP hM hS)
theorem L_lor (cx : CL p s m meth c b L xs D cy cells slots) {x y : Int64} (hd : decode cL_law pc = .ok (.lor, 1)) (hq : pc + 1 = q)  (kk : LT p l e s m below meth c b D cy cells slots ad k Sx Sm q ls (.long (x ||| y) :: rest)) : LT p l e s m below meth c b D cy cells slots ad k Sx Sm pc ls (.long y :: .long x :: rest) := by
  subst hq
  intro H locs la hl hP hM hS
  exact lv_lor cx.1.1 cx.1.2.1 hd  (kk H locs la hl hP hM hS)
theorem L_lshl (cx : CL p s m meth c b L xs D cy cells slots) {x : Int64} {y : Int32} (hd : decode cL_law pc = .ok (.lshl, 1)) (hq : pc + 1 = q)  (kk : LT p l e s m below meth c b D cy cells slots ad k Sx Sm q ls (.long (x <<< (y.toInt64 &&& 63)) :: rest)) : LT p l e s m below meth c b D cy cells slots ad k Sx Sm pc ls (.int y :: .long x :: rest) := by
  subst hq
  intro H locs la hl hP hM hS
  exact lv_lshl cx.1.1 cx.1.2.1 hd rfl (kk H locs la hl hP hM hS)
theorem L_i2l (cx : CL p s m meth c b L xs D cy cells slots) {x : Int32} (hd : decode cL_law pc = .ok (.i2l, 1)) (hq : pc + 1 = q)  (kk : LT p l e s m below meth c b D cy cells slots ad k Sx Sm q ls (.long x.toInt64 :: rest)) : LT p l e s m below meth c b D cy cells slots ad k Sx Sm pc ls (.int x :: rest) := by
  subst hq
  intro H locs la hl hP hM hS
  exact lv_i2l cx.1.1 cx.1.2.1 hd rfl (kk H locs la hl hP hM hS)
theorem L_lcmp (cx : CL p s m meth c b L xs D cy cells slots) {x y : Int64} (hd : decode cL_law pc = .ok (.lcmp, 1)) (hq : pc + 1 = q)  (kk : LT p l e s m below meth c b D cy cells slots ad k Sx Sm q ls (.int (lg_cmp x y) :: rest)) : LT p l e s m below meth c b D cy cells slots ad k Sx Sm pc ls (.long y :: .long x :: rest) := by
  subst hq
  intro H locs la hl hP hM hS
  exact W.lcmp cx.1.1 cx.1.2.1 hd  (kk H locs la hl hP hM hS)
theorem L_iload_n (cx : CL p s m meth c b L xs D cy cells slots) {z : Fin 4} {x : Int32} (hd : decode cL_law pc = .ok (.iload_n z, 1)) (hq : pc + 1 = q) (hv : lkp ls (z : Nat) = some (.int x)) (kk : LT p l e s m below meth c b D cy cells slots ad k Sx Sm q ls (.int x :: rest)) : LT p l e s m below meth c b D cy cells slots ad k Sx Sm pc ls rest := by
  subst hq
  intro H locs la hl hP hM hS
  exact lv_iload_n cx.1.1 cx.1.2.1 hd rfl (lkp_at hl hv) (kk H locs la hl hP hM hS)
theorem L_aload_n (cx : CL p s m meth c b L xs D cy cells slots) {z : Fin 4} {x : Nat} (hd : decode cL_law pc = .ok (.aload_n z, 1)) (hq : pc + 1 = q) (hv : lkp ls (z : Nat) = some (.ref x)) (kk : LT p l e s m below meth c b D cy cells slots ad k Sx Sm q ls (.ref x :: rest)) : LT p l e s m below meth c b D cy cells slots ad k Sx Sm pc ls rest := by
  subst hq
  intro H locs la hl hP hM hS
  exact lv_aload_n cx.1.1 cx.1.2.1 hd rfl (lkp_at hl hv) (kk H locs la hl hP hM hS)
theorem L_iinc (cx : CL p s m meth c b L xs D cy cells slots) {i j : Nat} {z : Int} {x v : Int32} {ls' : List (Nat × Value)} (hd : decode cL_law pc = .ok (.iinc i z, 3)) (hq : pc + 3 = q) (hk : ls[j]? = some (i, .int x)) (hv : x + Int32.ofInt z = v) (hn : i < 4) (hls : (i, Value.int v) :: ls.filter (fun q => !(q.1 == i) && !(q.1 + 1 == i && q.2.category == 2)) = ls') (kk : LT p l e s m below meth c b D cy cells slots ad k Sx Sm q ls' rest) : LT p l e s m below meth c b D cy cells slots ad k Sx Sm pc ls rest := by
  subst hq
  intro H locs la hl hP hM hS
  exact lv_iinc cx.1.1 cx.1.2.1 hd hl hk hv hn hls (fun la' hl' => kk H locs la' hl' hP hM hS)
theorem L_ldc2 (cx : CL p s m meth c b L xs D cy cells slots) (hd : decode cL_law pc = .ok (.ldc2_w 180, 3)) (hq : pc + 3 = q) (kk : LT p l e s m below meth c b D cy cells slots ad k Sx Sm q ls (.long 4294967295 :: rest)) : LT p l e s m below meth c b D cy cells slots ad k Sx Sm pc ls rest := by
  subst hq
  intro H locs la hl hP hM hS
  exact lv_ldc2 cx.1.1 cx.1.2.1 cx.1.2.2.2.2.1 (cx.1.2.2.2.2.2.1 (Cond.constantLong RL 180 4294967295) (inT 1376 (by decide +kernel))) hd (kk H locs la hl hP hM hS)
theorem L_sld (cx : CL p s m meth c b L xs D cy cells slots) {i : Int32} (hd : decode cL_law pc = .ok (.iaload, 1)) (hq : pc + 1 = q) (hin : vp_in i L) (kk : LT p l e s m below meth c b D cy cells slots ad k Sx Sm q ls (.int (xs i.toNatClampNeg) :: rest)) : LT p l e s m below meth c b D cy cells slots ad k Sx Sm pc ls (.int i :: .ref b :: rest) := by
  subst hq
  intro H locs la hl hP hM hS
  obtain ⟨⟨hx, hb, hr, hml, hown, hts, hX, hbl, hlocks, hgv⟩, hK, hc1, hc2⟩ := cx
  exact va_sld hx hb hX hbl (show ¬ s.heap.size ≤ b by omega) hS hin hd (kk H locs la hl hP hM hS)
theorem L_slen (cx : CL p s m meth c b L xs D cy cells slots) (hd : decode cL_law pc = .ok (.arraylength, 1)) (hq : pc + 1 = q) (kk : LT p l e s m below meth c b D cy cells slots ad k Sx Sm q ls (.int (Int32.ofNat L) :: rest)) : LT p l e s m below meth c b D cy cells slots ad k Sx Sm pc ls (.ref b :: rest) := by
  subst hq
  intro H locs la hl hP hM hS
  obtain ⟨⟨hx, hb, hr, hml, hown, hts, hX, hbl, hlocks, hgv⟩, hK, hc1, hc2⟩ := cx
  exact va_slen hx hb hX hbl (show ¬ s.heap.size ≤ b by omega) hS hd (kk H locs la hl hP hM hS)
theorem L_tsw (cx : CL p s m meth c b L xs D cy cells slots) {x a : Int32} {dflt lo hi off : Int} {offs : Array Int} {len t : Nat} (hd : decode cL_law pc = .ok (.tableswitch dflt lo hi offs, len)) (hx : x = a) (h1 : ¬ a.toInt < lo) (h2 : ¬ hi < a.toInt) (ho : offs[(a.toInt - lo).toNat]? = some off) (ht : (pc : Int) + off = (t : Int)) (kk : LT p l e s m below meth c b D cy cells slots ad k Sx Sm t ls rest) : LT p l e s m below meth c b D cy cells slots ad k Sx Sm pc ls (.int x :: rest) := by
  subst hx
  intro H locs la hl hP hM hS
  exact lv_tableIn cx.1.1 cx.1.2.1 hd h1 h2 ho ht (kk H locs la hl hP hM hS)
theorem L_tswO (cx : CL p s m meth c b L xs D cy cells slots) {x : Int32} {dflt lo hi : Int} {offs : Array Int} {len t : Nat} (hd : decode cL_law pc = .ok (.tableswitch dflt lo hi offs, len)) (hx : x.toInt < lo ∨ hi < x.toInt) (ht : (pc : Int) + dflt = (t : Int)) (kk : LT p l e s m below meth c b D cy cells slots ad k Sx Sm t ls rest) : LT p l e s m below meth c b D cy cells slots ad k Sx Sm pc ls (.int x :: rest) := by
  intro H locs la hl hP hM hS
  exact lv_tableOut cx.1.1 cx.1.2.1 hd hx ht (kk H locs la hl hP hM hS)
theorem L_gt (cx : CL p s m meth c b L xs D cy cells slots) {x y : Int32} {off : Int} {t : Nat} (hd : decode cL_law pc = .ok (.if_icmp .gt off, 3)) (hq : pc + 3 = q) (ht : (pc : Int) + off = (t : Int)) (kt : y < x → LT p l e s m below meth c b D cy cells slots ad k Sx Sm t ls rest) (kf : ¬ y < x → LT p l e s m below meth c b D cy cells slots ad k Sx Sm q ls rest) : LT p l e s m below meth c b D cy cells slots ad k Sx Sm pc ls (.int y :: .int x :: rest) := by
  subst hq
  intro H locs la hl hP hM hS
  exact lv_icmp_gt cx.1.1 cx.1.2.1 hd ht (fun h => kt h H locs la hl hP hM hS) (fun h => kf h H locs la hl hP hM hS)
theorem L_eqy (cx : CL p s m meth c b L xs D cy cells slots) {x : Int32} {off : Int} {t : Nat} (hd : decode cL_law pc = .ok (.if_icmp .eq off, 3)) (ht : (pc : Int) + off = (t : Int)) (kt : LT p l e s m below meth c b D cy cells slots ad k Sx Sm t ls rest) : LT p l e s m below meth c b D cy cells slots ad k Sx Sm pc ls (.int x :: .int x :: rest) := by
  intro H locs la hl hP hM hS
  exact lv_icmp_eq cx.1.1 cx.1.2.1 hd ht (fun _ => kt H locs la hl hP hM hS) (fun h => absurd rfl h)
theorem L_eq0y (cx : CL p s m meth c b L xs D cy cells slots) {x : Int32} {off : Int} {t : Nat} (hx : x = 0) (hd : decode cL_law pc = .ok (.ifCond .eq off, 3)) (ht : (pc : Int) + off = (t : Int)) (kt : LT p l e s m below meth c b D cy cells slots ad k Sx Sm t ls rest) : LT p l e s m below meth c b D cy cells slots ad k Sx Sm pc ls (.int x :: rest) := by
  intro H locs la hl hP hM hS
  exact lv_if_eq cx.1.1 cx.1.2.1 hd ht (fun _ => kt H locs la hl hP hM hS) (fun h => absurd hx h)
theorem L_goto (cx : CL p s m meth c b L xs D cy cells slots) {off : Int} {t : Nat} (hd : decode cL_law pc = .ok (.goto off, 3)) (ht : (pc : Int) + off = (t : Int)) (kk : LT p l e s m below meth c b D cy cells slots ad k Sx Sm t ls rest) : LT p l e s m below meth c b D cy cells slots ad k Sx Sm pc ls rest := by
  intro H locs la hl hP hM hS
  exact lv_goto cx.1.1 cx.1.2.1 hd ht (kk H locs la hl hP hM hS)
theorem L_end (cx : CL p s m meth c b L xs D cy cells slots) (hd : decode cL_law pc = .ok (.ireturn, 1)) : LT p l e s m below meth c b D cy cells slots ad k Sx Sm pc ls [.int 1] := by
  intro H locs la hl hP hM hS
  obtain ⟨⟨hx, hb, hr, hml, hown, hts, hX, hbl, hlocks, hgv⟩, hK, hc1, hc2⟩ := cx
  refine va_forget (fun q hq => hS.2.2 q hq) ?_
  refine W.widen (k := 600000) (n := 7302250) hc1 hc2 ?_
  exact lw_ret hx hb hr hlocks hd
theorem wP_frame {n : Nat → Nat} {A : Nat → Prop} {S : St} {H H1 : Heap} (hP : wP D cy ad n S H) (hA : ∀ f i, f < 64 → i < n f → ¬ A (ad f i)) (hk : ∀ q : Nat, q < H.size → ¬ A q → H1[q]? = H[q]?) : wP D cy ad n S H1 :=
  ⟨fun f i hf hi => (hP.1 f i hf hi).kept (hk _ (hP.1 f i hf hi).lt (hA f i hf hi)), hP.2⟩
theorem wB_law {n : Nat → Nat} {S : St} {H : Heap} {locs : List Loc} {U : State} (hK : va_K D vwCl (tyl cy) s) (hE : EX ad (lwB s) s s.heap) (hn : ∀ f i, f < 64 → i < n f → s.heap.size ≤ ad f i) (hP : wP D cy ad n S H) (hS : va_S (lwB s) s.heap H locs) (hU : U.heap = H) (hW : s.WarmedH U.vm) : wB D cy ad n S H.size U := by
  refine ⟨by rw [hU], by rw [hU]; exact hP, va_K.moved hW.alike hK, ?_⟩
  have h1 : EX ad (lwB s) s H := hE.kept hS.2.1
  rw [hU]
  refine (h1.narrow (fun q h => ?_)).warm hW
  rcases h with ⟨f, i, hf, hi, rfl⟩ | h
  · exact hn f i hf hi
  · exact Nat.le_trans hS.1 h
theorem L_callX {ρ : Type} {toV : ρ → Option Value} {okr : ρ → Prop} {y : MethodName} {bb : ByteArray} {mL d' nA index : Nat} {ret' : Option FieldType} {As : List Value} {resc : Option (ρ × St)} {r : ρ} {Sx' : St} {st' : List Value}
    (cx : CL p s m meth c b L xs D cy cells slots) (lj : LJ ad k s) (hd : decode cL_law pc = .ok (.invokevirtual index, 3)) (hq : pc + 3 = q) (hml : ML RL index y RX7 bb mL ret' nA) (hst : st = As.reverse ++ .ref (ad 7 0) :: rest) (hA : As.length = nA) (hw : (rest.map fun v => v.category).sum ≤ 8) (hR : d' ≤ 100) (hm : mL ≤ 41) (hC : CT l y bb mL ret' d' D cy ad (nX k) toV okr (.ref (ad 7 0) :: As) Sx resc)
    (hres : resc = some (r, Sx')) (hsk : (toV r).toList ++ rest = st') (kk : LT p l e s m below meth c b D cy cells slots ad k Sx' Sm q ls st') : LT p l e s m below meth c b D cy cells slots ad k Sx Sm pc ls st := by
  subst hq; subst hst
  intro H locs la hl hP hM hS
  obtain ⟨⟨hx, hb, hr, hml0, hown, hts, hX, hbl, hlocks, hgv⟩, hK, hc1, hc2⟩ := cx
  obtain ⟨m1, m2, m3, m4, m5, m6, m7⟩ := hml
  obtain ⟨j1, j2, j3, j4, j5, hE⟩ := lj
  have htG : ∀ w ∈ lwG, w.before #[Value.ref b] s = true := fun w h => hts w (List.mem_filter.mp h).1
  have h1 := wP_one hP (show 7 < 64 by decide) (show 0 < nX k 7 from Nat.zero_lt_one)
  rw [ct_obj rfl] at h1
  have cw : CallW room_1 s #[Value.ref b] RL RX7 index y bb mL ret' (.code y bb mL ret' :: lwG) (rmk d') 0 0 nA := ⟨callB_of nA htG (lwG_good (fun w h => (List.mem_cons.mp h).elim (fun e => e ▸ m5) id)) rfl rfl rfl (htG _ m4) (htG _ m1) ⟨m6.1, m6.2, m7⟩ ⟨by show d' + 1 ≤ 2048; omega, by show 8 + (mL + 11) + 60 * d' ≤ 84000; omega⟩, htG _ m2, htG _ m3⟩
  have run := va_runV (As := As) (rest := rest) (b := ad 7 0) (g := F0 m pc la (As.reverse ++ .ref (ad 7 0) :: rest)) (locs := locs) (cells := cells) (slots := slots) (below := below) (meth := meth) (e := e) ⟨hx, hb, hml0, hown, htG⟩ (hC r Sx' hres H.size) cw ⟨wB_blind, va_recv hK h1 (cf_7).1 (q0 := 0) rfl, fun U hU hW => ⟨rfl, wB_law hK hE j4 hP hS hU hW⟩⟩ rfl hA hl.1 rfl (lv_room hw) hd ⟨hc1, hc2⟩
  intro T hT X
  obtain ⟨v, st₀, t, T', Lc, h0, X', hL, e1, e2, ⟨⟨hv, hok, hP'⟩, hF1, hF2⟩, go⟩ := run T hT X
  have hv2 : v = toV r := by injection hv
  subst hv2
  rw [h0] at hF1 hF2
  have hin : ∀ q, wA ad (nX k) H.size q → lwB s q := fun q h => by
    rcases h with ⟨f, i, hf, hi, rfl⟩ | h
    · exact j4 f i hf hi
    · exact Nat.le_trans hS.1 h
  have hM' : wP D cy ad nM Sm T'.heap := by
    refine wP_frame (A := wA ad (nX k) H.size) hM (fun f i hf hi h => ?_) (fun q h1 h2 => by rw [e1]; exact hF2 q h1 h2)
    rcases h with ⟨f', i', hf', hi', e⟩ | h
    · exact j3 f' i' f i hf' hi' hf hi e.symm
    · exact absurd (hM.1 f i hf hi).lt (Nat.not_lt.mpr h)
  obtain ⟨t2, a1, b1⟩ := kk T'.heap (locs ++ Lc) la hl (by rw [e1]; exact hP') hM' ⟨Nat.le_trans hS.1 (by rw [e1]; exact hF1), fun q h1 h2 => by
      rw [e1, hF2 q (Nat.lt_of_lt_of_le h1 hS.1) (fun z => h2 (hin q z))]
      exact hS.2.1 q h1 h2, fun q hq => by
      rcases List.mem_append.mp hq with h | h
      · exact hS.2.2 q h
      · exact hin _ (hL q h)⟩ T' rfl X'
  refine ⟨t2, go t2 ?_, b1⟩
  rw [← hsk] at a1
  exact a1
theorem L_callM {ρ : Type} {toV : ρ → Option Value} {okr : ρ → Prop} {y : MethodName} {bb : ByteArray} {mL d' nA index : Nat} {ret' : Option FieldType} {As : List Value} {resc : Option (ρ × St)} {r : ρ} {Sm' : St} {st' : List Value}
    (cx : CL p s m meth c b L xs D cy cells slots) (lj : LJ ad k s) (hd : decode cL_law pc = .ok (.invokevirtual index, 3)) (hq : pc + 3 = q) (hml : ML RL index y RX8 bb mL ret' nA) (hst : st = As.reverse ++ .ref (ad 8 0) :: rest) (hA : As.length = nA) (hw : (rest.map fun v => v.category).sum ≤ 8) (hR : d' ≤ 100) (hm : mL ≤ 41) (hC : CT l y bb mL ret' d' D cy ad nM toV okr (.ref (ad 8 0) :: As) Sm resc)
    (hres : resc = some (r, Sm')) (hsk : (toV r).toList ++ rest = st') (kk : LT p l e s m below meth c b D cy cells slots ad k Sx Sm' q ls st') : LT p l e s m below meth c b D cy cells slots ad k Sx Sm pc ls st := by
  subst hq; subst hst
  intro H locs la hl hP hM hS
  obtain ⟨⟨hx, hb, hr, hml0, hown, hts, hX, hbl, hlocks, hgv⟩, hK, hc1, hc2⟩ := cx
  obtain ⟨m1, m2, m3, m4, m5, m6, m7⟩ := hml
  obtain ⟨j1, j2, j3, j4, j5, hE⟩ := lj
  have htG : ∀ w ∈ lwG, w.before #[Value.ref b] s = true := fun w h => hts w (List.mem_filter.mp h).1
  have h1 := wP_one hM (show 8 < 64 by decide) (show 0 < nM 8 from Nat.zero_lt_one)
  rw [ct_obj rfl] at h1
  have cw : CallW room_1 s #[Value.ref b] RL RX8 index y bb mL ret' (.code y bb mL ret' :: lwG) (rmk d') 0 0 nA := ⟨callB_of nA htG (lwG_good (fun w h => (List.mem_cons.mp h).elim (fun e => e ▸ m5) id)) rfl rfl rfl (htG _ m4) (htG _ m1) ⟨m6.1, m6.2, m7⟩ ⟨by show d' + 1 ≤ 2048; omega, by show 8 + (mL + 11) + 60 * d' ≤ 84000; omega⟩, htG _ m2, htG _ m3⟩
  have run := va_runV (As := As) (rest := rest) (b := ad 8 0) (g := F0 m pc la (As.reverse ++ .ref (ad 8 0) :: rest)) (locs := locs) (cells := cells) (slots := slots) (below := below) (meth := meth) (e := e) ⟨hx, hb, hml0, hown, htG⟩ (hC r Sm' hres H.size) cw ⟨wB_blind, va_recv hK h1 (cf_8).1 (q0 := 0) rfl, fun U hU hW => ⟨rfl, wB_law hK hE j5 hM hS hU hW⟩⟩ rfl hA hl.1 rfl (lv_room hw) hd ⟨hc1, hc2⟩
  intro T hT X
  obtain ⟨v, st₀, t, T', Lc, h0, X', hL, e1, e2, ⟨⟨hv, hok, hM'⟩, hF1, hF2⟩, go⟩ := run T hT X
  have hv2 : v = toV r := by injection hv
  subst hv2
  rw [h0] at hF1 hF2
  have hin : ∀ q, wA ad nM H.size q → lwB s q := fun q h => by
    rcases h with ⟨f, i, hf, hi, rfl⟩ | h
    · exact j5 f i hf hi
    · exact Nat.le_trans hS.1 h
  have hP' : wP D cy ad (nX k) Sx T'.heap := by
    refine wP_frame (A := wA ad nM H.size) hP (fun f i hf hi h => ?_) (fun q h1 h2 => by rw [e1]; exact hF2 q h1 h2)
    rcases h with ⟨f', i', hf', hi', e⟩ | h
    · exact j3 f i f' i' hf hi hf' hi' e
    · exact absurd (hP.1 f i hf hi).lt (Nat.not_lt.mpr h)
  obtain ⟨t2, a1, b1⟩ := kk T'.heap (locs ++ Lc) la hl hP' (by rw [e1]; exact hM') ⟨Nat.le_trans hS.1 (by rw [e1]; exact hF1), fun q h1 h2 => by
      rw [e1, hF2 q (Nat.lt_of_lt_of_le h1 hS.1) (fun z => h2 (hin q z))]
      exact hS.2.1 q h1 h2, fun q hq => by
      rcases List.mem_append.mp hq with h | h
      · exact hS.2.2 q h
      · exact hin _ (hL q h)⟩ T' rfl X'
  refine ⟨t2, go t2 ?_, b1⟩
  rw [← hsk] at a1
  exact a1
theorem L_loc {ls' : List (Nat × Value)} (ks : List Nat) (hl : lv_pick ls ks = ls') (h : LT p l e s m below meth c b D cy cells slots ad k Sx Sm pc ls' st) : LT p l e s m below meth c b D cy cells slots ad k Sx Sm pc ls st := fun H locs la hla => h H locs la (lv_sub hla ks hl)
theorem L_widen {cells' slots' : Nat} (h1 : cells ≤ cells') (h2 : slots ≤ slots') (h : LT p l e s m below meth c b D cy cells' slots' ad k Sx Sm pc ls st) : LT p l e s m below meth c b D cy cells slots ad k Sx Sm pc ls st := fun H locs la hl hP hM hS => W.widen h1 h2 (h H locs la hl hP hM hS)
end LTR
