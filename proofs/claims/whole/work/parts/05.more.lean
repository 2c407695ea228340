theorem nz01 {v : Int32} (h : v = 0 ∨ v = 1) : narrow .boolean (.int v) = .int v := by rcases h with rfl | rfl <;> rfl
def cI (S : St) (f i : Nat) (g : Nat → Int32) : St := (fun a b c => if a = f ∧ b = i then g c else S.1 a b c, S.2.1, S.2.2)
def cJ (S : St) (f i : Nat) (g : Nat → Int64) : St := (S.1, fun a b c => if a = f ∧ b = i then g c else S.2.1 a b c, S.2.2)
theorem gI_cI (S : St) (f i : Nat) (g : Nat → Int32) (a b c : Nat) : gI (cI S f i g) a b c = if a = f ∧ b = i then g c else gI S a b c := rfl
theorem gJ_cJ (S : St) (f i : Nat) (g : Nat → Int64) (a b c : Nat) : gJ (cJ S f i g) a b c = if a = f ∧ b = i then g c else gJ S a b c := rfl
theorem gJ_cI (S : St) (f i : Nat) (g : Nat → Int32) (a b : Nat) : gJ (cI S f i g) a b = gJ S a b := rfl
theorem gR_cI (S : St) (f i : Nat) (g : Nat → Int32) (a b : Nat) : gR (cI S f i g) a b = gR S a b := rfl
theorem gI_cJ (S : St) (f i : Nat) (g : Nat → Int64) (a b : Nat) : gI (cJ S f i g) a b = gI S a b := rfl
theorem gR_cJ (S : St) (f i : Nat) (g : Nat → Int64) (a b : Nat) : gR (cJ S f i g) a b = gR S a b := rfl
theorem gI_cI_self (S : St) (f i : Nat) (g : Nat → Int32) : gI (cI S f i g) f i = g := by funext c; rw [gI_cI, if_pos ⟨rfl, rfl⟩]
theorem gJ_cJ_self (S : St) (f i : Nat) (g : Nat → Int64) : gJ (cJ S f i g) f i = g := by funext c; rw [gJ_cJ, if_pos ⟨rfl, rfl⟩]
theorem gI_cI_ne {S : St} {f i : Nat} {g : Nat → Int32} {a b : Nat} (h : ¬ (a = f ∧ b = i)) : gI (cI S f i g) a b = gI S a b := by funext c; rw [gI_cI, if_neg h]
theorem gJ_cJ_ne {S : St} {f i : Nat} {g : Nat → Int64} {a b : Nat} (h : ¬ (a = f ∧ b = i)) : gJ (cJ S f i g) a b = gJ S a b := by funext c; rw [gJ_cJ, if_neg h]
section TGM
variable {p : Program} {l : Launch} {e : Env} {d : Nat} {s : State} {m : MethodId} {args : Array Value} {below : List Frame} {meth : Method} {c : Code} {D : va_G} {cy : Nat → ClassId} {ad : Nat → Nat → Nat} {n : Nat → Nat} {ρ : Type} {toV : ρ → Option Value} {okr : ρ → Prop} {S : St} {pc q : Nat} {ls : List (Nat × Value)} {rest : List Value} {res : Option (ρ × St)} {cc : ByteArray} {own : String} {nL : Nat} {ret : Option FieldType}
theorem wP_rowI {H : Heap} (hJ : wJ ad n) (hc : ∀ f i j a, gR S f i j = some a → a < n 0) {f i k : Nat} {g : Nat → Int32} (hf : f < 64) (hi : i < n f) (hk : (wl n ad (ct cy ad S))[k]? = some (ad f i, ct cy ad S f i)) {e : va_E} (he : e = ct cy ad (cI S f i g) f i) (hP : va_P D vwCl ((wl n ad (ct cy ad S)).set k (ad f i, e)) H) : wP D cy ad n (cI S f i g) H := by
  refine ⟨fun f' i' hf' hi' => ?_, hc⟩
  have h := wl_set hJ hf hi hk hP f' i' hf' hi'
  by_cases hq : f' = f ∧ i' = i
  · rw [if_pos hq, he] at h
    obtain ⟨rfl, rfl⟩ := hq
    exact h
  · rw [if_neg hq] at h
    rw [show ct cy ad (cI S f i g) f' i' = ct cy ad S f' i' by unfold ct; rw [gI_cI_ne hq]; rfl]
    exact h
theorem wP_rowJ {H : Heap} (hJ : wJ ad n) (hc : ∀ f i j a, gR S f i j = some a → a < n 0) {f i k : Nat} {g : Nat → Int64} (hf : f < 64) (hi : i < n f) (hk : (wl n ad (ct cy ad S))[k]? = some (ad f i, ct cy ad S f i)) {e : va_E} (he : e = ct cy ad (cJ S f i g) f i) (hP : va_P D vwCl ((wl n ad (ct cy ad S)).set k (ad f i, e)) H) : wP D cy ad n (cJ S f i g) H := by
  refine ⟨fun f' i' hf' hi' => ?_, hc⟩
  have h := wl_set hJ hf hi hk hP f' i' hf' hi'
  by_cases hq : f' = f ∧ i' = i
  · rw [if_pos hq, he] at h
    obtain ⟨rfl, rfl⟩ := hq
    exact h
  · rw [if_neg hq] at h
    rw [show ct cy ad (cJ S f i g) f' i' = ct cy ad S f' i' by unfold ct; rw [gJ_cJ_ne hq]; rfl]
    exact h
theorem G_alenI (cx : CX p s m meth c args cc own nL ret D cy ad n) {f i : Nat} {v : Int32} (hd : decode cc pc = .ok (.arraylength, 1)) (hq : pc + 1 = q) (hf : f < 64) (hk : ka f = 1) (hv : Int32.ofNat (kl f i) = v) (hi : i < n f) (k : TG p l e d s m args below meth c D cy ad n toV okr S q ls (.int v :: rest) res) : TG p l e d s m args below meth c D cy ad n toV okr S pc ls (.ref (ad f i) :: rest) res := by
  subst hq
  intro r S1 hr H locs la hl hP hS
  have h1 := wP_one hP hf hi
  rw [ct_int hk] at h1
  exact va_alen cx.1 cx.2.1 cx.2.2.2.2.2.1 h1 0 0 rfl rfl hv hd (k r S1 hr H locs la hl hP hS)
theorem G_alenJ (cx : CX p s m meth c args cc own nL ret D cy ad n) {f i : Nat} {v : Int32} (hd : decode cc pc = .ok (.arraylength, 1)) (hq : pc + 1 = q) (hf : f < 64) (hk : ka f = 4) (hv : Int32.ofNat (kl f i) = v) (hi : i < n f) (k : TG p l e d s m args below meth c D cy ad n toV okr S q ls (.int v :: rest) res) : TG p l e d s m args below meth c D cy ad n toV okr S pc ls (.ref (ad f i) :: rest) res := by
  subst hq
  intro r S1 hr H locs la hl hP hS
  have h1 := wP_one hP hf hi
  rw [ct_long hk] at h1
  exact va_alen cx.1 cx.2.1 cx.2.2.2.2.2.1 h1 0 3 rfl rfl hv hd (k r S1 hr H locs la hl hP hS)
theorem G_alenB (cx : CX p s m meth c args cc own nL ret D cy ad n) {f i : Nat} {v : Int32} (hd : decode cc pc = .ok (.arraylength, 1)) (hq : pc + 1 = q) (hf : f < 64) (hk : ka f = 2) (hv : Int32.ofNat (kl f i) = v) (hi : i < n f) (k : TG p l e d s m args below meth c D cy ad n toV okr S q ls (.int v :: rest) res) : TG p l e d s m args below meth c D cy ad n toV okr S pc ls (.ref (ad f i) :: rest) res := by
  subst hq
  intro r S1 hr H locs la hl hP hS
  have h1 := wP_one hP hf hi
  rw [ct_byte hk] at h1
  exact va_alen cx.1 cx.2.1 cx.2.2.2.2.2.1 h1 0 1 rfl rfl hv hd (k r S1 hr H locs la hl hP hS)
theorem G_acmp_ne (cx : CX p s m meth c args cc own nL ret D cy ad n) {a b : Nat} {off : Int} {t : Nat} (hd : decode cc pc = .ok (.if_acmp .ne off, 3)) (hq : pc + 3 = q) (ht : (pc : Int) + off = (t : Int)) (ha : a < n 0) (hb : b < n 0) {A B : Option (ρ × St)} (kt : ¬ a = b → TG p l e d s m args below meth c D cy ad n toV okr S t ls rest A) (kf : a = b → TG p l e d s m args below meth c D cy ad n toV okr S q ls rest B) : TG p l e d s m args below meth c D cy ad n toV okr S pc ls (.ref (ad 0 b) :: .ref (ad 0 a) :: rest) (if a = b then B else A) := by
  subst hq
  intro r S1 hr H locs la hl hP hS
  have hJ := cx.2.2.2.2.2.2.1
  refine lv_acmp_ne (rx := some (ad 0 a)) (ry := some (ad 0 b)) cx.1 cx.2.1 hd ht (fun h => ?_) (fun h => ?_)
  · have hne : ¬ a = b := fun z => h (by rw [z])
    rw [if_neg hne] at hr; exact kt hne r S1 hr H locs la hl hP hS
  · have he : a = b := (hJ.2 0 a 0 b (by decide) (by decide) ha hb (Option.some.inj h)).2
    rw [if_pos he] at hr; exact kf he r S1 hr H locs la hl hP hS
theorem G_acmp_nullne (cx : CX p s m meth c args cc own nL ret D cy ad n) {b : Nat} {off : Int} {t : Nat} (hd : decode cc pc = .ok (.if_acmp .ne off, 3)) (hq : pc + 3 = q) (ht : (pc : Int) + off = (t : Int)) (k : TG p l e d s m args below meth c D cy ad n toV okr S t ls rest res) : TG p l e d s m args below meth c D cy ad n toV okr S pc ls (.ref b :: .null :: rest) res := by
  subst hq
  intro r S1 hr H locs la hl hP hS
  exact lv_acmp_ne (rx := none) (ry := some b) cx.1 cx.2.1 hd ht (fun _ => k r S1 hr H locs la hl hP hS) (fun h => by cases h)
theorem G_ldc (cx : CX p s m meth c args cc own nL ret D cy ad n) {index : Nat} {v : Int32} (hd : decode cc pc = .ok (.ldc index, 2)) (hq : pc + 2 = q) (hw : Cond.constant own index v ∈ lwG) (k : TG p l e d s m args below meth c D cy ad n toV okr S q ls (.int v :: rest) res) : TG p l e d s m args below meth c D cy ad n toV okr S pc ls rest res := by
  subst hq
  intro r S1 hr H locs la hl hP hS
  exact lv_ldc cx.1 cx.2.1 cx.2.2.2.1 (cx.2.2.2.2.1 _ hw) hd (k r S1 hr H locs la hl hP hS)
theorem G_ldc2_w (cx : CX p s m meth c args cc own nL ret D cy ad n) {index : Nat} {v : Int64} (hd : decode cc pc = .ok (.ldc2_w index, 3)) (hq : pc + 3 = q) (hw : Cond.constantLong own index v ∈ lwG) (k : TG p l e d s m args below meth c D cy ad n toV okr S q ls (.long v :: rest) res) : TG p l e d s m args below meth c D cy ad n toV okr S pc ls rest res := by
  subst hq
  intro r S1 hr H locs la hl hP hS
  exact lv_ldc2 cx.1 cx.2.1 cx.2.2.2.1 (cx.2.2.2.2.1 _ hw) hd (k r S1 hr H locs la hl hP hS)
theorem G_tswDef (cx : CX p s m meth c args cc own nL ret D cy ad n) {x : Int32} {dflt lo hi : Int} {offs : Array Int} {len t : Nat} (hd : decode cc pc = .ok (.tableswitch dflt lo hi offs, len)) (hx : ¬ x.toInt < lo → ¬ hi < x.toInt → offs[(x.toInt - lo).toNat]? = some dflt) (ht : (pc : Int) + dflt = (t : Int)) (k : TG p l e d s m args below meth c D cy ad n toV okr S t ls rest res) : TG p l e d s m args below meth c D cy ad n toV okr S pc ls (.int x :: rest) res := by
  intro r S1 hr H locs la hl hP hS
  by_cases h1 : x.toInt < lo
  · exact lv_tableOut cx.1 cx.2.1 hd (Or.inl h1) ht (k r S1 hr H locs la hl hP hS)
  · by_cases h2 : hi < x.toInt
    · exact lv_tableOut cx.1 cx.2.1 hd (Or.inr h2) ht (k r S1 hr H locs la hl hP hS)
    · exact lv_tableIn cx.1 cx.2.1 hd h1 h2 (hx h1 h2) ht (k r S1 hr H locs la hl hP hS)
def CPW (own : String) (index : Nat) : Prop := Cond.methodLink own index arraycopyName ∈ lwG ∧ Cond.native arraycopyName ∈ lwG ∧ Cond.static arraycopyName ∈ lwG ∧ Cond.initialized "java/lang/System" ∈ lwG
theorem nfw : nativeFrameWords "java/lang/System" "arraycopy" 5 ≤ 20 := by decide
theorem ge0 {x : Int32} (h : 0 ≤ x) : ¬ x < 0 := fun z => absurd (Int32.lt_of_lt_of_le z h) Int32.lt_irrefl
theorem G_copyI (cx : CX p s m meth c args cc own nL ret D cy ad n) {f0 i0 f1 i1 N0 N1 index : Nat} {sp dp nn : Int32} (hd : decode cc pc = .ok (.invokestatic index, 3)) (hq : pc + 3 = q) (hw : CPW own index) (hf0 : f0 < 64) (hf1 : f1 < 64) (hk0 : ka f0 = 1) (hk1 : ka f1 = 1) (hN0 : kl f0 i0 = N0) (hN1 : kl f1 i1 = N1) (hi0 : i0 < n f0) (hi1 : i1 < n f1) (hR : 1 ≤ d) (hs : (rest.map fun v => v.category).sum ≤ 8) {A : Option (ρ × St)} (k : (0 ≤ sp ∧ 0 ≤ dp ∧ 0 ≤ nn ∧ sp.toNatClampNeg + nn.toNatClampNeg ≤ N0 ∧ dp.toNatClampNeg + nn.toNatClampNeg ≤ N1) → TG p l e d s m args below meth c D cy ad n toV okr (cI S f1 i1 (va_cpy (gI S f0 i0) (gI S f1 i1) sp.toNatClampNeg dp.toNatClampNeg nn.toNatClampNeg)) q ls rest A) : TG p l e d s m args below meth c D cy ad n toV okr S pc ls (.int nn :: .int dp :: .ref (ad f1 i1) :: .int sp :: .ref (ad f0 i0) :: rest) (if 0 ≤ sp ∧ 0 ≤ dp ∧ 0 ≤ nn ∧ sp.toNatClampNeg + nn.toNatClampNeg ≤ N0 ∧ dp.toNatClampNeg + nn.toNatClampNeg ≤ N1 then A else none) := by
  subst hq; subst hN0; subst hN1
  refine G_guard (fun h => ?_)
  intro r S1 hr H locs la hl hP hS
  obtain ⟨hx, hb, hml0, hown, hts, hK, hJ, hE, hret, hlk⟩ := cx
  obtain ⟨k0, hk0'⟩ := wl_at (g := ct cy ad S) hJ hf0 hi0
  obtain ⟨k1, hk1'⟩ := wl_at (g := ct cy ad S) hJ hf1 hi1
  have q0 := hk0'
  have q1 := hk1'
  rw [ct_int hk0] at q0
  rw [ct_int hk1] at q1
  refine va_copyi hx hb hl.1.symm hown (hts _ hw.1) (hts _ hw.2.1) (hts _ hw.2.2.1) (hts _ hw.2.2.2) hK (wl_P hP.1) (wl_D hJ) hS k0 k1 0 0 q0 q1 rfl rfl rfl (ge0 h.1) (ge0 h.2.1) (ge0 h.2.2.1) h.2.2.2.1 h.2.2.2.2 (fun _ _ => rfl) hR (by have := nfw; show _ + (_ + 11) ≤ 60 * d; omega) hd (fun H1 locs1 hP1 _ hS1 => ?_)
  refine k h r S1 hr H1 locs1 la hl (wP_rowI hJ hP.2 hf1 hi1 hk1' (e := _) ?_ hP1) hS1
  rw [ct_int hk1, gI_cI_self]
theorem G_copyJ (cx : CX p s m meth c args cc own nL ret D cy ad n) {f0 i0 f1 i1 N0 N1 index : Nat} {sp dp nn : Int32} (hd : decode cc pc = .ok (.invokestatic index, 3)) (hq : pc + 3 = q) (hw : CPW own index) (hf0 : f0 < 64) (hf1 : f1 < 64) (hk0 : ka f0 = 4) (hk1 : ka f1 = 4) (hN0 : kl f0 i0 = N0) (hN1 : kl f1 i1 = N1) (hi0 : i0 < n f0) (hi1 : i1 < n f1) (hR : 1 ≤ d) (hs : (rest.map fun v => v.category).sum ≤ 8) {A : Option (ρ × St)} (k : (0 ≤ sp ∧ 0 ≤ dp ∧ 0 ≤ nn ∧ sp.toNatClampNeg + nn.toNatClampNeg ≤ N0 ∧ dp.toNatClampNeg + nn.toNatClampNeg ≤ N1) → TG p l e d s m args below meth c D cy ad n toV okr (cJ S f1 i1 (va_cpy (gJ S f0 i0) (gJ S f1 i1) sp.toNatClampNeg dp.toNatClampNeg nn.toNatClampNeg)) q ls rest A) : TG p l e d s m args below meth c D cy ad n toV okr S pc ls (.int nn :: .int dp :: .ref (ad f1 i1) :: .int sp :: .ref (ad f0 i0) :: rest) (if 0 ≤ sp ∧ 0 ≤ dp ∧ 0 ≤ nn ∧ sp.toNatClampNeg + nn.toNatClampNeg ≤ N0 ∧ dp.toNatClampNeg + nn.toNatClampNeg ≤ N1 then A else none) := by
  subst hq; subst hN0; subst hN1
  refine G_guard (fun h => ?_)
  intro r S1 hr H locs la hl hP hS
  obtain ⟨hx, hb, hml0, hown, hts, hK, hJ, hE, hret, hlk⟩ := cx
  obtain ⟨k0, hk0'⟩ := wl_at (g := ct cy ad S) hJ hf0 hi0
  obtain ⟨k1, hk1'⟩ := wl_at (g := ct cy ad S) hJ hf1 hi1
  have q0 := hk0'
  have q1 := hk1'
  rw [ct_long hk0] at q0
  rw [ct_long hk1] at q1
  refine va_copyl hx hb hl.1.symm hown (hts _ hw.1) (hts _ hw.2.1) (hts _ hw.2.2.1) (hts _ hw.2.2.2) hK (wl_P hP.1) (wl_D hJ) hS k0 k1 3 3 q0 q1 rfl rfl rfl (ge0 h.1) (ge0 h.2.1) (ge0 h.2.2.1) h.2.2.2.1 h.2.2.2.2 (fun _ _ => rfl) hR (by have := nfw; show _ + (_ + 11) ≤ 60 * d; omega) hd (fun H1 locs1 hP1 _ hS1 => ?_)
  refine k h r S1 hr H1 locs1 la hl (wP_rowJ hJ hP.2 hf1 hi1 hk1' (e := _) ?_ hP1) hS1
  rw [ct_long hk1, gJ_cJ_self]
/-! strings, static fields -/
theorem G_getSv (cx : CX p s m meth c args cc own nL ret D cy ad n) {i index : Nat} (hd : decode cc pc = .ok (.getfield index, 3)) (hq : pc + 3 = q) (hw : Cond.fieldLink own index RJ0 "value" "[B" ∈ lwG) (hi : i < 6) (k : TG p l e d s m args below meth c D cy ad n toV okr S q ls (.ref (ad 20 i) :: rest) res) : TG p l e d s m args below meth c D cy ad n toV okr S pc ls (.ref (ad 19 i) :: rest) res := by
  subst hq
  intro r S1 hr H locs la hl hP hS
  obtain ⟨hx, hb, hml0, hown, hts, hK, hJ, hE, hret, hlk⟩ := cx
  exact vk_getf hx hb (hE.2.2.2.2.1.1 i hi).2.2.1 hS hown (hts _ hw) (fun _ h => h) hd (k r S1 hr H locs la hl hP hS)
theorem G_getSc (cx : CX p s m meth c args cc own nL ret D cy ad n) {i index : Nat} (hd : decode cc pc = .ok (.getfield index, 3)) (hq : pc + 3 = q) (hw : Cond.fieldLink own index RJ0 "coder" "B" ∈ lwG) (hi : i < 6) (k : TG p l e d s m args below meth c D cy ad n toV okr S q ls (.int 0 :: rest) res) : TG p l e d s m args below meth c D cy ad n toV okr S pc ls (.ref (ad 19 i) :: rest) res := by
  subst hq
  intro r S1 hr H locs la hl hP hS
  obtain ⟨hx, hb, hml0, hown, hts, hK, hJ, hE, hret, hlk⟩ := cx
  exact vk_getf hx hb (hE.2.2.2.2.1.1 i hi).2.1 hS hown (hts _ hw) (fun _ h => h) hd (k r S1 hr H locs la hl hP hS)
theorem G_getsC (cx : CX p s m meth c args cc own nL ret D cy ad n) {index : Nat} (hd : decode cc pc = .ok (.getstatic index, 3)) (hq : pc + 3 = q) (hw : Cond.fieldLink own index RJ0 "COMPACT_STRINGS" "Z" ∈ lwG) (k : TG p l e d s m args below meth c D cy ad n toV okr S q ls (.int 1 :: rest) res) : TG p l e d s m args below meth c D cy ad n toV okr S pc ls rest res := by
  subst hq
  intro r S1 hr H locs la hl hP hS
  obtain ⟨hx, hb, hml0, hown, hts, hK, hJ, hE, hret, hlk⟩ := cx
  exact va_gets hx hb hE.2.2.1 hS hown (hts _ hw) (fun _ h => h) hd (k r S1 hr H locs la hl hP hS)
theorem G_getsQ (cx : CX p s m meth c args cc own nL ret D cy ad n) {index : Nat} (hd : decode cc pc = .ok (.getstatic index, 3)) (hq : pc + 3 = q) (hw : Cond.fieldLink own index "jdk/internal/util/Preconditions" "SIOOBE_FORMATTER" "Ljava/util/function/BiFunction;" ∈ lwG) (k1 : TG p l e d s m args below meth c D cy ad n toV okr S q ls (.null :: rest) res) (k2 : ∀ t, TG p l e d s m args below meth c D cy ad n toV okr S q ls (.ref t :: rest) res) : TG p l e d s m args below meth c D cy ad n toV okr S pc ls rest res := by
  subst hq
  intro r S1 hr H locs la hl hP hS
  obtain ⟨hx, hb, hml0, hown, hts, hK, hJ, hE, hret, hlk⟩ := cx
  rcases hE.2.2.2.1 with h | ⟨t, h⟩
  · exact va_gets hx hb h hS hown (hts _ hw) (fun _ h => h) hd (k1 r S1 hr H locs la hl hP hS)
  · exact va_gets hx hb h hS hown (hts _ hw) (fun _ h => h) hd (k2 t r S1 hr H locs la hl hP hS)
theorem G_getsK (cx : CX p s m meth c args cc own nL ret D cy ad n) {index : Nat} (hd : decode cc pc = .ok (.getstatic index, 3)) (hq : pc + 3 = q) (hw : Cond.fieldLink own index RX7 "KIND_ABOVE" "[I" ∈ lwG) (k : TG p l e d s m args below meth c D cy ad n toV okr S q ls (.ref (ad 21 0) :: rest) res) : TG p l e d s m args below meth c D cy ad n toV okr S pc ls rest res := by
  subst hq
  intro r S1 hr H locs la hl hP hS
  obtain ⟨hx, hb, hml0, hown, hts, hK, hJ, hE, hret, hlk⟩ := cx
  exact va_gets hx hb hE.1 hS hown (hts _ hw) (fun _ h => h) hd (k r S1 hr H locs la hl hP hS)
theorem G_ialdK (cx : CX p s m meth c args cc own nL ret D cy ad n) {x : Int32} (hd : decode cc pc = .ok (.iaload, 1)) (hq : pc + 1 = q) {A : Option (ρ × St)} (k : 0 ≤ x → x.toNatClampNeg < 7 → TG p l e d s m args below meth c D cy ad n toV okr S q ls (.int (kaK.getD x.toNatClampNeg 0) :: rest) A) : TG p l e d s m args below meth c D cy ad n toV okr S pc ls (.int x :: .ref (ad 21 0) :: rest) (if 0 ≤ x ∧ x.toNatClampNeg < 7 then A else none) := by
  subst hq
  refine G_guard (fun h => ?_)
  intro r S1 hr H locs la hl hP hS
  obtain ⟨hx, hb, hml0, hown, hts, hK, hJ, hE, hret, hlk⟩ := cx
  exact va_ti hx hb hE.2.1 hS (vp_of h) rfl hd (k h.1 h.2 r S1 hr H locs la hl hP hS)
theorem G_alenK (cx : CX p s m meth c args cc own nL ret D cy ad n) (hd : decode cc pc = .ok (.arraylength, 1)) (hq : pc + 1 = q) (k : TG p l e d s m args below meth c D cy ad n toV okr S q ls (.int 7 :: rest) res) : TG p l e d s m args below meth c D cy ad n toV okr S pc ls (.ref (ad 21 0) :: rest) res := by
  subst hq
  intro r S1 hr H locs la hl hP hS
  obtain ⟨hx, hb, hml0, hown, hts, hK, hJ, hE, hret, hlk⟩ := cx
  exact va_tlen hx hb hE.2.1 hS (by decide) hd (k r S1 hr H locs la hl hP hS)
theorem G_alenS (cx : CX p s m meth c args cc own nL ret D cy ad n) {i : Nat} (hd : decode cc pc = .ok (.arraylength, 1)) (hq : pc + 1 = q) (hi : i < 6) (k : TG p l e d s m args below meth c D cy ad n toV okr S q ls (.int (Int32.ofNat (lenK.getD i 0)) :: rest) res) : TG p l e d s m args below meth c D cy ad n toV okr S pc ls (.ref (ad 20 i) :: rest) res := by
  subst hq
  intro r S1 hr H locs la hl hP hS
  obtain ⟨hx, hb, hml0, hown, hts, hK, hJ, hE, hret, hlk⟩ := cx
  exact va_tlen hx hb (hE.2.2.2.2.1.1 i hi).2.2.2 hS rfl hd (k r S1 hr H locs la hl hP hS)
theorem G_baldS (cx : CX p s m meth c args cc own nL ret D cy ad n) {i : Nat} {x : Int32} (hd : decode cc pc = .ok (.baload, 1)) (hq : pc + 1 = q) (hi : i < 6) {A : Option (ρ × St)} (k : 0 ≤ x → x.toNatClampNeg < lenK.getD i 0 → TG p l e d s m args below meth c D cy ad n toV okr S q ls (.int ((bytK.getD i []).getD x.toNatClampNeg 0) :: rest) A) : TG p l e d s m args below meth c D cy ad n toV okr S pc ls (.int x :: .ref (ad 20 i) :: rest) (if 0 ≤ x ∧ x.toNatClampNeg < lenK.getD i 0 then A else none) := by
  subst hq
  refine G_guard (fun h => ?_)
  intro r S1 hr H locs la hl hP hS
  obtain ⟨hx, hb, hml0, hown, hts, hK, hJ, hE, hret, hlk⟩ := cx
  exact va_tb hx hb (hE.2.2.2.2.1.1 i hi).2.2.2 hS (vp_of h) rfl hd (k h.1 h.2 r S1 hr H locs la hl hP hS)
theorem G_ldcS0 (cx : CX p s m meth c args cc RX1 nL ret D cy ad n) (hd : decode cc pc = .ok (.ldc 75, 2)) (hq : pc + 2 = q) (k : TG p l e d s m args below meth c D cy ad n toV okr S q ls (.ref (ad 19 0) :: rest) res) : TG p l e d s m args below meth c D cy ad n toV okr S pc ls rest res := by
  subst hq
  intro r S1 hr H locs la hl hP hS
  obtain ⟨hx, hb, hml0, hown, hts, hK, hJ, hE, hret, hlk⟩ := cx
  exact va_ldcS hx hb hown hE.2.2.2.2.2.1 hd (k r S1 hr H locs la hl hP hS)
theorem G_ldcS1 (cx : CX p s m meth c args cc RX1 nL ret D cy ad n) (hd : decode cc pc = .ok (.ldc 77, 2)) (hq : pc + 2 = q) (k : TG p l e d s m args below meth c D cy ad n toV okr S q ls (.ref (ad 19 1) :: rest) res) : TG p l e d s m args below meth c D cy ad n toV okr S pc ls rest res := by
  subst hq
  intro r S1 hr H locs la hl hP hS
  obtain ⟨hx, hb, hml0, hown, hts, hK, hJ, hE, hret, hlk⟩ := cx
  exact va_ldcS hx hb hown hE.2.2.2.2.2.2.1 hd (k r S1 hr H locs la hl hP hS)
theorem G_ldcS2 (cx : CX p s m meth c args cc RX1 nL ret D cy ad n) (hd : decode cc pc = .ok (.ldc 79, 2)) (hq : pc + 2 = q) (k : TG p l e d s m args below meth c D cy ad n toV okr S q ls (.ref (ad 19 2) :: rest) res) : TG p l e d s m args below meth c D cy ad n toV okr S pc ls rest res := by
  subst hq
  intro r S1 hr H locs la hl hP hS
  obtain ⟨hx, hb, hml0, hown, hts, hK, hJ, hE, hret, hlk⟩ := cx
  exact va_ldcS hx hb hown hE.2.2.2.2.2.2.2.1 hd (k r S1 hr H locs la hl hP hS)
theorem G_ldcS3 (cx : CX p s m meth c args cc RX1 nL ret D cy ad n) (hd : decode cc pc = .ok (.ldc 81, 2)) (hq : pc + 2 = q) (k : TG p l e d s m args below meth c D cy ad n toV okr S q ls (.ref (ad 19 3) :: rest) res) : TG p l e d s m args below meth c D cy ad n toV okr S pc ls rest res := by
  subst hq
  intro r S1 hr H locs la hl hP hS
  obtain ⟨hx, hb, hml0, hown, hts, hK, hJ, hE, hret, hlk⟩ := cx
  exact va_ldcS hx hb hown hE.2.2.2.2.2.2.2.2.1 hd (k r S1 hr H locs la hl hP hS)
theorem G_ldcS4 (cx : CX p s m meth c args cc RX1 nL ret D cy ad n) (hd : decode cc pc = .ok (.ldc 89, 2)) (hq : pc + 2 = q) (k : TG p l e d s m args below meth c D cy ad n toV okr S q ls (.ref (ad 19 4) :: rest) res) : TG p l e d s m args below meth c D cy ad n toV okr S pc ls rest res := by
  subst hq
  intro r S1 hr H locs la hl hP hS
  obtain ⟨hx, hb, hml0, hown, hts, hK, hJ, hE, hret, hlk⟩ := cx
  exact va_ldcS hx hb hown hE.2.2.2.2.2.2.2.2.2.1 hd (k r S1 hr H locs la hl hP hS)
theorem G_ldcS5 (cx : CX p s m meth c args cc RX1 nL ret D cy ad n) (hd : decode cc pc = .ok (.ldc 97, 2)) (hq : pc + 2 = q) (k : TG p l e d s m args below meth c D cy ad n toV okr S q ls (.ref (ad 19 5) :: rest) res) : TG p l e d s m args below meth c D cy ad n toV okr S pc ls rest res := by
  subst hq
  intro r S1 hr H locs la hl hP hS
  obtain ⟨hx, hb, hml0, hown, hts, hK, hJ, hE, hret, hlk⟩ := cx
  exact va_ldcS hx hb hown hE.2.2.2.2.2.2.2.2.2.2 hd (k r S1 hr H locs la hl hP hS)
theorem G_aretS (cx : CX p s m meth c args cc own nL ret D cy ad n) {i : Nat} {toV : Nat → Option Value} {okr : Nat → Prop} {C : String} (hret : ret = some (.object C)) (hd : decode cc pc = .ok (.areturn, 1)) (hv : toV i = some (.ref (ad 19 i))) (ho : okr i) : TG p l e d s m args below meth c D cy ad n toV okr S pc ls [.ref (ad 19 i)] (some (i, S)) := by
  intro r' S1 hr H locs la hl hP hS
  cases hr
  exact W.aret cx.1 cx.2.1 (cx.2.2.2.2.2.2.2.2.1.trans hret) (Or.inl ⟨_, rfl⟩) (Or.inr ⟨_, rfl⟩) (fun t ht hW => ⟨⟨by rw [hv], ho, by rw [ht]; exact hP⟩, hS.F ht⟩) hS.2.2 hd (hlocks := cx.2.2.2.2.2.2.2.2.2)
theorem G_callVS {ρ' : Type} {toV' : ρ' → Option Value} {okr' : ρ' → Prop} {y : MethodName} {b : ByteArray} {mL d' nA : Nat} {ret' : Option FieldType} {As : List Value} {i index : Nat} {resc : Option (ρ' × St)} {K : ρ' → St → Option (ρ × St)} {st : List Value} {stk : ρ' → List Value}
    (cx : CX p s m meth c args cc own nL ret D cy ad n) (hd : decode cc pc = .ok (.invokevirtual index, 3)) (hq : pc + 3 = q) (hi : i < 6) (hml : ML own index y RJ0 b mL ret' nA) (hst : st = As.reverse ++ .ref (ad 19 i) :: rest) (hA : As.length = nA) (hw : (rest.map fun v => v.category).sum ≤ 8) (hR : d' + 1 ≤ d) (hm : mL ≤ 41) (hC : CT l y b mL ret' d' D cy ad n toV' okr' (.ref (ad 19 i) :: As) S resc)
    (hsk : ∀ r, (toV' r).toList ++ rest = stk r) (k : ∀ r S', resc = some (r, S') → okr' r → TG p l e d s m args below meth c D cy ad n toV okr S' q ls (stk r) (K r S')) : TG p l e d s m args below meth c D cy ad n toV okr S pc ls st (bnd resc K) := by
  subst hq; subst hst
  intro r S1 hr H locs la hl hP hS
  cases hc : resc with
  | none => rw [hc] at hr; cases hr
  | some z =>
    obtain ⟨r', S'⟩ := z
    rw [hc] at hr
    have hr : K r' S' = some (r, S1) := hr
    obtain ⟨hx, hb, hml0, hown, hts, hK, hJ, hE, hret, hlk⟩ := cx
    obtain ⟨m1, m2, m3, m4, m5, m6, m7⟩ := hml
    have cw : CallW (rmk d) s args own RJ0 index y b mL ret' (.code y b mL ret' :: lwG) (rmk d') 0 0 nA := ⟨callB_of nA hts (lwG_good (fun w h => (List.mem_cons.mp h).elim (fun e => e ▸ m5) id)) rfl rfl rfl (hts _ m4) (hts _ m1) ⟨m6.1, m6.2, m7⟩ ⟨hR, by show 8 + (mL + 11) + 60 * d' ≤ 60 * d; omega⟩, hts _ m2, hts _ m3⟩
    exact call_end hr hl hS (va_runV (As := As) (rest := rest) (b := ad 19 i) ⟨hx, hb, hml0, hown, hts⟩ (hC r' S' hc H.size) cw ⟨wB_blind, vk_recv hE.2.2.2.2.1 hi hS, fun U hU hW => ⟨rfl, wB_of hK hE hP hS hU hW⟩⟩ rfl hA (hml0 ▸ hl.1) rfl (lv_room hw) hd ⟨Nat.zero_le _, Nat.zero_le _⟩) (fun ho => by rw [hsk]; exact k r' S' hc ho)
end TGM
