theorem nz01 {v : Int32} (h : v = 0 ∨ v = 1) : narrow .boolean (.int v) = .int v := by rcases h with rfl | rfl <;> rfl
def cI (S : St) (f i : Nat) (g : Nat → Int32) : St := (fun a b c => if a = f ∧ b = i then g c else S.1 a b c, S.2.1, S.2.2)
def cJ (S : St) (f i : Nat) (g : Nat → Int64) : St := (S.1, fun a b c => if a = f ∧ b = i then g c else S.2.1 a b c, S.2.2)
theorem gI_cI (S : St) (f i : Nat) (g : Nat → Int32) (a b c : Nat) : gI (cI S f i g) a b c = if a = f ∧ b = i then g c else gI S a b c := rfl
theorem gJ_cJ (S : St) (f i : Nat) (g : Nat → Int64) (a b c : Nat) : gJ (cJ S f i g) a b c = if a = f ∧ b = i then g c else gJ S a b c := rfl
theorem gJ_cI (S : St) (f i : Nat) (g : Nat → Int32) (a b : Nat) : gJ (cI S f i g) a b = gJ S a b := rfl
theorem gR_cI (S : St) (f i : Nat) (g : Nat → Int32) (a b : Nat) : gR (cI S f i g) a b = gR S a b := rfl
theorem gI_cJ (S : St) (f i : Nat) (g : Nat → Int64) (a b : Nat) : gI (cJ S f i g) a b = gI S a b := rfl
theorem gR_cJ (S : St) (f i : Nat) (g : Nat → Int64) (a b : Nat) : gR (cJ S f i g) a b = gR S a b := rfl
theorem gI_cI_self (S : St) (f i : Nat) (g : Nat → Int32) : gI (cI S f i g) f i = g := by funext c; rw [gI_cI, if_pos ⟨rfl, rfl⟩]
theorem gJ_cJ_self (S : St) (f i : Nat) (g : Nat → Int64) : gJ (cJ S f i g) f i = g := by funext c; rw [gJ_cJ, if_pos ⟨rfl, rfl⟩]
theorem gI_cI_ne {S : St} {f i : Nat} {g : Nat → Int32} {a b : Nat} (h : ¬ (a = f ∧ b = i)) : gI (cI S f i g) a b = gI S a b := by funext c; rw [gI_cI, if_neg h]
theorem gJ_cJ_ne {S : St} {f i : Nat} {g : Nat → Int64} {a b : Nat} (h : ¬ (a = f ∧ b = i)) : gJ (cJ S f i g) a b = gJ S a b := by funext c; rw [gJ_cJ, if_neg h]
section TGM
variable {p : Program} {l : Launch} {e : Env} {d : Nat} {s : State} {m : MethodId} {args : Array Value} {below : List Frame} {meth : Method} {c : Code} {D : va_G} {cy : Nat → ClassId} {ad : Nat → Nat → Nat} {n : Nat → Nat} {ρ : Type} {toV : ρ → Option Value} {okr : ρ → Prop} {S : St} {pc q : Nat} {ls : List (Nat × Value)} {rest : List Value} {res : Option (ρ × St)} {cc : ByteArray} {own : String} {nL : Nat} {ret : Option FieldType}
theorem wP_rowI {H : Heap} (hJ : wJ ad n) (hc : ∀ f i j a, gR S f i j = some a → a < n 0) {f i k : Nat} {g : Nat → Int32} (hf : f < 64) (hi : i < n f) (hk : (wl n ad (ct cy ad S))[k]? = some (ad f i, ct cy ad S f i)) {e : va_E} (he : e = ct cy ad (cI S f i g) f i) (hP : va_P D vwCl ((wl n ad (ct cy ad S)).set k (ad f i, e)) H) : wP D cy ad n (cI S f i g) H := by
  refine ⟨fun f' i' hf' hi' => ?_, hc⟩
  have h := wl_set hJ hf hi hk hP f' i' hf' hi'
  by_cases hq : f' = f ∧ i' = i
  · rw [if_pos hq, he] at h
    obtain ⟨rfl, rfl⟩ := hq
    exact h
  · rw [if_neg hq] at h
    rw [show ct cy ad (cI S f i g) f' i' = ct cy ad S f' i' by unfold ct; rw [gI_cI_ne hq]; rfl]
    exact h
theorem wP_rowJ {H : Heap} (hJ : wJ ad n) (hc : ∀ f i j a, gR S f i j = some a → a < n 0) {f i k : Nat} {g : Nat → Int64} (hf : f < 64) (hi : i < n f) (hk : (wl n ad (ct cy ad S))[k]? = some (ad f i, ct cy ad S f i)) {e : va_E} (he : e = ct cy ad (cJ S f i g) f i) (hP : va_P D vwCl ((wl n ad (ct cy ad S)).set k (ad f i, e)) H) : wP D cy ad n (cJ S f i g) H := by
  refine ⟨fun f' i' hf' hi' => ?_, hc⟩
  have h := wl_set hJ hf hi hk hP f' i' hf' hi'
  by_cases hq : f' = f ∧ i' = i
  · rw [if_pos hq, he] at h
    obtain ⟨rfl, rfl⟩ := hq
    exact h
  · rw [if_neg hq] at h
    rw [show ct cy ad (cJ S f i g) f' i' = ct cy ad S f' i' by unfold ct; rw [gJ_cJ_ne hq]; rfl]
    exact h
theorem G_alenI (cx : CX p s m meth c args cc own nL ret D cy ad n) {f i : Nat} {v : Int32} (hd : decode cc pc = .ok (.arraylength, 1)) (hq : pc + 1 = q) (hf : f < 64) (hk : ka f = 1) (hv : Int32.ofNat (kl f i) = v) (hi : i < n f) (k : TG p l e d s m args below meth c D cy ad n toV okr S q ls (.int v :: rest) res) : TG p l e d s m args below meth c D cy ad n toV okr S pc ls (.ref (ad f i) :: rest) res := by
  subst hq
  intro r S1 hr H locs la hl hP hS
  have h1 := wP_one hP hf hi
  rw [ct_int hk] at h1
  exact va_alen cx.1 cx.2.1 cx.2.2.2.2.2.1 h1 0 0 rfl rfl hv hd (k r S1 hr H locs la hl hP hS)
theorem G_alenB (cx : CX p s m meth c args cc own nL ret D cy ad n) {f i : Nat} {v : Int32} (hd : decode cc pc = .ok (.arraylength, 1)) (hq : pc + 1 = q) (hf : f < 64) (hk : ka f = 2) (hv : Int32.ofNat (kl f i) = v) (hi : i < n f) (k : TG p l e d s m args below meth c D cy ad n toV okr S q ls (.int v :: rest) res) : TG p l e d s m args below meth c D cy ad n toV okr S pc ls (.ref (ad f i) :: rest) res := by
  subst hq
  intro r S1 hr H locs la hl hP hS
  have h1 := wP_one hP hf hi
  rw [ct_byte hk] at h1
  exact va_alen cx.1 cx.2.1 cx.2.2.2.2.2.1 h1 0 1 rfl rfl hv hd (k r S1 hr H locs la hl hP hS)
theorem G_acmp_ne (cx : CX p s m meth c args cc own nL ret D cy ad n) {a b : Nat} {off : Int} {t : Nat} (hd : decode cc pc = .ok (.if_acmp .ne off, 3)) (hq : pc + 3 = q) (ht : (pc : Int) + off = (t : Int)) (ha : a < n 0) (hb : b < n 0) {A B : Option (ρ × St)} (kt : ¬ a = b → TG p l e d s m args below meth c D cy ad n toV okr S t ls rest A) (kf : a = b → TG p l e d s m args below meth c D cy ad n toV okr S q ls rest B) : TG p l e d s m args below meth c D cy ad n toV okr S pc ls (.ref (ad 0 b) :: .ref (ad 0 a) :: rest) (if a = b then B else A) := by
  subst hq
  intro r S1 hr H locs la hl hP hS
  have hJ := cx.2.2.2.2.2.2.1
  refine lv_acmp_ne (rx := some (ad 0 a)) (ry := some (ad 0 b)) cx.1 cx.2.1 hd ht (fun h => ?_) (fun h => ?_)
  · have hne : ¬ a = b := fun z => h (by rw [z])
    rw [if_neg hne] at hr; exact kt hne r S1 hr H locs la hl hP hS
  · have he : a = b := (hJ.2 0 a 0 b (by decide) (by decide) ha hb (Option.some.inj h)).2
    rw [if_pos he] at hr; exact kf he r S1 hr H locs la hl hP hS
theorem G_acmp_nullne (cx : CX p s m meth c args cc own nL ret D cy ad n) {b : Nat} {off : Int} {t : Nat} (hd : decode cc pc = .ok (.if_acmp .ne off, 3)) (hq : pc + 3 = q) (ht : (pc : Int) + off = (t : Int)) (k : TG p l e d s m args below meth c D cy ad n toV okr S t ls rest res) : TG p l e d s m args below meth c D cy ad n toV okr S pc ls (.ref b :: .null :: rest) res := by
  subst hq
  intro r S1 hr H locs la hl hP hS
  exact lv_acmp_ne (rx := none) (ry := some b) cx.1 cx.2.1 hd ht (fun _ => k r S1 hr H locs la hl hP hS) (fun h => by cases h)
theorem G_ldc (cx : CX p s m meth c args cc own nL ret D cy ad n) {index : Nat} {v : Int32} (hd : decode cc pc = .ok (.ldc index, 2)) (hq : pc + 2 = q) (hw : Cond.constant own index v ∈ lwG) (k : TG p l e d s m args below meth c D cy ad n toV okr S q ls (.int v :: rest) res) : TG p l e d s m args below meth c D cy ad n toV okr S pc ls rest res := by
  subst hq
  intro r S1 hr H locs la hl hP hS
  exact lv_ldc cx.1 cx.2.1 cx.2.2.2.1 (cx.2.2.2.2.1 _ hw) hd (k r S1 hr H locs la hl hP hS)
theorem G_ldc2_w (cx : CX p s m meth c args cc own nL ret D cy ad n) {index : Nat} {v : Int64} (hd : decode cc pc = .ok (.ldc2_w index, 3)) (hq : pc + 3 = q) (hw : Cond.constantLong own index v ∈ lwG) (k : TG p l e d s m args below meth c D cy ad n toV okr S q ls (.long v :: rest) res) : TG p l e d s m args below meth c D cy ad n toV okr S pc ls rest res := by
  subst hq
  intro r S1 hr H locs la hl hP hS
  exact lv_ldc2 cx.1 cx.2.1 cx.2.2.2.1 (cx.2.2.2.2.1 _ hw) hd (k r S1 hr H locs la hl hP hS)
theorem G_tswDef (cx : CX p s m meth c args cc own nL ret D cy ad n) {x : Int32} {dflt lo hi : Int} {offs : Array Int} {len t : Nat} (hd : decode cc pc = .ok (.tableswitch dflt lo hi offs, len)) (hx : ¬ x.toInt < lo → ¬ hi < x.toInt → offs[(x.toInt - lo).toNat]? = some dflt) (ht : (pc : Int) + dflt = (t : Int)) (k : TG p l e d s m args below meth c D cy ad n toV okr S t ls rest res) : TG p l e d s m args below meth c D cy ad n toV okr S pc ls (.int x :: rest) res := by
  intro r S1 hr H locs la hl hP hS
  by_cases h1 : x.toInt < lo
  · exact lv_tableOut cx.1 cx.2.1 hd (Or.inl h1) ht (k r S1 hr H locs la hl hP hS)
  · by_cases h2 : hi < x.toInt
    · exact lv_tableOut cx.1 cx.2.1 hd (Or.inr h2) ht (k r S1 hr H locs la hl hP hS)
    · exact lv_tableIn cx.1 cx.2.1 hd h1 h2 (hx h1 h2) ht (k r S1 hr H locs la hl hP hS)
def CPW (own : String) (index : Nat) : Prop := Cond.methodLink own index arraycopyName ∈ lw_tbl
end TGM
