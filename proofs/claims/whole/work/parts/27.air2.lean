theorem air_apart {cy : Nat → ClassId} {ad : Nat → Nat → Nat} {S : St} {k a b : Nat} {A : Nat → Prop} (hJ : wJ ad (nX k)) (e0 e1 : va_E)
    (hD : va_D A (wl (nX k) ad (ct cy ad S) ++ [(a, e0), (b, e1)])) (f i : Nat) (hf : f < 64) (hi : i < nX k f) : a ≠ ad f i ∧ b ≠ ad f i := by
  obtain ⟨j, hj⟩ := wl_at (g := ct cy ad S) hJ hf hi
  have hl := (List.getElem?_eq_some_iff.mp hj).1
  have hj2 : (wl (nX k) ad (ct cy ad S) ++ [(a, e0), (b, e1)] : va_W)[j]? = some (ad f i, ct cy ad S f i) := by rw [List.getElem?_append_left hl]; exact hj
  have at0 : (wl (nX k) ad (ct cy ad S) ++ [(a, e0), (b, e1)] : va_W)[(wl (nX k) ad (ct cy ad S)).length]? = some (a, e0) := by
    rw [List.getElem?_append_right (Nat.le_refl _), Nat.sub_self]; rfl
  have at1 : (wl (nX k) ad (ct cy ad S) ++ [(a, e0), (b, e1)] : va_W)[(wl (nX k) ad (ct cy ad S)).length + 1]? = some (b, e1) := by
    rw [List.getElem?_append_right (by omega), show (wl (nX k) ad (ct cy ad S)).length + 1 - (wl (nX k) ad (ct cy ad S)).length = 1 by omega]; rfl
  exact ⟨fun e => by have := hD.1 _ _ _ _ at0 hj2 e; omega, fun e => by have := hD.1 _ _ _ _ at1 hj2 e; omega⟩
theorem air_new {cy : Nat → ClassId} {ad : Nat → Nat → Nat} {S : St} {k a b sz : Nat} (hJ : wJ ad (nX k)) (e0 e1 : va_E)
    (hD : va_D (wA ad (nX k) sz) (wl (nX k) ad (ct cy ad S) ++ [(a, e0), (b, e1)])) : sz ≤ a ∧ sz ≤ b := by
  have at0 : (wl (nX k) ad (ct cy ad S) ++ [(a, e0), (b, e1)] : va_W)[(wl (nX k) ad (ct cy ad S)).length]? = some (a, e0) := by
    rw [List.getElem?_append_right (Nat.le_refl _), Nat.sub_self]; rfl
  have at1 : (wl (nX k) ad (ct cy ad S) ++ [(a, e0), (b, e1)] : va_W)[(wl (nX k) ad (ct cy ad S)).length + 1]? = some (b, e1) := by
    rw [List.getElem?_append_right (by omega), show (wl (nX k) ad (ct cy ad S)).length + 1 - (wl (nX k) ad (ct cy ad S)).length = 1 by omega]; rfl
  refine ⟨?_, ?_⟩
  · rcases hD.2 _ _ at0 with ⟨f, i, hf, hi, e⟩ | h
    · exact absurd e (air_apart hJ e0 e1 hD f i hf hi).1
    · exact h
  · rcases hD.2 _ _ at1 with ⟨f, i, hf, hi, e⟩ | h
    · exact absurd e (air_apart hJ e0 e1 hD f i hf hi).2
    · exact h
theorem wA_adN {ad : Nat → Nat → Nat} {k a b sz : Nat} (ha : sz ≤ a) (hb : sz ≤ b) : wA (adN ad (1 + k) a b) (nX (k + 1)) sz = wA ad (nX k) sz := by
  funext q
  apply propext
  constructor
  · rintro (⟨f, i, hf, hi, rfl⟩ | h)
    · rcases nX_old hi with h | ⟨rfl, rfl⟩ | ⟨rfl, rfl⟩
      · obtain ⟨n0, n1⟩ := nX_ne h
        exact Or.inl ⟨f, i, hf, h, adN_o n0 n1⟩
      · exact Or.inr (by rw [adN_0]; exact ha)
      · exact Or.inr (by rw [adN_1]; exact hb)
    · exact Or.inr h
  · rintro (⟨f, i, hf, hi, rfl⟩ | h)
    · obtain ⟨n0, n1⟩ := nX_ne hi
      exact Or.inl ⟨f, i, hf, nX_le hi, (adN_o n0 n1).symm⟩
    · exact Or.inr h
theorem EX_adN {ad : Nat → Nat → Nat} {K a b : Nat} {A : Nat → Prop} {U : State} {H : Heap} (h : EX ad A U H) : EX (adN ad K a b) A U H := by
  have e1 : adN ad K a b 19 = ad 19 := by funext i; exact adN_o (by omega) (by omega)
  have e2 : adN ad K a b 20 = ad 20 := by funext i; exact adN_o (by omega) (by omega)
  have e3 : adN ad K a b 21 = ad 21 := by funext i; exact adN_o (by omega) (by omega)
  unfold EX
  rw [e1, e2, e3]
  exact h
theorem va_nd_of : ∀ {l : List Nat}, l.Nodup → va_nd l = true
  | [], _ => rfl
  | a :: l, h => by
    have h := List.nodup_cons.mp h
    simp only [va_nd, Bool.and_eq_true, decide_eq_true_eq]
    exact ⟨h.1, va_nd_of h.2⟩
theorem H_aast {p : Program} {l : Launch} {e : Env} {R : Room} {k0 s0 mc ms : Nat} {s : State} {m : MethodId} {args : Array Value} {below : List Frame} {meth : Method} {c : Code} {D : va_G} {cy : Nat → ClassId} {ad : Nat → Nat → Nat} {n : Nat → Nat} {ρ : Type} {QQ : ρ → St → Array Value → State → Outcome → State → Prop} {S : St} {pc q : Nat} {ls : List (Nat × Value)} {rest : List Value} {res : Option (ρ × St)} {cc : ByteArray} {own : String} {nL : Nat} {ret : Option FieldType} (cx : CX p s m meth c args cc own nL ret D cy ad n) {a : Nat} {x : Int32} (hd : decode cc pc = .ok (.aastore, 1)) (hq : pc + 1 = q) (ha : a < n 0) (hi : 0 < n 9) (hx : 0 ≤ x ∧ x.toNatClampNeg < 6) (kk : TH p l e R k0 s0 mc ms QQ s m args below meth c D cy ad n (sR S 9 0 x.toNatClampNeg (some a)) q ls rest res) : TH p l e R k0 s0 mc ms QQ s m args below meth c D cy ad n S pc ls (.ref (ad 0 a) :: .int x :: .ref (ad 9 0) :: rest) res := by
  subst hq
  intro r S1 hr H locs la hl hP hS
  obtain ⟨hx0, hb, hml0, hown, hts, hK, hJ, hE, hret, hlk⟩ := cx
  obtain ⟨j0, hj0⟩ := wl_at (g := ct cy ad S) hJ (show 9 < 64 by decide) hi
  obtain ⟨j1, hj1⟩ := wl_at (g := ct cy ad S) hJ (show 0 < 64 by decide) ha
  have q0 := hj0
  have q1 := hj1
  rw [ct_air rfl] at q0
  rw [ct_obj rfl] at q1
  refine va_astq (r := (RX0, TX0, 4)) hx0 hb hK (wl_P hP.1) (wl_D hJ) hS j0 4 j1 0 q0 rfl q1 rfl (vp_of hx) hd (fun H1 locs1 hP1 _ hS1 => ?_)
  refine kk r S1 hr H1 locs1 la hl (wP_setR hJ hP.2 (fun b hb => by cases hb; exact ha) (by decide) hi hj0 (e := _) ?_ hP1) hS1
  rw [ct_air rfl]
  have e : va_up (fun j => (gR S 9 0 j).map (ad 0)) x.toNatClampNeg (some (ad 0 a)) = fun j => (gR (sR S 9 0 x.toNatClampNeg (some a)) 9 0 j).map (ad 0) := by
    funext j
    rw [gR_self]
    by_cases h : j = x.toNatClampNeg
    · simp [va_up, h]
    · simp [va_up, h]
  exact congrArg (fun g => (Sum.inl (cy 4, (6, .inr (.inr (.inr (.inr g))))) : va_E)) e
def F_X7_air (k : Nat) (S : St) : Option ((Int32 × Nat) × St) :=
  if gI S 7 0 8 < 6 then (if 0 ≤ gI S 7 0 8 ∧ (gI S 7 0 8).toNatClampNeg < 6 then (gR S 9 0 (gI S 7 0 8).toNatClampNeg).elim (F_air_rest (k + 1) (sR (newAir S (1 + k)) 9 0 (gI S 7 0 8).toNatClampNeg (some (1 + k)))) (fun _ => F_air_rest k S) else none)
  else some ((-4, k), S)
def QA (D : va_G) (cy : Nat → ClassId) (ad : Nat → Nat → Nat) (k sz : Nat) (r : Int32 × Nat) (S1 : St) : Array Value → State → Outcome → State → Prop := fun _ st o t =>
  (o = .returned (some (.int r.1)) ∧ ∃ ad' : Nat → Nat → Nat, (∀ f i, f < 64 → i < nX k f → ad' f i = ad f i) ∧ (∀ f i, f ≠ 0 → f ≠ 16 → ad' f i = ad f i) ∧ wJ ad' (nX r.2) ∧ (∀ f i, f < 64 → i < nX r.2 f → (i < nX k f ∧ ad' f i = ad f i) ∨ sz ≤ ad' f i) ∧ wP D cy ad' (nX r.2) S1 t.heap) ∧ va_F (wA ad (nX k) sz) st t
set_option maxRecDepth 20000 in
theorem c_X7_air (l : Launch) {D : va_G} {cy : Nat → ClassId} {ad : Nat → Nat → Nat} {k : Nat} (hJ : wJ ad (nX k)) (hk : k ≤ 14) (S : St) : ∀ (r : Int32 × Nat) (S1 : St), F_X7_air k S = some (r, S1) → ∀ sz : Nat, Met l yX7_air (.code yX7_air cX7_air 3 (some .int) :: lwG) RAir (va_Pc [.ref (ad 7 0)] (wB D cy ad (nX k) S sz)) (QA D cy ad k sz r S1) 2 104 (wA ad (nX k) sz) := by
  intro r S1 hr sz
  refine Met.ofW (cc := cX7_air) (maxL := 3) (ret := some .int) (by decide) rfl ?_
  intro p e s m args below meth c s₁ B hml hv
  obtain ⟨rfl, hsz, hP, hK, hE⟩ := hv
  subst hsz
  have hts := atoms_spec (ws := .code yX7_air cX7_air 3 (some .int) :: lwG) B.pre
  have ho : s.vm.findClass RX7 = some m.cls := findClass_of_methodNamed B.named
  have cx : CX p s m meth c ([.ref (ad 7 0)] : List Value).toArray cX7_air RX7 3 (some .int) D cy ad (nX k) := ⟨B.exec, B.bytes, hml, ho, fun w hw => hts w (List.mem_cons_of_mem _ hw), hK, hJ, hE, B.returns, B.notSynchronized⟩
  rw [lg_entry_eq]
  have hl := lv_entry ([.ref (ad 7 0)]) (n := 3) (Nat.le_of_ble_eq_true rfl)
  have main : TH p l e RAir 0 0 2 104 (QA D cy ad k s.heap.size) s m ([.ref (ad 7 0)] : List Value).toArray below meth c D cy ad (nX k) S 0 [(0, .ref (ad 7 0))] [] (F_X7_air k S) := by
    unfold F_X7_air
    refine H_aload_n (q := 1) cx dX7_air_0 rfl rfl ?_
    refine H_geti (q := 4) cx dX7_air_1 rfl cf_7 fl_RX7_58 (Nat.le_of_ble_eq_true rfl) rfl (Nat.le_of_ble_eq_true rfl) ?_
    refine H_bipush (q := 6) (v := (6 : Int32)) cx dX7_air_4 rfl (by decide) ?_
    refine H_icmp_lt (q := 9) (t := 12) cx dX7_air_6 rfl (by decide) (fun c1 => ?_) (fun c1 => ?_)
    · refine H_aload_n (q := 13) cx dX7_air_12 rfl rfl ?_
      refine H_getr (q := 16) (g := 9) (i' := 0) cx dX7_air_13 rfl cf_7 fl_RX7_44 (Nat.le_of_ble_eq_true rfl) rfl rfl (Nat.le_of_ble_eq_true rfl) ?_
      refine H_aload_n (q := 17) cx dX7_air_16 rfl rfl ?_
      refine H_geti (q := 20) cx dX7_air_17 rfl cf_7 fl_RX7_58 (Nat.le_of_ble_eq_true rfl) rfl (Nat.le_of_ble_eq_true rfl) ?_
      refine H_aaldA (q := 21) cx dX7_air_20 rfl (Nat.le_of_ble_eq_true rfl) (fun g1 g2 e1 => ?_) (fun g1 g2 a e1 ha => ?_)
      · refine H_ifnonnullN (q := 24) cx dX7_air_21 rfl ?_
        refine H_aload_n (q := 25) cx dX7_air_24 rfl rfl ?_
        refine H_getr (q := 28) (g := 9) (i' := 0) cx dX7_air_25 rfl cf_7 fl_RX7_44 (Nat.le_of_ble_eq_true rfl) rfl rfl (Nat.le_of_ble_eq_true rfl) ?_
        refine H_aload_n (q := 29) cx dX7_air_28 rfl rfl ?_
        refine H_geti (q := 32) cx dX7_air_29 rfl cf_7 fl_RX7_58 (Nat.le_of_ble_eq_true rfl) rfl (Nat.le_of_ble_eq_true rfl) ?_
        intro r S1 hr H locs la hl hP hS
        have ck : CK false p RAir s m meth c ([.ref (ad 7 0)] : List Value).toArray cX7_air RX7 3 D cy (wA ad (nX k) s.heap.size) := ⟨B.exec, B.bytes, hml, ho, fun w hw => hts w (List.mem_cons_of_mem _ hw), hK, fun q h => Or.inr h, fun h => by cases h⟩
        have tk : TK p l e RAir s m ([.ref (ad 7 0)] : List Value).toArray below meth c D (wA ad (nX k) s.heap.size) (MQ below (QA D cy ad k s.heap.size r S1) ([.ref (ad 7 0)] : List Value).toArray s 2 104 (wA ad (nX k) s.heap.size)) 0 0 (wl (nX k) ad (ct cy ad S)) 32 [(0, .ref (ad 7 0))] [.int (gI S 7 0 8), .ref (ad 9 0)] := by
          refine K_new (q := 35) (f := 0) (N := 4) (C := RX0) (T := TX0) (ty := tyX0) (fs := [.null, .int (0 : Int32), .int (0 : Int32), .int (0 : Int32)]) ck dX7_air_32 rfl rfl (fun w h => cf_0.2.1 w h) tyX0_ok ⟨inG (inT 26 (by decide +kernel)) rfl, inG (inT 27 (by decide +kernel)) rfl, inG (inT 2 (by decide +kernel)) rfl⟩ (by decide +kernel) ⟨Nat.le_of_ble_eq_true rfl, Nat.le_of_ble_eq_true rfl⟩ (fun a => ?_)
          refine K_dup (q := 36) ck dX7_air_35 rfl rfl ?_
          refine K_call (q := 39) (d' := 1) (mc := 1) (ms := 100) (As := []) (rest := [.ref a, .int (gI S 7 0 8), .ref (ad 9 0)]) (wr := wl (nX k) ad (ct cy ad S)) (ws' := fun z => wl (nX k) ad (ct cy ad S) ++ [(a, .inr (0, [.ref (z 0), .int 0, .int 400, .int 80])), (z 0, .inl (cy 0, (100, .inl (fun _ => 0))))]) ck [(wl (nX k) ad (ct cy ad S)).length] (List.range (wl (nX k) ad (ct cy ad S)).length) dX7_air_36 rfl rfl ⟨inG (inT 28 (by decide +kernel)) rfl, kw_X0⟩ rfl (Nat.le_of_ble_eq_true rfl) ⟨Nat.le_of_ble_eq_true rfl, Nat.le_of_ble_eq_true rfl⟩ ⟨Nat.le_of_ble_eq_true rfl, Nat.le_of_ble_eq_true rfl⟩ (n_X0 l D cy a) ?_ ?_ rfl (va_nd_of List.nodup_range) ?_ (fun _ => rfl) (fun z => ?_)
          · rw [List.map_cons, List.getElem?_append_right (Nat.le_refl _), Nat.sub_self]; rfl
          · apply List.ext_getElem?
            intro i
            rw [List.getElem?_map, List.getElem?_map]
            by_cases hi : i < (wl (nX k) ad (ct cy ad S)).length
            · rw [List.getElem?_range hi]
              show some ((wl (nX k) ad (ct cy ad S) ++ [(a, Sum.inr (0, [Value.null, .int (0 : Int32), .int (0 : Int32), .int (0 : Int32)]))] : va_W)[i]?) = _
              rw [List.getElem?_append_left hi, List.getElem?_eq_getElem hi]; rfl
            · rw [List.getElem?_eq_none (by simpa using hi), List.getElem?_eq_none (by omega)]; rfl
          · intro i hi h
            have h1 := List.mem_range.mp hi
            have h2 := List.mem_singleton.mp h
            omega
          intro H2 locs2 la2 hl2 hP2 hD2 hS2
          obtain ⟨hJ', hW'⟩ := air_world hJ hk hP.2 hP2 hD2
          obtain ⟨hza, hzb⟩ := air_new hJ _ _ hD2
          have hA' := wA_adN (ad := ad) (k := k) hza hzb
          have cx' : CX p s m meth c ([.ref (ad 7 0)] : List Value).toArray cX7_air RX7 3 (some .int) D cy (adN ad (1 + k) a (z 0)) (nX (k + 1)) := ⟨B.exec, B.bytes, hml, ho, fun w hw => hts w (List.mem_cons_of_mem _ hw), hK, hJ', by rw [hA']; exact EX_adN hE, B.returns, B.notSynchronized⟩
          have t2 : TH p l e RAir 2 104 2 104 (QA D cy ad k s.heap.size) s m ([.ref (ad 7 0)] : List Value).toArray below meth c D cy (adN ad (1 + k) a (z 0)) (nX (k + 1)) (newAir S (1 + k)) 39 [(0, .ref (adN ad (1 + k) a (z 0) 7 0))] [.ref (adN ad (1 + k) a (z 0) 0 (1 + k)), .int (gI S 7 0 8), .ref (adN ad (1 + k) a (z 0) 9 0)] (F_air_rest (k + 1) (sR (newAir S (1 + k)) 9 0 (gI S 7 0 8).toNatClampNeg (some (1 + k)))) := by
            refine H_aast (q := 40) cx' dX7_air_39 rfl nX_new0 (Nat.le_of_ble_eq_true rfl) ⟨g1, g2⟩ ?_
            refine air_rest cx' (fun t r S h1 h2 => ⟨⟨rfl, adN ad (1 + k) a (z 0), fun f i hf hi => adN_o (nX_ne hi).1 (nX_ne hi).2, fun f i h0 h1 => adN_o (fun q => h0 q.1) (fun q => h1 q.1), hJ', fun f i hf hi => ?_, h1⟩, by rw [← hA']; exact h2⟩) _
            rcases nX_old hi with h | ⟨rfl, rfl⟩ | ⟨rfl, rfl⟩
            · exact Or.inl ⟨h, adN_o (nX_ne h).1 (nX_ne h).2⟩
            · exact Or.inr (by rw [adN_0]; exact hza)
            · exact Or.inr (by rw [adN_1]; exact hzb)
          have e7 : adN ad (1 + k) a (z 0) 7 0 = ad 7 0 := adN_o (by omega) (by omega)
          have e9 : adN ad (1 + k) a (z 0) 9 0 = ad 9 0 := adN_o (by omega) (by omega)
          unfold TH at t2
          rw [hA', e7, e9, adN_0] at t2
          exact t2 r S1 hr H2 locs2 la2 hl2 hW' hS2
        exact tk H locs la hl (wl_P hP.1) (wl_D hJ) hS
      · refine H_ifnonnull (t := 40) cx dX7_air_21 (by decide) ?_
        refine H_widen (k1 := 2) (s1 := 104) (Nat.zero_le _) (Nat.zero_le _) ?_
        exact air_rest cx (fun t r S h1 h2 => ⟨⟨rfl, ad, fun _ _ _ _ => rfl, fun _ _ _ _ => rfl, hJ, fun f i hf hi => Or.inl ⟨hi, rfl⟩, h1⟩, h2⟩) S
    · refine H_bipush (q := 11) (v := (-4 : Int32)) cx dX7_air_9 rfl (by decide) ?_
      exact H_iret cx rfl dX7_air_11 (Nat.zero_le _) (Nat.zero_le _) (fun t h1 h2 => ⟨⟨rfl, ad, fun _ _ _ _ => rfl, fun _ _ _ _ => rfl, hJ, fun f i hf hi => Or.inl ⟨hi, rfl⟩, h1⟩, h2⟩)
  exact main r S1 hr s.heap [] _ (by rw [hml]; exact hl) hP va_S.rf
