def Rel (k : Nat) (Sx Sm : St) : Prop := k ≤ 6 ∧ Sx = Sx ∧ Sm = Sm
theorem Rel_k {k : Nat} {Sx Sm : St} (h : Rel k Sx Sm) : k ≤ 6 := h.1
