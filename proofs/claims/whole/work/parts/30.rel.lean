def Rel (k : Nat) (Sx Sm : St) : Prop := k ≤ 6 ∧ Sx = Sx ∧ Sm = Sm
