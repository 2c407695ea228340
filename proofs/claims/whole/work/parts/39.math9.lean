theorem m_air {k : Nat} {Sx Sm : St} (hR : Rel k Sx Sm) : ∃ (r : Int32) (k' : Nat) (Sx' Sm' : St), F_X7_air k Sx = some ((r, k'), Sx') ∧ F_X8_air Sm = some (r, Sm') ∧ Rel k' Sx' Sm' := by
  sorry
