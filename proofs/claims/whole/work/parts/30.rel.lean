def Rel (k : Nat) (Sx Sm : St) : Prop := k ≤ 6 ∧ Sx = Sx ∧ Sm = Sm
theorem Rel_k {k : Nat} {Sx Sm : St} (h : Rel k Sx Sm) : k ≤ 6 := h.1
theorem Rel_0 : Rel 0 S0x S0m := ⟨by decide, rfl, rfl⟩
theorem R0_x : ∀ f i j x, gR S0x f i j = some x → x < nX 0 0 := by
  intro f i j x h
  unfold gR S0x at h
  dsimp only at h
  split at h
  · split at h
    · cases h; exact Nat.zero_lt_one
    · cases h
  · split at h
    · cases h; exact Nat.zero_lt_one
    · cases h
  · cases h
