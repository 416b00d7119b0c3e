theorem law_pure (L : Nat) (xs : Nat → Int32) (hL : L ≤ 3072) : ∃ (n : Nat) (t : PSt), f_L_law_18 L xs n 0 (c0, r0) = some (1, t) := by
  obtain ⟨t, h⟩ := law_run (xs := xs) hL L 0 (c0, r0) (by omega) (by omega) rel0
  rw [nI_0] at h
  exact ⟨L + 1, t, h⟩
