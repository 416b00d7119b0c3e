theorem law_pure (L : Nat) (xs : Nat → Int32) (hL : L ≤ 3072) : ∃ (n : Nat) (t : PSt), f_L_law_18 L xs n 0 (c0, r0) = some (1, t) := sorry
