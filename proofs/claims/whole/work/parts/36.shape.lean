/-! the class's shapes; a new node -/
theorem pcC {k : Nat} (hk : k < 10) (st : CS) : f_T_partCount (nI k) st = some (if k = 8 then 3 else if 3 ≤ k then 2 else 0, st) := by
  unfold f_T_partCount
  have z8 : (nI k = 8) = (k = 8) := nI_lit (j := 8) (by omega) (by decide)
  by_cases l : 2 < k
  · have : (2 : Int32) < nI k := nI_lt (a := 2) l (by omega)
    rw [if_pos this]
    simp only [z8]
    by_cases h8 : k = 8
    · simp [h8]
    · simp [h8, show 3 ≤ k by omega]
  · have : ¬ (2 : Int32) < nI k := nI_nlt (b := k) (a := 2) (by omega) (by decide)
    rw [if_neg this, if_neg (by omega), if_neg (by omega)]
theorem areC {st : CS} {i j : Nat} (hi : i < 64) (hj : j < 64) {a b : Nat} (ha : cT_shapes st i = nI a) (hb : cT_shapes st j = nI b) (hal : a < 2 ^ 31) (hbl : b < 2 ^ 31) : f_T_areAlike (nI i) (nI j) st = some (if a = b then 1 else 0, st) := by
  unfold f_T_areAlike
  rw [ck_nI hi (by decide), ck_nI hj (by decide), nIc (by omega), nIc (by omega), ha, hb]
  by_cases e : a = b
  · rw [if_pos e, if_pos (by rw [e])]
  · have : ¬ nI a = nI b := by rw [nI_lit hal hbl]; exact e
    rw [if_neg e, if_neg this]
theorem haveC {st : CS} {N : Nat} {P : PT} (hT : treeC st N P) {i n : Nat} (hi : i < n) (hn : n < N) (hs : ∀ j, j < n → cT_shapes st j = nI (lst P j)) (hk : pkd P i = pkd P n) :
    ∃ r, f_T_haveAlikeParts (nI i) (nI n) st = some (r, st) ∧ (r = 0 ↔ ¬ ((3 ≤ pkd P i → AL P (ppa P i) (ppa P n) = true ∧ AL P (ppb P i) (ppb P n) = true) ∧ (pkd P i = 8 → AL P (ppc P i) (ppc P n) = true))) := by
  have hN := hT.1
  have hP := hT.2.2.1
  obtain ⟨w1, w2⟩ := hP i (by omega)
  obtain ⟨v1, v2⟩ := hP n hn
  have lt10 := (hT.2.2.2 i (by omega)).1.2.1
  have al : ∀ x y, x < n → y < n → f_T_areAlike (nI x) (nI y) st = some (if AL P x y = true then 1 else 0, st) := by
    intro x y hx hy
    have l1 := (lst_spec hP hN (show x < N by omega)).1
    have l2 := (lst_spec hP hN (show y < N by omega)).1
    rw [areC (by omega) (by omega) (hs x hx) (hs y hy) (by omega) (by omega)]
    have e := lst_eq hP hN (show x < N by omega) (show y < N by omega)
    by_cases h : AL P x y = true
    · rw [if_pos h, if_pos (e.mpr h)]
    · rw [if_neg h, if_neg (fun q => h (e.mp q))]
  unfold f_T_haveAlikeParts
  rw [ck_nI (by omega) (by decide), nIc (by omega), (hT.2.2.2 i (by omega)).1.1, bd_eq (pcC lt10 st)]
  simp only [ck_nI (show i < 64 by omega) (by decide), ck_nI (show n < 64 by omega) (by decide), nIc (show n < 2 ^ 31 by omega)]
  by_cases h3 : 3 ≤ pkd P i
  · have ab := w1 (by omega) (by omega) (by omega)
    have ab2 := v1 (by omega) (by omega) (by omega)
    have q1 := (hT.2.2.2 i (by omega)).2.1 h3
    have q2 := (hT.2.2.2 n hn).2.1 (by omega)
    have p0 : ¬ (if pkd P i = 8 then (3 : Int32) else if 3 ≤ pkd P i then 2 else 0) = 0 := by
      by_cases h8 : pkd P i = 8
      · rw [if_pos h8]; decide
      · rw [if_neg h8, if_pos h3]; decide
    rw [if_neg p0, q1.1, q2.1, bd_eq (al _ _ (by omega) (by omega))]
    by_cases a1 : AL P (ppa P i) (ppa P n) = true
    · rw [if_pos a1, if_neg (by decide), q1.2, q2.2, bd_eq (al _ _ (by omega) (by omega))]
      by_cases a2 : AL P (ppb P i) (ppb P n) = true
      · rw [if_pos a2, if_neg (by decide)]
        by_cases h8 : pkd P i = 8
        · have c := w2 h8
          have c2 := v2 (by omega)
          rw [if_pos h8, if_neg (by decide), (hT.2.2.2 i (by omega)).2.2.2.1 h8, (hT.2.2.2 n hn).2.2.2.1 (by omega), bd_eq (al _ _ (by omega) (by omega))]
          by_cases a3 : AL P (ppc P i) (ppc P n) = true
          · rw [if_pos a3, if_neg (by decide)]
            exact ⟨1, rfl, by simp [a1, a2, a3]⟩
          · rw [if_neg a3, if_pos rfl]
            exact ⟨0, rfl, by simp [a3, h8]⟩
        · rw [if_neg h8, if_pos h3, if_pos (by decide)]
          exact ⟨1, rfl, by simp [a1, a2, h8]⟩
      · rw [if_neg a2, if_pos rfl]
        exact ⟨0, rfl, by simp [a2, h3]⟩
    · rw [if_neg a1, if_pos rfl]
      exact ⟨0, rfl, by simp [a1, h3]⟩
  · rw [if_neg (show ¬ pkd P i = 8 by omega), if_neg h3, if_pos rfl]
    exact ⟨1, rfl, by simp [h3, show ¬ pkd P i = 8 by omega]⟩
theorem shapeL {st : CS} {N : Nat} {P : PT} (hT : treeC st N P) {n : Nat} (hn : n < N) (hs : ∀ j, j < n → cT_shapes st j = nI (lst P j)) : ∀ (k fuel i : Nat), i + k = n → k < fuel → f_T_shapeFor_2 fuel (nI n) (nI i) st = some (nI (lsf P n k i), st) := by
  have hN := hT.1
  have hP := hT.2.2.1
  intro k
  induction k with
  | zero =>
    intro fuel i h1 h2
    obtain ⟨fuel, rfl⟩ : ∃ f, fuel = f + 1 := ⟨fuel - 1, by omega⟩
    have : i = n := by omega
    subst this
    rw [f_T_shapeFor_2, if_pos (nI_le (Nat.le_refl _) (by omega))]
    rfl
  | succ k ih =>
    intro fuel i h1 h2
    obtain ⟨fuel, rfl⟩ : ∃ f, fuel = f + 1 := ⟨fuel - 1, by omega⟩
    have lt1 := (hT.2.2.2 i (by omega)).1.2.1
    have lt2 := (hT.2.2.2 n hn).1.2.1
    have e1 : (nI (pkd P i) = nI (pkd P n)) = (pkd P i = pkd P n) := nI_lit (by omega) (by omega)
    have q := ih fuel (i + 1) (by omega) (by omega)
    rw [f_T_shapeFor_2, if_neg (nI_ge (by omega) (by omega)), lsf]
    simp only [ck_nI (show i < 64 by omega) (by decide), ck_nI (show n < 64 by omega) (by decide), nIc (show n < 2 ^ 31 by omega), nIc (show i < 2 ^ 31 by omega), (hT.2.2.2 i (by omega)).1.1, (hT.2.2.2 n hn).1.1, (hT.2.2.2 i (by omega)).1.2.2.1, (hT.2.2.2 n hn).1.2.2.1, e1, nx_e, nI_1]
    have al := AL_iff hP hN (x := i) (y := n) (by omega)
    by_cases c1 : pkd P i = pkd P n
    · rw [if_pos c1]
      by_cases c2 : pnu P i = pnu P n
      · rw [if_pos c2]
        obtain ⟨r, g1, g2⟩ := haveC hT (i := i) (by omega) hn hs c1
        rw [bd_eq g1]
        by_cases c3 : r = 0
        · have : ¬ AL P i n = true := fun h => (g2.mp c3) ⟨(al.mp h).2.2.1, (al.mp h).2.2.2⟩
          rw [if_pos c3, if_neg this, q]
        · have : AL P i n = true := al.mpr ⟨c1, c2, by
            have := fun h => c3 (g2.mpr h)
            exact Classical.not_not.mp this⟩
          rw [if_neg c3, if_pos this]
      · have : ¬ AL P i n = true := fun h => c2 (al.mp h).2.1
        rw [if_neg c2, if_neg this, q]
    · have : ¬ AL P i n = true := fun h => c1 (al.mp h).1
      rw [if_neg c1, if_neg this, q]
theorem shapeC {st : CS} {N : Nat} {P : PT} (hT : treeC st N P) {n : Nat} (hn : n < N) (hs : ∀ j, j < n → cT_shapes st j = nI (lst P j)) : f_T_shapeFor (nI n) st = some (nI (lst P n), st) := by
  have hN := hT.1
  have hFU := FU_eq
  have := shapeL hT hn hs n FU 0 (by omega) (by omega)
  rw [nI_0] at this
  exact this
