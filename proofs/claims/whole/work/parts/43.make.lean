/-! make -/
theorem fitsC {k d : Nat} (hk : k < 6) (hd : d < 10) (st : CS) : f_M_fits (nI k) (nI d) st = some (if fitK k d then 1 else 0, st) := by
  have z : ∀ a c : Nat, a < 2 ^ 31 → c < 2 ^ 31 → (nI a = nI c) = (a = c) := fun a c => nI_lit
  have k0 : (nI k = 0) = (k = 0) := z k 0 (by omega) (by decide)
  have k1 : (nI k = 1) = (k = 1) := z k 1 (by omega) (by decide)
  have k2 : (nI k = 2) = (k = 2) := z k 2 (by omega) (by decide)
  have k3 : (nI k = 3) = (k = 3) := z k 3 (by omega) (by decide)
  have k4 : (nI k = 4) = (k = 4) := z k 4 (by omega) (by decide)
  have k5 : (nI k = 5) = (k = 5) := z k 5 (by omega) (by decide)
  have d0 : (nI d = 0) = (d = 0) := z d 0 (by omega) (by decide)
  have d3 : (nI d = 3) = (d = 3) := z d 3 (by omega) (by decide)
  have d4 : (nI d = 4) = (d = 4) := z d 4 (by omega) (by decide)
  have d5 : (nI d = 5) = (d = 5) := z d 5 (by omega) (by decide)
  have d6 : (nI d = 6) = (d = 6) := z d 6 (by omega) (by decide)
  have d7 : (nI d = 7) = (d = 7) := z d 7 (by omega) (by decide)
  have d8 : (nI d = 8) = (d = 8) := z d 8 (by omega) (by decide)
  unfold f_M_fits fitK
  simp only [k0, k1, k2, k3, k4, k5, d0, d3, d4, d5, d6, d7, d8]
  rcases (show k = 0 ∨ k = 1 ∨ k = 2 ∨ k = 3 ∨ k = 4 ∨ k = 5 by omega) with rfl | rfl | rfl | rfl | rfl | rfl
  · by_cases a : d = 0 <;> simp [a]
  · by_cases a : d = 6 <;> simp [a]
  · by_cases a : d = 3 <;> by_cases b : d = 4 <;> simp [a, b]
  · by_cases a : d = 8 <;> simp [a]
  · by_cases a : d = 3 <;> by_cases b : d = 4 <;> by_cases c : d = 5 <;> simp [a, b, c]
  · by_cases a : d = 7 <;> simp [a]
theorem isForR {rs : RS} {N : Nat} {P : PT} (hT : treeR rs N P) {k n : Nat} (hk : k < 6) (hn : n < N) : f_R_isFor (nI k) (nI n) rs = some (if fitK k (pkd P n) then 1 else 0, rs) := by
  have hN := hT.1
  have hd := (hT.2.2.2 n hn).1.2.1
  have z : ∀ a c : Nat, a < 2 ^ 31 → c < 2 ^ 31 → (nI a = nI c) = (a = c) := fun a c => nI_lit
  have k0 : (nI k = 0) = (k = 0) := z k 0 (by omega) (by decide)
  have k1 : (nI k = 1) = (k = 1) := z k 1 (by omega) (by decide)
  have k2 : (nI k = 2) = (k = 2) := z k 2 (by omega) (by decide)
  have k3 : (nI k = 3) = (k = 3) := z k 3 (by omega) (by decide)
  have k4 : (nI k = 4) = (k = 4) := z k 4 (by omega) (by decide)
  unfold f_R_isFor fitK
  rw [ck_nI (by omega) (by decide), nIc (by omega), (hT.2.2.2 n hn).1.1, nx_e]
  generalize pkd P n = d at hd
  have d0 : (nI d = 0) = (d = 0) := z d 0 (by omega) (by decide)
  have d3 : (nI d = 3) = (d = 3) := z d 3 (by omega) (by decide)
  have d4 : (nI d = 4) = (d = 4) := z d 4 (by omega) (by decide)
  have d5 : (nI d = 5) = (d = 5) := z d 5 (by omega) (by decide)
  have d6 : (nI d = 6) = (d = 6) := z d 6 (by omega) (by decide)
  have d7 : (nI d = 7) = (d = 7) := z d 7 (by omega) (by decide)
  have d8 : (nI d = 8) = (d = 8) := z d 8 (by omega) (by decide)
  simp only [k0, k1, k2, k3, k4, d0, d3, d4, d5, d6, d7, d8]
  rcases (show k = 0 ∨ k = 1 ∨ k = 2 ∨ k = 3 ∨ k = 4 ∨ k = 5 by omega) with rfl | rfl | rfl | rfl | rfl | rfl
  · by_cases a : d = 0 <;> simp [a]
  · by_cases a : d = 6 <;> simp [a]
  · by_cases a : d = 3 <;> by_cases b : d = 4 <;> simp [a, b]
  · by_cases a : d = 8 <;> simp [a]
  · by_cases a : d = 3 <;> by_cases b : d = 4 <;> by_cases c : d = 5 <;> simp [a, b, c]
  · by_cases a : d = 7 <;> simp [a]
/-- node n is covered by a test that passes -/
def cvd (cs : CS) (tn n : Nat) : Prop := ∃ t, t < tn ∧ cU_states cs t = 1 ∧ tb (cU_covered cs t) n = true
theorem cbpL {cs : CS} {tn : Nat} (h : cU_size cs = nI tn) (ht : tn ≤ 24) : ∀ (k fuel t : Nat) (m : Int64), t + k = tn → k < fuel → (∀ n, tb m n = true ↔ cvd cs t n) → ∃ m', (∀ n, tb m' n = true ↔ cvd cs tn n) ∧ f_U_coveredByPassing_4 fuel m (nI t) cs = some (m', cs) := by
  intro k
  induction k with
  | zero =>
    intro fuel t m h1 h2 h3
    obtain ⟨fuel, rfl⟩ : ∃ f, fuel = f + 1 := ⟨fuel - 1, by omega⟩
    have : t = tn := by omega
    subst this
    exact ⟨m, h3, by rw [f_U_coveredByPassing_4, h, if_pos (nI_le (Nat.le_refl _) (by omega))]⟩
  | succ k ih =>
    intro fuel t m h1 h2 h3
    obtain ⟨fuel, rfl⟩ : ∃ f, fuel = f + 1 := ⟨fuel - 1, by omega⟩
    rw [f_U_coveredByPassing_4, h, if_neg (nI_ge (by omega) (by omega))]
    simp only [ck_nI (show t < 24 by omega) (by decide), nIc (show t < 2 ^ 31 by omega), nx_e, nI_1]
    by_cases c : cU_states cs t = 1
    · rw [if_pos c]
      refine ih fuel (t + 1) _ (by omega) (by omega) (fun n => ?_)
      rw [tb_or, Bool.or_eq_true, h3 n]
      constructor
      · rintro (⟨t', a, b⟩ | q)
        · exact ⟨t', by omega, b⟩
        · exact ⟨t, by omega, c, q⟩
      · rintro ⟨t', a, b, d⟩
        by_cases e : t' = t
        · subst e; exact Or.inr d
        · exact Or.inl ⟨t', by omega, b, d⟩
    · rw [if_neg c]
      refine ih fuel (t + 1) _ (by omega) (by omega) (fun n => ?_)
      rw [h3 n]
      constructor
      · rintro ⟨t', a, b⟩; exact ⟨t', by omega, b⟩
      · rintro ⟨t', a, b, d⟩
        by_cases e : t' = t
        · subst e; exact absurd b c
        · exact ⟨t', by omega, b, d⟩
theorem isCovL {cs : CS} {rs : RS} {N tn n : Nat} {P : PT} (hU : RU cs rs N P tn) (hn : n < 64) : ∀ (k fuel t : Nat), t + k = tn → k < fuel → (¬ cvd cs t n) → ∃ b : Bool, (b = true ↔ cvd cs tn n) ∧ f_R_isCovered_2 fuel (nI n) (nI t) rs = some (if b then 1 else 0, rs) := by
  have ht := hU.1
  intro k
  induction k with
  | zero =>
    intro fuel t h1 h2 h3
    obtain ⟨fuel, rfl⟩ : ∃ f, fuel = f + 1 := ⟨fuel - 1, by omega⟩
    have : t = tn := by omega
    subst this
    exact ⟨false, by simp [h3], by rw [f_R_isCovered_2, hU.2.2.1, if_pos (nI_le (Nat.le_refl _) (by omega))]; rfl⟩
  | succ k ih =>
    intro fuel t h1 h2 h3
    obtain ⟨fuel, rfl⟩ : ∃ f, fuel = f + 1 := ⟨fuel - 1, by omega⟩
    obtain ⟨r, inp, w, g1, -, -, -, ⟨g5, g5'⟩, -, g7, g8⟩ := hU.2.2.2 t (by omega)
    rw [f_R_isCovered_2, hU.2.2.1, if_neg (nI_ge (by omega) (by omega))]
    simp only [ck_nI (show t < 24 by omega) (by decide), nIc (show t < 2 ^ 31 by omega), nx_e, nI_1, idx64, ck_nI (show 64 * t + n < 1536 by omega) (by decide), nIc (show 64 * t + n < 2 ^ 31 by omega), g8 n hn]
    have es : r_passes rs t = cU_states cs t := by rw [g5, g5']
    rw [es]
    have step : ¬ (cU_states cs t = 1 ∧ tb (cU_covered cs t) n = true) → ¬ cvd cs (t + 1) n := by
      rintro q ⟨t', a, b, d⟩
      by_cases e : t' = t
      · subst e; exact q ⟨b, d⟩
      · exact h3 ⟨t', by omega, b, d⟩
    by_cases c : cU_states cs t = 1
    · rw [if_pos c, ← g7]
      by_cases d : tb (cU_covered cs t) n = true
      · rw [if_pos d, if_neg (by decide)]
        exact ⟨true, ⟨fun _ => ⟨t, by omega, c, d⟩, fun _ => rfl⟩, rfl⟩
      · rw [if_neg d, if_pos rfl]
        exact ih fuel (t + 1) (by omega) (by omega) (step (fun q => d q.2))
    · rw [if_neg c]
      exact ih fuel (t + 1) (by omega) (by omega) (step (fun q => c q.1))
theorem isMadeL {cs : CS} {rs : RS} {N mn k n : Nat} {P : PT} (hM : RM cs rs N P mn) (hk : k < 6) (hn : n < 64) : ∀ (q fuel i : Nat), i + q = mn → q < fuel → (¬ ∃ i', i' < i ∧ cN_kinds cs i' = nI k ∧ cN_nodes cs i' = nI n) → ∃ b : Bool, (b = true ↔ ∃ i', i' < mn ∧ cN_kinds cs i' = nI k ∧ cN_nodes cs i' = nI n) ∧ f_R_isMade_2 fuel (nI k) (nI n) (nI i) rs = some (if b then 1 else 0, rs) := by
  have hm := hM.1
  intro q
  induction q with
  | zero =>
    intro fuel i h1 h2 h3
    obtain ⟨fuel, rfl⟩ : ∃ f, fuel = f + 1 := ⟨fuel - 1, by omega⟩
    have : i = mn := by omega
    subst this
    exact ⟨false, ⟨fun q => by simp at q, fun q => absurd q h3⟩, by rw [f_R_isMade_2, hM.2.2.1, if_pos (nI_le (Nat.le_refl _) (by omega))]; rfl⟩
  | succ q ih =>
    intro fuel i h1 h2 h3
    obtain ⟨fuel, rfl⟩ : ∃ f, fuel = f + 1 := ⟨fuel - 1, by omega⟩
    obtain ⟨kk, nn, -, ⟨g4, g4'⟩, ⟨g5, g5'⟩, -⟩ := hM.2.2.2.1 i (by omega)
    rw [f_R_isMade_2, hM.2.2.1, if_neg (nI_ge (by omega) (by omega))]
    simp only [ck_nI (show i < 100 by omega) (by decide), nIc (show i < 2 ^ 31 by omega), nx_e, nI_1]
    have ek : r_kindM rs i = cN_kinds cs i := by rw [g4, g4']
    have en : r_nodeM rs i = cN_nodes cs i := by rw [g5, g5']
    rw [ek, en]
    have step : ¬ (cN_kinds cs i = nI k ∧ cN_nodes cs i = nI n) → ¬ ∃ i', i' < i + 1 ∧ cN_kinds cs i' = nI k ∧ cN_nodes cs i' = nI n := by
      rintro z ⟨i', a, b, d⟩
      by_cases e : i' = i
      · subst e; exact z ⟨b, d⟩
      · exact h3 ⟨i', by omega, b, d⟩
    by_cases c : cN_kinds cs i = nI k
    · rw [if_pos c]
      by_cases d : cN_nodes cs i = nI n
      · rw [if_pos d]
        exact ⟨true, ⟨fun _ => ⟨i, by omega, c, d⟩, fun _ => rfl⟩, rfl⟩
      · rw [if_neg d]
        exact ih fuel (i + 1) (by omega) (by omega) (step (fun z => d z.2))
    · rw [if_neg c]
      exact ih fuel (i + 1) (by omega) (by omega) (step (fun z => c z.1))
