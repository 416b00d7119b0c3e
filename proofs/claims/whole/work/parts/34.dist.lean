theorem ne_m1 {n : Nat} (h : n < 2 ^ 31) : ¬ nI n = -1 := by
  intro h1
  have h2 := congrArg Int32.toInt h1
  rw [nI_toInt h] at h2
  have h3 : (-1 : Int32).toInt = -1 := by decide
  omega
theorem comeN {st : RS} (d : Int32) : f_R_comeTo (-1) d st = some ((), st) := by
  unfold f_R_comeTo
  rw [if_pos rfl]
theorem farStep {st : RS} {N : Nat} {P : PT} (hT : treeR st N P) {w : Nat → Int32} {n : Nat} (hn : n < N) (fuel : Nat) : f_R_layFar_30 (fuel + 1) (nI n) (S_r_far st w) = f_R_layFar_30 fuel (nI n + (-1)) (S_r_far st (fst1 P w n)) := by
  have hN := hT.1
  obtain ⟨w1, w2⟩ := hT.2.2.1 n hn
  obtain ⟨q0, q1, q2, q3, q4⟩ := hT.2.2.2 n hn
  rw [f_R_layFar_30, if_neg (nI_pos (by omega))]
  have p1 : ∀ w, r_partA (S_r_far st w) n = r_partA st n := fun _ => rfl
  have p2 : ∀ w, r_partB (S_r_far st w) n = r_partB st n := fun _ => rfl
  have p3 : ∀ w, r_partC (S_r_far st w) n = r_partC st n := fun _ => rfl
  simp only [ck_nI (show n < 64 by omega) (by decide), nIc (show n < 2 ^ 31 by omega), gS_r_far, nx_e]
  unfold fst1
  by_cases hw : w n = -1
  · rw [if_pos hw, if_pos hw]
  · rw [if_neg hw, if_neg hw, p1]
    by_cases h8 : pkd P n = 8
    · have ab := w1 (by omega) (by omega) (by omega)
      have cc := w2 h8
      rw [if_pos h8, (q1 (by omega)).1, bd_eq (comeR (by omega) _), p2, (q1 (by omega)).2, gS_r_far, shn_ne (by omega), bd_eq (comeR (by omega) _), p3, q3 h8, gS_r_far, shn_ne (by omega), shn_ne (by omega), bd_eq (comeR (by omega) _)]
    · rw [if_neg h8]
      by_cases h3 : 3 ≤ pkd P n
      · have ab := w1 (by omega) (by omega) (by omega)
        rw [if_pos h3, (q1 (by omega)).1, bd_eq (comeR (by omega) _), p2, (q1 (by omega)).2, gS_r_far, shn_ne (by omega), bd_eq (comeR (by omega) _), p3, q4 h8, bd_eq (comeN _)]
      · rw [if_neg h3, (q2 (by omega)).1, bd_eq (comeN _), p2, (q2 (by omega)).2, bd_eq (comeN _), p3, q4 h8, bd_eq (comeN _)]
theorem farR2 {st : RS} {N : Nat} {P : PT} (hT : treeR st N P) : ∀ (n fuel : Nat) (w : Nat → Int32), n < N → n + 1 < fuel → f_R_layFar_30 fuel (nI n) (S_r_far st w) = some ((), S_r_far st (frun P (n + 1) n w)) := by
  have hN := hT.1
  intro n
  induction n with
  | zero =>
    intro fuel w h1 h2
    obtain ⟨fuel, rfl⟩ : ∃ f, fuel = f + 2 := ⟨fuel - 2, by omega⟩
    rw [farStep hT h1, f_R_layFar_30, if_pos (by decide)]
    rfl
  | succ n ih =>
    intro fuel w h1 h2
    obtain ⟨fuel, rfl⟩ : ∃ f, fuel = f + 1 := ⟨fuel - 1, by omega⟩
    rw [farStep hT h1, pk_m1, ih fuel _ (by omega) (by omega)]
    rfl
theorem farR1 {st : RS} {root : Nat} (hr : root < 64) : ∀ (k fuel n : Nat) (w : Nat → Int32), n + k = 64 → k < fuel → (∀ i, i < n → w i = -1) →
    ∃ w', (∀ i, i < 64 → w' i = w0 root i) ∧ f_R_layFar_2 fuel (nI root) (nI n) (S_r_far st w) = f_R_layFar_30 FU (nI root) (S_r_far st w') := by
  intro k
  induction k with
  | zero =>
    intro fuel n w h1 h2 h3
    obtain ⟨fuel, rfl⟩ : ∃ f, fuel = f + 1 := ⟨fuel - 1, by omega⟩
    refine ⟨upd w root 0, fun i hi => ?_, ?_⟩
    · unfold upd w0
      by_cases e : i = root
      · simp [e]
      · simp only [e, if_false]; exact h3 i (by omega)
    · have : n = 64 := by omega
      subst this
      rw [f_R_layFar_2, if_pos (by decide), ck_nI hr (by decide), nIc (by omega), nx_e, sS_r_far, gS_r_far, SS_r_far]
  | succ k ih =>
    intro fuel n w h1 h2 h3
    obtain ⟨fuel, rfl⟩ : ∃ f, fuel = f + 1 := ⟨fuel - 1, by omega⟩
    obtain ⟨w', q1, q2⟩ := ih fuel (n + 1) (upd w n (-1)) (by omega) (by omega) (fun i hi => by
      by_cases e : i = n
      · subst e; exact pk_us
      · rw [pk_un e]; exact h3 i (by omega))
    refine ⟨w', q1, ?_⟩
    have e1 : ¬ (64 : Int32) ≤ nI n := nI_ge (b := 64) (by omega) (by omega)
    rw [f_R_layFar_2, if_neg e1, ck_nI (by omega) (by decide), nIc (by omega), nx_e, nx_e, sS_r_far, gS_r_far, SS_r_far, nI_1]
    exact q2
theorem farR {st : RS} {N : Nat} {P : PT} (hT : treeR st N P) {root : Nat} (hr : root < N) : ∃ w', (∀ i, i < 64 → w' i = FR P root i) ∧ f_R_layFar (nI root) st = some ((), S_r_far st w') := by
  have hN := hT.1
  have hFU := FU_eq
  unfold f_R_layFar
  obtain ⟨w1, a1, a2⟩ := farR1 (st := st) (root := root) (by omega) 64 FU 0 (r_far st) (by omega) (by omega) (fun i hi => by omega)
  rw [Sg_r_far, nI_0] at a2
  rw [a2, farR2 hT root FU w1 hr (by omega)]
  exact ⟨_, fun i hi => frun_cg (M := 64) hT.2.2.1 (root + 1) root w1 (w0 root) a1 (by omega) hr i hi, rfl⟩
theorem FR_gt {P : PT} {N : Nat} (hP : wfP P N) {root n : Nat} (hr : root < N) (hn : root < n) : FR P root n = -1 := by
  unfold FR
  rw [frun_ge hP _ _ _ _ hr (by omega)]
  unfold w0
  rw [if_neg (by omega)]
theorem same_distance (x1 x2 : Int32) : Same (f_M_distance x1 x2) (f_R_distance x1 x2) := by
  intro cs rs ⟨N, P, tn, mn, sn, hT, hU, hM, hD, hK⟩
  have hN := hT.1.1
  have ht := hU.1
  unfold f_M_distance f_R_distance
  rw [bd_eq (hasU hU.2.1 (by omega) _), ite01, bd_eq (isTestR hU.2.2.1 (by omega) _), ite01]
  by_cases c1 : iN x1 tn = true
  · rw [if_pos c1, if_pos c1, bd_eq (hasC hT.1.2.1 (by omega) _), ite01, bd_eq (isNodeR hT.2.1.2.1 (by omega) _), ite01, iL_i]
    by_cases c2 : iN x2 N = true
    · rw [if_pos c2, if_pos c2]
      obtain ⟨t, ht', rfl⟩ := iN_of c1 (by omega)
      obtain ⟨n, hn, rfl⟩ := iN_of c2 (by omega)
      obtain ⟨r, inp, w, g1, ⟨g2, g2'⟩, -⟩ := hU.2.2.2 t ht'
      have hroot : f_U_rootOf (nI t) cs = some (nI r, cs) := by
        unfold f_U_rootOf
        rw [ck_nI (by omega) (by decide), nIc (by omega), g2]
      obtain ⟨wc, a⟩ := wayC hT.1 g1 hn
      obtain ⟨wr, b1, b2⟩ := farR hT.2.1 g1
      rw [bd_eq hroot, bd_eq a, ck_nI (by omega) (by decide), nIc (by omega), g2', bd_eq b2, ck_nI (by omega) (by decide), nIc (by omega), gS_r_far, b1 n (by omega)]
      refine ⟨_, _, S_r_far rs wr, rfl, ?_, N, P, tn, mn, sn, hT, hU, hM, hD, hK⟩
      by_cases hle : n ≤ r
      · rw [if_pos hle]
      · rw [if_neg hle, FR_gt hT.1.2.2.1 g1 (by omega)]
    · rw [if_neg c2, if_neg c2]
      exact ⟨_, _, _, rfl, rfl, N, P, tn, mn, sn, hT, hU, hM, hD, hK⟩
  · rw [if_neg c1, if_neg c1]
    exact ⟨_, _, _, rfl, rfl, N, P, tn, mn, sn, hT, hU, hM, hD, hK⟩
/-- a distance is none, or small -/
def fOK (root : Nat) (w : Nat → Int32) : Prop := ∀ i, w i = -1 ∨ ∃ d, d + i ≤ root ∧ w i = nI d
theorem shn_ok {root : Nat} {w : Nat → Int32} (h : fOK root w) {n d : Nat} (hd : d + n ≤ root) : fOK root (shn w n (nI d)) := by
  intro i
  unfold shn
  split
  · unfold upd; split
    · rename_i e; subst e; exact Or.inr ⟨d, hd, rfl⟩
    · exact h i
  · split
    · exact h i
    · unfold upd; split
      · rename_i e; subst e; exact Or.inr ⟨d, hd, rfl⟩
      · exact h i
theorem fst1_ok {P : PT} {N : Nat} (hP : wfP P N) {root n : Nat} {w : Nat → Int32} (hn : n < N) (h : fOK root w) : fOK root (fst1 P w n) := by
  obtain ⟨w1, w2⟩ := hP n hn
  unfold fst1
  split
  · exact h
  rename_i hw
  rcases h n with h0 | ⟨d, hd, e⟩
  · exact absurd h0 hw
  rw [e, nI_1]
  split
  · rename_i h8
    have ab := w1 (by omega) (by omega) (by omega)
    have c := w2 h8
    exact shn_ok (shn_ok (shn_ok h (by omega)) (by omega)) (by omega)
  split
  · have ab := w1 (by omega) (by omega) (by omega)
    exact shn_ok (shn_ok h (by omega)) (by omega)
  · exact h
theorem frun_ok {P : PT} {N : Nat} (hP : wfP P N) {root : Nat} : ∀ (k n : Nat) (w : Nat → Int32), n < N → fOK root w → fOK root (frun P k n w) := by
  intro k
  induction k with
  | zero => intro n w _ h; exact h
  | succ k ih => intro n w hn h; exact ih (n - 1) _ (by omega) (fst1_ok hP hn h)
theorem FR_ok {P : PT} {N : Nat} (hP : wfP P N) {root : Nat} (hr : root < N) (i : Nat) : FR P root i = -1 ∨ ∃ d, d + i ≤ root ∧ FR P root i = nI d := by
  refine frun_ok hP (root + 1) root (w0 root) hr (fun i => ?_) i
  unfold w0
  by_cases e : i = root
  · rw [if_pos e]; exact Or.inr ⟨0, by omega, rfl⟩
  · rw [if_neg e]; exact Or.inl rfl
theorem shn_set {root : Nat} {w : Nat → Int32} {n d : Nat} (hd : d < 2 ^ 31) : ¬ shn w n (nI d) n = -1 := by
  unfold shn
  split
  · rw [pk_us]; exact ne_m1 hd
  · rename_i h
    split
    · exact h
    · rw [pk_us]; exact ne_m1 hd
theorem shn_keep {w : Nat → Int32} {n d i : Nat} (hd : d < 2 ^ 31) (h : ¬ w i = -1) : ¬ shn w n (nI d) i = -1 := by
  by_cases e : i = n
  · subst e; exact shn_set (root := 0) hd
  · rw [shn_ne e]; exact h
theorem fst1_keep {P : PT} {root n i : Nat} {w : Nat → Int32} (hr : root < 64) (h : fOK root w) (hi : ¬ w i = -1) : ¬ fst1 P w n i = -1 := by
  unfold fst1
  split
  · exact hi
  rename_i hw
  rcases h n with h0 | ⟨d, hd, e⟩
  · exact absurd h0 hw
  rw [e, nI_1]
  have hd2 : d + 1 < 2 ^ 31 := by omega
  split
  · exact shn_keep hd2 (shn_keep hd2 (shn_keep hd2 hi))
  split
  · exact shn_keep hd2 (shn_keep hd2 hi)
  · exact hi
theorem frun_keep {P : PT} {N : Nat} (hP : wfP P N) {root : Nat} (hr : root < 64) : ∀ (k n : Nat) (w : Nat → Int32) (i : Nat), n < N → fOK root w → ¬ w i = -1 → ¬ frun P k n w i = -1 := by
  intro k
  induction k with
  | zero => intro n w i _ _ h; exact h
  | succ k ih => intro n w i hn ho h; exact ih (n - 1) _ i (by omega) (fst1_ok hP hn ho) (fst1_keep hr ho h)
/-- what a reached node is of is reached -/
theorem FR_parts {P : PT} {N : Nat} (hP : wfP P N) {root n : Nat} (hr : root < N) (hN : N ≤ 64) (hn : n ≤ root) (h : ¬ FR P root n = -1) : (3 ≤ pkd P n → ¬ FR P root (ppa P n) = -1 ∧ ¬ FR P root (ppb P n) = -1) ∧ (pkd P n = 8 → ¬ FR P root (ppc P n) = -1) := by
  have ho : fOK root (w0 root) := by
    intro i
    unfold w0
    by_cases e : i = root
    · rw [if_pos e]; exact Or.inr ⟨0, by omega, rfl⟩
    · rw [if_neg e]; exact Or.inl rfl
  have hat := FR_at hP hr hn
  have ho2 := frun_ok hP (root - n) root (w0 root) hr ho
  have split2 : FR P root = frun P n (n - 1) (fst1 P (frun P (root - n) root (w0 root)) n) := by
    unfold FR
    rw [show root + 1 = (root - n) + (n + 1) by omega, frun_add, show root - (root - n) = n by omega]
    rfl
  generalize frun P (root - n) root (w0 root) = w at hat ho2 split2
  have hw : ¬ w n = -1 := by rw [← hat]; exact h
  have ho3 := fst1_ok (P := P) hP (n := n) (by omega) ho2
  rcases ho2 n with h0 | ⟨d, hd, e⟩
  · exact absurd h0 hw
  have hd2 : d + 1 < 2 ^ 31 := by omega
  have key : ∀ i, ¬ fst1 P w n i = -1 → ¬ FR P root i = -1 := by
    intro i hi
    rw [split2]
    exact frun_keep hP (by omega) n (n - 1) _ i (by omega) ho3 hi
  refine ⟨fun h3 => ⟨key _ ?_, key _ ?_⟩, fun h8 => key _ ?_⟩
  · unfold fst1
    rw [if_neg hw, e, nI_1]
    split
    · exact shn_keep hd2 (shn_keep hd2 (shn_set (root := root) hd2))
    · exact shn_keep hd2 (shn_set (root := root) hd2)
  · unfold fst1
    rw [if_neg hw, e, nI_1]
    split
    · exact shn_keep hd2 (shn_set (root := root) hd2)
    · exact shn_set (root := root) hd2
  · unfold fst1
    rw [if_neg hw, e, nI_1, if_pos h8]
    exact shn_set (root := root) hd2
