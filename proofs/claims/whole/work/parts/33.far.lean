/-! DISTANCE, in both -/
def shn (w : Nat → Int32) (n : Nat) (d : Int32) : Nat → Int32 := if w n = -1 then upd w n d else if w n ≤ d then w else upd w n d
def fst1 (P : PT) (w : Nat → Int32) (n : Nat) : Nat → Int32 := if w n = -1 then w else
  if pkd P n = 8 then shn (shn (shn w (ppa P n) (w n + 1)) (ppb P n) (w n + 1)) (ppc P n) (w n + 1) else if 3 ≤ pkd P n then shn (shn w (ppa P n) (w n + 1)) (ppb P n) (w n + 1) else w
def frun (P : PT) : Nat → Nat → (Nat → Int32) → Nat → Int32
  | 0, _, w => w
  | k + 1, n, w => frun P k (n - 1) (fst1 P w n)
def w0 (root : Nat) : Nat → Int32 := fun i => if i = root then 0 else -1
def FR (P : PT) (root : Nat) : Nat → Int32 := frun P (root + 1) root (w0 root)
theorem shn_ne {w : Nat → Int32} {n i : Nat} {d : Int32} (h : i ≠ n) : shn w n d i = w i := by
  unfold shn
  split
  · exact pk_un h
  · split
    · rfl
    · exact pk_un h
theorem shn_cg {w w' : Nat → Int32} {M n : Nat} {d : Int32} (h : ∀ i, i < M → w i = w' i) (hn : n < M) : ∀ i, i < M → shn w n d i = shn w' n d i := by
  intro i hi
  unfold shn
  rw [h n hn]
  split
  · unfold upd; split
    · rfl
    · exact h i hi
  · split
    · exact h i hi
    · unfold upd; split
      · rfl
      · exact h i hi
theorem fst1_cg {P : PT} {N : Nat} (hP : wfP P N) {w w' : Nat → Int32} {M n : Nat} (h : ∀ i, i < M → w i = w' i) (hn : n < M) (hN : n < N) : ∀ i, i < M → fst1 P w n i = fst1 P w' n i := by
  unfold fst1
  rw [h n hn]
  obtain ⟨w1, w2⟩ := hP n hN
  split
  · exact h
  split
  · rename_i h8
    have ab := w1 (by omega) (by omega) (by omega)
    have c := w2 h8
    exact shn_cg (shn_cg (shn_cg h (by omega)) (by omega)) (by omega)
  split
  · have ab := w1 (by omega) (by omega) (by omega)
    exact shn_cg (shn_cg h (by omega)) (by omega)
  · exact h
theorem fst1_ge {P : PT} {N : Nat} (hP : wfP P N) {w : Nat → Int32} {n i : Nat} (hN : n < N) (hi : n ≤ i) : fst1 P w n i = w i := by
  unfold fst1
  obtain ⟨w1, w2⟩ := hP n hN
  split
  · rfl
  split
  · rename_i h8
    have ab := w1 (by omega) (by omega) (by omega)
    have c := w2 h8
    rw [shn_ne (by omega), shn_ne (by omega), shn_ne (by omega)]
  split
  · have ab := w1 (by omega) (by omega) (by omega)
    rw [shn_ne (by omega), shn_ne (by omega)]
  · rfl
theorem frun_cg {P : PT} {N : Nat} (hP : wfP P N) {M : Nat} : ∀ (k n : Nat) (w w' : Nat → Int32), (∀ i, i < M → w i = w' i) → n < M → n < N → ∀ i, i < M → frun P k n w i = frun P k n w' i := by
  intro k
  induction k with
  | zero => intro n w w' h _ _; exact h
  | succ k ih =>
    intro n w w' h hn hN
    exact ih (n - 1) _ _ (fst1_cg hP h hn hN) (by omega) (by omega)
theorem frun_ge {P : PT} {N : Nat} (hP : wfP P N) : ∀ (k n : Nat) (w : Nat → Int32) (i : Nat), n < N → n ≤ i → frun P k n w i = w i := by
  intro k
  induction k with
  | zero => intro n w i _ _; rfl
  | succ k ih =>
    intro n w i hN hi
    rw [frun, ih (n - 1) _ i (by omega) (by omega), fst1_ge hP hN hi]
theorem frun_add (P : PT) : ∀ (k j n : Nat) (w : Nat → Int32), frun P (k + j) n w = frun P j (n - k) (frun P k n w) := by
  intro k
  induction k with
  | zero => intro j n w; rw [Nat.zero_add]; rfl
  | succ k ih =>
    intro j n w
    rw [show k + 1 + j = (k + j) + 1 by omega, frun, ih, frun]
    congr 1
    omega
/-- what the class finds at the node is what is left in the end -/
theorem FR_at {P : PT} {N : Nat} (hP : wfP P N) {root n : Nat} (hr : root < N) (hn : n ≤ root) : FR P root n = frun P (root - n) root (w0 root) n := by
  unfold FR
  rw [show root + 1 = (root - n) + (n + 1) by omega, frun_add]
  exact frun_ge hP _ _ _ _ (by omega) (by omega)
theorem shortenC {st : CS} {w : Nat → Int32} {n : Nat} (hn : n < 64) (d : Int32) : f_T_shorten (nI n) d (S_cT_ways st w) = some ((), S_cT_ways st (shn w n d)) := by
  unfold f_T_shorten shn
  simp only [ck_nI hn (by decide), nIc (show n < 2 ^ 31 by omega), gS_cT_ways, sS_cT_ways, SS_cT_ways, nx_e]
  split
  · rfl
  · split <;> rfl
theorem comeR {st : RS} {w : Nat → Int32} {n : Nat} (hn : n < 64) (d : Int32) : f_R_comeTo (nI n) d (S_r_far st w) = some ((), S_r_far st (shn w n d)) := by
  unfold f_R_comeTo shn
  have h0 : ¬ nI n = -1 := by
    intro h
    have h2 := congrArg Int32.toInt h
    rw [nI_toInt (by omega)] at h2
    have h3 : (-1 : Int32).toInt = -1 := by decide
    omega
  rw [if_neg h0]
  simp only [ck_nI hn (by decide), nIc (show n < 2 ^ 31 by omega), gS_r_far, sS_r_far, SS_r_far, nx_e]
  split
  · rfl
  · split <;> rfl
theorem goC {st : CS} {N : Nat} {P : PT} (hT : treeC st N P) {w : Nat → Int32} {n : Nat} (hn : n < N) (hw : ¬ w n = -1) : f_T_goOnFrom (nI n) (S_cT_ways st w) = some ((), S_cT_ways st (fst1 P w n)) := by
  have hN := hT.1
  have hlt := (hT.2.2.2 n hn).1.2.1
  obtain ⟨w1, w2⟩ := hT.2.2.1 n hn
  unfold f_T_goOnFrom fst1
  have e1 : ∀ w, cT_kinds (S_cT_ways st w) n = nI (pkd P n) := fun _ => (hT.2.2.2 n hn).1.1
  simp only [ck_nI (show n < 64 by omega) (by decide), nIc (show n < 2 ^ 31 by omega), gS_cT_ways, nx_e, e1]
  rw [if_neg hw]
  have pc : f_T_partCount (nI (pkd P n)) (S_cT_ways st w) = some (if pkd P n = 8 then 3 else if 3 ≤ pkd P n then 2 else 0, S_cT_ways st w) := by
    unfold f_T_partCount
    have z8 : (nI (pkd P n) = 8) = (pkd P n = 8) := nI_lit (j := 8) (by omega) (by decide)
    by_cases l : 2 < pkd P n
    · have : (2 : Int32) < nI (pkd P n) := nI_lt (a := 2) l (by omega)
      rw [if_pos this]
      simp only [z8]
      by_cases h8 : pkd P n = 8
      · simp [h8]
      · simp [h8, show 3 ≤ pkd P n by omega]
    · have : ¬ (2 : Int32) < nI (pkd P n) := nI_nlt (b := pkd P n) (a := 2) (by omega) (by decide)
      rw [if_neg this, if_neg (by omega), if_neg (by omega)]
  rw [bd_eq pc]
  by_cases h8 : pkd P n = 8
  · have ab := w1 (by omega) (by omega) (by omega)
    have cc := w2 h8
    have f1 : ∀ w, cT_firsts (S_cT_ways st w) n = nI (ppa P n) := fun _ => ((hT.2.2.2 n hn).2.1 (by omega)).1
    have f2 : ∀ w, cT_seconds (S_cT_ways st w) n = nI (ppb P n) := fun _ => ((hT.2.2.2 n hn).2.1 (by omega)).2
    have f3 : ∀ w, cT_thirds (S_cT_ways st w) n = nI (ppc P n) := fun _ => (hT.2.2.2 n hn).2.2.2.1 h8
    rw [if_pos h8, if_pos h8, if_neg (by decide), f1, bd_eq (shortenC (by omega) _), f2, bd_eq (shortenC (by omega) _)]
    unfold f_T_goOnFrom_45
    rw [if_neg (by decide), ck_nI (by omega) (by decide), nIc (by omega), f3, bd_eq (shortenC (by omega) _)]
  · rw [if_neg h8, if_neg h8]
    by_cases h3 : 3 ≤ pkd P n
    · have ab := w1 (by omega) (by omega) (by omega)
      have f1 : ∀ w, cT_firsts (S_cT_ways st w) n = nI (ppa P n) := fun _ => ((hT.2.2.2 n hn).2.1 (by omega)).1
      have f2 : ∀ w, cT_seconds (S_cT_ways st w) n = nI (ppb P n) := fun _ => ((hT.2.2.2 n hn).2.1 (by omega)).2
      rw [if_pos h3, if_pos h3, if_neg (by decide), f1, bd_eq (shortenC (by omega) _), f2, bd_eq (shortenC (by omega) _)]
      unfold f_T_goOnFrom_45
      rw [if_pos (by decide)]
    · rw [if_neg h3, if_neg h3, if_pos (by decide)]
      unfold f_T_goOnFrom_45
      rw [if_pos (by decide)]
theorem wayC2 {st : CS} {N : Nat} {P : PT} (hT : treeC st N P) {node : Nat} (hnode : node < 64) : ∀ (k fuel n : Nat) (w : Nat → Int32), n = node + k → n < N → k < fuel →
    ∃ w', f_T_wayBetween_36 fuel (nI node) (nI n) (S_cT_ways st w) = some (frun P k n w node, S_cT_ways st w') := by
  have hN := hT.1
  intro k
  induction k with
  | zero =>
    intro fuel n w h1 h2 h3
    obtain ⟨fuel, rfl⟩ : ∃ f, fuel = f + 1 := ⟨fuel - 1, by omega⟩
    refine ⟨w, ?_⟩
    rw [f_T_wayBetween_36, if_pos (nI_le (by omega) (by omega)), ck_nI hnode (by decide), nIc (by omega)]
    rfl
  | succ k ih =>
    intro fuel n w h1 h2 h3
    obtain ⟨fuel, rfl⟩ : ∃ f, fuel = f + 1 := ⟨fuel - 1, by omega⟩
    obtain ⟨m, rfl⟩ : ∃ m, n = m + 1 := ⟨n - 1, by omega⟩
    rw [f_T_wayBetween_36, if_neg (nI_ge (by omega) (by omega)), ck_nI (by omega) (by decide), nIc (by omega), gS_cT_ways]
    obtain ⟨w', q⟩ := ih fuel m (fst1 P w (m + 1)) (by omega) (by omega) (by omega)
    refine ⟨w', ?_⟩
    rw [frun, Nat.add_sub_cancel]
    by_cases hw : w (m + 1) = -1
    · have e : fst1 P w (m + 1) = w := by unfold fst1; rw [if_pos hw]
      rw [if_pos hw, nx_e, pk_m1]
      rw [e] at q ⊢
      exact q
    · rw [if_neg hw, bd_eq (goC hT h2 hw), nx_e, pk_m1]
      exact q
theorem wayC1 {st : CS} {root : Nat} (hr : root < 64) (node : Int32) : ∀ (k fuel n : Nat) (w : Nat → Int32), n + k = root → k < fuel → (∀ i, i < n → w i = -1) →
    ∃ w', (∀ i, i ≤ root → w' i = w0 root i) ∧ f_T_wayBetween_9 fuel (nI root) node (nI n) (S_cT_ways st w) = f_T_wayBetween_36 FU node (nI root) (S_cT_ways st w') := by
  intro k
  induction k with
  | zero =>
    intro fuel n w h1 h2 h3
    obtain ⟨fuel, rfl⟩ : ∃ f, fuel = f + 1 := ⟨fuel - 1, by omega⟩
    refine ⟨upd w root 0, fun i hi => ?_, ?_⟩
    · unfold upd w0
      by_cases e : i = root
      · simp [e]
      · simp only [e, if_false]; exact h3 i (by omega)
    · rw [f_T_wayBetween_9, if_pos (nI_le (by omega) (by omega)), ck_nI hr (by decide), nIc (by omega), nx_e, sS_cT_ways, gS_cT_ways, SS_cT_ways]
  | succ k ih =>
    intro fuel n w h1 h2 h3
    obtain ⟨fuel, rfl⟩ : ∃ f, fuel = f + 1 := ⟨fuel - 1, by omega⟩
    obtain ⟨w', q1, q2⟩ := ih fuel (n + 1) (upd w n (-1)) (by omega) (by omega) (fun i hi => by
      by_cases e : i = n
      · subst e; exact pk_us
      · rw [pk_un e]; exact h3 i (by omega))
    refine ⟨w', q1, ?_⟩
    rw [f_T_wayBetween_9, if_neg (nI_ge (by omega) (by omega)), ck_nI (by omega) (by decide), nIc (by omega), nx_e, nx_e, sS_cT_ways, gS_cT_ways, SS_cT_ways, nI_1]
    exact q2
/-- what the class answers -/
theorem wayC {st : CS} {N : Nat} {P : PT} (hT : treeC st N P) {root node : Nat} (hr : root < N) (hn : node < N) : ∃ w', f_T_wayBetween (nI root) (nI node) st = some (if node ≤ root then FR P root node else -1, S_cT_ways st w') := by
  have hN := hT.1
  have hFU := FU_eq
  unfold f_T_wayBetween
  by_cases h : node ≤ root
  · rw [if_pos (nI_le h (by omega)), if_pos h, FR_at hT.2.2.1 hr h]
    obtain ⟨w1, a1, a2⟩ := wayC1 (st := st) (root := root) (by omega) (nI node) root FU 0 (cT_ways st) (by omega) (by omega) (fun i hi => by omega)
    rw [Sg_cT_ways, nI_0] at a2
    obtain ⟨w2, b⟩ := wayC2 hT (node := node) (by omega) (root - node) FU root w1 (by omega) hr (by omega)
    rw [a2, b]
    refine ⟨w2, ?_⟩
    rw [frun_cg (M := root + 1) hT.2.2.1 (root - node) root w1 (w0 root) (fun i hi => a1 i (by omega)) (by omega) hr node (by omega)]
  · rw [if_neg (nI_ge (by omega) (by omega)), if_neg h]
    exact ⟨cT_ways st, by rw [Sg_cT_ways]⟩
