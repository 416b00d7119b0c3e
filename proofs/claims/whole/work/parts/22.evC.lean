/-! the class's Worker works out what ev says -/
theorem upd_comm {f : Nat → Int32} {k j : Nat} {a b : Int32} (h : k ≠ j) : upd (upd f k a) j b = upd (upd f j b) k a := by
  funext i
  simp only [upd]
  by_cases h1 : i = j
  · have : ¬ i = k := fun e => h (e.symm.trans h1)
    simp [h1]
    intro e; exact absurd e.symm h
  · simp [h1]
theorem updL_comm {f : Nat → Int64} {k j : Nat} {a b : Int64} (h : k ≠ j) : vp_updL (vp_updL f k a) j b = vp_updL (vp_updL f j b) k a := by
  funext i
  simp only [vp_updL]
  by_cases h1 : i = j
  · simp [h1]
    intro e; exact absurd e.symm h
  · simp [h1]
/-- the Worker's steps, cut, covered and acc set -/
def ks (st : CS) (s c : Int32) (m a : Int64) : CS := (upd (upd st.1 5 s) 6 c, vp_updL (vp_updL st.2.1 1 m) 2 a, st.2.2)
theorem ks_s (st : CS) (s c v : Int32) (m a : Int64) : s_cK_steps (ks st s c m a) v = ks st v c m a := by
  simp only [s_cK_steps, ks]
  rw [upd_comm (k := 6) (j := 5) (by decide), upd_upd]
theorem ks_c (st : CS) (s c v : Int32) (m a : Int64) : s_cK_cut (ks st s c m a) v = ks st s v m a := by
  simp only [s_cK_cut, ks, upd_upd]
theorem ks_m (st : CS) (s c : Int32) (m a v : Int64) : s_cK_covered (ks st s c m a) v = ks st s c v a := by
  simp only [s_cK_covered, ks]
  rw [updL_comm (k := 2) (j := 1) (by decide), updL_updL]
theorem ks_a (st : CS) (s c : Int32) (m a v : Int64) : s_cK_acc (ks st s c m a) v = ks st s c m v := by
  simp only [s_cK_acc, ks, updL_updL]
/-- the class's nodes are the program P's first N -/
def treeC (st : CS) (N : Nat) (P : PT) : Prop := N ≤ 64 ∧ cT_size st = nI N ∧ wfP P N ∧ ∀ n, n < N → (cT_kinds st n = nI (pkd P n) ∧ pkd P n < 10 ∧ cT_numbers st n = pnu P n ∧ (¬ pkd P n = 0 → pnu P n = 0)) ∧
  (3 ≤ pkd P n → cT_firsts st n = nI (ppa P n) ∧ cT_seconds st n = nI (ppb P n)) ∧ (pkd P n < 3 → cT_firsts st n = -1 ∧ cT_seconds st n = -1) ∧ (pkd P n = 8 → cT_thirds st n = nI (ppc P n)) ∧ (¬ pkd P n = 8 → cT_thirds st n = -1)
/-- the change that ck at cn is -/
def muO (ck cn : Int32) (k n : Nat) : Bool := decide (cn = nI n ∧ ck = nI k)
/-- what comes of a call: the answer, where it isn't cut, and the state -/
def wP (st : CS) (fr : Option (Int64 × CS)) (c : Int32) (a : Int64) (x : EO) : Prop := ∃ r, fr = some (r, ks st (nI x.2.1) (if x.1 = none then 1 else c) x.2.2 a) ∧ ∀ v, x.1 = some v → r = v
def HW (st : CS) (N B : Nat) (fw : Int32 → CS → Option (Int64 × CS)) (E : Int64 → Nat → Nat × Int64 → EO) : Prop :=
  ∀ n, n < N → ∀ (s : Nat) (m a : Int64) (c : Int32), s ≤ B → (c = 0 ∨ (c = 1 ∧ s = B)) → wP st (fw (nI n) (ks st (nI s) c m a)) c a (E a n (s, m))
theorem g_first {st : CS} {N : Nat} {P : PT} (h : treeC st N P) {n : Nat} (hn : n < N) (hk : 3 ≤ pkd P n) (s c : Int32) (m a : Int64) : f_T_firstOf (nI n) (ks st s c m a) = some (nI (ppa P n), ks st s c m a) := by
  have h1 := h.1
  unfold f_T_firstOf
  rw [ck_nI (by omega) (by decide), nIc (by omega)]
  show some (cT_firsts st n, _) = _
  rw [((h.2.2.2 n hn).2.1 hk).1]
theorem g_second {st : CS} {N : Nat} {P : PT} (h : treeC st N P) {n : Nat} (hn : n < N) (hk : 3 ≤ pkd P n) (s c : Int32) (m a : Int64) : f_T_secondOf (nI n) (ks st s c m a) = some (nI (ppb P n), ks st s c m a) := by
  have h1 := h.1
  unfold f_T_secondOf
  rw [ck_nI (by omega) (by decide), nIc (by omega)]
  show some (cT_seconds st n, _) = _
  rw [((h.2.2.2 n hn).2.1 hk).2]
theorem g_third {st : CS} {N : Nat} {P : PT} (h : treeC st N P) {n : Nat} (hn : n < N) (hk : pkd P n = 8) (s c : Int32) (m a : Int64) : f_T_thirdOf (nI n) (ks st s c m a) = some (nI (ppc P n), ks st s c m a) := by
  have h1 := h.1
  unfold f_T_thirdOf
  rw [ck_nI (by omega) (by decide), nIc (by omega)]
  show some (cT_thirds st n, _) = _
  rw [(h.2.2.2 n hn).2.2.2.1 hk]
theorem nI_lit {k j : Nat} (hk : k < 2 ^ 31) (hj : j < 2 ^ 31) : (nI k = nI j) = (k = j) := propext (nI_eq hk hj)
/-- the answer of a call, and the next state's cut flag -/
theorem flag {B : Nat} {x : EO} {c : Int32} {s : Nat × Int64} (ho : okS B s x) (hc : c = 0 ∨ (c = 1 ∧ s.1 = B)) (hs : s.1 ≤ B) : ((if x.1 = none then (1 : Int32) else c) = 0 ∨ ((if x.1 = none then (1 : Int32) else c) = 1 ∧ x.2.1 = B)) := by
  by_cases h : x.1 = none
  · rw [if_pos h]; exact Or.inr ⟨rfl, ho.2.2.1 h⟩
  · rw [if_neg h]
    rcases hc with h1 | ⟨h1, h2⟩
    · exact Or.inl h1
    · refine Or.inr ⟨h1, ?_⟩
      have := ho.2.2.2
      have := ho.2.1
      omega
theorem wP_some {st : CS} {fr : Option (Int64 × CS)} {c : Int32} {a : Int64} {x : EO} {v : Int64} (hx : x.1 = some v) (h : wP st fr c a x) : fr = some (v, ks st (nI x.2.1) c x.2.2 a) := by
  obtain ⟨r, h1, h2⟩ := h
  rw [h1, h2 v hx, if_neg (by rw [hx]; simp)]
theorem wP_none {st : CS} {fr : Option (Int64 × CS)} {c : Int32} {a : Int64} {x : EO} (hx : x.1 = none) (h : wP st fr c a x) : ∃ r, fr = some (r, ks st (nI x.2.1) 1 x.2.2 a) := by
  obtain ⟨r, h1, h2⟩ := h
  rw [if_pos hx] at h1
  exact ⟨r, h1⟩
/-- cut already: nothing more happens -/
def cutE (B : Nat) (E : Int64 → Nat → Nat × Int64 → EO) (N : Nat) : Prop := ∀ a n m, n < N → E a n (B, m) = (none, (B, m))
theorem HW_cut {st : CS} {N B : Nat} {fw : Int32 → CS → Option (Int64 × CS)} {E : Int64 → Nat → Nat × Int64 → EO} (h : HW st N B fw E) (hc : cutE B E N) {n : Nat} (hn : n < N) (m a : Int64) : ∃ r, fw (nI n) (ks st (nI B) 1 m a) = some (r, ks st (nI B) 1 m a) := by
  have h1 := h n hn B m a 1 (Nat.le_refl _) (Or.inr ⟨rfl, rfl⟩)
  rw [hc a n m hn] at h1
  exact wP_none rfl h1
theorem two_ev {st : CS} {N B : Nat} {P : PT} {fw : Int32 → CS → Option (Int64 × CS)} {E : Int64 → Nat → Nat × Int64 → EO} (hT : treeC st N P) {n : Nat} (hn : n < N) (hF : HW st n B fw E) (hE : okE B n E) (hcut : cutE B E n) {ch : Int32} {mu : Nat → Nat → Bool} (hch : ∀ k, k < 10 → (ch = nI k ↔ mu k n = true)) (hk : 3 ≤ pkd P n) (hk8 : ¬ pkd P n = 8) (hk9 : ¬ pkd P n = 9) (s : Nat) (m a : Int64) (hs : s ≤ B) :
    wP st (f_K_worthOfTwo fw (nI n) (nI (pkd P n)) ch (ks st (nI s) 0 m a)) 0 a (an (E a (ppa P n) (s, m)) fun x s => if mu 4 n then (some x, s) else an (E a (ppb P n) s) fun y s => (some (opv (pkd P n) (mu 1 n) (mu 2 n) (mu 5 n) x y), s)) := by
  have hlt : pkd P n < 10 := (hT.2.2.2 n hn).1.2.1
  have hab := (hT.2.2.1 n hn).1 (by omega) (by omega) (by omega)
  have h1 := hF (ppa P n) hab.1 s m a 0 hs (Or.inl rfl)
  have o1 := hE a (ppa P n) (s, m) hab.1 hs
  unfold f_K_worthOfTwo
  rw [bd_eq (g_first hT hn hk _ _ _ _)]
  generalize E a (ppa P n) (s, m) = x1 at h1 o1 ⊢
  cases e1 : x1.1 with
  | none =>
    obtain ⟨r1, g1⟩ := wP_none e1 h1
    have e2 := o1.2.2.1 e1
    rw [an_none e1, bd_eq g1, e2]
    by_cases c4 : ch = 4
    · rw [if_pos c4]
      exact ⟨r1, by simp [e2], fun v hv => by simp at hv⟩
    rw [if_neg c4, bd_eq (g_second hT hn hk _ _ _ _)]
    obtain ⟨r2, g2⟩ := HW_cut hF hcut hab.2 x1.2.2 a
    rw [bd_eq g2]
    have fin : ∀ s0, ∃ r, f_K_worthOfTwo_46 fw (nI (pkd P n)) ch r1 r2 s0 (ks st (nI B) 1 x1.2.2 a) = some (r, ks st (nI B) 1 x1.2.2 a) := by
      intro s0
      unfold f_K_worthOfTwo_46 f_K_worthOfTwo_164
      repeat' split
      all_goals exact ⟨_, rfl⟩
    split
    · obtain ⟨r, hr⟩ := fin 1
      exact ⟨r, by rw [hr]; simp [e2], fun v hv => by simp at hv⟩
    · obtain ⟨r, hr⟩ := fin 0
      exact ⟨r, by rw [hr]; simp [e2], fun v hv => by simp at hv⟩
  | some x =>
    rw [an_some e1, bd_eq (wP_some e1 h1)]
    have c4 : (ch = 4) = (mu 4 n = true) := propext (hch 4 (by omega))
    by_cases m4 : mu 4 n = true
    · rw [if_pos m4, if_pos (by rw [c4]; exact m4)]
      exact ⟨x, by simp, fun v hv => by simpa using hv⟩
    rw [if_neg m4, if_neg (by rw [c4]; exact m4), bd_eq (g_second hT hn hk _ _ _ _)]
    have h2 := hF (ppb P n) hab.2 x1.2.1 x1.2.2 a 0 o1.2.1 (Or.inl rfl)
    have o2 := hE a (ppb P n) x1.2 hab.2 o1.2.1
    have h2 : wP st (fw (nI (ppb P n)) (ks st (nI x1.2.1) 0 x1.2.2 a)) 0 a (E a (ppb P n) x1.2) := h2
    generalize E a (ppb P n) x1.2 = x2 at h2 o2 ⊢
    have c2 : (ch = 2) = (mu 2 n = true) := propext (hch 2 (by omega))
    have c1 : (ch = 1) = (mu 1 n = true) := propext (hch 1 (by omega))
    have c5 : (ch = 5) = (mu 5 n = true) := propext (hch 5 (by omega))
    have k3 : (nI (pkd P n) = 3) = (pkd P n = 3) := nI_lit (j := 3) (by omega) (by decide)
    have k4 : (nI (pkd P n) = 4) = (pkd P n = 4) := nI_lit (j := 4) (by omega) (by decide)
    have k5 : (nI (pkd P n) = 5) = (pkd P n = 5) := nI_lit (j := 5) (by omega) (by decide)
    have k6 : (nI (pkd P n) = 6) = (pkd P n = 6) := nI_lit (j := 6) (by omega) (by decide)
    cases e2 : x2.1 with
    | none =>
      obtain ⟨r2, g2⟩ := wP_none e2 h2
      rw [an_none e2, bd_eq g2]
      have fin : ∀ s0, ∃ r, f_K_worthOfTwo_46 fw (nI (pkd P n)) ch x r2 s0 (ks st (nI x2.2.1) 1 x2.2.2 a) = some (r, ks st (nI x2.2.1) 1 x2.2.2 a) := by
        intro s0
        unfold f_K_worthOfTwo_46 f_K_worthOfTwo_164
        repeat' split
        all_goals exact ⟨_, rfl⟩
      split
      · obtain ⟨r, hr⟩ := fin 1
        exact ⟨r, by rw [hr]; simp, fun v hv => by simp at hv⟩
      · obtain ⟨r, hr⟩ := fin 0
        exact ⟨r, by rw [hr]; simp, fun v hv => by simp at hv⟩
    | some y =>
      rw [an_some e2, bd_eq (wP_some e2 h2)]
      refine ⟨opv (pkd P n) (mu 1 n) (mu 2 n) (mu 5 n) x y, ?_, fun v hv => by simpa using hv⟩
      simp only [f_K_worthOfTwo_46, f_K_worthOfTwo_164, c2, c1, c5, k3, k4, k5, k6, opv]
      by_cases q3 : pkd P n = 3
      · cases mu 2 n <;> simp [q3]
      by_cases q4 : pkd P n = 4
      · cases mu 2 n <;> simp [q4]
      by_cases q5 : pkd P n = 5
      · cases mu 2 n <;> simp [q5]
      by_cases q6 : pkd P n = 6
      · cases mu 2 n <;> cases mu 1 n <;> by_cases l1 : x < y <;> by_cases l2 : x = y <;> simp [q6, l1, l2]
      · cases mu 2 n <;> cases mu 5 n <;> by_cases l2 : x = y <;> simp [q3, q4, q5, q6, l2]
