/-- the tests of a node: which, and how far -/
def tS (cs : CS) (n t : Nat) : Bool := decide (cU_states cs t = 1) && tb (cU_covered cs t) n
def tD (rs : RS) (P : PT) (n t : Nat) : Nat := (FR P (r_root rs t).toNatClampNeg n).toNatClampNeg
/-- a test of a node: its root, its distance -/
theorem tS_far {cs : CS} {rs : RS} {N tn n t : Nat} {P : PT} (hT : RT cs rs N P) (hU : RU cs rs N P tn) (ht : t < tn) (h : tS cs n t = true) : ∃ r, r < N ∧ cU_roots cs t = nI r ∧ r_root rs t = nI r ∧ n ≤ r ∧ FR P r n = nI (tD rs P n t) ∧ tD rs P n t < 64 := by
  have hN := hT.1.1
  obtain ⟨r, inp, w, g1, ⟨g2, g2'⟩, -, -, -, -, g7, -⟩ := hU.2.2.2 t ht
  unfold tS at h
  simp only [Bool.and_eq_true, decide_eq_true_eq] at h
  rw [g7] at h
  obtain ⟨d, hd, e⟩ := cov_far hN hT.1.2.2.1 g1 nMu inp 3000 h.2
  have e2 : tD rs P n t = d := by
    unfold tD
    rw [g2', nIc (by omega), e, nIc (by omega)]
  rw [e2]
  exact ⟨r, g1, g2, g2', by omega, e, by omega⟩
/-- distances, small everywhere -/
def tE (rs : RS) (P : PT) (n t : Nat) : Nat := if tD rs P n t < 64 then tD rs P n t else 0
theorem tE_lt (rs : RS) (P : PT) (n t : Nat) : tE rs P n t < 64 := by
  unfold tE; split <;> omega
theorem gathL {cs : CS} {rs : RS} {N tn n : Nat} {P : PT} (hT : RT cs rs N P) (hU : RU cs rs N P tn) (hn : n < N) : ∀ (k fuel t : Nat) (w f g : Nat → Int32), t + k = tn → k < fuel → rep f (fun x => x) (BK (tS cs n) (tE rs P n) t 64) → rep g (tE rs P n) (BK (tS cs n) (tE rs P n) t 64) →
    ∃ w' f' g', rep f' (fun x => x) (BK (tS cs n) (tE rs P n) tn 64) ∧ f_G_gather_7 fuel (nI n) (nI t) (gs cs w f g (nI (BK (tS cs n) (tE rs P n) t 64).length)) = some ((), gs cs w' f' g' (nI (BK (tS cs n) (tE rs P n) tn 64).length)) := by
  have hN := hT.1.1
  have htn := hU.1
  have hFU := FU_eq
  intro k
  induction k with
  | zero =>
    intro fuel t w f g h1 h2 h3 h4
    obtain ⟨fuel, rfl⟩ : ∃ q, fuel = q + 1 := ⟨fuel - 1, by omega⟩
    have : t = tn := by omega
    subst this
    refine ⟨w, f, g, h3, ?_⟩
    have hz : ∀ z, f_U_size (gs cs w f g z) = some (nI t, gs cs w f g z) := fun z => by unfold f_U_size; rw [show cU_size (gs cs w f g z) = nI t from hU.2.1]
    rw [f_G_gather_7, bd_eq (hz _), if_pos (nI_le (Nat.le_refl _) (by omega))]
  | succ k ih =>
    intro fuel t w f g h1 h2 h3 h4
    obtain ⟨fuel, rfl⟩ : ∃ q, fuel = q + 1 := ⟨fuel - 1, by omega⟩
    have hz : ∀ z, f_U_size (gs cs w f g z) = some (nI tn, gs cs w f g z) := fun z => by unfold f_U_size; rw [show cU_size (gs cs w f g z) = nI tn from hU.2.1]
    have hp : ∀ z, f_U_passesAndCovers (nI t) (nI n) (gs cs w f g z) = some (if tS cs n t then 1 else 0, gs cs w f g z) := fun z => pacC (cs := gs cs w f g z) (by omega) (by omega)
    rw [f_G_gather_7, bd_eq (hz _), if_neg (nI_ge (by omega) (by omega)), bd_eq (hp _), ite01]
    by_cases c : tS cs n t = true
    · rw [if_pos c]
      obtain ⟨r, r1, r2, r3, r4, r5, r6⟩ := tS_far hT hU (by omega) c
      have eE : tE rs P n t = tD rs P n t := if_pos r6
      have hroot : ∀ z, f_U_rootOf (nI t) (gs cs w f g z) = some (nI r, gs cs w f g z) := by
        intro z
        unfold f_U_rootOf
        rw [ck_nI (by omega) (by decide), nIc (by omega), show cU_roots (gs cs w f g z) t = nI r from r2]
      obtain ⟨X, Y, a1, a2, a3, a4⟩ := BK_put (S := tS cs n) (D := tE rs P n) c 64 (tE_lt rs P n t)
      have hl := BK_len (S := tS cs n) (D := tE rs P n) t 64
      rw [a1] at h3 h4 hl ⊢
      rw [List.length_append] at hl ⊢
      have hTg : treeC (gs cs w f g (nI (X.length + Y.length))) N P := hT.1
      obtain ⟨w1, b1⟩ := wayC hTg r1 hn
      rw [if_pos r4, r5, ← eE, gs_w] at b1
      obtain ⟨f', g', q1, q2, q3⟩ := insL (cs := cs) (w := w1) (k := t) a3 a4 (tE_lt rs P n) (by omega) Y.length FU f g (Nat.le_refl _) (by omega) (fun i x hi hx => ⟨h3 i x hx, h4 i x hx⟩) (fun i x hi hx => by
        have := (List.getElem?_eq_some_iff.mp hx).1
        rw [List.length_append] at this
        omega)
      have hins : f_G_insert (nI t) (nI (tE rs P n t)) (gs cs w1 f g (nI (X.length + Y.length))) = some ((), gs cs w1 f' g' (nI (X.length + Y.length + 1))) := by
        unfold f_G_insert
        rw [nx_e]
        exact q3
      rw [bd_eq (hroot _), bd_eq b1, bd_eq hins, nx_e, nI_1]
      have e3 : X.length + Y.length + 1 = (BK (tS cs n) (tE rs P n) (t + 1) 64).length := by rw [a2, List.length_append, List.length_cons]; omega
      rw [e3]
      exact ih fuel (t + 1) w1 f' g' (by omega) (by omega) (by rw [a2]; exact q1) (by rw [a2]; exact q2)
    · have cf : tS cs n t = false := by cases h : tS cs n t <;> simp_all
      rw [if_neg c, nx_e, nI_1]
      have e := BK_no (S := tS cs n) (D := tE rs P n) cf 64
      rw [← e] at h3 h4 ⊢
      exact ih fuel (t + 1) w f g (by omega) (by omega) h3 h4
theorem gathC {cs : CS} {rs : RS} {N tn n : Nat} {P : PT} (hT : RT cs rs N P) (hU : RU cs rs N P tn) (hn : n < N) : ∃ w f g, rep f (fun x => x) (BK (tS cs n) (tE rs P n) tn 64) ∧ f_G_gather (nI n) cs = some ((), gs cs w f g (nI (BK (tS cs n) (tE rs P n) tn 64).length)) := by
  have htn := hU.1
  have hFU := FU_eq
  have e0 : BK (tS cs n) (tE rs P n) 0 64 = [] := List.length_eq_zero_iff.mp (Nat.le_zero.mp (BK_len 0 64))
  obtain ⟨w', f', g', q1, q2⟩ := gathL hT hU hn tn FU 0 (cT_ways cs) (cG_line cs) (cG_distances cs) (by omega) (by omega) (by rw [e0]; intro i x hx; simp at hx) (by rw [e0]; intro i x hx; simp at hx)
  refine ⟨w', f', g', q1, ?_⟩
  unfold f_G_gather
  rw [nx_e, gs_init]
  rw [e0, nI_0] at q2
  exact q2
