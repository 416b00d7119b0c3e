/-! mutant, score, miss -/
theorem hz_N {cs : CS} {mn : Nat} (h : cN_size cs = nI mn) : f_N_size cs = some (nI mn, cs) := by unfold f_N_size; rw [h]
theorem same_mutant (x1 x2 : Int32) : Same (f_M_mutant x1 x2) (f_R_mutant x1 x2) := by
  intro cs rs ⟨N, P, tn, mn, sn, hT, hU, hM, hD, hK⟩
  have hm := hM.1
  have keep : Rel cs rs := ⟨N, P, tn, mn, sn, hT, hU, hM, hD, hK⟩
  unfold f_M_mutant f_R_mutant
  rw [bd_eq (hasN hM.2.1 (by omega) _), ite01, bd_eq (isMutantR hM.2.2.1 (by omega) _), ite01]
  by_cases c : iN x1 mn = true
  · rw [if_pos c, if_pos c]
    obtain ⟨i, hi, rfl⟩ := iN_of c (by omega)
    obtain ⟨k, n, ⟨g1, g2, g3⟩, ⟨g4, g4'⟩, ⟨g5, g5'⟩, g6, g7, g8⟩ := hM.2.2.2.1 i hi
    have a1 : f_N_kindOf (nI i) cs = some (nI k, cs) := by unfold f_N_kindOf; rw [ck_nI (by omega) (by decide), nIc (by omega), g4]
    have a2 : f_N_nodeOf (nI i) cs = some (nI n, cs) := by unfold f_N_nodeOf; rw [ck_nI (by omega) (by decide), nIc (by omega), g5]
    have a3 : f_N_outcomeOf (nI i) cs = some (r_outcome rs i, cs) := by unfold f_N_outcomeOf; rw [ck_nI (by omega) (by decide), nIc (by omega), g6]
    have a4 : f_N_enderOf (nI i) cs = some (r_ender rs i, cs) := by unfold f_N_enderOf; rw [ck_nI (by omega) (by decide), nIc (by omega), g8]
    obtain ⟨al, b⟩ := provedR hT (show i < 100 by omega) g1 g2 g3 g4' g5'
    rw [bd_eq a1, bd_eq a2, bd_eq a3, bd_eq a4, bd_eq (alikeC (mn := mn) hT (show i < 100 by omega) g1 g2 g3 g4 g5), ite01, bd_eq b, ite01, ck_nI (show i < 100 by omega) (by decide), nIc (by omega), g4', g5', ck_nI (show i < 100 by omega) (by decide), ck_nI (show i < 100 by omega) (by decide), ck_nI (show i < 100 by omega) (by decide)]
    by_cases c0 : x2 = 0
    · rw [if_pos c0, if_pos c0]; exact ⟨_, _, _, rfl, rfl, keep⟩
    rw [if_neg c0, if_neg c0]
    by_cases c1 : x2 = 1
    · rw [if_pos c1, if_pos c1]; exact ⟨_, _, _, rfl, rfl, keep⟩
    rw [if_neg c1, if_neg c1]
    by_cases c2 : x2 = 2
    · rw [if_pos c2, if_pos c2]; exact ⟨_, _, _, rfl, rfl, keep⟩
    rw [if_neg c2, if_neg c2]
    by_cases c3 : x2 = 3
    · rw [if_pos c3, if_pos c3]; exact ⟨_, _, _, rfl, rfl, keep⟩
    rw [if_neg c3, if_neg c3]
    by_cases c4 : x2 = 4
    · rw [if_pos c4, if_pos c4]
      by_cases q : pv P k n = true
      · rw [if_pos q, if_pos q]; exact ⟨_, _, S_r_alike rs al, rfl, rfl, N, P, tn, mn, sn, hT, hU, hM, hD, hK⟩
      · rw [if_neg q, if_neg q]; exact ⟨_, _, S_r_alike rs al, rfl, rfl, N, P, tn, mn, sn, hT, hU, hM, hD, hK⟩
    rw [if_neg c4, if_neg c4]
    exact ⟨_, _, _, rfl, rfl, keep⟩
  · rw [if_neg c, if_neg c]
    exact ⟨_, _, _, rfl, rfl, keep⟩
def onS (s : Nat) (o : Int32) (p : Bool) : Bool := if s = 0 then decide (o = 1 ∨ o = 2) else if s = 1 then decide (¬ o = -1) else decide (o = 0) && !p
theorem sideC {cs : CS} {rs : RS} {N mn i k n s : Nat} {P : PT} (hT : RT cs rs N P) (hi : i < 100) (hs : s < 3) (hk : k < 6) (hn : n < N) (hf : fitK k (pkd P n) = true) (e1 : cN_kinds cs i = nI k) (e2 : cN_nodes cs i = nI n) : f_N_isOnSide (nI i) (nI s) cs = some (if onS s (cN_outcomes cs i) (pv P k n) then 1 else 0, cs) := by
  unfold f_N_isOnSide onS
  rw [ck_nI hi (by decide), nIc (by omega), nx_e, bd_eq (alikeC (mn := mn) hT hi hk hn hf e1 e2), ite01]
  generalize cN_outcomes cs i = o
  rcases (show s = 0 ∨ s = 1 ∨ s = 2 by omega) with rfl | rfl | rfl
  · rw [if_pos (show nI 0 = 0 from rfl), if_pos (show (0 : Nat) = 0 from rfl)]
    by_cases a : o = 1 <;> by_cases b : o = 2 <;> simp [a, b]
  · rw [if_neg (show ¬ nI 1 = 0 by decide), if_pos (show nI 1 = 1 from rfl), if_neg (show ¬ (1 : Nat) = 0 by decide), if_pos (show (1 : Nat) = 1 from rfl)]
    by_cases a : o = -1 <;> simp [a]
  · rw [if_neg (show ¬ nI 2 = 0 by decide), if_neg (show ¬ nI 2 = 1 by decide), if_neg (show ¬ (2 : Nat) = 0 by decide), if_neg (show ¬ (2 : Nat) = 1 by decide)]
    by_cases a : o = 0 <;> cases pv P k n <;> simp [a]
theorem side61 {cs : CS} {rs : RS} {N i k n s : Nat} {P : PT} (hT : RT cs rs N P) (hi : i < 100) (hs : s < 3) (hk : k < 6) (hn : n < N) (hf : fitK k (pkd P n) = true) (e1 : r_kindM rs i = nI k) (e2 : r_nodeM rs i = nI n) (ho : r_outcome rs i = -1 ∨ r_outcome rs i = 0 ∨ r_outcome rs i = 1 ∨ r_outcome rs i = 2) (K : Int32 → Int32 → Int32 → Int32 → RS → Option (Int32 × RS)) (x1 c : Int32) (al : Nat → Int32) :
    ∃ al', f_R_score_61 K x1 (nI s) c (nI i) (S_r_alike rs al) = K x1 (nI s) (if onS s (r_outcome rs i) (pv P k n) then c + 1 else c) (nI (i + 1)) (S_r_alike rs al') := by
  have hT' : RT cs (S_r_alike rs al) N P := hT
  obtain ⟨al', b⟩ := provedR hT' hi hk hn hf e1 e2
  rw [SS_r_alike] at b
  have f131 : ∀ (q : Bool) (X : RS), f_R_score_131 K x1 (nI s) c (nI i) (if q then 1 else 0) X = K x1 (nI s) (if q then c + 1 else c) (nI (i + 1)) X := by
    intro q X
    unfold f_R_score_131
    rw [ite01]
    cases q
    · simp only [nx_e, nI_1, Int32.add_zero]; simp
    · simp only [nx_e, nI_1]; simp
  have g0 := fun X => f131 false X
  have g1 := fun X => f131 true X
  simp only [Bool.false_eq_true, if_false, if_true] at g0 g1
  have eo : r_outcome (S_r_alike rs al) i = r_outcome rs i := rfl
  unfold f_R_score_61 onS
  simp only [ck_nI hi (by decide), nIc (show i < 2 ^ 31 by omega), eo, g0, g1]
  generalize r_outcome rs i = o at ho
  rcases (show s = 0 ∨ s = 1 ∨ s = 2 by omega) with rfl | rfl | rfl
  · rw [if_pos (show nI 0 = 0 from rfl), if_pos (show (0 : Nat) = 0 from rfl)]
    refine ⟨al, ?_⟩
    rcases ho with rfl | rfl | rfl | rfl
    · rw [if_pos (by decide), if_neg (by decide)]
    · rw [if_pos (by decide), if_neg (by decide)]
    · rw [if_neg (by decide), if_pos (by decide)]
    · rw [if_neg (by decide), if_pos (by decide)]
  · rw [if_neg (show ¬ nI 1 = 0 by decide), if_pos (show nI 1 = 1 from rfl), if_neg (show ¬ (1 : Nat) = 0 by decide), if_pos (show (1 : Nat) = 1 from rfl)]
    refine ⟨al, ?_⟩
    by_cases a : o = -1
    · rw [if_pos a, if_neg (by simp [a])]
    · rw [if_neg a, if_pos (by simp [a])]
  · rw [if_neg (show ¬ nI 2 = 0 by decide), if_neg (show ¬ nI 2 = 1 by decide), if_neg (show ¬ (2 : Nat) = 0 by decide), if_neg (show ¬ (2 : Nat) = 1 by decide)]
    by_cases a : o = 0
    · rw [if_pos a, bd_eq b, ite01]
      cases q : pv P k n
      · exact ⟨al', by simp [a]⟩
      · exact ⟨al', by simp [a]⟩
    · rw [if_neg a]
      exact ⟨al, by simp [a]⟩
theorem scoreL {cs : CS} {rs : RS} {N mn s : Nat} {P : PT} (hT : RT cs rs N P) (hM : RM cs rs N P mn) (hs : s < 3) (x1 : Int32) : ∀ (k fuel fuel' i : Nat) (c : Int32) (al : Nat → Int32), i + k = mn → k < fuel → k < fuel' →
    ∃ r al', f_M_score_28 fuel x1 (nI s) c (nI i) cs = some (r, cs) ∧ f_R_score_33 fuel' x1 (nI s) c (nI i) (S_r_alike rs al) = some (r, S_r_alike rs al') := by
  have hm := hM.1
  intro k
  induction k with
  | zero =>
    intro fuel fuel' i c al h1 h2 h3
    obtain ⟨fuel, rfl⟩ : ∃ f, fuel = f + 1 := ⟨fuel - 1, by omega⟩
    obtain ⟨fuel', rfl⟩ : ∃ f, fuel' = f + 1 := ⟨fuel' - 1, by omega⟩
    have e : r_mutants (S_r_alike rs al) = nI mn := hM.2.2.1
    refine ⟨c, al, ?_, ?_⟩
    · rw [f_M_score_28, bd_eq (hz_N hM.2.1), if_pos (nI_le (by omega) (by omega))]
    · rw [f_R_score_33, e, if_pos (nI_le (by omega) (by omega))]
  | succ k ih =>
    intro fuel fuel' i c al h1 h2 h3
    obtain ⟨fuel, rfl⟩ : ∃ f, fuel = f + 1 := ⟨fuel - 1, by omega⟩
    obtain ⟨fuel', rfl⟩ : ∃ f, fuel' = f + 1 := ⟨fuel' - 1, by omega⟩
    have e : r_mutants (S_r_alike rs al) = nI mn := hM.2.2.1
    obtain ⟨kk, n, ⟨g1, g2, g3⟩, ⟨g4, g4'⟩, ⟨g5, g5'⟩, g6, g7, g8⟩ := hM.2.2.2.1 i (by omega)
    have ek : r_kindM (S_r_alike rs al) i = nI kk := g4'
    obtain ⟨al1, q1⟩ := side61 hT (show i < 100 by omega) hs g1 g2 g3 g4' g5' g7 (f_R_score_33 fuel') x1 c al
    have c58 : f_M_score_58 (f_M_score_28 fuel) x1 (nI s) c (nI i) cs = f_M_score_28 fuel x1 (nI s) (if onS s (r_outcome rs i) (pv P kk n) then c + 1 else c) (nI (i + 1)) cs := by
      unfold f_M_score_58
      rw [bd_eq (sideC (mn := mn) hT (show i < 100 by omega) hs g1 g2 g3 g4 g5), ite01, g6]
      by_cases q : onS s (r_outcome rs i) (pv P kk n) = true
      · rw [if_pos q, if_pos q]; simp only [nx_e, nI_1]
      · rw [if_neg q, if_neg q]; simp only [nx_e, nI_1]
    have a1 : f_N_kindOf (nI i) cs = some (nI kk, cs) := by unfold f_N_kindOf; rw [ck_nI (by omega) (by decide), nIc (by omega), g4]
    rw [f_M_score_28, bd_eq (hz_N hM.2.1), if_neg (nI_ge (by omega) (by omega)), f_R_score_33, e, if_neg (nI_ge (by omega) (by omega)), ck_nI (by omega) (by decide), nIc (by omega), ek, bd_eq a1, c58, q1, nx_e, nx_e, nI_1]
    obtain ⟨r1, al2, w1, w2⟩ := ih fuel fuel' (i + 1) (if onS s (r_outcome rs i) (pv P kk n) then c + 1 else c) al1 (by omega) (by omega) (by omega)
    obtain ⟨r3, al3, w3, w4⟩ := ih fuel fuel' (i + 1) c al (by omega) (by omega) (by omega)
    by_cases d1 : x1 = -1
    · rw [if_pos d1, if_pos d1]; exact ⟨r1, al2, w1, w2⟩
    · rw [if_neg d1, if_neg d1]
      by_cases d2 : x1 = nI kk
      · rw [if_pos d2, if_pos d2.symm]; exact ⟨r1, al2, w1, w2⟩
      · rw [if_neg d2, if_neg (fun q => d2 q.symm)]; exact ⟨r3, al3, w3, w4⟩
