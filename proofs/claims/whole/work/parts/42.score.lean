theorem kindC {cs : CS} (x : Int32) : f_M_isMutantKind x cs = some (if iN x 6 then 1 else 0, cs) := by
  unfold f_M_isMutantKind iN
  have a := lt0_iff x
  have b := leN_iff x (N := 6) (by decide)
  have b' : (6 : Int32) ≤ x ↔ ((6 : Nat) : Int) ≤ x.toInt := b
  by_cases c1 : x < 0
  · rw [if_pos c1, if_neg (by have := a.mp c1; simp; omega)]
  · rw [if_neg c1]
    have c1' : ¬ x.toInt < 0 := fun h => c1 (a.mpr h)
    by_cases c2 : (6 : Int32) ≤ x
    · rw [if_pos c2, if_neg (by have := b'.mp c2; simp; omega)]
    · have c2' : ¬ ((6 : Nat) : Int) ≤ x.toInt := fun h => c2 (b'.mpr h)
      rw [if_neg c2, if_pos (by simp; omega)]
theorem same_score (x1 x2 : Int32) : Same (f_M_score x1 x2) (f_R_score x1 x2) := by
  intro cs rs ⟨N, P, tn, mn, sn, hT, hU, hM, hD, hK⟩
  have hm := hM.1
  have hFU := FU_eq
  have keep : Rel cs rs := ⟨N, P, tn, mn, sn, hT, hU, hM, hD, hK⟩
  have m1 : (-1 : Int64).toInt = -1 := by decide
  have m5 : (5 : Int64).toInt = 5 := by decide
  have z0 : (0 : Int64).toInt = 0 := by decide
  have z2 : (2 : Int64).toInt = 2 := by decide
  unfold f_M_score f_R_score
  rw [bd_eq (inR _ _ _), ite01, bd_eq (inR _ _ _), ite01, bd_eq (kindC _), ite01, m1, m5, z0, z2, Int32.toInt_toInt64, Int32.toInt_toInt64]
  -- the sides
  have side : ∃ r cs' rs', f_M_score_12 x1 x2 cs = some (r, cs') ∧ (if decide (0 ≤ x2.toInt ∧ x2.toInt ≤ 2) = true then f_R_score_33 FU x1 x2 0 0 rs else some (-1, rs)) = some (r, rs') ∧ Rel cs' rs' := by
    unfold f_M_score_12
    have a := lt0_iff x2
    have h2' : (2 : Int32).toInt = 2 := by decide
    have b : x2 ≤ 2 ↔ x2.toInt ≤ 2 := by rw [Int32.le_iff_toInt_le, h2']
    by_cases c : 0 ≤ x2.toInt ∧ x2.toInt ≤ 2
    · obtain ⟨s, hs, rfl⟩ := iN_of (x := x2) (N := 3) (by unfold iN; exact decide_eq_true ⟨c.1, by omega⟩) (by decide)
      rw [if_pos (decide_eq_true c), if_neg (nI_pos (by omega)), if_pos (b.mpr c.2)]
      obtain ⟨r, al', w1, w2⟩ := scoreL hT hM hs x1 mn FU FU 0 0 (r_alike rs) (by omega) (by omega) (by omega)
      rw [nI_0] at w1 w2
      rw [Sg_r_alike] at w2
      exact ⟨r, cs, S_r_alike rs al', w1, w2, N, P, tn, mn, sn, hT, hU, hM, hD, hK⟩
    · rw [if_neg (show ¬ decide (0 ≤ x2.toInt ∧ x2.toInt ≤ 2) = true by rw [decide_eq_true_eq]; exact c)]
      refine ⟨-1, cs, rs, ?_, rfl, keep⟩
      by_cases c1 : x2 < 0
      · rw [if_pos c1]
      · have c1' : ¬ x2.toInt < 0 := fun q => c1 (a.mpr q)
        rw [if_neg c1, if_neg (fun q => c ⟨by omega, b.mp q⟩)]
  by_cases e : x1 = -1
  · have : x1.toInt = -1 := by rw [e]; decide
    rw [if_pos e, if_pos (show decide (-1 ≤ x1.toInt ∧ x1.toInt ≤ 5) = true from decide_eq_true ⟨by omega, by omega⟩)]
    exact side
  · have ne : ¬ x1.toInt = -1 := fun q => e (Int32.toInt_inj.mp (by rw [q]; decide))
    rw [if_neg e]
    by_cases c : iN x1 6 = true
    · have c' := of_decide_eq_true c
      rw [if_pos c, if_pos (show decide (-1 ≤ x1.toInt ∧ x1.toInt ≤ 5) = true from decide_eq_true ⟨by omega, by omega⟩)]
      exact side
    · have c' : ¬ (0 ≤ x1.toInt ∧ x1.toInt < (6 : Nat)) := by simpa [iN] using c
      rw [if_neg c, if_neg (show ¬ decide (-1 ≤ x1.toInt ∧ x1.toInt ≤ 5) = true by rw [decide_eq_true_eq]; omega)]
      exact ⟨_, _, _, rfl, rfl, keep⟩
theorem missN {cs : CS} {rs : RS} {N mn : Nat} {P : PT} (hT : RT cs rs N P) (hM : RM cs rs N P mn) {x1 : Int32} (hx : x1 < 0) : ∀ (k fuel i b : Nat), i + k = mn → k < fuel → b ≤ i → f_M_miss_4 fuel x1 (nI b) (nI i) cs = some (-1, cs) := by
  have hm := hM.1
  intro k
  induction k with
  | zero =>
    intro fuel i b h1 h2 h3
    obtain ⟨fuel, rfl⟩ : ∃ f, fuel = f + 1 := ⟨fuel - 1, by omega⟩
    rw [f_M_miss_4, bd_eq (hz_N hM.2.1), if_pos (nI_le (by omega) (by omega))]
  | succ k ih =>
    intro fuel i b h1 h2 h3
    obtain ⟨fuel, rfl⟩ : ∃ f, fuel = f + 1 := ⟨fuel - 1, by omega⟩
    obtain ⟨kk, n, ⟨g1, g2, g3⟩, ⟨g4, g4'⟩, ⟨g5, g5'⟩, g6, g7, g8⟩ := hM.2.2.2.1 i (by omega)
    have hsd : f_N_isOnSide (nI i) 2 cs = _ := sideC (mn := mn) (s := 2) hT (show i < 100 by omega) (by omega) g1 g2 g3 g4 g5
    have hne : ¬ nI b = x1 := fun q => nI_pos (n := b) (by omega) (by rw [q]; exact hx)
    rw [f_M_miss_4, bd_eq (hz_N hM.2.1), if_neg (nI_ge (by omega) (by omega)), bd_eq hsd, ite01, if_neg hne]
    simp only [nx_e, nI_1]
    split
    · exact ih fuel (i + 1) (b + 1) (by omega) (by omega) (by omega)
    · exact ih fuel (i + 1) b (by omega) (by omega) (by omega)
theorem missL {cs : CS} {rs : RS} {N mn j : Nat} {P : PT} (hT : RT cs rs N P) (hM : RM cs rs N P mn) (hj : j < 2 ^ 31) : ∀ (k fuel fuel' i b : Nat) (al : Nat → Int32), i + k = mn → k < fuel → k < fuel' → b ≤ i → b ≤ j →
    ∃ r al', f_M_miss_4 fuel (nI j) (nI b) (nI i) cs = some (r, cs) ∧ f_R_miss_4 fuel' (nI (j - b)) (nI i) (S_r_alike rs al) = some (r, S_r_alike rs al') := by
  have hm := hM.1
  intro k
  induction k with
  | zero =>
    intro fuel fuel' i b al h1 h2 h3 h4 h5
    obtain ⟨fuel, rfl⟩ : ∃ f, fuel = f + 1 := ⟨fuel - 1, by omega⟩
    obtain ⟨fuel', rfl⟩ : ∃ f, fuel' = f + 1 := ⟨fuel' - 1, by omega⟩
    have e : r_mutants (S_r_alike rs al) = nI mn := hM.2.2.1
    refine ⟨-1, al, ?_, ?_⟩
    · rw [f_M_miss_4, bd_eq (hz_N hM.2.1), if_pos (nI_le (by omega) (by omega))]
    · rw [f_R_miss_4, e, if_pos (nI_le (by omega) (by omega))]
  | succ k ih =>
    intro fuel fuel' i b al h1 h2 h3 h4 h5
    obtain ⟨fuel, rfl⟩ : ∃ f, fuel = f + 1 := ⟨fuel - 1, by omega⟩
    obtain ⟨fuel', rfl⟩ : ∃ f, fuel' = f + 1 := ⟨fuel' - 1, by omega⟩
    have e : r_mutants (S_r_alike rs al) = nI mn := hM.2.2.1
    obtain ⟨kk, n, ⟨g1, g2, g3⟩, ⟨g4, g4'⟩, ⟨g5, g5'⟩, g6, g7, g8⟩ := hM.2.2.2.1 i (by omega)
    have hsd : f_N_isOnSide (nI i) 2 cs = _ := sideC (mn := mn) (s := 2) hT (show i < 100 by omega) (by omega) g1 g2 g3 g4 g5
    have hT' : RT cs (S_r_alike rs al) N P := hT
    obtain ⟨al1, pb⟩ := provedR hT' (show i < 100 by omega) g1 g2 g3 g4' g5'
    rw [SS_r_alike] at pb
    have eo : r_outcome (S_r_alike rs al) i = r_outcome rs i := rfl
    have ons : onS 2 (cN_outcomes cs i) (pv P kk n) = (decide (r_outcome rs i = 0) && !pv P kk n) := by
      unfold onS
      rw [if_neg (by decide), if_neg (by decide), g6]
    rw [ons] at hsd
    rw [f_M_miss_4, bd_eq (hz_N hM.2.1), if_neg (nI_ge (by omega) (by omega)), bd_eq hsd, ite01, f_R_miss_4, e, if_neg (nI_ge (by omega) (by omega)), if_neg (nI_pos (by omega)), ck_nI (by omega) (by decide), nIc (by omega), eo, bd_eq pb, ite01]
    simp only [nx_e, nI_1]
    obtain ⟨r1, al2, w1, w2⟩ := ih fuel fuel' (i + 1) b al (by omega) (by omega) (by omega) (by omega) (by omega)
    obtain ⟨r3, al3, w3, w4⟩ := ih fuel fuel' (i + 1) b al1 (by omega) (by omega) (by omega) (by omega) (by omega)
    by_cases o : r_outcome rs i = 0
    · rw [if_pos o]
      cases q : pv P kk n
      · simp only [o, decide_true, Bool.not_false, Bool.and_true, if_true, Bool.false_eq_true, if_false]
        have eb : (nI b = nI j) = (b = j) := nI_lit (by omega) hj
        have ez : (nI (j - b) = 0) = (j - b = 0) := nI_lit (j := 0) (by omega) (by decide)
        simp only [eb, ez]
        by_cases d : b = j
        · rw [if_pos d, if_pos (by omega)]
          exact ⟨nI i, al1, rfl, rfl⟩
        · rw [if_neg d, if_neg (by omega)]
          obtain ⟨r5, al5, w5, w6⟩ := ih fuel fuel' (i + 1) (b + 1) al1 (by omega) (by omega) (by omega) (by omega) (by omega)
          have : nI (j - b) + (-1) = nI (j - (b + 1)) := by
            obtain ⟨m, hm2⟩ : ∃ m, j - b = m + 1 := ⟨j - b - 1, by omega⟩
            rw [hm2, pk_m1]
            congr 1
            omega
          rw [this]
          exact ⟨r5, al5, w5, w6⟩
      · simp only [o, decide_true, Bool.not_true, Bool.and_false, if_true, Bool.false_eq_true, if_false]
        exact ⟨r3, al3, w3, w4⟩
    · rw [if_neg o]
      simp only [o, decide_false, Bool.false_and, Bool.false_eq_true, if_false]
      exact ⟨r1, al2, w1, w2⟩
theorem same_miss (x1 : Int32) : Same (f_M_miss x1) (f_R_miss x1) := by
  intro cs rs ⟨N, P, tn, mn, sn, hT, hU, hM, hD, hK⟩
  have hm := hM.1
  have hFU := FU_eq
  have keep : Rel cs rs := ⟨N, P, tn, mn, sn, hT, hU, hM, hD, hK⟩
  unfold f_M_miss f_R_miss
  by_cases c : x1 < 0
  · have w := missN hT hM c mn FU 0 0 (by omega) (by omega) (by omega)
    rw [nI_0] at w
    refine ⟨-1, cs, rs, w, ?_, keep⟩
    rw [show FU = 99999 + 1 from hFU, f_R_miss_4]
    split <;> rfl
  · obtain ⟨j, hj, rfl⟩ := nI_of c
    obtain ⟨r, al, w1, w2⟩ := missL hT hM hj mn FU FU 0 0 (r_alike rs) (by omega) (by omega) (by omega) (by omega) (by omega)
    rw [nI_0] at w1 w2
    rw [Sg_r_alike, Nat.sub_zero] at w2
    exact ⟨r, cs, S_r_alike rs al, w1, w2, N, P, tn, mn, sn, hT, hU, hM, hD, hK⟩
