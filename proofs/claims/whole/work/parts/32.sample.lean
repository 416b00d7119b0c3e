/-! sample, sampled -/
def nxt (x : Int64) : Int64 := x * 6364136223846793005 + 1442695040888963407
def othE (x : Int64) (c i : Int32) : Int32 := i + ((x.toUInt64 >>> ((33 : Int32).toInt64.toUInt64 &&& Int64.toUInt64 63)).toInt64 - (x.toUInt64 >>> ((33 : Int32).toInt64.toUInt64 &&& Int64.toUInt64 63)).toInt64 / (c - i).toInt64 * (c - i).toInt64).toInt32
theorem nx_eq {α β : Type} (x : α) (k : α → Option β) : nx x k = k x := rfl
theorem nx_e {α β : Type} (x : α) (k : α → Option β) : nx x k = k x := by
  generalize h : k x = r
  unfold nx
  exact h
theorem nxt_eq (x : Int64) : x * 6364136223846793005 + 1442695040888963407 = nxt x := rfl
theorem othE_eq (x : Int64) (c i : Int32) : i + ((x.toUInt64 >>> ((33 : Int32).toInt64.toUInt64 &&& Int64.toUInt64 63)).toInt64 - (x.toUInt64 >>> ((33 : Int32).toInt64.toUInt64 &&& Int64.toUInt64 63)).toInt64 / (c - i).toInt64 * (c - i).toInt64).toInt32 = othE x c i := rfl
theorem st31 (n : Nat) (x3 x4 : Int32) (x5 : Int64) (x7 : Int32) (st : CS) : f_D_shuffle_31 (n + 1) x3 x4 x5 x7 st = if x3 ≤ x7 then some ((), s_cD_size st x3) else if x4 ≤ x7 then some ((), s_cD_size st x3) else dvl (x4 - x7).toInt64 (ck x7 100 (ck (othE (nxt x5) x4 x7) 100 (ck x7 100 (ck (othE (nxt x5) x4 x7) 100
    (f_D_shuffle_31 n x3 x4 (nxt x5) (x7 + 1) (s_cD_row (s_cD_row st x7.toNatClampNeg (cD_row st (othE (nxt x5) x4 x7).toNatClampNeg)) (othE (nxt x5) x4 x7).toNatClampNeg (cD_row st x7.toNatClampNeg))))))) := by
  rw [f_D_shuffle_31]
  by_cases h1 : x3 ≤ x7
  · rw [if_pos h1, if_pos h1]; rfl
  rw [if_neg h1, if_neg h1]
  by_cases h2 : x4 ≤ x7
  · rw [if_pos h2, if_pos h2]; rfl
  rw [if_neg h2, if_neg h2, nx_eq, nxt_eq]
  generalize nxt x5 = X
  generalize f_D_shuffle_31 n = F
  rw [nx_e, othE_eq X x4 x7]
  generalize othE X x4 x7 = O
  simp only [nx_e]
theorem st49 (n : Nat) (x3 : Int32) (x4 : Int64) (x6 : Int32) (st : RS) : f_R_sample_49 (n + 1) x3 x4 x6 st = if x3 ≤ x6 then some (1, s_r_sampledMany st x3) else dvl (r_mutants st - x6).toInt64 (ck x6 100 (ck (othE (nxt x4) (r_mutants st) x6) 100 (ck x6 100 (ck (othE (nxt x4) (r_mutants st) x6) 100
    (f_R_sample_49 n x3 (nxt x4) (x6 + 1) (s_r_sampleRow (s_r_sampleRow st x6.toNatClampNeg (r_sampleRow st (othE (nxt x4) (r_mutants st) x6).toNatClampNeg)) (othE (nxt x4) (r_mutants st) x6).toNatClampNeg (r_sampleRow st x6.toNatClampNeg))))))) := by
  rw [f_R_sample_49]
  by_cases h1 : x3 ≤ x6
  · rw [if_pos h1, if_pos h1]; rfl
  rw [if_neg h1, if_neg h1, nx_eq, nxt_eq]
  generalize nxt x4 = X
  generalize f_R_sample_49 n = F
  rw [nx_e, othE_eq X (r_mutants st) x6]
  generalize othE X (r_mutants st) x6 = O
  simp only [nx_e]
theorem oth {i cnt : Nat} (hi : i < cnt) (hc : cnt ≤ 100) (x : Int64) : ¬ (nI cnt - nI i).toInt64 = 0 ∧ ∃ o, i ≤ o ∧ o < cnt ∧ othE x (nI cnt) (nI i) = nI o := by
  obtain ⟨n, hn, rfl⟩ := wb_of x
  have e1 : ((lN n).toUInt64 >>> ((33 : Int32).toInt64.toUInt64 &&& Int64.toUInt64 63)).toInt64 = lN (n / 2 ^ 33) := wb_shr (k := 33) hn (by decide)
  have e2 : (nI cnt - nI i).toInt64 = lN (cnt - i) := by rw [pk_sub (by omega), nI_l (by omega)]
  have hq : n / 2 ^ 33 < 2 ^ 31 := by
    rw [Nat.div_lt_iff_lt_mul (by decide)]
    exact Nat.lt_of_lt_of_le hn (by decide)
  unfold othE
  rw [e1, e2, pk_lRem (by omega) (by omega) (by omega), lN_i, nI_add]
  have hm := Nat.mod_lt (n / 2 ^ 33) (show 0 < cnt - i by omega)
  refine ⟨?_, i + n / 2 ^ 33 % (cnt - i), by omega, by omega, rfl⟩
  have : (lN (cnt - i) = lN 0) ↔ (cnt - i = 0) := lN_eq (by omega) (by decide)
  show ¬ lN (cnt - i) = lN 0
  rw [this]; omega
theorem shuf {cs : CS} {rs : RS} {cnt n : Nat} (hc : cnt ≤ 100) (hn : n ≤ cnt) (hm : r_mutants rs = nI cnt) : ∀ (k fuel fuel' i : Nat) (x : Int64) (rc rr : Nat → Int32), i + k = n → k < fuel → k < fuel' → (∀ j, j < cnt → rc j = rr j) →
    ∃ rc' rr', (∀ j, j < cnt → rc' j = rr' j) ∧ f_D_shuffle_31 fuel (nI n) (nI cnt) x (nI i) (S_cD_row cs rc) = some ((), s_cD_size (S_cD_row cs rc') (nI n)) ∧ f_R_sample_49 fuel' (nI n) x (nI i) (S_r_sampleRow rs rr) = some (1, s_r_sampledMany (S_r_sampleRow rs rr') (nI n)) := by
  intro k
  induction k with
  | zero =>
    intro fuel fuel' i x rc rr h1 h2 h3 h4
    obtain ⟨fuel, rfl⟩ : ∃ f, fuel = f + 1 := ⟨fuel - 1, by omega⟩
    obtain ⟨fuel', rfl⟩ : ∃ f, fuel' = f + 1 := ⟨fuel' - 1, by omega⟩
    refine ⟨rc, rr, h4, ?_, ?_⟩
    · rw [st31, if_pos (nI_le (by omega) (by omega))]
    · rw [st49, if_pos (nI_le (by omega) (by omega))]
  | succ k ih =>
    intro fuel fuel' i x rc rr h1 h2 h3 h4
    obtain ⟨fuel, rfl⟩ : ∃ f, fuel = f + 1 := ⟨fuel - 1, by omega⟩
    obtain ⟨fuel', rfl⟩ : ∃ f, fuel' = f + 1 := ⟨fuel' - 1, by omega⟩
    obtain ⟨d0, o, o1, o2, o3⟩ := oth (i := i) (cnt := cnt) (by omega) hc (nxt x)
    obtain ⟨rc', rr', q1, q2, q3⟩ := ih fuel fuel' (i + 1) (nxt x) (upd (upd rc i (rc o)) o (rc i)) (upd (upd rr i (rr o)) o (rr i)) (by omega) (by omega) (by omega) (fun j hj => by
      unfold upd
      by_cases a1 : j = o
      · rw [if_pos a1, if_pos a1]; exact h4 i (by omega)
      · rw [if_neg a1, if_neg a1]
        by_cases a2 : j = i
        · rw [if_pos a2, if_pos a2]; exact h4 o (by omega)
        · rw [if_neg a2, if_neg a2]; exact h4 j hj)
    refine ⟨rc', rr', q1, ?_, ?_⟩
    · rw [st31, if_neg (nI_ge (by omega) (by omega)), if_neg (nI_ge (by omega) (by omega))]
      simp only [dvl, if_neg d0, o3, ck_nI (show i < 100 by omega) (by decide), ck_nI (show o < 100 by omega) (by decide), nIc (show i < 2 ^ 31 by omega), nIc (show o < 2 ^ 31 by omega), gS_cD_row, sS_cD_row, SS_cD_row, nI_1]
      exact q2
    · rw [st49, if_neg (nI_ge (by omega) (by omega))]
      have e : r_mutants (S_r_sampleRow rs rr) = nI cnt := hm
      simp only [e, dvl, if_neg d0, o3, ck_nI (show i < 100 by omega) (by decide), ck_nI (show o < 100 by omega) (by decide), nIc (show i < 2 ^ 31 by omega), nIc (show o < 2 ^ 31 by omega), gS_r_sampleRow, sS_r_sampleRow, SS_r_sampleRow, nI_1]
      exact q3
theorem iniC {cs : CS} {cnt : Nat} (hc : cnt ≤ 100) (x : Int64) (n : Int32) : ∀ (k fuel i : Nat) (rc : Nat → Int32), i + k = cnt → k < fuel → (∀ j, j < i → rc j = nI j) →
    ∃ rc', (∀ j, j < cnt → rc' j = nI j) ∧ f_D_shuffle_3 fuel x n (nI cnt) (nI i) (S_cD_row cs rc) = f_D_shuffle_31 FU n (nI cnt) x 0 (S_cD_row cs rc') := by
  intro k
  induction k with
  | zero =>
    intro fuel i rc h1 h2 h3
    obtain ⟨fuel, rfl⟩ : ∃ f, fuel = f + 1 := ⟨fuel - 1, by omega⟩
    exact ⟨rc, fun j hj => h3 j (by omega), by rw [f_D_shuffle_3, if_pos (nI_le (by omega) (by omega))]⟩
  | succ k ih =>
    intro fuel i rc h1 h2 h3
    obtain ⟨fuel, rfl⟩ : ∃ f, fuel = f + 1 := ⟨fuel - 1, by omega⟩
    obtain ⟨rc', q1, q2⟩ := ih fuel (i + 1) (upd rc i (nI i)) (by omega) (by omega) (fun j hj => by
      by_cases e : j = i
      · subst e; exact pk_us
      · rw [pk_un e]; exact h3 j (by omega))
    refine ⟨rc', q1, ?_⟩
    rw [f_D_shuffle_3, if_neg (nI_ge (by omega) (by omega)), ck_nI (by omega) (by decide)]
    simp only [nx, nIc (show i < 2 ^ 31 by omega), gS_cD_row, sS_cD_row, SS_cD_row, nI_1]
    exact q2
theorem iniR {rs : RS} {cnt : Nat} (hc : cnt ≤ 100) (hm : r_mutants rs = nI cnt) (x : Int64) (n : Int32) : ∀ (k fuel i : Nat) (rc : Nat → Int32), i + k = cnt → k < fuel → (∀ j, j < i → rc j = nI j) →
    ∃ rc', (∀ j, j < cnt → rc' j = nI j) ∧ f_R_sample_19 fuel x n (nI i) (S_r_sampleRow rs rc) = f_R_sample_49 FU n x 0 (S_r_sampleRow rs rc') := by
  have hm2 : ∀ rc, r_mutants (S_r_sampleRow rs rc) = nI cnt := fun _ => hm
  intro k
  induction k with
  | zero =>
    intro fuel i rc h1 h2 h3
    obtain ⟨fuel, rfl⟩ : ∃ f, fuel = f + 1 := ⟨fuel - 1, by omega⟩
    exact ⟨rc, fun j hj => h3 j (by omega), by rw [f_R_sample_19, hm2, if_pos (nI_le (by omega) (by omega))]⟩
  | succ k ih =>
    intro fuel i rc h1 h2 h3
    obtain ⟨fuel, rfl⟩ : ∃ f, fuel = f + 1 := ⟨fuel - 1, by omega⟩
    obtain ⟨rc', q1, q2⟩ := ih fuel (i + 1) (upd rc i (nI i)) (by omega) (by omega) (fun j hj => by
      by_cases e : j = i
      · subst e; exact pk_us
      · rw [pk_un e]; exact h3 j (by omega))
    refine ⟨rc', q1, ?_⟩
    rw [f_R_sample_19, hm2, if_neg (nI_ge (by omega) (by omega)), ck_nI (by omega) (by decide)]
    simp only [nx, nIc (show i < 2 ^ 31 by omega), gS_r_sampleRow, sS_r_sampleRow, SS_r_sampleRow, nI_1]
    exact q2
theorem same_sample (x1 : Int64) (x3 : Int32) : Same (f_M_sample x1 x3) (f_R_sample x1 x3) := by
  intro cs rs ⟨N, P, tn, mn, sn, hT, hU, hM, hD, hK⟩
  have hm := hM.1
  have hFU := FU_eq
  unfold f_M_sample f_R_sample
  have hz : f_N_size cs = some (nI mn, cs) := by unfold f_N_size; rw [hM.2.1]
  rw [bd_eq hz, bd_eq hz, hM.2.2.1, bd_eq (inR _ _ _), ite01]
  have h0 : (0 : Int64).toInt = 0 := by decide
  have h1 : ((nI mn).toInt64).toInt = mn := by rw [Int32.toInt_toInt64, nI_toInt (by omega)]
  rw [h0, h1, Int32.toInt_toInt64]
  by_cases c : 0 ≤ x3.toInt ∧ x3.toInt ≤ mn
  · rw [if_pos (decide_eq_true c)]
    obtain ⟨n, hn, rfl⟩ := iN_of (x := x3) (N := mn + 1) (by unfold iN; exact decide_eq_true ⟨c.1, by omega⟩) (by omega)
    rw [if_neg (nI_pos (by omega)), if_pos (nI_le (by omega) (by omega))]
    unfold f_D_shuffle
    obtain ⟨rc, a1, a2⟩ := iniC (cs := cs) hm x1 (nI n) mn FU 0 (cD_row cs) (by omega) (by omega) (fun j hj => by omega)
    obtain ⟨rr, b1, b2⟩ := iniR (rs := rs) hm hM.2.2.1 x1 (nI n) mn FU 0 (r_sampleRow rs) (by omega) (by omega) (fun j hj => by omega)
    rw [Sg_cD_row, nI_0] at a2
    rw [Sg_r_sampleRow, nI_0] at b2
    obtain ⟨rc', rr', e1, e2, e3⟩ := shuf (cs := cs) (rs := rs) hm (n := n) (by omega) hM.2.2.1 n FU FU 0 x1 rc rr (by omega) (by omega) (by omega) (fun j hj => by rw [a1 j hj, b1 j hj])
    rw [nI_0] at e2 e3
    rw [a2, b2, bd_eq e2, e3]
    exact ⟨_, _, _, rfl, rfl, N, P, tn, mn, n, hT, hU, hM, ⟨by omega, rfl, rfl, fun i hi => e1 i (by omega)⟩, hK⟩
  · rw [if_neg (show ¬ decide (0 ≤ x3.toInt ∧ x3.toInt ≤ (mn : Int)) = true by rw [decide_eq_true_eq]; exact c)]
    have a := lt0_iff x3
    by_cases c1 : x3 < 0
    · rw [if_pos c1]
      exact ⟨_, _, _, rfl, rfl, N, P, tn, mn, sn, hT, hU, hM, hD, hK⟩
    · have c1' : ¬ x3.toInt < 0 := fun h => c1 (a.mpr h)
      have c2 : ¬ x3 ≤ nI mn := by
        rw [Int32.le_iff_toInt_le, nI_toInt (by omega)]
        omega
      rw [if_neg c1, if_neg c2]
      exact ⟨_, _, _, rfl, rfl, N, P, tn, mn, sn, hT, hU, hM, hD, hK⟩
theorem same_sampled (x1 : Int32) : Same (f_M_sampled x1) (f_R_sampled x1) := by
  intro cs rs ⟨N, P, tn, mn, sn, hT, hU, hM, hD, hK⟩
  have hs := hD.1
  unfold f_M_sampled f_R_sampled f_D_at
  rw [hD.2.1, hD.2.2.1, bd_eq (inR0 _ (by omega)), iL_i, ite01]
  have a := lt0_iff x1
  have b := leN_iff x1 (N := sn) (by omega)
  by_cases c : iN x1 sn = true
  · rw [if_pos c]
    obtain ⟨j, hj, rfl⟩ := iN_of c (by omega)
    rw [if_neg (nI_pos (by omega)), if_neg (nI_ge (by omega) (by omega)), ck_nI (by omega) (by decide), ck_nI (by omega) (by decide), nIc (by omega), hD.2.2.2 j hj]
    exact ⟨_, _, _, rfl, rfl, N, P, tn, mn, sn, hT, hU, hM, hD, hK⟩
  · rw [if_neg c]
    have c' : ¬ (0 ≤ x1.toInt ∧ x1.toInt < sn) := by simpa [iN] using c
    refine ⟨-1, cs, rs, ?_, rfl, N, P, tn, mn, sn, hT, hU, hM, hD, hK⟩
    by_cases c1 : x1 < 0
    · rw [if_pos c1]; rfl
    · have c1' : ¬ x1.toInt < 0 := fun h => c1 (a.mpr h)
      rw [if_neg c1, if_pos (b.mpr (by omega))]; rfl
