def mcs (cs : CS) (mn k n : Nat) : CS := s_cN_size (s_cN_enders (s_cN_outcomes (s_cN_nodes (s_cN_kinds (s_cN_madeAt cs k (cN_madeAt cs k ||| bm n)) mn (nI k)) mn (nI n)) mn (-1)) mn (-1)) (nI (mn + 1))
def mrs (rs : RS) (mn k n : Nat) : RS := s_r_mutants (s_r_ender (s_r_outcome (s_r_nodeM (s_r_kindM rs mn (nI k)) mn (nI n)) mn (-1)) mn (-1)) (nI (mn + 1))
theorem addC {cs : CS} {mn k n : Nat} (h : cN_size cs = nI mn) (hm : mn < 100) (hk : k < 6) (hn : n < 64) : f_N_add (nI k) (nI n) cs = some ((), if tb (cN_madeAt cs k) n = true then cs else mcs cs mn k n) := by
  unfold f_N_add
  have l : ¬ (100 : Int32) ≤ nI mn := nI_ge (b := 100) hm (by decide)
  rw [h, if_neg l, ck_nI hk (by decide), bd_eq f_bit, nIc (show k < 2 ^ 31 by omega)]
  by_cases c : tb (cN_madeAt cs k) n = true
  · have : ¬ (cN_madeAt cs k &&& bm n) = 0 := by rw [and_bm hn, c]; simp
    rw [if_neg this, if_pos c]
  · have : (cN_madeAt cs k &&& bm n) = 0 := by rw [and_bm hn]; cases q : tb (cN_madeAt cs k) n <;> simp_all
    rw [if_pos this, if_neg c, ck_nI hk (by decide), bd_eq f_bit, ck_nI hk (by decide), nx_e]
    have e1 : ∀ v, cN_size (s_cN_madeAt cs k v) = nI mn := fun _ => h
    have e2 : ∀ v w, cN_size (s_cN_kinds (s_cN_madeAt cs k v) mn w) = nI mn := fun _ _ => h
    have e3 : ∀ v w u, cN_size (s_cN_nodes (s_cN_kinds (s_cN_madeAt cs k v) mn w) mn u) = nI mn := fun _ _ _ => h
    have e4 : ∀ v w u x y, cN_size (s_cN_enders (s_cN_outcomes (s_cN_nodes (s_cN_kinds (s_cN_madeAt cs k v) mn w) mn u) mn x) mn y) = nI mn := fun _ _ _ _ _ => h
    have es : ∀ X : CS, f_N_settle (nI mn) (-1) (-1) X = some ((), s_cN_enders (s_cN_outcomes X mn (-1)) mn (-1)) := by
      intro X
      unfold f_N_settle
      rw [ck_nI hm (by decide), nIc (by omega), nx_e, ck_nI hm (by decide), nx_e]
    simp only [e1, e2, e3, ck_nI hm (by decide), nIc (show mn < 2 ^ 31 by omega), nx_e]
    rw [bd_eq (es _), e4, nI_1]
    rfl
theorem rel_new {cs : CS} {rs : RS} {N mn k n : Nat} {P : PT} (hM : RM cs rs N P mn) (hm : mn < 100) (hk : k < 6) (hn : n < N) (hN : N ≤ 64) (hf : fitK k (pkd P n) = true) : RM (mcs cs mn k n) (mrs rs mn k n) N P (mn + 1) := by
  refine ⟨hm, rfl, rfl, fun i hi => ?_, fun k' hk' n' hn' => ?_⟩
  · by_cases e : i = mn
    · subst e
      refine ⟨k, n, ⟨hk, hn, hf⟩, ⟨pk_us, pk_us⟩, ⟨pk_us, pk_us⟩, ?_, Or.inl pk_us, ?_⟩
      · exact (pk_us : upd _ _ _ _ = _).trans (pk_us : upd _ _ _ _ = _).symm
      · exact (pk_us : upd _ _ _ _ = _).trans (pk_us : upd _ _ _ _ = _).symm
    · obtain ⟨k1, n1, g1, ⟨g4, g4'⟩, ⟨g5, g5'⟩, g6, g7, g8⟩ := hM.2.2.2.1 i (by omega)
      have u : ∀ (f : Nat → Int32) (v : Int32), upd f mn v i = f i := fun f v => pk_un e
      have o1 : cN_outcomes (mcs cs mn k n) i = cN_outcomes cs i := u _ _
      have o2 : r_outcome (mrs rs mn k n) i = r_outcome rs i := u _ _
      have o3 : cN_enders (mcs cs mn k n) i = cN_enders cs i := u _ _
      have o4 : r_ender (mrs rs mn k n) i = r_ender rs i := u _ _
      refine ⟨k1, n1, g1, ⟨(u _ _).trans g4, (u _ _).trans g4'⟩, ⟨(u _ _).trans g5, (u _ _).trans g5'⟩, ?_, ?_, ?_⟩
      · rw [o1, o2]; exact g6
      · rw [o2]; exact g7
      · rw [o3, o4]; exact g8
  · have old := hM.2.2.2.2 k' hk' n' hn'
    have ck : ∀ i, i < mn → cN_kinds (mcs cs mn k n) i = cN_kinds cs i := fun i hi => pk_un (by omega)
    have cn : ∀ i, i < mn → cN_nodes (mcs cs mn k n) i = cN_nodes cs i := fun i hi => pk_un (by omega)
    have ckm : cN_kinds (mcs cs mn k n) mn = nI k := pk_us
    have cnm : cN_nodes (mcs cs mn k n) mn = nI n := pk_us
    have ekk : (nI k = nI k') ↔ k = k' := nI_eq (by omega) (by omega)
    have enn : (nI n = nI n') ↔ n = n' := nI_eq (by omega) (by omega)
    have cm : tb (cN_madeAt (mcs cs mn k n) k') n' = true ↔ (tb (cN_madeAt cs k') n' = true ∨ (k = k' ∧ n = n')) := by
      by_cases e : k' = k
      · subst e
        have : cN_madeAt (mcs cs mn k' n) k' = (cN_madeAt cs k' ||| bm n) := pk_uLs
        rw [this, tb_or, tb_bm (by omega), Bool.or_eq_true, decide_eq_true_eq]
        constructor
        · rintro (h | h)
          · exact Or.inl h
          · exact Or.inr ⟨rfl, h.symm⟩
        · rintro (h | h)
          · exact Or.inl h
          · exact Or.inr h.2.symm
      · have : cN_madeAt (mcs cs mn k n) k' = cN_madeAt cs k' := pk_uLn e
        rw [this]
        constructor
        · intro h; exact Or.inl h
        · rintro (h | h)
          · exact h
          · exact absurd h.1.symm e
    rw [cm, old]
    constructor
    · rintro (⟨i, a, b, d⟩ | ⟨h1, h2⟩)
      · exact ⟨i, by omega, (ck i a).trans b, (cn i a).trans d⟩
      · exact ⟨mn, by omega, by rw [ckm, h1], by rw [cnm, h2]⟩
    · rintro ⟨i, a, b, d⟩
      by_cases e : i = mn
      · subst e
        rw [ckm, ekk] at b
        rw [cnm, enn] at d
        exact Or.inr ⟨b, d⟩
      · rw [ck i (by omega)] at b
        rw [cn i (by omega)] at d
        exact Or.inl ⟨i, by omega, b, d⟩
theorem makeFull {cs : CS} {N k : Nat} {P : PT} (hT : treeC cs N P) (hk : k < 6) (h : cN_size cs = nI 100) (M : Int64) (b0 : Int32) : ∀ (q fuel j : Nat), j + q = N → q < fuel → f_M_make_29 fuel (nI k) M b0 (nI j) cs = some (nI 100 - b0, cs) := by
  have hN := hT.1
  have hz : f_T_size cs = some (nI N, cs) := by unfold f_T_size; rw [hT.2.1]
  intro q
  induction q with
  | zero =>
    intro fuel j h1 h2
    obtain ⟨fuel, rfl⟩ : ∃ f, fuel = f + 1 := ⟨fuel - 1, by omega⟩
    rw [f_M_make_29, bd_eq hz, if_pos (nI_le (by omega) (by omega)), bd_eq (hz_N h)]
  | succ q ih =>
    intro fuel j h1 h2
    obtain ⟨fuel, rfl⟩ : ∃ f, fuel = f + 1 := ⟨fuel - 1, by omega⟩
    have nx1 := ih fuel (j + 1) (by omega) (by omega)
    have ha : f_N_add (nI k) (nI j) cs = some ((), cs) := by
      unfold f_N_add
      rw [h, if_pos (by decide)]
    rw [f_M_make_29, bd_eq hz, if_neg (nI_ge (by omega) (by omega)), bd_eq f_bit, bd_eq (gCk hT (by omega)), bd_eq (fitsC hk (hT.2.2.2 j (by omega)).1.2.1 cs), ite01, bd_eq ha]
    simp only [nx_e, nI_1, nx1]
    split
    · rfl
    · split <;> rfl
theorem makeL {N k tn sn : Nat} {P : PT} (hk : k < 6) (M : Int64) (b0 : Nat) : ∀ (q fuel fuel' j mn c : Nat) (cs : CS) (rs : RS), j + q = N → q < fuel → q < fuel' → mn = b0 + c → RT cs rs N P → RU cs rs N P tn → RM cs rs N P mn → RD cs rs sn → RK cs → (∀ n, tb M n = true ↔ cvd cs tn n) →
    ∃ r cs' rs', f_M_make_29 fuel (nI k) M (nI b0) (nI j) cs = some (r, cs') ∧ f_R_make_18 fuel' (nI k) (nI c) (nI j) rs = some (r, rs') ∧ Rel cs' rs' := by
  have hFU := FU_eq
  intro q
  induction q with
  | zero =>
    intro fuel fuel' j mn c cs rs h1 h2 h3 h4 hT hU hM hD hK hcv
    have hN := hT.1.1
    have hm := hM.1
    obtain ⟨fuel, rfl⟩ : ∃ f, fuel = f + 1 := ⟨fuel - 1, by omega⟩
    obtain ⟨fuel', rfl⟩ : ∃ f, fuel' = f + 1 := ⟨fuel' - 1, by omega⟩
    have hz : f_T_size cs = some (nI N, cs) := by unfold f_T_size; rw [hT.1.2.1]
    rw [f_M_make_29, bd_eq hz, if_pos (nI_le (by omega) (by omega)), bd_eq (hz_N hM.2.1), f_R_make_18, hT.2.1.2.1, if_pos (nI_le (by omega) (by omega)), pk_sub (by omega), show mn - b0 = c by omega]
    exact ⟨_, _, _, rfl, rfl, N, P, tn, mn, sn, hT, hU, hM, hD, hK⟩
  | succ q ih =>
    intro fuel fuel' j mn c cs rs h1 h2 h3 h4 hT hU hM hD hK hcv
    have hN := hT.1.1
    have hm := hM.1
    have ht := hU.1
    by_cases full : mn = 100
    · obtain ⟨fuel', rfl⟩ : ∃ f, fuel' = f + 1 := ⟨fuel' - 1, by omega⟩
      have hs : cN_size cs = nI 100 := by rw [hM.2.1, full]
      rw [makeFull hT.1 hk hs M (nI b0) (q + 1) fuel j (by omega) (by omega), f_R_make_18, hT.2.1.2.1, if_neg (nI_ge (by omega) (by omega)), hM.2.2.1, full, if_pos (by decide), pk_sub (by omega), show 100 - b0 = c by omega]
      exact ⟨_, _, _, rfl, rfl, N, P, tn, mn, sn, hT, hU, hM, hD, hK⟩
    obtain ⟨fuel, rfl⟩ : ∃ f, fuel = f + 1 := ⟨fuel - 1, by omega⟩
    obtain ⟨fuel', rfl⟩ : ∃ f, fuel' = f + 1 := ⟨fuel' - 1, by omega⟩
    have hz : f_T_size cs = some (nI N, cs) := by unfold f_T_size; rw [hT.1.2.1]
    have l100 : mn < 100 := Nat.lt_of_le_of_ne hm full
    have lm : ¬ (100 : Int32) ≤ nI mn := nI_ge (b := 100) l100 (by decide)
    obtain ⟨bc, c1, c2⟩ := isCovL hU (n := j) (by omega) tn FU 0 (by omega) (by omega) (by rintro ⟨t, a, _⟩; omega)
    obtain ⟨bmd, m1, m2⟩ := isMadeL hM hk (n := j) (by omega) mn FU 0 (by omega) (by omega) (by rintro ⟨t, a, _⟩; omega)
    rw [nI_0] at c2 m2
    have c2 : f_R_isCovered (nI j) rs = _ := c2
    have m2 : f_R_isMade (nI k) (nI j) rs = _ := m2
    have old := hM.2.2.2.2 k hk j (by omega)
    obtain ⟨r1, cs1, rs1, w1, w2, w3⟩ := ih fuel fuel' (j + 1) mn c cs rs (by omega) (by omega) (by omega) h4 hT hU hM hD hK hcv
    rw [f_M_make_29, bd_eq hz, if_neg (nI_ge (by omega) (by omega)), bd_eq f_bit, bd_eq (gCk hT.1 (by omega)), bd_eq (fitsC hk (hT.1.2.2.2 j (by omega)).1.2.1 cs), ite01, bd_eq (addC hM.2.1 l100 hk (by omega)), f_R_make_18, hT.2.1.2.1, if_neg (nI_ge (by omega) (by omega)), hM.2.2.1, if_neg lm, bd_eq (isForR hT.2.1 hk (by omega)), ite01, bd_eq c2, ite01, bd_eq m2, ite01]
    simp only [nx_e, nI_1]
    by_cases cf : fitK k (pkd P j) = true
    · rw [if_pos cf, if_pos cf]
      by_cases cc : cvd cs tn j
      · have a1 : ¬ (M &&& bm j) = 0 := by rw [and_bm (by omega)]; have := (hcv j).mpr cc; simp [this]
        rw [if_neg a1, if_pos (c1.mpr cc)]
        by_cases cm : ∃ i', i' < mn ∧ cN_kinds cs i' = nI k ∧ cN_nodes cs i' = nI j
        · rw [if_pos (m1.mpr cm), if_pos (old.mpr cm)]
          exact ⟨r1, cs1, rs1, w1, w2, w3⟩
        · rw [if_neg (fun z => cm (m1.mp z)), if_neg (fun z => cm (old.mp z))]
          have e1 : ∀ w, r_mutants (s_r_kindM rs mn w) = nI mn := fun _ => hM.2.2.1
          have e2 : ∀ w u, r_mutants (s_r_nodeM (s_r_kindM rs mn w) mn u) = nI mn := fun _ _ => hM.2.2.1
          have e3 : ∀ w u x, r_mutants (s_r_outcome (s_r_nodeM (s_r_kindM rs mn w) mn u) mn x) = nI mn := fun _ _ _ => hM.2.2.1
          have e4 : ∀ w u x y, r_mutants (s_r_ender (s_r_outcome (s_r_nodeM (s_r_kindM rs mn w) mn u) mn x) mn y) = nI mn := fun _ _ _ _ => hM.2.2.1
          simp only [hM.2.2.1, e1, e2, e3, e4, ck_nI l100 (by decide), nIc (show mn < 2 ^ 31 from Nat.lt_trans l100 (by decide)), nI_1]
          exact ih fuel fuel' (j + 1) (mn + 1) (c + 1) (mcs cs mn k j) (mrs rs mn k j) (by omega) (by omega) (by omega) (by omega) hT hU (rel_new hM l100 hk (by omega) hN cf) hD hK hcv
      · have a1 : (M &&& bm j) = 0 := by
          rw [and_bm (by omega)]
          cases z : tb M j
          · rfl
          · exact absurd ((hcv j).mp z) cc
        rw [if_pos a1, if_neg (fun z => cc (c1.mp z))]
        exact ⟨r1, cs1, rs1, w1, w2, w3⟩
    · rw [if_neg cf, if_neg cf]
      refine ⟨r1, cs1, rs1, ?_, w2, w3⟩
      split
      · exact w1
      · exact w1
theorem same_make (x1 : Int32) : Same (f_M_make x1) (f_R_make x1) := by
  intro cs rs ⟨N, P, tn, mn, sn, hT, hU, hM, hD, hK⟩
  have hN := hT.1.1
  have ht := hU.1
  have hFU := FU_eq
  have keep : Rel cs rs := ⟨N, P, tn, mn, sn, hT, hU, hM, hD, hK⟩
  have z0 : (0 : Int64).toInt = 0 := by decide
  have m5 : (5 : Int64).toInt = 5 := by decide
  unfold f_M_make f_R_make
  rw [bd_eq (kindC _), ite01, bd_eq (inR _ _ _), ite01, z0, m5, Int32.toInt_toInt64]
  by_cases c : iN x1 6 = true
  · have c' := of_decide_eq_true c
    rw [if_pos c, if_pos (show decide (0 ≤ x1.toInt ∧ x1.toInt ≤ 5) = true from decide_eq_true ⟨by omega, by omega⟩)]
    obtain ⟨k, hk, rfl⟩ := iN_of c (by decide)
    obtain ⟨M, a1, a2⟩ := cbpL hU.2.1 ht tn FU 0 0 (by omega) (by omega) (fun n => by
      rw [tb_0]
      constructor
      · intro z; cases z
      · rintro ⟨t, a, _⟩; omega)
    rw [nI_0] at a2
    have a2 : f_U_coveredByPassing cs = _ := a2
    rw [bd_eq a2, bd_eq (hz_N hM.2.1)]
    obtain ⟨r, cs', rs', w1, w2, w3⟩ := makeL (tn := tn) (sn := sn) hk M mn N FU FU 0 mn 0 cs rs (by omega) (by omega) (by omega) (by omega) hT hU hM hD hK a1
    rw [nI_0] at w1 w2
    exact ⟨r, cs', rs', w1, w2, w3⟩
  · have c' : ¬ (0 ≤ x1.toInt ∧ x1.toInt < (6 : Nat)) := by simpa [iN] using c
    rw [if_neg c, if_neg (show ¬ decide (0 ≤ x1.toInt ∧ x1.toInt ≤ 5) = true by rw [decide_eq_true_eq]; omega)]
    exact ⟨_, _, _, rfl, rfl, keep⟩
