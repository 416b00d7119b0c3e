theorem same_change (x1 : Int32) (x2 : Int64) : Same (f_M_change x1 x2) (f_R_change x1 x2) := by
  intro cs rs ⟨N, P, tn, mn, sn, hT, hU, hM, hD, hK⟩
  have hN := hT.1.1
  have htn := hU.1
  have hmn := hM.1
  have hFU := FU_eq
  have keep : Rel cs rs := ⟨N, P, tn, mn, sn, hT, hU, hM, hD, hK⟩
  unfold f_M_change f_R_change
  rw [bd_eq (hasC hT.1.2.1 (by omega) x1), ite01, bd_eq (isNodeR hT.2.1.2.1 (by omega) _), ite01, iL_i]
  by_cases c : iN x1 N = true
  rotate_left
  · rw [if_neg c, if_neg c]
    exact ⟨_, _, _, rfl, rfl, keep⟩
  rw [if_pos c, if_pos c]
  obtain ⟨n, hn, rfl⟩ := iN_of c (by omega)
  have tc := hT.1.2.2.2 n hn
  have tr := hT.2.1.2.2.2 n hn
  have lt10 := tc.1.2.1
  have hkd : f_T_kindOf (nI n) cs = some (nI (pkd P n), cs) := by unfold f_T_kindOf; rw [ck_nI (by omega) (by decide), nIc (by omega), tc.1.1]
  have hnu : f_T_numberOf (nI n) cs = some (pnu P n, cs) := by unfold f_T_numberOf; rw [ck_nI (by omega) (by decide), nIc (by omega), tc.1.2.2.1]
  have z0 : (nI (pkd P n) = 0) = (pkd P n = 0) := nI_lit (j := 0) (by omega) (by decide)
  rw [bd_eq hkd, bd_eq hnu, ck_nI (by omega) (by decide), nIc (by omega), tr.1.1]
  simp only [z0]
  by_cases k0 : pkd P n = 0
  rotate_left
  · rw [if_neg k0, if_neg k0]
    exact ⟨_, _, _, rfl, rfl, keep⟩
  rw [if_pos k0, if_pos k0]
  have p26 := pass26 (rs := rs) (tn := tn) (n := n) (v := x2) (by omega) htn hU.2.2.1 (fun t => decide (r_passes rs t = 1)) (fun t _ => rfl) tn FU 0 (by omega) (by omega)
  rw [show cnt (fun t => decide (r_passes rs t = 1)) 0 = 0 from rfl, nI_0] at p26
  rw [p26, tr.1.2.2.1]
  by_cases e : pnu P n = x2
  · rw [if_pos e, if_pos e]
    have pc := passC (cs := cs) (tn := tn) htn hU.2.1 (fun t => decide (r_passes rs t = 1)) (fun t ht => by
      obtain ⟨r, inp, w, g1, -, -, -, ⟨g5, g5'⟩, -⟩ := hU.2.2.2 t ht
      show decide (r_passes rs t = 1) = decide (cU_states cs t = 1)
      rw [g5, g5']) tn FU 0 (by omega) (by omega)
    rw [show cnt (fun t => decide (r_passes rs t = 1)) 0 = 0 from rfl, nI_0] at pc
    have pc : f_U_countPassing cs = _ := pc
    rw [bd_eq pc]
    exact ⟨_, _, _, rfl, rfl, keep⟩
  rw [if_neg e, if_neg e]
  -- what each test is
  obtain ⟨rt, hrt⟩ : ∃ rt : Nat → Nat, ∀ t, rt t = (cU_roots cs t).toNatClampNeg := ⟨_, fun _ => rfl⟩
  obtain ⟨oX, hoX⟩ : ∃ oX : Nat → EO, ∀ t, oX t = evr P nMu (cU_inputs cs t) 3000 (rt t) := ⟨_, fun _ => rfl⟩
  obtain ⟨nX, hnX⟩ : ∃ nX : Nat → EO, ∀ t, nX t = evr (pren P n x2) nMu (cU_inputs cs t) 3000 (rt t) := ⟨_, fun _ => rfl⟩
  have tst : ∀ t, t < tn → (rt t < N ∧ cU_roots cs t = nI (rt t) ∧ r_root rs t = nI (rt t)) ∧ cU_inputs cs t = r_input rs t ∧ cU_wanted cs t = r_wanted rs t ∧ tv cs t (oX t) ∧ rv rs t (oX t) := by
    intro t ht
    obtain ⟨r, inp, w, g1, ⟨g2, g2'⟩, ⟨g3, g3'⟩, ⟨g4, g4'⟩, ⟨g5, g5'⟩, ⟨g6, g6'⟩, g7, g8⟩ := hU.2.2.2 t ht
    have er : rt t = r := by rw [hrt, g2, nIc (by omega)]
    have eo : oX t = evr P nMu inp 3000 r := by rw [hoX, g3, er]
    rw [eo, er]
    exact ⟨⟨g1, g2, g2'⟩, g3.trans g3'.symm, g4.trans g4'.symm, ⟨by rw [g4]; exact g5, g6, g7⟩, ⟨by rw [g4']; exact g5', g6', g8⟩⟩
  have hD2 : ∀ t, tb (nX t).2.2 n = tb (oX t).2.2 n ∧ (tb (oX t).2.2 n = false → nX t = oX t) := by
    intro t
    rw [hoX, hnX]
    exact evr_D (by omega) k0 x2 nMu _ 3000 _
  -- the class
  obtain ⟨sh, s1, s2⟩ := renC hT.1 hT.2.2 hn k0 x2
  rw [bd_eq s2]
  have hT1 : treeC (S_cT_shapes (s_cT_numbers cs n x2) sh) N (pren P n x2) := tree_ren hT.1 k0 x2
  obtain ⟨mask, cs2, y1, y2, y3, y4⟩ := retryL (cs := S_cT_shapes (s_cT_numbers cs n x2) sh) (N := N) (tn := tn) (n := n) (Q := pren P n x2) (rt := rt) (oX := oX) (nX := nX) hT1 hK (by omega) htn hU.2.1 (fun t ht => ⟨(tst t ht).1.1, (tst t ht).1.2.1⟩) (fun t ht => (hnX t).symm) (fun t _ => (hD2 t).2) tn FU 0 0 (S_cT_shapes (s_cT_numbers cs n x2) sh) (by omega) (by omega) rfl (fun t' h => by omega) (fun t' _ h => (tst t' h).2.2.2.1) (fun j hj => by
    rw [tb_0]
    constructor
    · intro q; cases q
    · rintro ⟨t', q, -⟩; omega)
  rw [nI_0] at y1
  have y1 : f_U_retry (nI n) (S_cT_shapes (s_cT_numbers cs n x2) sh) = some (mask, cs2) := y1
  rw [bd_eq y1]
  -- the reference
  have hb01 : ∀ i, i < 64 * tn → r_covers rs i = 0 ∨ r_covers rs i = 1 := by
    intro i hi
    have := (tst (i / 64) (by omega)).2.2.2.2.2.2 (i % 64) (by omega)
    rw [show 64 * (i / 64) + i % 64 = i by omega] at this
    rw [this]
    split
    · exact Or.inr rfl
    · exact Or.inl rfl
  obtain ⟨cv, v1, v2⟩ := copy79 (rs := rs) (tn := tn) (n := n) (v := x2) (by omega) htn hU.2.2.1 hb01 (64 * tn) FU 0 (r_covered rs) (by omega) (by omega) (fun j hj => by omega)
  rw [nI_0, Sg_r_covered] at v2
  rw [v2]
  have hR1 : treeR (s_r_number (S_r_covered rs cv) n x2) N (pren P n x2) := tree_renR (rs := S_r_covered rs cv) hT.2.1 k0 x2
  obtain ⟨rs2, u1, u2, u3⟩ := tryL (rs := s_r_number (S_r_covered rs cv) n x2) (N := N) (tn := tn) (n := n) (Q := pren P n x2) (rt := rt) (nX := nX) hR1 htn hU.2.2.1 (fun t ht => ⟨(tst t ht).1.1, (tst t ht).1.2.2⟩) (fun t ht => by
    rw [hnX, (tst t ht).2.1]
    rfl) (fun t => decide (passV (nX t) (cU_wanted cs t) = 1)) (fun t ht => by
    show decide (passV (nX t) (cU_wanted cs t) = 1) = _
    rw [(tst t ht).2.2.1]
    rfl) tn FU 0 (s_r_number (S_r_covered rs cv) n x2) (by omega) (by omega) rfl (fun t' h => by omega)
  rw [show cnt (fun t => decide (passV (nX t) (cU_wanted cs t) = 1)) 0 = 0 from rfl, nI_0] at u1
  rw [u1]
  -- what stays
  have y2' := y2
  have u2' := u2
  simp only [cj, Prod.mk.injEq] at y2'
  simp only [rj, Prod.mk.injEq] at u2'
  obtain ⟨a1, a2, a3, a4, a5, a6, a7, a8, a9, a10, a11, a12, a13, a14, a15, a16, a17, a18, a19, a20, a21⟩ := y2'
  obtain ⟨b1, b2, b3, b4, b5, b6, b7, b8, b9, b10, b11, b12, b13, b14, b15, b16, b17, b18⟩ := u2'
  have a8 : cU_size cs2 = cU_size cs := a8
  have a9 : cU_roots cs2 = cU_roots cs := a9
  have a10 : cU_inputs cs2 = cU_inputs cs := a10
  have a11 : cU_wanted cs2 = cU_wanted cs := a11
  have a12 : cN_size cs2 = cN_size cs := a12
  have a13 : cN_kinds cs2 = cN_kinds cs := a13
  have a14 : cN_nodes cs2 = cN_nodes cs := a14
  have a15 : cN_outcomes cs2 = cN_outcomes cs := a15
  have a16 : cN_enders cs2 = cN_enders cs := a16
  have a17 : cN_madeAt cs2 = cN_madeAt cs := a17
  have a18 : cD_size cs2 = cD_size cs := a18
  have a19 : cD_row cs2 = cD_row cs := a19
  have a20 : cK_changeKind cs2 = cK_changeKind cs := a20
  have a21 : cK_changedNode cs2 = cK_changedNode cs := a21
  have b7 : r_tests rs2 = r_tests rs := b7
  have b8 : r_root rs2 = r_root rs := b8
  have b9 : r_input rs2 = r_input rs := b9
  have b10 : r_wanted rs2 = r_wanted rs := b10
  have b11 : r_mutants rs2 = r_mutants rs := b11
  have b12 : r_kindM rs2 = r_kindM rs := b12
  have b13 : r_nodeM rs2 = r_nodeM rs := b13
  have b14 : r_outcome rs2 = r_outcome rs := b14
  have b15 : r_ender rs2 = r_ender rs := b15
  have b16 : r_sampledMany rs2 = r_sampledMany rs := b16
  have b17 : r_sampleRow rs2 = r_sampleRow rs := b17
  have b18 : r_covered rs2 = cv := b18
  have nT : RT cs2 rs2 N (pren P n x2) := ⟨cj_tree y2 hT1, rj_tree u2 hR1, fun j hj => by rw [a7]; exact s1 j hj⟩
  have nU : RU cs2 rs2 N (pren P n x2) tn := by
    refine ⟨htn, by rw [a8]; exact hU.2.1, by rw [b7]; exact hU.2.2.1, fun t ht => ?_⟩
    obtain ⟨⟨t1, t2, t3⟩, t4, t5, -, -⟩ := tst t ht
    obtain ⟨c1, c2, c3⟩ := y3 t ht
    obtain ⟨d1, d2, d3⟩ := u3 t ht
    refine ⟨rt t, cU_inputs cs t, cU_wanted cs t, t1, ⟨by rw [a9]; exact t2, by rw [b8]; exact t3⟩, ⟨by rw [a10], by rw [b9]; exact t4.symm⟩, ⟨by rw [a11], by rw [b10]; exact t5.symm⟩, ?_⟩
    rw [← hnX]
    rw [a11] at c1
    rw [b10, ← t5] at d1
    exact ⟨⟨c1, d1⟩, ⟨c2, d2⟩, c3, d3⟩
  have nM : RM cs2 rs2 N (pren P n x2) mn := by
    refine ⟨hM.1, by rw [a12]; exact hM.2.1, by rw [b11]; exact hM.2.2.1, fun i hi => ?_, ?_⟩
    · obtain ⟨kk, m, z1, z2, z3, z4, z5, z6⟩ := hM.2.2.2.1 i hi
      exact ⟨kk, m, z1, by rw [a13, b12]; exact z2, by rw [a14, b13]; exact z3, by rw [a15, b14]; exact z4, by rw [b14]; exact z5, by rw [a16, b15]; exact z6⟩
    · rw [a17, a13, a14]; exact hM.2.2.2.2
  have nD : RD cs2 rs2 sn := by
    refine ⟨hD.1, by rw [a18]; exact hD.2.1, by rw [b16]; exact hD.2.2.1, ?_⟩
    rw [a19, b17]; exact hD.2.2.2
  have nK : RK cs2 := ⟨by rw [a20]; exact hK.1, by rw [a21]; exact hK.2⟩
  have nC : cvd2 rs2 oX nX tn := by
    intro t ht j hj
    refine ⟨(u3 t ht).2.2 j hj, ?_⟩
    rw [b18, v1 (64 * t + j) (by omega)]
    exact (tst t ht).2.2.2.2.2.2 j hj
  obtain ⟨cs3, rs3, r1, r2, r3, r4, r5⟩ := forgetL (N := N) (tn := tn) (mn := mn) (sn := sn) (n := n) (Q := pren P n x2) (oX := oX) (nX := nX) (mask := mask) (by omega) (fun t _ => (hD2 t).1) y4 (nI (cnt (fun t => decide (passV (nX t) (cU_wanted cs t) = 1)) tn)) mn FU FU 0 cs2 rs2 (by omega) (by omega) (by omega) nT nU nM nD nK nC
  rw [nI_0] at r1 r2
  have r1 : f_N_forget mask cs2 = some ((), cs3) := r1
  rw [bd_eq r1, r2]
  have pc := passC (cs := cs3) (tn := tn) htn (by rw [r5]; exact nU.2.1) (fun t => decide (passV (nX t) (cU_wanted cs t) = 1)) (fun t ht => by
    show decide (passV (nX t) (cU_wanted cs t) = 1) = decide (cU_states cs3 t = 1)
    rw [r4, (y3 t ht).1, a11]) tn FU 0 (by omega) (by omega)
  rw [show cnt (fun t => decide (passV (nX t) (cU_wanted cs t) = 1)) 0 = 0 from rfl, nI_0] at pc
  have pc : f_U_countPassing cs3 = _ := pc
  rw [bd_eq pc]
  exact ⟨_, _, _, rfl, rfl, r3⟩
