def pset (P : PT) (N k : Nat) (v : Int64) (a b c : Nat) : PT := (fun i => if i = N then k else pkd P i, fun i => if i = N then v else pnu P i, fun i => if i = N then a else ppa P i, fun i => if i = N then b else ppb P i, fun i => if i = N then c else ppc P i)
theorem pset_agr (P : PT) (N k : Nat) (v : Int64) (a b c : Nat) : agr P (pset P N k v a b c) N := by
  intro n hn
  have h : ¬ n = N := by omega
  simp [pset, pkd, pnu, ppa, ppb, ppc, h]
theorem tOK_agr {cs : CS} {rs : RS} {N M : Nat} {P Q : PT} (h : agr P Q N) (hP : wfP P N) (hM : N ≤ M) {t : Nat} (ht : tOK cs rs N P t) : tOK cs rs M Q t := by
  obtain ⟨r, inp, w, g1, g⟩ := ht
  refine ⟨r, inp, w, by omega, ?_⟩
  rw [← evr_agr h hP nMu inp 3000 g1]
  exact g
theorem mOK_agr {cs : CS} {rs : RS} {N M : Nat} {P Q : PT} (h : agr P Q N) (hM : N ≤ M) {i : Nat} (hi : mOK cs rs N P i) : mOK cs rs M Q i := by
  obtain ⟨k, n, ⟨g1, g2, g3⟩, g⟩ := hi
  exact ⟨k, n, ⟨g1, by omega, by rw [← (h n g2).1]; exact g3⟩, g⟩
/-- the state behind a new node -/
def ncs (cs : CS) (N k : Nat) (v : Int64) (fa fb fc : Int32) : CS := s_cT_thirds (s_cT_seconds (s_cT_firsts (s_cT_numbers (s_cT_kinds (s_cT_size cs (nI (N + 1))) N (nI k)) N v) N fa) N fb) N fc
def nrs (rs : RS) (N k : Nat) (v : Int64) (fa fb fc : Int32) : RS := s_r_nodes (s_r_partC (s_r_partB (s_r_partA (s_r_number (s_r_kindOf rs N (nI k)) N v) N fa) N fb) N fc) (nI (N + 1))
def vld (N k : Nat) (v : Int64) (fa fb fc : Int32) (a b c : Nat) : Prop := (3 ≤ k → fa = nI a ∧ fb = nI b ∧ a < N ∧ b < N) ∧ (k < 3 → fa = -1 ∧ fb = -1) ∧ (k = 8 → fc = nI c ∧ c < N) ∧ (¬ k = 8 → fc = -1) ∧ (¬ k = 0 → v = 0)
theorem wf_pset {P : PT} {N k : Nat} {v : Int64} {fa fb fc : Int32} {a b c : Nat} (hP : wfP P N) (hk : k < 10) (hv : vld N k v fa fb fc a b c) : wfP (pset P N k v a b c) (N + 1) := by
  intro n hn
  by_cases e : n = N
  · subst e
    simp only [pset, pkd, ppa, ppb, ppc, if_true]
    refine ⟨fun h0 h1 h2 => ?_, fun h8 => (hv.2.2.1 h8).2⟩
    have := hv.1 (by omega)
    exact ⟨this.2.2.1, this.2.2.2⟩
  · exact wf_agr (pset_agr P N k v a b c) hP n (by omega)
theorem tree_new {cs : CS} {N k : Nat} {P : PT} {v : Int64} {fa fb fc : Int32} {a b c : Nat} (hT : treeC cs N P) (h64 : N < 64) (hk : k < 10) (hv : vld N k v fa fb fc a b c) : treeC (ncs cs N k v fa fb fc) (N + 1) (pset P N k v a b c) := by
  refine ⟨by omega, rfl, wf_pset hT.2.2.1 hk hv, fun n hn => ?_⟩
  by_cases e : n = N
  · subst e
    simp only [pset, pkd, pnu, ppa, ppb, ppc, if_true]
    exact ⟨⟨pk_us, hk, pk_uLs, hv.2.2.2.2⟩, fun h3 => ⟨pk_us.trans (hv.1 h3).1, pk_us.trans (hv.1 h3).2.1⟩, fun h3 => ⟨pk_us.trans (hv.2.1 h3).1, pk_us.trans (hv.2.1 h3).2⟩, fun h8 => pk_us.trans (hv.2.2.1 h8).1, fun h8 => pk_us.trans (hv.2.2.2.1 h8)⟩
  · obtain ⟨b1, b2, b3, b4, b5⟩ := pset_agr P N k v a b c n (by omega)
    rw [← b1, ← b2, ← b3, ← b4, ← b5]
    obtain ⟨⟨q1, q2, q3, q4⟩, q5, q6, q7, q8⟩ := hT.2.2.2 n (by omega)
    exact ⟨⟨(pk_un e).trans q1, q2, (pk_uLn e).trans q3, q4⟩, fun h => ⟨(pk_un e).trans (q5 h).1, (pk_un e).trans (q5 h).2⟩, fun h => ⟨(pk_un e).trans (q6 h).1, (pk_un e).trans (q6 h).2⟩, fun h => (pk_un e).trans (q7 h), fun h => (pk_un e).trans (q8 h)⟩
theorem tree_newR {rs : RS} {N k : Nat} {P : PT} {v : Int64} {fa fb fc : Int32} {a b c : Nat} (hT : treeR rs N P) (h64 : N < 64) (hk : k < 10) (hv : vld N k v fa fb fc a b c) : treeR (nrs rs N k v fa fb fc) (N + 1) (pset P N k v a b c) := by
  refine ⟨by omega, rfl, wf_pset hT.2.2.1 hk hv, fun n hn => ?_⟩
  by_cases e : n = N
  · subst e
    simp only [pset, pkd, pnu, ppa, ppb, ppc, if_true]
    exact ⟨⟨pk_us, hk, pk_uLs, hv.2.2.2.2⟩, fun h3 => ⟨pk_us.trans (hv.1 h3).1, pk_us.trans (hv.1 h3).2.1⟩, fun h3 => ⟨pk_us.trans (hv.2.1 h3).1, pk_us.trans (hv.2.1 h3).2⟩, fun h8 => pk_us.trans (hv.2.2.1 h8).1, fun h8 => pk_us.trans (hv.2.2.2.1 h8)⟩
  · obtain ⟨b1, b2, b3, b4, b5⟩ := pset_agr P N k v a b c n (by omega)
    rw [← b1, ← b2, ← b3, ← b4, ← b5]
    obtain ⟨⟨q1, q2, q3, q4⟩, q5, q6, q7, q8⟩ := hT.2.2.2 n (by omega)
    exact ⟨⟨(pk_un e).trans q1, q2, (pk_uLn e).trans q3, q4⟩, fun h => ⟨(pk_un e).trans (q5 h).1, (pk_un e).trans (q5 h).2⟩, fun h => ⟨(pk_un e).trans (q6 h).1, (pk_un e).trans (q6 h).2⟩, fun h => (pk_un e).trans (q7 h), fun h => (pk_un e).trans (q8 h)⟩
theorem node_fin {cs : CS} {rs : RS} {N k tn mn sn : Nat} {P : PT} {v : Int64} {fa fb fc : Int32} {a b c : Nat} (hT : RT cs rs N P) (hU : RU cs rs N P tn) (hM : RM cs rs N P mn) (hD : RD cs rs sn) (hK : RK cs) (h64 : N < 64) (hk : k < 10) (hv : vld N k v fa fb fc a b c) :
    ∃ cs', (bd (f_T_shapeFor (nI N) (ncs cs N k v fa fb fc)) fun r4 st3 => ck (nI N) 64 (nx (s_cT_shapes st3 (nI N).toNatClampNeg r4) fun st7 => some (nI N, st7))) = some (nI N, cs') ∧ Rel cs' (nrs rs N k v fa fb fc) := by
  have hT' := tree_new hT.1 h64 hk hv
  have hR' := tree_newR hT.2.1 h64 hk hv
  have ag := pset_agr P N k v a b c
  have hs : ∀ j, j < N → cT_shapes (ncs cs N k v fa fb fc) j = nI (lst (pset P N k v a b c) j) := by
    intro j hj
    rw [← lst_agr ag hT.1.2.2.1 hj]
    exact hT.2.2 j hj
  rw [bd_eq (shapeC hT' (Nat.lt_succ_self N) hs), ck_nI h64 (by decide), nIc (by omega), nx_e]
  refine ⟨_, rfl, N + 1, pset P N k v a b c, tn, mn, sn, ⟨hT', hR', fun n hn => ?_⟩, ⟨hU.1, hU.2.1, hU.2.2.1, fun t ht => tOK_agr ag hT.1.2.2.1 (by omega) (hU.2.2.2 t ht)⟩, ⟨hM.1, hM.2.1, hM.2.2.1, fun i hi => mOK_agr ag (by omega) (hM.2.2.2.1 i hi), hM.2.2.2.2⟩, hD, hK⟩
  by_cases e : n = N
  · subst e; exact pk_us
  · exact (pk_un e).trans (hs n (by omega))
theorem growN {cs : CS} {N k : Nat} (h : cT_size cs = nI N) (h64 : N < 64) (hk : k < 10) (x2 : Int64) (x4 x5 p : Int32) : f_T_grow_48 (nI k) x2 x4 x5 p cs = bd (f_T_shapeFor (nI N) (ncs cs N k (if k = 0 then x2 else 0) (if p ≤ 0 then -1 else x2.toInt32) (if p ≤ 0 then -1 else x4) (if p ≤ 2 then -1 else x5))) fun r4 st3 => ck (nI N) 64 (nx (s_cT_shapes st3 (nI N).toNatClampNeg r4) fun st7 => some (nI N, st7)) := by
  have z0 : (nI k = 0) = (k = 0) := nI_lit (j := 0) (by omega) (by decide)
  unfold f_T_grow_48 f_T_grow_87 f_T_grow_105 f_T_grow_123 f_T_grow_142 ncs
  simp only [h, nx_e, ck_nI h64 (by decide), nIc (show N < 2 ^ 31 by omega), nI_1, z0]
  by_cases a1 : k = 0 <;> by_cases a2 : p ≤ 0 <;> by_cases a3 : p ≤ 2 <;> simp only [a1, a2, a3, if_true, if_false]
theorem nodeN {rs : RS} {N k : Nat} (h : r_nodes rs = nI N) (h64 : N < 64) (hk : k < 10) (x2 : Int64) (x4 x5 p : Int32) (hp : p ≤ 0 ↔ p ≤ 1) : f_R_node_76 (nI k) x2 x4 x5 p rs = some (nI N, nrs rs N k (if k = 0 then x2 else 0) (if p ≤ 0 then -1 else x2.toInt32) (if p ≤ 0 then -1 else x4) (if p ≤ 2 then -1 else x5)) := by
  have z0 : (nI k = 0) = (k = 0) := nI_lit (j := 0) (by omega) (by decide)
  have e1 : ∀ w, r_nodes (s_r_kindOf rs N w) = nI N := fun _ => h
  have e2 : ∀ w u, r_nodes (s_r_number (s_r_kindOf rs N w) N u) = nI N := fun _ _ => h
  have e3 : ∀ w u x, r_nodes (s_r_partA (s_r_number (s_r_kindOf rs N w) N u) N x) = nI N := fun _ _ _ => h
  have e4 : ∀ w u x y, r_nodes (s_r_partB (s_r_partA (s_r_number (s_r_kindOf rs N w) N u) N x) N y) = nI N := fun _ _ _ _ => h
  have e5 : ∀ w u x y z, r_nodes (s_r_partC (s_r_partB (s_r_partA (s_r_number (s_r_kindOf rs N w) N u) N x) N y) N z) = nI N := fun _ _ _ _ _ => h
  have e6 : ∀ X : RS, r_nodes (s_r_nodes X (nI (N + 1))) = nI (N + 1) := fun _ => rfl
  unfold f_R_node_76 f_R_node_103 f_R_node_123 f_R_node_144 f_R_node_165 nrs
  simp only [h, nx_e, ck_nI h64 (by decide), nIc (show N < 2 ^ 31 by omega), z0, e1, e2, e3, e4, e5, nI_1, e6, nI_pred, ← hp]
  by_cases a1 : k = 0 <;> by_cases a2 : p ≤ 0 <;> by_cases a3 : p ≤ 2 <;> simp only [a1, a2, a3, if_true, if_false, e2, e3, e4, e5, nI_1, e6, nI_pred, ck_nI h64 (by decide), nIc (show N < 2 ^ 31 by omega), ← hp]
