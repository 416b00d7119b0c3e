/-! the relation between the class's state and the reference's -/
def fitK (k d : Nat) : Bool := if k = 0 then decide (d = 0) else if k = 1 then decide (d = 6) else if k = 2 then decide (d = 3 ∨ d = 4) else if k = 3 then decide (d = 8) else if k = 4 then decide (d = 3 ∨ d = 4 ∨ d = 5) else decide (d = 7)
def alk (P : PT) : Nat → Nat → Nat → Bool
  | 0, _, _ => false
  | d + 1, x, y => decide (pkd P x = pkd P y) && decide (pnu P x = pnu P y) && (decide (pkd P x < 3) || (alk P d (ppa P x) (ppa P y) && alk P d (ppb P x) (ppb P y) && (decide (¬ pkd P x = 8) || alk P d (ppc P x) (ppc P y))))
/-- built alike -/
def AL (P : PT) (x y : Nat) : Bool := alk P 64 x y
/-- the first node built alike -/
def lsf (P : PT) (x : Nat) : Nat → Nat → Nat
  | 0, i => i
  | k + 1, i => if AL P i x = true then i else lsf P x k (i + 1)
def lst (P : PT) (x : Nat) : Nat := lsf P x x 0
def shOK (cs : CS) (N : Nat) (P : PT) : Prop := ∀ n, n < N → cT_shapes cs n = nI (lst P n)
def tOK (cs : CS) (rs : RS) (N : Nat) (P : PT) (t : Nat) : Prop := ∃ (r : Nat) (inp w : Int64), r < N ∧ (cU_roots cs t = nI r ∧ r_root rs t = nI r) ∧ (cU_inputs cs t = inp ∧ r_input rs t = inp) ∧ (cU_wanted cs t = w ∧ r_wanted rs t = w) ∧
  (cU_states cs t = passV (evr P nMu inp 3000 r) w ∧ r_passes rs t = passV (evr P nMu inp 3000 r) w) ∧ (cU_steps cs t = nI (evr P nMu inp 3000 r).2.1 ∧ r_stepsOf rs t = nI (evr P nMu inp 3000 r).2.1) ∧ cU_covered cs t = (evr P nMu inp 3000 r).2.2 ∧ ∀ j, j < 64 → r_covers rs (64 * t + j) = if tb (evr P nMu inp 3000 r).2.2 j then 1 else 0
def RU (cs : CS) (rs : RS) (N : Nat) (P : PT) (tn : Nat) : Prop := tn ≤ 24 ∧ cU_size cs = nI tn ∧ r_tests rs = nI tn ∧ ∀ t, t < tn → tOK cs rs N P t
def mOK (cs : CS) (rs : RS) (N : Nat) (P : PT) (i : Nat) : Prop := ∃ k n : Nat, (k < 6 ∧ n < N ∧ fitK k (pkd P n) = true) ∧ (cN_kinds cs i = nI k ∧ r_kindM rs i = nI k) ∧ (cN_nodes cs i = nI n ∧ r_nodeM rs i = nI n) ∧ cN_outcomes cs i = r_outcome rs i ∧ (r_outcome rs i = -1 ∨ r_outcome rs i = 0 ∨ r_outcome rs i = 1 ∨ r_outcome rs i = 2) ∧ cN_enders cs i = r_ender rs i
def RM (cs : CS) (rs : RS) (N : Nat) (P : PT) (mn : Nat) : Prop := mn ≤ 100 ∧ cN_size cs = nI mn ∧ r_mutants rs = nI mn ∧ (∀ i, i < mn → mOK cs rs N P i) ∧ ∀ k, k < 6 → ∀ n, n < 64 → (tb (cN_madeAt cs k) n = true ↔ ∃ i, i < mn ∧ cN_kinds cs i = nI k ∧ cN_nodes cs i = nI n)
def RD (cs : CS) (rs : RS) (sn : Nat) : Prop := sn ≤ 100 ∧ cD_size cs = nI sn ∧ r_sampledMany rs = nI sn ∧ ∀ i, i < sn → cD_row cs i = r_sampleRow rs i
def RT (cs : CS) (rs : RS) (N : Nat) (P : PT) : Prop := treeC cs N P ∧ treeR rs N P ∧ shOK cs N P
def RK (cs : CS) : Prop := cK_changeKind cs = -1 ∧ cK_changedNode cs = -1
def Rel (cs : CS) (rs : RS) : Prop := ∃ N P tn mn sn, RT cs rs N P ∧ RU cs rs N P tn ∧ RM cs rs N P mn ∧ RD cs rs sn ∧ RK cs
/-- both answer, alike, and stay related -/
def Same (f : CS → Option (Int32 × CS)) (g : RS → Option (Int32 × RS)) : Prop := ∀ cs rs, Rel cs rs → ∃ r cs' rs', f cs = some (r, cs') ∧ g rs = some (r, rs') ∧ Rel cs' rs'
theorem same_test (x1 : Int32) (x2 x4 : Int64) : Same (f_M_test x1 x2 x4) (f_R_test x1 x2 x4) := by
  intro cs rs ⟨N, P, tn, mn, sn, hT, hU, hM, hD, hK⟩
  have hN := hT.1.1
  have ht := hU.1
  unfold f_M_test f_R_test
  rw [bd_eq (hasC hT.1.2.1 (by omega) x1), ite01, hU.2.2.1]
  by_cases c1 : iN x1 N = true
  · rw [if_pos c1]
    obtain ⟨r, hr, rfl⟩ := iN_of c1 (by omega)
    unfold f_U_add
    rw [hU.2.1]
    by_cases c2 : tn < 24
    · have l1 : nI tn < (24 : Int32) := nI_lt (b := 24) c2 (by decide)
      have l2 : ¬ nI tn = (24 : Int32) := by
        have : (nI tn = nI 24) = (tn = 24) := nI_lit (by omega) (by decide)
        show ¬ nI tn = nI 24
        rw [this]; omega
      rw [if_pos l1, if_neg l2, bd_eq (isNodeR hT.2.1.2.1 (by omega) _), iL_i, ite01, if_pos c1]
      simp only [nx, ck_nI c2 (by decide), nIc (show tn < 2 ^ 31 by omega), nI_1]
      -- the class
      generalize hc1 : s_cU_wanted (s_cU_inputs (s_cU_roots (s_cU_size cs (nI (tn + 1))) tn (nI r)) tn x2) tn x4 = cs1
      have a1 : treeC cs1 N P := by rw [← hc1]; exact hT.1
      have a2 : cK_changeKind cs1 = -1 := by rw [← hc1]; exact hK.1
      have a3 : cK_changedNode cs1 = -1 := by rw [← hc1]; exact hK.2
      have a4 : cU_roots cs1 tn = nI r := by rw [← hc1]; exact pk_us
      have a5 : cU_inputs cs1 tn = x2 := by rw [← hc1]; exact pk_uLs
      have a6 : cU_wanted cs1 tn = x4 := by rw [← hc1]; exact pk_uLs
      obtain ⟨k, k1, k2⟩ := attemptC a1 a2 a3 c2 a4 hr
      rw [a5, a6] at k2
      rw [bd_eq k2]
      -- the reference
      have b0 : ∀ v w u, r_tests (s_r_root rs v w) = nI tn ∧ r_tests (s_r_input (s_r_root rs v w) v u) = nI tn := fun _ _ _ => ⟨hU.2.2.1, hU.2.2.1⟩
      have e0 : r_tests rs = nI tn := hU.2.2.1
      have e1 : r_tests (s_r_root rs tn (nI r)) = nI tn := hU.2.2.1
      have e2 : r_tests (s_r_input (s_r_root rs tn (nI r)) tn x2) = nI tn := hU.2.2.1
      have e3 : r_tests (s_r_wanted (s_r_input (s_r_root rs tn (nI r)) tn x2) tn x4) = nI tn := hU.2.2.1
      simp only [e0, ck_nI c2 (by decide), nIc (show tn < 2 ^ 31 by omega), e1, e2, e3]
      generalize hr1 : s_r_wanted (s_r_input (s_r_root rs tn (nI r)) tn x2) tn x4 = rs1
      have d1 : treeR rs1 N P := by rw [← hr1]; exact hT.2.1
      have d4 : r_root rs1 tn = nI r := by rw [← hr1]; exact pk_us
      have d5 : r_input rs1 tn = x2 := by rw [← hr1]; exact pk_uLs
      have d6 : r_wanted rs1 tn = x4 := by rw [← hr1]; exact pk_uLs
      obtain ⟨q, cv, q1, q2, q3⟩ := tryR d1 c2 d4 hr
      rw [d5, d6] at q3
      rw [d5] at q2
      rw [bd_eq q3]
      obtain ⟨i1, i2, i3, i4, i5, i6, rfl⟩ := k1
      obtain ⟨j1, j2, j3, j4, j5, j6, j7, j8, j9, rfl⟩ := q1
      subst hc1
      subst hr1
      generalize hx : evr P nMu x2 3000 r = x at q2
      have f1 : ∀ a b c, r_tests (S_r_covers (s_r_stepsOf (s_r_passes (rx (s_r_changedNode (s_r_changedKind (s_r_wanted (s_r_input (s_r_root rs tn (nI r)) tn x2) tn x4) (-1)) (-1)) j1 j2 j3 j4 j5 j6 j7 j8 j9) tn a) tn b) c) = nI tn := fun _ _ _ => hU.2.2.1
      have f2 : ∀ X : RS, r_tests (s_r_tests X (nI (tn + 1))) = nI (tn + 1) := fun _ => rfl
      simp only [f1, nI_1, f2, nI_pred]
      refine ⟨_, _, _, rfl, rfl, N, P, tn + 1, mn, sn, ⟨hT.1, hT.2.1, hT.2.2⟩, ⟨c2, rfl, rfl, fun t ht' => ?_⟩, hM, hD, hK⟩
      by_cases et : t = tn
      · subst et
        refine ⟨r, x2, x4, hr, ⟨pk_us, pk_us⟩, ⟨pk_uLs, pk_uLs⟩, ⟨pk_uLs, pk_uLs⟩, ⟨?_, ?_⟩, ⟨?_, ?_⟩, ?_, fun j hj => ?_⟩
        · rw [hx]; exact pk_us
        · rw [hx]; exact pk_us
        · rw [hx]; exact pk_us
        · rw [hx]; exact pk_us
        · rw [hx]; exact pk_uLs
        · rw [hx]
          refine (q2 (64 * t + j)).trans ?_
          rw [if_pos (show 64 * t ≤ 64 * t + j ∧ 64 * t + j < 64 * t + 64 by omega), Nat.add_sub_cancel_left]
      · obtain ⟨r', inp, w, g1, ⟨g2, g2'⟩, ⟨g3, g3'⟩, ⟨g4, g4'⟩, ⟨g5, g5'⟩, ⟨g6, g6'⟩, g7, g8⟩ := hU.2.2.2 t (by omega)
        refine ⟨r', inp, w, g1, ⟨(pk_un et).trans g2, (pk_un et).trans g2'⟩, ⟨(pk_uLn et).trans g3, (pk_uLn et).trans g3'⟩, ⟨(pk_uLn et).trans g4, (pk_uLn et).trans g4'⟩, ⟨(pk_un et).trans g5, (pk_un et).trans g5'⟩, ⟨(pk_un et).trans g6, (pk_un et).trans g6'⟩, (pk_uLn et).trans g7, fun j hj => ?_⟩
        refine (q2 (64 * t + j)).trans ?_
        rw [if_neg (show ¬ (64 * tn ≤ 64 * t + j ∧ 64 * t + j < 64 * tn + 64) by omega)]
        exact g8 j hj
    · have et : tn = 24 := by omega
      subst et
      have l1 : ¬ nI 24 < (24 : Int32) := by decide
      have l2 : nI 24 = (24 : Int32) := rfl
      rw [if_neg l1, if_pos l2]
      exact ⟨_, _, _, rfl, rfl, N, P, 24, mn, sn, hT, hU, hM, hD, hK⟩
  · rw [if_neg c1]
    by_cases c2 : nI tn = (24 : Int32)
    · rw [if_pos c2]
      exact ⟨_, _, _, rfl, rfl, N, P, tn, mn, sn, hT, hU, hM, hD, hK⟩
    · rw [if_neg c2, bd_eq (isNodeR hT.2.1.2.1 (by omega) _), iL_i, ite01, if_neg c1]
      exact ⟨_, _, _, rfl, rfl, N, P, tn, mn, sn, hT, hU, hM, hD, hK⟩
