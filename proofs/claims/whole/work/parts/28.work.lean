/-! workOut of both, as ev -/
def evr (P : PT) (mu : Nat → Nat → Bool) (inp : Int64) (B root : Nat) : EO := ev P mu inp B DP 0 root (0, 0)
theorem workC {st : CS} {N B : Nat} {P : PT} (hT : treeC st N P) (hB2 : B ≤ 5000) {root : Nat} (hr : root < N) (inp : Int64) : ∃ r, f_K_workOut (nI root) inp (nI B) st = some (r, ks (s_cK_bound (s_cK_input st inp) (nI B)) (nI (evr P (muO (cK_changeKind st) (cK_changedNode st)) inp B root).2.1) (if (evr P (muO (cK_changeKind st) (cK_changedNode st)) inp B root).1 = none then 1 else 0) (evr P (muO (cK_changeKind st) (cK_changedNode st)) inp B root).2.2 0) ∧ ∀ v, (evr P (muO (cK_changeKind st) (cK_changedNode st)) inp B root).1 = some v → r = v := by
  have hN := hT.1
  have hD : DP = 65 := rfl
  have h1 : treeC (s_cK_bound (s_cK_input st inp) (nI B)) N P := hT
  obtain ⟨r, g1, g2⟩ := worth_ev (B := B) h1 rfl hB2 DP root (by omega) hr 0 0 0 0 (Nat.zero_le _) (Or.inl rfl)
  refine ⟨r, ?_, g2⟩
  unfold f_K_workOut
  have e : s_cK_acc (s_cK_covered (s_cK_cut (s_cK_steps (s_cK_bound (s_cK_input st inp) (nI B)) 0) 0) 0) 0 = ks (s_cK_bound (s_cK_input st inp) (nI B)) (nI 0) 0 0 0 := rfl
  simp only [nx, e]
  rw [bd_eq g1]
  rfl
theorem rx_init (st : RS) : s_r_acc (s_r_high (s_r_isCut (s_r_steps st 0) 0) 0) 0 = rx st 0 0 0 0 (r_given st) (r_marked st) (r_waits st) (r_phase st) (r_first st) := by
  simp only [s_r_acc, s_r_high, s_r_isCut, s_r_steps, rx, r_given, r_marked, r_waits, r_phase, r_first]
  have e1 : vp_updL (vp_updL st.2.1 0 0) 1 (st.2.1 1) = vp_updL st.2.1 0 0 := updL_self (vp_updL st.2.1 0 0) 1
  have e2 : va_up (va_up (va_up st.2.2.1 14 (st.2.2.1 14)) 15 (st.2.2.1 15)) 16 (st.2.2.1 16) = st.2.2.1 := by
    rw [vup_self, vup_self, vup_self]
  rw [e1, e2, vup_self]
theorem markR {st : RS} (root : Int32) (inp : Int64) (B : Int32) (s c h : Int32) (a g : Int64) (wt ph : Nat → Int32) (fi : Nat → Int64) : ∀ (k fuel j : Nat) (mk : Nat → Int32), j + k = 64 → k + 1 ≤ fuel → (∀ i, i < j → mk i = 0) →
    ∃ mk', (∀ i, i < 64 → mk' i = 0) ∧ f_R_workOut_23 fuel root inp B (nI j) (rx st s c h a g mk wt ph fi) = bd (f_R_enter root B (rx st s c h a g mk' wt ph fi)) fun _ st7 => f_R_workOut_51 FU inp B st7 := by
  intro k
  induction k with
  | zero =>
    intro fuel j mk h1 h2 h3
    obtain ⟨fuel, rfl⟩ : ∃ f, fuel = f + 1 := ⟨fuel - 1, by omega⟩
    have : j = 64 := by omega
    subst this
    refine ⟨mk, fun i hi => h3 i hi, ?_⟩
    rw [f_R_workOut_23, if_pos (by decide)]
  | succ k ih =>
    intro fuel j mk h1 h2 h3
    obtain ⟨fuel, rfl⟩ : ∃ f, fuel = f + 1 := ⟨fuel - 1, by omega⟩
    have e1 : ¬ (64 : Int32) ≤ nI j := by
      have : (64 : Int32) = nI 64 := rfl
      rw [this]
      exact nI_ge (by omega) (by omega)
    have e2 : vp_nar .boolean 0 = 0 := by decide
    obtain ⟨mk', q1, q2⟩ := ih fuel (j + 1) (upd mk j 0) (by omega) (by omega) (fun i hi => by
      by_cases e : i = j
      · subst e; exact pk_us
      · rw [pk_un e]; exact h3 i (by omega))
    refine ⟨mk', q1, ?_⟩
    rw [f_R_workOut_23, if_neg e1, ck_nI (by omega) (by decide)]
    simp only [nx, nIc (show j < 2 ^ 31 by omega), e2, rx_mk, nI_1]
    exact q2
set_option maxRecDepth 100000 in
theorem workR {st : RS} {N B : Nat} {P : PT} (hT : treeR st N P) (hB2 : B ≤ 5000) {root : Nat} (hr : root < N) (inp : Int64) : ∃ h' a' g' mk' wt' ph' fi', f_R_workOut (nI root) inp (nI B) st = some ((), rx st (nI (evr P (muO (r_changedKind st) (r_changedNode st)) inp B root).2.1) (if (evr P (muO (r_changedKind st) (r_changedNode st)) inp B root).1 = none then 1 else 0) h' a' g' mk' wt' ph' fi') ∧ mkOK mk' (evr P (muO (r_changedKind st) (r_changedNode st)) inp B root).2.2 ∧ ∀ v, (evr P (muO (r_changedKind st) (r_changedNode st)) inp B root).1 = some v → g' = v := by
  have hN := hT.1
  have hD : DP = 65 := rfl
  have hFU : FU = 100000 := FU_eq
  have hs := sim (inp := inp) hT hB2 DP N (by omega) (Nat.le_refl _)
  have ho := ev_ok hT.2.2.1 (muO (r_changedKind st) (r_changedNode st)) inp B DP 0 root (0, 0) (by omega) hr (Nat.zero_le _)
  obtain ⟨mk, m1, m2⟩ := markR (st := st) (nI root) inp (nI B) 0 0 0 0 (r_given st) (r_waits st) (r_phase st) (r_first st) 64 FU 0 (r_marked st) (by omega) (by omega) (fun i hi => by omega)
  obtain ⟨T, t1, t2⟩ := hs root hr 0 (by omega) 0 0 0 (r_given st) mk (r_waits st) (r_phase st) (r_first st) (Nat.zero_le _) (fun j hj => by rw [m1 j hj, tb_0]; rfl)
  have t1 : f_R_enter (nI root) (nI B) (rx st 0 0 0 0 (r_given st) mk (r_waits st) (r_phase st) (r_first st)) = some ((), T) := t1
  have e0 : f_R_workOut (nI root) inp (nI B) st = lp inp B FU T := by
    unfold f_R_workOut
    simp only [nx, rx_init]
    rw [nI_0] at m2
    rw [m2, bd_eq t1]
  rw [e0]
  unfold evr
  generalize ev P (muO (r_changedKind st) (r_changedNode st)) inp B DP 0 root (0, 0) = x at t2 ho ⊢
  have ho2 := ho.2.1
  cases e : x.1 with
  | none =>
    obtain ⟨k, mk', wt', ph', fi', h', a', g', b1, b2, b4⟩ := t2.2 e
    refine ⟨h', a', g', mk', wt', ph', fi', ?_, b2, fun v hv => by simp at hv⟩
    obtain ⟨f, hf⟩ : ∃ f, FU = (f + 1) + k := ⟨FU - k - 1, by omega⟩
    rw [hf, b4]
    show f_R_workOut_51 (f + 1) inp (nI B) _ = _
    rw [f_R_workOut_51]
    have c1 : ¬ r_isCut (rx st (nI x.2.1) 1 h' a' g' mk' wt' ph' fi') = 0 := by show ¬ (1 : Int32) = 0; decide
    rw [if_neg c1, if_pos rfl]
    split <;> rfl
  | some v =>
    obtain ⟨k, mk', wt', ph', fi', b1, b2, b3, b4⟩ := t2.1 v e
    refine ⟨nI 0, 0, v, mk', wt', ph', fi', ?_, b2, fun w hw => by simpa using hw⟩
    obtain ⟨f, hf⟩ : ∃ f, FU = (f + 1) + k := ⟨FU - k - 1, by omega⟩
    rw [hf, b4]
    show f_R_workOut_51 (f + 1) inp (nI B) _ = _
    rw [f_R_workOut_51]
    have c1 : r_high (rx st (nI x.2.1) 0 (nI 0) 0 v mk' wt' ph' fi') ≤ 0 := by show nI 0 ≤ 0; decide
    rw [if_pos c1]
    simp
