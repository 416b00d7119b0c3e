/-! what trying again leaves alone -/
def cj (cs : CS) := (cT_size cs, cT_kinds cs, cT_numbers cs, cT_firsts cs, cT_seconds cs, cT_thirds cs, cT_shapes cs, cU_size cs, cU_roots cs, cU_inputs cs, cU_wanted cs, cN_size cs, cN_kinds cs, cN_nodes cs, cN_outcomes cs, cN_enders cs, cN_madeAt cs, cD_size cs, cD_row cs, cK_changeKind cs, cK_changedNode cs)
def rj (rs : RS) := (r_nodes rs, r_kindOf rs, r_number rs, r_partA rs, r_partB rs, r_partC rs, r_tests rs, r_root rs, r_input rs, r_wanted rs, r_mutants rs, r_kindM rs, r_nodeM rs, r_outcome rs, r_ender rs, r_sampledMany rs, r_sampleRow rs, r_covered rs)
theorem cj_tree {cs cs' : CS} {N : Nat} {P : PT} (h : cj cs' = cj cs) (hT : treeC cs N P) : treeC cs' N P := by
  simp only [cj, Prod.mk.injEq] at h
  obtain ⟨h1, h2, h3, h4, h5, h6, -⟩ := h
  unfold treeC at hT ⊢
  rw [h1, h2, h3, h4, h5, h6]
  exact hT
theorem rj_tree {rs rs' : RS} {N : Nat} {P : PT} (h : rj rs' = rj rs) (hT : treeR rs N P) : treeR rs' N P := by
  simp only [rj, Prod.mk.injEq] at h
  obtain ⟨h1, h2, h3, h4, h5, h6, -⟩ := h
  unfold treeR at hT ⊢
  rw [h1, h2, h3, h4, h5, h6]
  exact hT
def tv (cs : CS) (t : Nat) (x : EO) : Prop := cU_states cs t = passV x (cU_wanted cs t) ∧ cU_steps cs t = nI x.2.1 ∧ cU_covered cs t = x.2.2
def rv (rs : RS) (t : Nat) (x : EO) : Prop := r_passes rs t = passV x (r_wanted rs t) ∧ r_stepsOf rs t = nI x.2.1 ∧ ∀ j, j < 64 → r_covers rs (64 * t + j) = if tb x.2.2 j then 1 else 0
def tch (oX nX : Nat → EO) (n t j : Nat) : Prop := ∃ t', t' < t ∧ tb (oX t').2.2 n = true ∧ (tb (oX t').2.2 j = true ∨ tb (nX t').2.2 j = true)
theorem retryL {cs : CS} {N tn n : Nat} {Q : PT} {rt : Nat → Nat} {oX nX : Nat → EO} (hT : treeC cs N Q) (hK : RK cs) (hn : n < 64) (htn : tn ≤ 24) (hz : cU_size cs = nI tn) (hR : ∀ t, t < tn → rt t < N ∧ cU_roots cs t = nI (rt t)) (hX : ∀ t, t < tn → evr Q nMu (cU_inputs cs t) 3000 (rt t) = nX t) (hE : ∀ t, t < tn → tb (oX t).2.2 n = false → nX t = oX t) :
    ∀ (k fuel t : Nat) (m : Int64) (cs' : CS), t + k = tn → k < fuel → cj cs' = cj cs → (∀ t', t' < t → tv cs' t' (nX t')) → (∀ t', t ≤ t' → t' < tn → tv cs' t' (oX t')) → (∀ j, j < 64 → (tb m j = true ↔ tch oX nX n t j)) →
    ∃ m' cs'', f_U_retry_5 fuel (nI n) m (nI t) cs' = some (m', cs'') ∧ cj cs'' = cj cs ∧ (∀ t', t' < tn → tv cs'' t' (nX t')) ∧ (∀ j, j < 64 → (tb m' j = true ↔ tch oX nX n tn j)) := by
  intro k
  induction k with
  | zero =>
    intro fuel t m cs' h1 h2 hj ha hb hm
    obtain ⟨fuel, rfl⟩ : ∃ q, fuel = q + 1 := ⟨fuel - 1, by omega⟩
    have : t = tn := by omega
    subst this
    have ez : cU_size cs' = nI t := (congrArg (fun q => q.2.2.2.2.2.2.2.1) hj).trans hz
    exact ⟨m, cs', by rw [f_U_retry_5, ez, if_pos (nI_le (Nat.le_refl _) (by omega))], hj, ha, hm⟩
  | succ k ih =>
    intro fuel t m cs' h1 h2 hj ha hb hm
    obtain ⟨fuel, rfl⟩ : ∃ q, fuel = q + 1 := ⟨fuel - 1, by omega⟩
    have ez : cU_size cs' = nI tn := (congrArg (fun q => q.2.2.2.2.2.2.2.1) hj).trans hz
    obtain ⟨o1, o2, o3⟩ := hb t (Nat.le_refl _) (by omega)
    rw [f_U_retry_5, ez, if_neg (nI_ge (by omega) (by omega)), ck_nI (by omega) (by decide), nIc (by omega), bd_eq f_bit, o3]
    cases c : tb (oX t).2.2 n
    · rw [if_pos ((and_bm hn).mpr c), nx_e, nI_1]
      refine ih fuel (t + 1) m cs' (by omega) (by omega) hj (fun t' ht' => ?_) (fun t' h ht' => hb t' (by omega) ht') (fun j hj' => ?_)
      · by_cases e : t' = t
        · subst e; rw [hE t' (by omega) c]; exact ⟨o1, o2, o3⟩
        · exact ha t' (by omega)
      · rw [hm j hj']
        constructor
        · rintro ⟨t', q1, q2, q3⟩; exact ⟨t', by omega, q2, q3⟩
        · rintro ⟨t', q1, q2, q3⟩
          have : ¬ t' = t := fun e => by subst e; rw [c] at q2; cases q2
          exact ⟨t', by omega, q2, q3⟩
    · rw [if_neg (fun q => by rw [(and_bm hn).mp q] at c; cases c)]
      have hT' := cj_tree hj hT
      have hk1 : cK_changeKind cs' = -1 := (congrArg (fun q => q.2.2.2.2.2.2.2.2.2.2.2.2.2.2.2.2.2.2.2.1) hj).trans hK.1
      have hk2 : cK_changedNode cs' = -1 := (congrArg (fun q => q.2.2.2.2.2.2.2.2.2.2.2.2.2.2.2.2.2.2.2.2) hj).trans hK.2
      have er : cU_roots cs' = cU_roots cs := congrArg (fun q => q.2.2.2.2.2.2.2.2.1) hj
      have ei : cU_inputs cs' = cU_inputs cs := congrArg (fun q => q.2.2.2.2.2.2.2.2.2.1) hj
      obtain ⟨K, ⟨i1, i2, i3, i4, i5, i6, eK⟩, w⟩ := attemptC hT' hk1 hk2 (show t < 24 by omega) (by rw [er]; exact (hR t (by omega)).2) (hR t (by omega)).1
      rw [ei, hX t (by omega)] at w
      generalize hcs : s_cU_covered (s_cU_steps (s_cU_states K t (passV (nX t) (cU_wanted cs' t))) t (nI (nX t).2.1)) t (nX t).2.2 = cs2 at w
      have hj2 : cj cs2 = cj cs := by rw [← hcs, eK]; exact hj
      have t0 : tv cs2 t (nX t) := by
        rw [← hcs, eK]
        exact ⟨pk_us, pk_us, pk_uLs⟩
      have t1 : ∀ t' x, ¬ t' = t → tv cs' t' x → tv cs2 t' x := by
        intro t' x e h
        rw [← hcs, eK]
        exact ⟨(pk_un e).trans h.1, (pk_un e).trans h.2.1, (pk_uLn e).trans h.2.2⟩
      simp only [ck_nI (show t < 24 by omega) (by decide), nIc (show t < 2 ^ 31 by omega), nx_e]
      rw [bd_eq w, t0.2.2, nI_1]
      refine ih fuel (t + 1) _ cs2 (by omega) (by omega) hj2 (fun t' ht' => ?_) (fun t' h ht' => t1 t' _ (by omega) (hb t' (by omega) ht')) (fun j hj' => ?_)
      · by_cases e : t' = t
        · subst e; exact t0
        · exact t1 t' _ e (ha t' (by omega))
      · rw [tb_or, tb_or, Bool.or_eq_true, Bool.or_eq_true, hm j hj']
        constructor
        · rintro ((⟨t', q1, q2, q3⟩ | q) | q)
          · exact ⟨t', by omega, q2, q3⟩
          · exact ⟨t, by omega, c, Or.inl q⟩
          · exact ⟨t, by omega, c, Or.inr q⟩
        · rintro ⟨t', q1, q2, q3⟩
          by_cases e : t' = t
          · subst e
            rcases q3 with q | q
            · exact Or.inl (Or.inr q)
            · exact Or.inr q
          · exact Or.inl (Or.inl ⟨t', by omega, q2, q3⟩)
theorem tryL {rs : RS} {N tn n : Nat} {Q : PT} {rt : Nat → Nat} {nX : Nat → EO} (hT : treeR rs N Q) (htn : tn ≤ 24) (hz : r_tests rs = nI tn) (hR : ∀ t, t < tn → rt t < N ∧ r_root rs t = nI (rt t)) (hX : ∀ t, t < tn → evr Q nMu (r_input rs t) 3000 (rt t) = nX t) (F : Nat → Bool) (hF : ∀ t, t < tn → F t = decide (passV (nX t) (r_wanted rs t) = 1)) :
    ∀ (k fuel t : Nat) (rs' : RS), t + k = tn → k < fuel → rj rs' = rj rs → (∀ t', t' < t → rv rs' t' (nX t')) →
    ∃ rs'', f_R_change_124 fuel (nI n) (nI (cnt F t)) (nI t) rs' = f_R_change_169 FU (nI n) (nI (cnt F tn)) 0 rs'' ∧ rj rs'' = rj rs ∧ (∀ t', t' < tn → rv rs'' t' (nX t')) := by
  intro k
  induction k with
  | zero =>
    intro fuel t rs' h1 h2 hj ha
    obtain ⟨fuel, rfl⟩ : ∃ q, fuel = q + 1 := ⟨fuel - 1, by omega⟩
    have : t = tn := by omega
    subst this
    have ez : r_tests rs' = nI t := (congrArg (fun q => q.2.2.2.2.2.2.1) hj).trans hz
    exact ⟨rs', by rw [f_R_change_124, ez, if_pos (nI_le (Nat.le_refl _) (by omega))], hj, ha⟩
  | succ k ih =>
    intro fuel t rs' h1 h2 hj ha
    obtain ⟨fuel, rfl⟩ : ∃ q, fuel = q + 1 := ⟨fuel - 1, by omega⟩
    have ez : r_tests rs' = nI tn := (congrArg (fun q => q.2.2.2.2.2.2.1) hj).trans hz
    have hT' := rj_tree hj hT
    have er : r_root rs' = r_root rs := congrArg (fun q => q.2.2.2.2.2.2.2.1) hj
    have ei : r_input rs' = r_input rs := congrArg (fun q => q.2.2.2.2.2.2.2.2.1) hj
    have ew : r_wanted rs' = r_wanted rs := congrArg (fun q => q.2.2.2.2.2.2.2.2.2.1) hj
    obtain ⟨q, cv, ⟨j1, j2, j3, j4, j5, j6, j7, j8, j9, eq⟩, hcv, w⟩ := tryR hT' (show t < 24 by omega) (by rw [er]; exact (hR t (by omega)).2) (hR t (by omega)).1
    rw [ei, hX t (by omega)] at w hcv
    generalize hrs : S_r_covers (s_r_stepsOf (s_r_passes q t (passV (nX t) (r_wanted rs' t))) t (nI (nX t).2.1)) cv = rs2 at w
    have hj2 : rj rs2 = rj rs := by rw [← hrs, eq]; exact hj
    have t0 : rv rs2 t (nX t) := by
      rw [← hrs, eq]
      refine ⟨pk_us, pk_us, fun j hj => ?_⟩
      refine (hcv (64 * t + j)).trans ?_
      rw [if_pos (show 64 * t ≤ 64 * t + j ∧ 64 * t + j < 64 * t + 64 by omega), Nat.add_sub_cancel_left]
    have t1 : ∀ t' x, ¬ t' = t → rv rs' t' x → rv rs2 t' x := by
      intro t' x e h
      rw [← hrs, eq]
      refine ⟨(pk_un e).trans h.1, (pk_un e).trans h.2.1, fun j hj => ?_⟩
      refine (hcv (64 * t' + j)).trans ?_
      rw [if_neg (show ¬ (64 * t ≤ 64 * t' + j ∧ 64 * t' + j < 64 * t + 64) by omega)]
      exact h.2.2 j hj
    have key := ih fuel (t + 1) rs2 (by omega) (by omega) hj2 (fun t' ht' => by
      by_cases e : t' = t
      · subst e; exact t0
      · exact t1 t' _ e (ha t' (by omega)))
    have es : cnt F (t + 1) = cnt F t + if F t then 1 else 0 := rfl
    have ew2 : r_wanted rs2 = r_wanted rs := congrArg (fun q => q.2.2.2.2.2.2.2.2.2.1) hj2
    have e0 : (nI (cnt F t) : Int32) + 0 = nI (cnt F t) := Int32.add_zero _
    rw [f_R_change_124, ez, if_neg (nI_ge (by omega) (by omega)), bd_eq w, ck_nI (by omega) (by decide), nIc (by omega), t0.1, ew2]
    simp only [nx_e, nI_1, e0]
    rw [hF t (by omega)] at es
    by_cases c : passV (nX t) (r_wanted rs t) = 1
    · rw [if_pos c]
      rw [if_pos (decide_eq_true c)] at es
      rw [es] at key
      exact key
    · rw [if_neg c]
      rw [if_neg (fun q => c (of_decide_eq_true q))] at es
      rw [es] at key
      exact key
theorem passC {cs : CS} {tn : Nat} (htn : tn ≤ 24) (hz : cU_size cs = nI tn) (F : Nat → Bool) (hF : ∀ t, t < tn → F t = decide (cU_states cs t = 1)) : ∀ (k fuel t : Nat), t + k = tn → k < fuel → f_U_countPassing_4 fuel (nI (cnt F t)) (nI t) cs = some (nI (cnt F tn), cs) := by
  intro k
  induction k with
  | zero =>
    intro fuel t h1 h2
    obtain ⟨fuel, rfl⟩ : ∃ q, fuel = q + 1 := ⟨fuel - 1, by omega⟩
    have : t = tn := by omega
    subst this
    rw [f_U_countPassing_4, hz, if_pos (nI_le (Nat.le_refl _) (by omega))]
  | succ k ih =>
    intro fuel t h1 h2
    obtain ⟨fuel, rfl⟩ : ∃ q, fuel = q + 1 := ⟨fuel - 1, by omega⟩
    have key := ih fuel (t + 1) (by omega) (by omega)
    have es : cnt F (t + 1) = cnt F t + if F t then 1 else 0 := rfl
    rw [hF t (by omega)] at es
    rw [f_U_countPassing_4, hz, if_neg (nI_ge (by omega) (by omega)), ck_nI (by omega) (by decide), nIc (by omega)]
    simp only [nx_e, nI_1]
    by_cases c : cU_states cs t = 1
    · rw [if_pos c]
      rw [if_pos (decide_eq_true c)] at es
      rw [es] at key
      exact key
    · rw [if_neg c]
      rw [if_neg (fun q => c (of_decide_eq_true q))] at es
      rw [es] at key
      exact key
theorem pass26 {rs : RS} {tn n : Nat} {v : Int64} (hn : n < 64) (htn : tn ≤ 24) (hz : r_tests rs = nI tn) (F : Nat → Bool) (hF : ∀ t, t < tn → F t = decide (r_passes rs t = 1)) : ∀ (k fuel t : Nat), t + k = tn → k < fuel → f_R_change_26 fuel (nI n) v (nI (cnt F t)) (nI t) rs = if r_number rs n = v then some (nI (cnt F tn), rs) else f_R_change_79 FU (nI n) v 0 rs := by
  intro k
  induction k with
  | zero =>
    intro fuel t h1 h2
    obtain ⟨fuel, rfl⟩ : ∃ q, fuel = q + 1 := ⟨fuel - 1, by omega⟩
    have : t = tn := by omega
    subst this
    rw [f_R_change_26, hz, if_pos (nI_le (Nat.le_refl _) (by omega)), ck_nI hn (by decide), nIc (by omega)]
  | succ k ih =>
    intro fuel t h1 h2
    obtain ⟨fuel, rfl⟩ : ∃ q, fuel = q + 1 := ⟨fuel - 1, by omega⟩
    have key := ih fuel (t + 1) (by omega) (by omega)
    have es : cnt F (t + 1) = cnt F t + if F t then 1 else 0 := rfl
    have e0 : (nI (cnt F t) : Int32) + 0 = nI (cnt F t) := Int32.add_zero _
    rw [hF t (by omega)] at es
    rw [f_R_change_26, hz, if_neg (nI_ge (by omega) (by omega)), ck_nI (by omega) (by decide), nIc (by omega)]
    simp only [nx_e, nI_1, e0]
    by_cases c : r_passes rs t = 1
    · rw [if_pos c]
      rw [if_pos (decide_eq_true c)] at es
      rw [es] at key
      exact key
    · rw [if_neg c]
      rw [if_neg (fun q => c (of_decide_eq_true q))] at es
      rw [es] at key
      exact key
