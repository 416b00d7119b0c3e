theorem nar01' {x : Int32} (h : x = 0 ∨ x = 1) : vp_nar .boolean x = x := by
  rcases h with rfl | rfl <;> decide
theorem copy79 {rs : RS} {tn n : Nat} {v : Int64} (hn : n < 64) (htn : tn ≤ 24) (hz : r_tests rs = nI tn) (hb : ∀ i, i < 64 * tn → r_covers rs i = 0 ∨ r_covers rs i = 1) : ∀ (k fuel i : Nat) (cv : Nat → Int32), i + k = 64 * tn → k < fuel → (∀ j, j < i → cv j = r_covers rs j) →
    ∃ cv', (∀ j, j < 64 * tn → cv' j = r_covers rs j) ∧ f_R_change_79 fuel (nI n) v (nI i) (S_r_covered rs cv) = f_R_change_124 FU (nI n) 0 0 (s_r_number (S_r_covered rs cv') n v) := by
  have e64 : (64 : Int32) * nI tn = nI (64 * tn) := pk_mul 64 tn
  intro k
  induction k with
  | zero =>
    intro fuel i cv h1 h2 h3
    obtain ⟨fuel, rfl⟩ : ∃ q, fuel = q + 1 := ⟨fuel - 1, by omega⟩
    have : i = 64 * tn := by omega
    subst this
    have e : r_tests (S_r_covered rs cv) = nI tn := hz
    exact ⟨cv, h3, by rw [f_R_change_79, e, e64, if_pos (nI_le (Nat.le_refl _) (by omega)), ck_nI hn (by decide), nIc (by omega), nx_e]⟩
  | succ k ih =>
    intro fuel i cv h1 h2 h3
    obtain ⟨fuel, rfl⟩ : ∃ q, fuel = q + 1 := ⟨fuel - 1, by omega⟩
    have e : r_tests (S_r_covered rs cv) = nI tn := hz
    have ec : r_covers (S_r_covered rs cv) i = r_covers rs i := rfl
    obtain ⟨cv', q1, q2⟩ := ih fuel (i + 1) (upd cv i (r_covers rs i)) (by omega) (by omega) (fun j hj => by
      by_cases e : j = i
      · subst e; exact pk_us
      · rw [pk_un e]; exact h3 j (by omega))
    refine ⟨cv', q1, ?_⟩
    rw [f_R_change_79, e, e64, if_neg (nI_ge (by omega) (by omega))]
    simp only [ck_nI (show i < 1536 by omega) (by decide), nIc (show i < 2 ^ 31 by omega), nx_e, ec, nar01' (hb i (by omega)), sS_r_covered, gS_r_covered, SS_r_covered, nI_1]
    exact q2
def cvd2 (rs : RS) (oX nX : Nat → EO) (tn : Nat) : Prop := ∀ t, t < tn → ∀ j, j < 64 → (r_covers rs (64 * t + j) = if tb (nX t).2.2 j then 1 else 0) ∧ (r_covered rs (64 * t + j) = if tb (oX t).2.2 j then 1 else 0)
theorem touchL {rs : RS} {oX nX : Nat → EO} {tn n m : Nat} (hn : n < 64) (hm : m < 64) (htn : tn ≤ 24) (hz : r_tests rs = nI tn) (hc : cvd2 rs oX nX tn) : ∀ (k fuel t : Nat), t + k = tn → k < fuel →
    ∃ r, f_R_isTouched_2 fuel (nI n) (nI m) (nI t) rs = some (r, rs) ∧ (r = 0 ↔ ¬ ∃ t', t ≤ t' ∧ t' < tn ∧ (tb (oX t').2.2 n = true ∨ tb (nX t').2.2 n = true) ∧ (tb (oX t').2.2 m = true ∨ tb (nX t').2.2 m = true)) := by
  intro k
  induction k with
  | zero =>
    intro fuel t h1 h2
    obtain ⟨fuel, rfl⟩ : ∃ q, fuel = q + 1 := ⟨fuel - 1, by omega⟩
    refine ⟨0, by rw [f_R_isTouched_2, hz, if_pos (nI_le (by omega) (by omega))], ?_⟩
    simp only [true_iff]
    rintro ⟨t', q1, q2, -⟩
    omega
  | succ k ih =>
    intro fuel t h1 h2
    obtain ⟨fuel, rfl⟩ : ∃ q, fuel = q + 1 := ⟨fuel - 1, by omega⟩
    obtain ⟨r, w1, w2⟩ := ih fuel (t + 1) (by omega) (by omega)
    have go : ¬ ((tb (oX t).2.2 n = true ∨ tb (nX t).2.2 n = true) ∧ (tb (oX t).2.2 m = true ∨ tb (nX t).2.2 m = true)) → (r = 0 ↔ ¬ ∃ t', t ≤ t' ∧ t' < tn ∧ (tb (oX t').2.2 n = true ∨ tb (nX t').2.2 n = true) ∧ (tb (oX t').2.2 m = true ∨ tb (nX t').2.2 m = true)) := by
      intro hno
      rw [w2]
      constructor
      · rintro h ⟨t', q1, q2, q3⟩
        have : ¬ t' = t := fun e => by subst e; exact hno q3
        exact h ⟨t', by omega, q2, q3⟩
      · rintro h ⟨t', q1, q2, q3⟩
        exact h ⟨t', by omega, q2, q3⟩
    have yes : ((tb (oX t).2.2 n = true ∨ tb (nX t).2.2 n = true) ∧ (tb (oX t).2.2 m = true ∨ tb (nX t).2.2 m = true)) → ((1 : Int32) = 0 ↔ ¬ ∃ t', t ≤ t' ∧ t' < tn ∧ (tb (oX t').2.2 n = true ∨ tb (nX t').2.2 n = true) ∧ (tb (oX t').2.2 m = true ∨ tb (nX t').2.2 m = true)) := by
      intro hy
      constructor
      · intro h; exact absurd h (by decide)
      · intro h; exact absurd ⟨t, Nat.le_refl _, by omega, hy⟩ h
    have cn := hc t (by omega) n hn
    have cm := hc t (by omega) m hm
    have q40 : (tb (oX t).2.2 n = true ∨ tb (nX t).2.2 n = true) → ∃ r, f_R_isTouched_40 (f_R_isTouched_2 fuel) (nI n) (nI m) (nI t) ((64 : Int32) * nI t) rs = some (r, rs) ∧ (r = 0 ↔ ¬ ∃ t', t ≤ t' ∧ t' < tn ∧ (tb (oX t').2.2 n = true ∨ tb (nX t').2.2 n = true) ∧ (tb (oX t').2.2 m = true ∨ tb (nX t').2.2 m = true)) := by
      intro hnn
      unfold f_R_isTouched_40
      simp only [idx64, ck_nI (show 64 * t + m < 1536 by omega) (by decide), nIc (show 64 * t + m < 2 ^ 31 by omega), cm.1, cm.2, nx_e, nI_1]
      rw [ite01, ite01]
      by_cases d1 : tb (nX t).2.2 m = true
      · rw [if_pos d1]; exact ⟨1, rfl, yes ⟨hnn, Or.inr d1⟩⟩
      · rw [if_neg d1]
        by_cases d2 : tb (oX t).2.2 m = true
        · rw [if_pos d2]; exact ⟨1, rfl, yes ⟨hnn, Or.inl d2⟩⟩
        · rw [if_neg d2]; exact ⟨r, w1, go (fun q => q.2.elim d2 d1)⟩
    rw [f_R_isTouched_2, hz, if_neg (nI_ge (by omega) (by omega))]
    simp only [nx_e]
    simp only [idx64, ck_nI (show 64 * t + n < 1536 by omega) (by decide), nIc (show 64 * t + n < 2 ^ 31 by omega), cn.1, cn.2, nI_1]
    rw [ite01, ite01]
    by_cases d1 : tb (nX t).2.2 n = true
    · rw [if_pos d1]; exact q40 (Or.inr d1)
    · rw [if_neg d1]
      by_cases d2 : tb (oX t).2.2 n = true
      · rw [if_pos d2]; exact q40 (Or.inl d2)
      · rw [if_neg d2]; exact ⟨r, w1, go (fun q => q.1.elim d2 d1)⟩
theorem forgetL {N tn mn sn n : Nat} {Q : PT} {oX nX : Nat → EO} {mask : Int64} (hn : n < 64) (hO : ∀ t, t < tn → tb (nX t).2.2 n = tb (oX t).2.2 n) (hmk : ∀ j, j < 64 → (tb mask j = true ↔ tch oX nX n tn j)) (x4 : Int32) : ∀ (k fuel fuel' i : Nat) (cs : CS) (rs : RS), i + k = mn → k < fuel → k < fuel' → RT cs rs N Q → RU cs rs N Q tn → RM cs rs N Q mn → RD cs rs sn → RK cs → cvd2 rs oX nX tn →
    ∃ cs' rs', f_N_forget_2 fuel mask (nI i) cs = some ((), cs') ∧ f_R_change_169 fuel' (nI n) x4 (nI i) rs = some (x4, rs') ∧ Rel cs' rs' ∧ cU_states cs' = cU_states cs ∧ cU_size cs' = cU_size cs := by
  intro k
  induction k with
  | zero =>
    intro fuel fuel' i cs rs h1 h2 h3 hT hU hM hD hK hc
    obtain ⟨fuel, rfl⟩ : ∃ q, fuel = q + 1 := ⟨fuel - 1, by omega⟩
    obtain ⟨fuel', rfl⟩ : ∃ q, fuel' = q + 1 := ⟨fuel' - 1, by omega⟩
    have hm := hM.1
    refine ⟨cs, rs, ?_, ?_, ⟨N, Q, tn, mn, sn, hT, hU, hM, hD, hK⟩, rfl, rfl⟩
    · rw [f_N_forget_2, hM.2.1, if_pos (nI_le (by omega) (by omega))]
    · rw [f_R_change_169, hM.2.2.1, if_pos (nI_le (by omega) (by omega))]
  | succ k ih =>
    intro fuel fuel' i cs rs h1 h2 h3 hT hU hM hD hK hc
    obtain ⟨fuel, rfl⟩ : ∃ q, fuel = q + 1 := ⟨fuel - 1, by omega⟩
    obtain ⟨fuel', rfl⟩ : ∃ q, fuel' = q + 1 := ⟨fuel' - 1, by omega⟩
    have hm := hM.1
    have htn := hU.1
    have hN := hT.1.1
    have hFU := FU_eq
    obtain ⟨kk, m, ⟨g1, g2, g3⟩, ⟨g4, g4'⟩, ⟨g5, g5'⟩, g6, g7, g8⟩ := hM.2.2.2.1 i (by omega)
    obtain ⟨r, w1, w2⟩ := touchL hn (show m < 64 by omega) htn hU.2.2.1 hc tn FU 0 (by omega) (by omega)
    rw [nI_0] at w1
    have w1 : f_R_isTouched (nI n) (nI m) rs = some (r, rs) := w1
    have iff : r = 0 ↔ tb mask m = false := by
      rw [w2]
      have h := hmk m (by omega)
      cases e : tb mask m
      · simp only [iff_true]
        rintro ⟨t', q1, q2, q3, q4⟩
        have : tb mask m = true := h.mpr ⟨t', q2, by
          rcases q3 with q | q
          · exact q
          · rw [← hO t' q2]; exact q, q4⟩
        rw [e] at this; cases this
      · obtain ⟨t', q1, q2, q3⟩ := h.mp e
        constructor
        · intro q; exact absurd ⟨t', Nat.zero_le _, q1, Or.inl q2, q3⟩ q
        · intro q; cases q
    rw [f_N_forget_2, hM.2.1, if_neg (nI_ge (by omega) (by omega)), f_R_change_169, hM.2.2.1, if_neg (nI_ge (by omega) (by omega))]
    simp only [ck_nI (show i < 100 by omega) (by decide), nIc (show i < 2 ^ 31 by omega), g5, g5']
    rw [bd_eq f_bit, bd_eq w1]
    by_cases c : r = 0
    · rw [if_pos c, if_pos ((and_bm (by omega)).mpr (iff.mp c)), nx_e, nx_e, nI_1]
      exact ih fuel fuel' (i + 1) cs rs (by omega) (by omega) (by omega) hT hU hM hD hK hc
    · rw [if_neg c, if_neg (fun q => c (iff.mpr ((and_bm (by omega)).mp q)))]
      have hset : f_N_settle (nI i) (-1) (-1) cs = some ((), s_cN_enders (s_cN_outcomes cs i (-1)) i (-1)) := by
        unfold f_N_settle
        simp only [ck_nI (show i < 100 by omega) (by decide), nIc (show i < 2 ^ 31 by omega), nx_e]
      rw [bd_eq hset]
      simp only [nx_e, nI_1]
      exact ih fuel fuel' (i + 1) (s_cN_enders (s_cN_outcomes cs i (-1)) i (-1)) (s_r_ender (s_r_outcome rs i (-1)) i (-1)) (by omega) (by omega) (by omega) hT hU ⟨hM.1, hM.2.1, hM.2.2.1, fun j hj => by
        by_cases e : j = i
        · subst e
          have u1 : cN_outcomes (s_cN_enders (s_cN_outcomes cs j (-1)) j (-1)) j = -1 := pk_us
          have u2 : r_outcome (s_r_ender (s_r_outcome rs j (-1)) j (-1)) j = -1 := pk_us
          have u3 : cN_enders (s_cN_enders (s_cN_outcomes cs j (-1)) j (-1)) j = -1 := pk_us
          have u4 : r_ender (s_r_ender (s_r_outcome rs j (-1)) j (-1)) j = -1 := pk_us
          exact ⟨kk, m, ⟨g1, g2, g3⟩, ⟨g4, g4'⟩, ⟨g5, g5'⟩, u1.trans u2.symm, Or.inl u2, u3.trans u4.symm⟩
        · obtain ⟨kk, m, z1, z2, z3, z4, z5, z6⟩ := hM.2.2.2.1 j hj
          have u1 : cN_outcomes (s_cN_enders (s_cN_outcomes cs i (-1)) i (-1)) j = cN_outcomes cs j := pk_un e
          have u2 : r_outcome (s_r_ender (s_r_outcome rs i (-1)) i (-1)) j = r_outcome rs j := pk_un e
          have u3 : cN_enders (s_cN_enders (s_cN_outcomes cs i (-1)) i (-1)) j = cN_enders cs j := pk_un e
          have u4 : r_ender (s_r_ender (s_r_outcome rs i (-1)) i (-1)) j = r_ender rs j := pk_un e
          exact ⟨kk, m, z1, z2, z3, by rw [u1, u2]; exact z4, by rw [u2]; exact z5, by rw [u3, u4]; exact z6⟩, hM.2.2.2.2⟩ hD hK hc
