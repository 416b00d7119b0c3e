theorem law_fin {L : Nat} {xs : Nat → Int32} {i n : Nat} {st : PSt} (hR : Rel st.1 st.2) {f : CS → Option (Int32 × CS)} {g : RS → Option (Int32 × RS)} (h : Same f g) :
    ∃ st', Rel st'.1 st'.2 ∧ (bd (lC f st) fun r st1 => bd (lR g st1) fun r' st2 => if r = r' then nx (nI i + 6) fun x => f_L_law_18 L xs n x st2 else some (0, st2)) = f_L_law_18 L xs n (nI (i + 6)) st' := by
  obtain ⟨r, cs', rs', h1, h2, h3⟩ := h st.1 st.2 hR
  have e1 : lC f st = some (r, (cs', st.2)) := by unfold lC; rw [bd_eq h1]
  have e2 : lR g (cs', st.2) = some (r, (cs', rs')) := by unfold lR; rw [bd_eq h2]
  have s6 : nI i + (6 : Int32) = nI (i + 6) := nI_add i 6
  exact ⟨(cs', rs'), h3, by rw [bd_eq e1, bd_eq e2, if_pos rfl, nx_e, s6]⟩
set_option maxHeartbeats 4000000 in
theorem law_step {L : Nat} {xs : Nat → Int32} (hL : L ≤ 3072) {i : Nat} (hi : i + 6 ≤ L) (n : Nat) (st : PSt) (hR : Rel st.1 st.2) : ∃ st', Rel st'.1 st'.2 ∧ f_L_law_18 L xs (n + 1) (nI i) st = f_L_law_18 L xs n (nI (i + 6)) st' := by
  have s1 : nI i + (1 : Int32) = nI (i + 1) := nI_1 i
  have s2 : nI i + (2 : Int32) = nI (i + 2) := nI_add i 2
  have s3 : nI i + (3 : Int32) = nI (i + 3) := nI_add i 3
  have s4 : nI i + (4 : Int32) = nI (i + 4) := nI_add i 4
  have s5 : nI i + (5 : Int32) = nI (i + 5) := nI_add i 5
  have s6 : nI i + (6 : Int32) = nI (i + 6) := nI_add i 6
  have k1 : ∀ {β : Type} (k : Option β), ck (nI i + 1) L k = k := fun k => by rw [s1]; exact ck_nI (by omega) (by omega)
  have k2 : ∀ {β : Type} (k : Option β), ck (nI i + 2) L k = k := fun k => by rw [s2]; exact ck_nI (by omega) (by omega)
  have k3 : ∀ {β : Type} (k : Option β), ck (nI i + 3) L k = k := fun k => by rw [s3]; exact ck_nI (by omega) (by omega)
  have k4 : ∀ {β : Type} (k : Option β), ck (nI i + 4) L k = k := fun k => by rw [s4]; exact ck_nI (by omega) (by omega)
  have k5 : ∀ {β : Type} (k : Option β), ck (nI i + 5) L k = k := fun k => by rw [s5]; exact ck_nI (by omega) (by omega)
  have c0 : ¬ (Int32.ofNat L - 6) < nI i := by
    rw [Int32.lt_iff_toInt_lt, nI_toInt (by omega)]
    have : (nI L - nI 6).toInt = (L : Int) - (6 : Nat) := pk_sub_toInt (by omega) (by decide)
    have : (Int32.ofNat L - 6).toInt = (L : Int) - (6 : Nat) := this
    omega
  rw [f_L_law_18, if_neg c0, ck_nI (by omega) (by omega)]
  generalize xs (nI i).toNatClampNeg &&& 15 = v
  by_cases h0 : v = 0
  · rw [if_pos h0]; simp only [k1, k2, k3, k4, k5]; exact law_fin hR (same_node _ _ _ _)
  rw [if_neg h0]
  by_cases h1 : v = 1
  · rw [if_pos h1]; simp only [k1, k2, k3, k4, k5]; exact law_fin hR (same_test _ _ _)
  rw [if_neg h1]
  by_cases h2 : v = 2
  · rw [if_pos h2]; simp only [k1, k2]; exact law_fin hR (same_about _ _)
  rw [if_neg h2]
  by_cases h3 : v = 3
  · rw [if_pos h3]; simp only [k1]; exact law_fin hR (same_make _)
  rw [if_neg h3]
  by_cases h4 : v = 4
  · rw [if_pos h4]; simp only [k1, k2]; exact law_fin hR (same_mutant _ _)
  rw [if_neg h4]
  by_cases h5 : v = 5
  · rw [if_pos h5]; simp only [k1, k2]; exact law_fin hR (same_run _ _)
  rw [if_neg h5]
  by_cases h6 : v = 6
  · rw [if_pos h6]; simp only [k1, k2]; exact law_fin hR (same_order _ _)
  rw [if_neg h6]
  by_cases h7 : v = 7
  · rw [if_pos h7]; simp only [k1, k2]; exact law_fin hR (same_distance _ _)
  rw [if_neg h7]
  by_cases h8 : v = 8
  · rw [if_pos h8]; simp only [k1, k2, k3]; exact law_fin hR (same_change _ _)
  rw [if_neg h8]
  by_cases h9 : v = 9
  · rw [if_pos h9]; simp only [k1, k2, k3]; exact law_fin hR (same_sample _ _)
  rw [if_neg h9]
  by_cases h10 : v = 10
  · rw [if_pos h10]; simp only [k1]; exact law_fin hR (same_sampled _)
  rw [if_neg h10]
  by_cases h11 : v = 11
  · rw [if_pos h11]; simp only [k1, k2]; exact law_fin hR (same_score _ _)
  rw [if_neg h11]
  by_cases h12 : v = 12
  · rw [if_pos h12]; simp only [k1]; exact law_fin hR (same_miss _)
  rw [if_neg h12, nx_e, s6]
  exact ⟨st, hR, rfl⟩
theorem law_run {L : Nat} {xs : Nat → Int32} (hL : L ≤ 3072) : ∀ (k i : Nat) (st : PSt), L < i + 6 * (k + 1) → i ≤ L + 6 → Rel st.1 st.2 → ∃ t, f_L_law_18 L xs (k + 1) (nI i) st = some (1, t) := by
  have stop : ∀ (k i : Nat) (st : PSt), L < i + 6 → i ≤ L + 6 → f_L_law_18 L xs (k + 1) (nI i) st = some (1, st) := by
    intro k i st h1 h2
    have c0 : (Int32.ofNat L - 6) < nI i := by
      rw [Int32.lt_iff_toInt_lt, nI_toInt (by omega)]
      have : (nI L - nI 6).toInt = (L : Int) - (6 : Nat) := pk_sub_toInt (by omega) (by decide)
      have : (Int32.ofNat L - 6).toInt = (L : Int) - (6 : Nat) := this
      omega
    rw [f_L_law_18, if_pos c0]
  intro k
  induction k with
  | zero => intro i st h1 h2 _; exact ⟨st, stop 0 i st (by omega) h2⟩
  | succ k ih =>
    intro i st h1 h2 hR
    by_cases h : L < i + 6
    · exact ⟨st, stop (k + 1) i st h h2⟩
    · obtain ⟨st', q1, q2⟩ := law_step (xs := xs) hL (i := i) (by omega) (k + 1) st hR
      rw [q2]
      exact ih (i + 6) st' (by omega) (by omega) q1
theorem rel0 : Rel c0 r0 := by
  refine ⟨0, (fun _ => 0, fun _ => 0, fun _ => 0, fun _ => 0, fun _ => 0), 0, 0, 0, ⟨⟨by decide, rfl, fun n h => by omega, fun n h => by omega⟩, ⟨by decide, rfl, fun n h => by omega, fun n h => by omega⟩, fun n h => by omega⟩, ⟨by decide, rfl, rfl, fun t h => by omega⟩, ⟨by decide, rfl, rfl, fun i h => by omega, fun k hk n hn => ?_⟩, ⟨by decide, rfl, rfl, fun i h => by omega⟩, rfl, rfl⟩
  have : cN_madeAt c0 k = 0 := rfl
  rw [this, tb_0]
  constructor
  · intro h; cases h
  · rintro ⟨i, h, _⟩; omega
