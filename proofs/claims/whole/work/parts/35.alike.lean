/-! ALIKE is an equivalence; the first alike node names its kind -/
def agr (P Q : PT) (N : Nat) : Prop := ∀ n, n < N → pkd P n = pkd Q n ∧ pnu P n = pnu Q n ∧ ppa P n = ppa Q n ∧ ppb P n = ppb Q n ∧ ppc P n = ppc Q n
theorem alk_succ {P : PT} {N : Nat} (hP : wfP P N) : ∀ (d x y : Nat), x < d → x < N → alk P (d + 1) x y = alk P d x y := by
  intro d
  induction d with
  | zero => intro x y h; omega
  | succ d ih =>
    intro x y hx hN
    rw [alk]
    conv => rhs; rw [alk]
    obtain ⟨w1, w2⟩ := hP x hN
    by_cases h3 : pkd P x < 3
    · simp [h3]
    · have ab := w1 (by omega) (by omega) (by omega)
      rw [ih (ppa P x) (ppa P y) (by omega) (by omega), ih (ppb P x) (ppb P y) (by omega) (by omega)]
      by_cases h8 : pkd P x = 8
      · have c := w2 h8
        rw [ih (ppc P x) (ppc P y) (by omega) (by omega)]
      · simp [h8]
theorem AL_iff {P : PT} {N : Nat} (hP : wfP P N) (hN : N ≤ 64) {x y : Nat} (hx : x < N) : AL P x y = true ↔ (pkd P x = pkd P y ∧ pnu P x = pnu P y ∧ (3 ≤ pkd P x → AL P (ppa P x) (ppa P y) = true ∧ AL P (ppb P x) (ppb P y) = true) ∧ (pkd P x = 8 → AL P (ppc P x) (ppc P y) = true)) := by
  obtain ⟨w1, w2⟩ := hP x hx
  unfold AL
  conv => lhs; rw [show (64 : Nat) = 63 + 1 from rfl, alk]
  by_cases h3 : pkd P x < 3
  · simp only [h3, decide_true, Bool.true_or, Bool.and_true, Bool.and_eq_true, decide_eq_true_eq]
    constructor
    · intro h; exact ⟨h.1, h.2, fun h' => by omega, fun h' => by omega⟩
    · intro h; exact ⟨h.1, h.2.1⟩
  · have ab := w1 (by omega) (by omega) (by omega)
    rw [← alk_succ hP 63 (ppa P x) (ppa P y) (by omega) (by omega), ← alk_succ hP 63 (ppb P x) (ppb P y) (by omega) (by omega)]
    by_cases h8 : pkd P x = 8
    · have c := w2 h8
      rw [← alk_succ hP 63 (ppc P x) (ppc P y) (by omega) (by omega)]
      generalize alk P (63 + 1) (ppa P x) (ppa P y) = q1
      generalize alk P (63 + 1) (ppb P x) (ppb P y) = q2
      generalize alk P (63 + 1) (ppc P x) (ppc P y) = q3
      have e : (decide (pkd P x < 3) || (q1 && q2 && (decide (¬ pkd P x = 8) || q3))) = (q1 && q2 && q3) := by
        rw [decide_eq_false h3, decide_eq_false (fun h => h h8), Bool.false_or, Bool.false_or]
      rw [e, Bool.and_eq_true, Bool.and_eq_true, Bool.and_eq_true, Bool.and_eq_true, decide_eq_true_eq, decide_eq_true_eq]
      constructor
      · intro h; exact ⟨h.1.1, h.1.2, fun _ => ⟨h.2.1.1, h.2.1.2⟩, fun _ => h.2.2⟩
      · intro h; exact ⟨⟨h.1, h.2.1⟩, ⟨(h.2.2.1 (by omega)).1, (h.2.2.1 (by omega)).2⟩, h.2.2.2 h8⟩
    · simp only [h3, h8, decide_false, Bool.false_or, not_false_eq_true, decide_true, Bool.true_or, Bool.and_true, Bool.and_eq_true, decide_eq_true_eq]
      constructor
      · intro h; exact ⟨h.1.1, h.1.2, fun _ => ⟨h.2.1, h.2.2⟩, fun h' => h'.elim⟩
      · intro h; exact ⟨⟨h.1, h.2.1⟩, (h.2.2.1 (by omega)).1, (h.2.2.1 (by omega)).2⟩
theorem AL_refl {P : PT} {N : Nat} (hP : wfP P N) (hN : N ≤ 64) : ∀ x, x < N → AL P x x = true := by
  intro x
  induction x using Nat.strongRecOn with
  | _ x ih =>
    intro hx
    obtain ⟨w1, w2⟩ := hP x hx
    rw [AL_iff hP hN hx]
    refine ⟨rfl, rfl, fun h3 => ?_, fun h8 => ?_⟩
    · have ab := w1 (by omega) (by omega) (by omega)
      exact ⟨ih _ ab.1 (by omega), ih _ ab.2 (by omega)⟩
    · have c := w2 h8
      exact ih _ c (by omega)
theorem AL_symm {P : PT} {N : Nat} (hP : wfP P N) (hN : N ≤ 64) : ∀ x y, x < N → y < N → AL P x y = true → AL P y x = true := by
  intro x
  induction x using Nat.strongRecOn with
  | _ x ih =>
    intro y hx hy h
    obtain ⟨w1, w2⟩ := hP x hx
    obtain ⟨v1, v2⟩ := hP y hy
    rw [AL_iff hP hN hx] at h
    rw [AL_iff hP hN hy]
    refine ⟨h.1.symm, h.2.1.symm, fun h3 => ?_, fun h8 => ?_⟩
    · have ab := w1 (by omega) (by omega) (by omega)
      have ab2 := v1 (by omega) (by omega) (by omega)
      have q := h.2.2.1 (by omega)
      exact ⟨ih _ ab.1 _ (by omega) (by omega) q.1, ih _ ab.2 _ (by omega) (by omega) q.2⟩
    · have c := w2 (by omega)
      have c2 := v2 h8
      exact ih _ c _ (by omega) (by omega) (h.2.2.2 (by omega))
theorem AL_trans {P : PT} {N : Nat} (hP : wfP P N) (hN : N ≤ 64) : ∀ x y z, x < N → y < N → z < N → AL P x y = true → AL P y z = true → AL P x z = true := by
  intro x
  induction x using Nat.strongRecOn with
  | _ x ih =>
    intro y z hx hy hz h g
    obtain ⟨w1, w2⟩ := hP x hx
    obtain ⟨v1, v2⟩ := hP y hy
    obtain ⟨u1, u2⟩ := hP z hz
    rw [AL_iff hP hN hx] at h ⊢
    rw [AL_iff hP hN hy] at g
    refine ⟨h.1.trans g.1, h.2.1.trans g.2.1, fun h3 => ?_, fun h8 => ?_⟩
    · have ab := w1 (by omega) (by omega) (by omega)
      have ab2 := v1 (by omega) (by omega) (by omega)
      have ab3 := u1 (by omega) (by omega) (by omega)
      have q := h.2.2.1 (by omega)
      have r := g.2.2.1 (by omega)
      exact ⟨ih _ ab.1 _ _ (by omega) (by omega) (by omega) q.1 r.1, ih _ ab.2 _ _ (by omega) (by omega) (by omega) q.2 r.2⟩
    · have c := w2 (by omega)
      have c2 := v2 (by omega)
      have c3 := u2 (by omega)
      exact ih _ c _ _ (by omega) (by omega) (by omega) (h.2.2.2 (by omega)) (g.2.2.2 (by omega))
theorem lsf_spec {P : PT} {x : Nat} (hr : AL P x x = true) : ∀ (k i : Nat), i + k = x → (∀ j, j < i → ¬ AL P j x = true) → lsf P x k i ≤ x ∧ AL P (lsf P x k i) x = true ∧ ∀ j, j < lsf P x k i → ¬ AL P j x = true := by
  intro k
  induction k with
  | zero =>
    intro i h1 h2
    have : i = x := by omega
    subst this
    exact ⟨Nat.le_refl _, hr, h2⟩
  | succ k ih =>
    intro i h1 h2
    rw [lsf]
    by_cases h : AL P i x = true
    · rw [if_pos h]; exact ⟨by omega, h, h2⟩
    · rw [if_neg h]
      exact ih (i + 1) (by omega) (fun j hj => by
        by_cases e : j = i
        · subst e; exact h
        · exact h2 j (by omega))
theorem lst_spec {P : PT} {N : Nat} (hP : wfP P N) (hN : N ≤ 64) {x : Nat} (hx : x < N) : lst P x ≤ x ∧ AL P (lst P x) x = true ∧ ∀ j, j < lst P x → ¬ AL P j x = true :=
  lsf_spec (AL_refl hP hN x hx) x 0 (by omega) (fun j hj => by omega)
theorem lst_eq {P : PT} {N : Nat} (hP : wfP P N) (hN : N ≤ 64) {x y : Nat} (hx : x < N) (hy : y < N) : lst P x = lst P y ↔ AL P x y = true := by
  obtain ⟨a1, a2, a3⟩ := lst_spec hP hN hx
  obtain ⟨b1, b2, b3⟩ := lst_spec hP hN hy
  constructor
  · intro e
    rw [← e] at b2
    exact AL_trans hP hN x _ y hx (by omega) hy (AL_symm hP hN _ _ (by omega) hx a2) b2
  · intro h
    have c1 := AL_trans hP hN _ _ _ (by omega) hx hy a2 h
    have c2 := AL_trans hP hN _ _ _ (by omega) hy hx b2 (AL_symm hP hN _ _ hx hy h)
    rcases Nat.lt_trichotomy (lst P x) (lst P y) with l | l | l
    · exact absurd c1 (b3 _ l)
    · exact l
    · exact absurd c2 (a3 _ l)
theorem wf_agr {P Q : PT} {N : Nat} (h : agr P Q N) (hP : wfP P N) : wfP Q N := by
  intro n hn
  obtain ⟨a, b, c, d, e⟩ := h n hn
  have := hP n hn
  rw [← a, ← c, ← d, ← e]
  exact this
theorem alk_agr {P Q : PT} {N : Nat} (h : agr P Q N) (hP : wfP P N) : ∀ (d x y : Nat), x < N → y < N → alk P d x y = alk Q d x y := by
  intro d
  induction d with
  | zero => intro x y _ _; rfl
  | succ d ih =>
    intro x y hx hy
    obtain ⟨a1, a2, a3, a4, a5⟩ := h x hx
    obtain ⟨b1, b2, b3, b4, b5⟩ := h y hy
    obtain ⟨w1, w2⟩ := hP x hx
    obtain ⟨v1, v2⟩ := hP y hy
    rw [alk, alk, ← a1, ← a2, ← a3, ← a4, ← a5, ← b1, ← b2, ← b3, ← b4, ← b5]
    by_cases hk : pkd P x = pkd P y
    · by_cases h3 : pkd P x < 3
      · simp [h3]
      · have ab := w1 (by omega) (by omega) (by omega)
        have ab2 := v1 (by omega) (by omega) (by omega)
        rw [ih _ _ (by omega) (by omega), ih (ppb P x) _ (by omega) (by omega)]
        by_cases h8 : pkd P x = 8
        · have c := w2 h8
          have c2 := v2 (by omega)
          rw [ih _ _ (by omega) (by omega)]
        · simp [h8]
    · simp [hk]
theorem lsf_agr {P Q : PT} {N : Nat} (h : agr P Q N) (hP : wfP P N) {x : Nat} (hx : x < N) : ∀ (k i : Nat), i + k = x → lsf P x k i = lsf Q x k i := by
  intro k
  induction k with
  | zero => intro i _; rfl
  | succ k ih =>
    intro i hi
    rw [lsf, lsf]
    unfold AL
    rw [alk_agr h hP 64 i x (by omega) hx, ih (i + 1) (by omega)]
theorem lst_agr {P Q : PT} {N : Nat} (h : agr P Q N) (hP : wfP P N) {x : Nat} (hx : x < N) : lst P x = lst Q x := lsf_agr h hP hx x 0 (by omega)
theorem evl_agr {E F : Int64 → Nat → Nat × Int64 → EO} {a b : Nat} (ha : ∀ v s, E v a s = F v a s) (hb : ∀ v s, E v b s = F v b s) : ∀ (k : Nat) (v e : Int64) (s : Nat × Int64), evl E a b k v e s = evl F a b k v e s := by
  intro k
  induction k with
  | zero => intro v e s; rfl
  | succ k ih =>
    intro v e s
    rw [evl, evl]
    split
    · rw [hb]
      congr 1
      funext v s
      rw [ha]
      congr 1
      funext e s
      exact ih v e s
    · rfl
theorem ev_agr {P Q : PT} {N : Nat} (h : agr P Q N) (hP : wfP P N) (mu : Nat → Nat → Bool) (inp : Int64) (B : Nat) : ∀ (d : Nat) (acc : Int64) (n : Nat) (s : Nat × Int64), n < N → ev P mu inp B d acc n s = ev Q mu inp B d acc n s := by
  intro d
  induction d with
  | zero => intro acc n s _; rfl
  | succ d ih =>
    intro acc n s hn
    obtain ⟨a1, a2, a3, a4, a5⟩ := h n hn
    obtain ⟨w1, w2⟩ := hP n hn
    rw [ev, ev]
    split
    · rfl
    unfold evb
    rw [← a1, ← a2, ← a3, ← a4, ← a5]
    by_cases k0 : pkd P n = 0
    · rw [if_pos k0, if_pos k0]
    rw [if_neg k0, if_neg k0]
    by_cases k1 : pkd P n = 1
    · rw [if_pos k1, if_pos k1]
    rw [if_neg k1, if_neg k1]
    by_cases k2 : pkd P n = 2
    · rw [if_pos k2, if_pos k2]
    rw [if_neg k2, if_neg k2]
    have ab := w1 k0 k1 k2
    by_cases k8 : pkd P n = 8
    · have c := w2 k8
      rw [if_pos k8, if_pos k8, ih _ _ _ (by omega)]
      congr 1
      funext x s
      exact ih _ _ _ (by split <;> omega)
    rw [if_neg k8, if_neg k8]
    by_cases k9 : pkd P n = 9
    · rw [if_pos k9, if_pos k9, ih _ _ _ (by omega)]
      congr 1
      funext e s
      exact evl_agr (fun v s => ih v _ s (by omega)) (fun v s => ih v _ s (by omega)) B 0 e s
    rw [if_neg k9, if_neg k9, ih _ _ _ (by omega)]
    congr 1
    funext x s
    split
    · rfl
    · rw [ih _ _ _ (by omega)]
theorem evr_agr {P Q : PT} {N : Nat} (h : agr P Q N) (hP : wfP P N) (mu : Nat → Nat → Bool) (inp : Int64) (B : Nat) {root : Nat} (hr : root < N) : evr P mu inp B root = evr Q mu inp B root := ev_agr h hP mu inp B DP 0 root (0, 0) hr
