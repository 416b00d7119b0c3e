/-! TRYING a TEST, in both -/
def passV (x : EO) (w : Int64) : Int32 := match x.1 with
  | none => -2
  | some v => if v = w then 1 else 0
def kmod (st k : CS) : Prop := ∃ inp b s c m a, k = ks (s_cK_bound (s_cK_input st inp) b) s c m a
def rmod (st q : RS) : Prop := ∃ s c h a g mk wt ph fi, q = rx st s c h a g mk wt ph fi
abbrev nMu : Nat → Nat → Bool := muO (-1) (-1)
theorem isCut_ks (k : CS) (s c : Int32) (m a : Int64) (hc : c = 0 ∨ c = 1) : f_K_isCut (ks k s c m a) = some (c, ks k s c m a) := by
  show zr c _ = _
  unfold zr
  rw [if_pos hc]
theorem attemptC {st : CS} {N : Nat} {P : PT} (hT : treeC st N P) (hk : cK_changeKind st = -1) (hn : cK_changedNode st = -1) {t r : Nat} (ht : t < 24) (hr : cU_roots st t = nI r) (hrN : r < N) :
    ∃ k, kmod st k ∧ f_U_attempt (nI t) st = some ((), s_cU_covered (s_cU_steps (s_cU_states k t (passV (evr P nMu (cU_inputs st t) 3000 r) (cU_wanted st t))) t (nI (evr P nMu (cU_inputs st t) 3000 r).2.1)) t (evr P nMu (cU_inputs st t) 3000 r).2.2) := by
  obtain ⟨rr, w1, w2⟩ := workC hT (B := 3000) (by decide) hrN (cU_inputs st t)
  rw [hk, hn] at w1 w2
  generalize evr P nMu (cU_inputs st t) 3000 r = x at w1 w2 ⊢
  obtain ⟨cf, hcf⟩ : ∃ cf : Int32, cf = if x.1 = none then 1 else 0 := ⟨_, rfl⟩
  rw [← hcf] at w1
  have hc01 : cf = 0 ∨ cf = 1 := by rw [hcf]; split <;> simp
  generalize hK : ks (s_cK_bound (s_cK_input st (cU_inputs st t)) (nI 3000)) (nI x.2.1) cf x.2.2 0 = K at w1
  refine ⟨K, ⟨_, _, _, _, _, _, hK.symm⟩, ?_⟩
  have fin : ∀ v, f_U_attempt_66 (nI t) (s_cU_states K t v) = some ((), s_cU_covered (s_cU_steps (s_cU_states K t v) t (nI x.2.1)) t x.2.2) := by
    intro v
    rw [← hK]
    unfold f_U_attempt_66
    simp only [ck_nI ht (by decide), nIc (show t < 2 ^ 31 by omega), nx]
    rfl
  have hcut : f_K_isCut K = some (cf, K) := by rw [← hK]; exact isCut_ks _ _ _ _ _ hc01
  have hwt : cU_wanted K = cU_wanted st := by rw [← hK]; rfl
  unfold f_U_attempt
  simp only [ck_nI ht (by decide), nIc (show t < 2 ^ 31 by omega), hr]
  have w1 : f_K_workOut (nI r) (cU_inputs st t) 3000 st = _ := w1
  rw [bd_eq w1, bd_eq hcut]
  simp only [nx, hwt, fin]
  cases e : x.1 with
  | none =>
    have h1 : ¬ cf = 0 := by rw [hcf, e]; decide
    rw [if_neg h1]
    simp only [passV, e]
  | some v =>
    have h1 : cf = 0 := by rw [hcf, e]; simp
    rw [if_pos h1, w2 v e]
    by_cases hq : v = cU_wanted st t
    · rw [if_pos hq]; simp only [passV, e, if_pos hq]
    · rw [if_neg hq]; simp only [passV, e, if_neg hq]
theorem idx64 (t j : Nat) : (64 : Int32) * nI t + nI j = nI (64 * t + j) := by
  have : (64 : Int32) = nI 64 := rfl
  rw [this, pk_mul, nI_add]
theorem nar01 (b : Bool) : vp_nar .boolean (if b then (1 : Int32) else 0) = if b then 1 else 0 := by
  cases b <;> decide
theorem copyR {X : RS} {t : Nat} (ht : t < 24) {m : Int64} (hm : mkOK (r_marked X) m) : ∀ (k fuel j : Nat) (cv : Nat → Int32), j + k = 64 → k + 1 ≤ fuel →
    ∃ cv', (∀ i, cv' i = if 64 * t + j ≤ i ∧ i < 64 * t + 64 then (if tb m (i - 64 * t) then 1 else 0) else cv i) ∧ f_R_tryOut_78 fuel (nI t) (nI j) (S_r_covers X cv) = some ((), S_r_covers X cv') := by
  intro k
  induction k with
  | zero =>
    intro fuel j cv h1 h2
    obtain ⟨fuel, rfl⟩ : ∃ f, fuel = f + 1 := ⟨fuel - 1, by omega⟩
    have : j = 64 := by omega
    subst this
    refine ⟨cv, fun i => by rw [if_neg (by omega)], ?_⟩
    rw [f_R_tryOut_78, if_pos (by decide)]
  | succ k ih =>
    intro fuel j cv h1 h2
    obtain ⟨fuel, rfl⟩ : ∃ f, fuel = f + 1 := ⟨fuel - 1, by omega⟩
    have e1 : ¬ (64 : Int32) ≤ nI j := by
      have : (64 : Int32) = nI 64 := rfl
      rw [this]
      exact nI_ge (by omega) (by omega)
    obtain ⟨cv', q1, q2⟩ := ih fuel (j + 1) (upd cv (64 * t + j) (if tb m j then 1 else 0)) (by omega) (by omega)
    refine ⟨cv', fun i => ?_, ?_⟩
    · rw [q1 i]
      by_cases c1 : i = 64 * t + j
      · subst c1
        rw [if_neg (show ¬ (64 * t + (j + 1) ≤ 64 * t + j ∧ 64 * t + j < 64 * t + 64) by omega), if_pos (show 64 * t + j ≤ 64 * t + j ∧ 64 * t + j < 64 * t + 64 by omega), pk_us, show 64 * t + j - 64 * t = j by omega]
      · by_cases c2 : 64 * t + (j + 1) ≤ i ∧ i < 64 * t + 64
        · rw [if_pos c2, if_pos (show 64 * t + j ≤ i ∧ i < 64 * t + 64 by omega)]
        · rw [if_neg c2, if_neg (show ¬ (64 * t + j ≤ i ∧ i < 64 * t + 64) by omega), pk_un c1]
    · rw [f_R_tryOut_78, if_neg e1, ck_nI (by omega) (by decide)]
      have e2 : r_marked (S_r_covers X cv) j = if tb m j then 1 else 0 := hm j (by omega)
      rw [idx64, ck_nI (by omega) (by decide)]
      simp only [nx, nIc (show j < 2 ^ 31 by omega), nIc (show 64 * t + j < 2 ^ 31 by omega), e2, nar01, sS_r_covers, gS_r_covers, SS_r_covers, nI_1]
      exact q2
theorem tryR {st : RS} {N : Nat} {P : PT} (hT : treeR st N P) {t r : Nat} (ht : t < 24) (hr : r_root st t = nI r) (hrN : r < N) :
    ∃ q cv, rmod (s_r_changedNode (s_r_changedKind st (-1)) (-1)) q ∧ (∀ i, cv i = if 64 * t ≤ i ∧ i < 64 * t + 64 then (if tb (evr P nMu (r_input st t) 3000 r).2.2 (i - 64 * t) then 1 else 0) else r_covers st i) ∧ f_R_tryOut (nI t) st = some ((), S_r_covers (s_r_stepsOf (s_r_passes q t (passV (evr P nMu (r_input st t) 3000 r) (r_wanted st t))) t (nI (evr P nMu (r_input st t) 3000 r).2.1)) cv) := by
  have hFU : FU = 100000 := FU_eq
  have hT2 : treeR (s_r_changedNode (s_r_changedKind st (-1)) (-1)) N P := hT
  obtain ⟨h', a', g', mk', wt', ph', fi', w1, w2, w3⟩ := workR hT2 (B := 3000) (by decide) hrN (r_input st t)
  have ek : r_changedKind (s_r_changedNode (s_r_changedKind st (-1)) (-1)) = -1 := rfl
  have en : r_changedNode (s_r_changedNode (s_r_changedKind st (-1)) (-1)) = -1 := rfl
  rw [ek, en] at w1 w2 w3
  generalize evr P nMu (r_input st t) 3000 r = x at w1 w2 w3 ⊢
  generalize hq : rx (s_r_changedNode (s_r_changedKind st (-1)) (-1)) (nI x.2.1) (if x.1 = none then 1 else 0) h' a' g' mk' wt' ph' fi' = q at w1
  have hmod : rmod (s_r_changedNode (s_r_changedKind st (-1)) (-1)) q := ⟨_, _, _, _, _, _, _, _, _, hq.symm⟩
  have hm : ∀ v, mkOK (r_marked (s_r_stepsOf (s_r_passes q t v) t (nI x.2.1))) x.2.2 := by
    intro v
    rw [← hq]
    exact w2
  have hcv : ∀ v, r_covers (s_r_stepsOf (s_r_passes q t v) t (nI x.2.1)) = r_covers st := by
    intro v
    rw [← hq]
    rfl
  obtain ⟨cv, c1, c2⟩ := copyR ht (hm (passV x (r_wanted st t))) 64 FU 0 (r_covers st) (by omega) (by omega)
  refine ⟨q, cv, hmod, fun i => by rw [c1 i, Nat.add_zero], ?_⟩
  have fin : f_R_tryOut_65 (nI t) (nI t) (passV x (r_wanted st t)) q = some ((), S_r_covers (s_r_stepsOf (s_r_passes q t (passV x (r_wanted st t))) t (nI x.2.1)) cv) := by
    unfold f_R_tryOut_65
    have e1 : ∀ v, r_steps (s_r_passes q t v) = nI x.2.1 := by intro v; rw [← hq]; rfl
    simp only [ck_nI ht (by decide), nIc (show t < 2 ^ 31 by omega), nx, e1]
    rw [nI_0, ← hcv (passV x (r_wanted st t)), Sg_r_covers] at c2
    exact c2
  unfold f_R_tryOut
  have e1 : r_root (s_r_changedNode (s_r_changedKind st (-1)) (-1)) t = nI r := hr
  have e2 : r_input (s_r_changedNode (s_r_changedKind st (-1)) (-1)) t = r_input st t := rfl
  simp only [ck_nI ht (by decide), nIc (show t < 2 ^ 31 by omega), nx, e1, e2]
  have w1 : f_R_workOut (nI r) (r_input st t) 3000 (s_r_changedNode (s_r_changedKind st (-1)) (-1)) = _ := w1
  rw [bd_eq w1, ← fin]
  have e3 : r_isCut q = if x.1 = none then 1 else 0 := by rw [← hq]; rfl
  have e4 : r_given q = g' := by rw [← hq]; rfl
  have e5 : r_wanted q = r_wanted st := by rw [← hq]; rfl
  rw [e3, e4, e5]
  cases e : x.1 with
  | none =>
    have h1 : ¬ (if (none : Option Int64) = none then (1 : Int32) else 0) = 0 := by decide
    rw [if_neg h1]
    simp only [passV, e]
  | some v =>
    have h1 : (if (some v : Option Int64) = none then (1 : Int32) else 0) = 0 := by simp
    rw [if_pos h1, w3 v e]
    by_cases hq2 : v = r_wanted st t
    · rw [if_pos hq2]; simp only [passV, e, if_pos hq2]
    · rw [if_neg hq2]; simp only [passV, e, if_neg hq2]
