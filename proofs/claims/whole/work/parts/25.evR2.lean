section SIM2
variable {st : RS} {N B : Nat} {P : PT} {inp : Int64}
theorem choose_eq (hT : treeR st N P) {n h : Nat} (hn : n < N) (hh : h + n ≤ 63) (hk : pkd P n = 8) (s : Int32) (a g : Int64) (mk wt ph : Nat → Int32) (fi : Nat → Int64) {q : Nat} (hq : q < 3) (hp : ph h = nI q) : f_R_choose (nI h) (nI n) (nI B) (rx st s 0 (nI (h + 1)) a g mk wt ph fi) =
    if q = 0 then f_R_enter (nI (ppa P n)) (nI B) (rx st s 0 (nI (h + 1)) a g mk wt (upd ph h 1) fi)
    else if q = 1 then f_R_enter (nI (if decide (g ≠ 0) ≠ muO (r_changedKind st) (r_changedNode st) 3 n then ppb P n else ppc P n)) (nI B) (rx st s 0 (nI (h + 1)) a g mk wt (upd ph h 2) fi)
    else some ((), rx st s 0 (nI h) a g mk wt (upd ph h 3) fi) := by
  have hN := hT.1
  have hab := (hT.2.2.2 n hn).2.1 (by omega)
  have hcc := (hT.2.2.2 n hn).2.2.2.1 hk
  unfold f_R_choose
  have e1 : r_phase (rx st s 0 (nI (h + 1)) a g mk wt ph fi) = ph := rfl
  have e1' : ∀ p, r_phase (rx st s 0 (nI (h + 1)) a g mk wt p fi) = p := fun _ => rfl
  have e2 : ∀ p f, r_given (rx st s 0 (nI (h + 1)) a g mk wt p f) = g := fun _ _ => rfl
  have e3 : ∀ p f, r_partA (rx st s 0 (nI (h + 1)) a g mk wt p f) n = nI (ppa P n) := fun _ _ => hab.1
  have e4 : ∀ p f, r_partB (rx st s 0 (nI (h + 1)) a g mk wt p f) n = nI (ppb P n) := fun _ _ => hab.2
  have e5 : ∀ p f, r_partC (rx st s 0 (nI (h + 1)) a g mk wt p f) n = nI (ppc P n) := fun _ _ => hcc
  have u1 : ∀ v, upd ph h v h = v := fun v => pk_us
  simp only [nx, e1, hp, ck_nI (show h < 65 by omega) (by decide), ck_nI (show n < 64 by omega) (by decide), nIc (show h < 2 ^ 31 by omega), nIc (show n < 2 ^ 31 by omega), rx_ph, e1', u1, nI_1, e2, bd_unit, e3, leave_eq]
  rcases (show q = 0 ∨ q = 1 ∨ q = 2 by omega) with rfl | rfl | rfl
  · have d1 : (nI (0 + 1) = (1 : Int32)) = True := eq_true rfl
    simp only [d1, if_true]
    rfl
  · have d1 : (nI (1 + 1) = (1 : Int32)) = False := eq_false (by decide)
    have d2 : (nI (1 + 1) = (2 : Int32)) = True := eq_true rfl
    have d3 : ((1 : Nat) = 0) = False := eq_false (by decide)
    simp only [d1, d2, d3, if_true, if_false]
    have n2 : nI (1 + 1) = 2 := rfl
    rw [n2]
    have hi : f_R_is 3 (nI n) (rx st s 0 (nI (h + 1)) a g mk wt (upd ph h 2) fi) = _ := is_eq 3 n s 0 (nI (h + 1)) a g mk wt _ _
    have hi2 : ∀ k : Int32 → RS → Option (Unit × RS), bd (f_R_is 3 (nI n) (rx st s 0 (nI (h + 1)) a g mk wt (upd ph h 2) fi)) k = k (if muO (r_changedKind st) (r_changedNode st) 3 n = true then 1 else 0) (rx st s 0 (nI (h + 1)) a g mk wt (upd ph h 2) fi) := fun k => bd_eq hi
    simp only [f_R_choose_59, hi2, ck_nI (show n < 64 by omega) (by decide), nIc (show n < 2 ^ 31 by omega), e4, e5, bd_unit]
    by_cases g0 : g = 0 <;> cases muO (r_changedKind st) (r_changedNode st) 3 n <;> simp [g0]
  · have d1 : (nI (2 + 1) = (1 : Int32)) = False := eq_false (by decide)
    have d2 : (nI (2 + 1) = (2 : Int32)) = False := eq_false (by decide)
    have d3 : ((2 : Nat) = 0) = False := eq_false (by decide)
    have d4 : ((2 : Nat) = 1) = False := eq_false (by decide)
    simp only [d1, d2, d3, d4, if_false]
    rfl
theorem loopR_eq (hT : treeR st N P) {n h : Nat} (hn : n < N) (hh : h + n ≤ 63) (hk : 3 ≤ pkd P n) (s : Int32) (a g : Int64) (mk wt ph : Nat → Int32) (fi : Nat → Int64) {q : Nat} (hq : q < 3) (hp : ph h = nI q) : f_R_loop (nI h) (nI n) (nI B) (rx st s 0 (nI (h + 1)) a g mk wt ph fi) =
    if q = 0 then f_R_enter (nI (ppa P n)) (nI B) (rx st s 0 (nI (h + 1)) 0 g mk wt (upd ph h 1) (vp_updL fi h a))
    else if q = 2 then f_R_enter (nI (ppa P n)) (nI B) (rx st s 0 (nI (h + 1)) g g mk wt (upd ph h 1) fi)
    else if a < g then f_R_enter (nI (ppb P n)) (nI B) (rx st s 0 (nI (h + 1)) a g mk wt (upd ph h 2) fi)
    else some ((), rx st s 0 (nI h) (fi h) a mk wt ph fi) := by
  have hN := hT.1
  have hab := (hT.2.2.2 n hn).2.1 hk
  unfold f_R_loop
  have e1 : ∀ a p f, r_phase (rx st s 0 (nI (h + 1)) a g mk wt p f) = p := fun _ _ _ => rfl
  have e2 : ∀ a p f, r_given (rx st s 0 (nI (h + 1)) a g mk wt p f) = g := fun _ _ _ => rfl
  have e3 : ∀ a p f, r_partA (rx st s 0 (nI (h + 1)) a g mk wt p f) n = nI (ppa P n) := fun _ _ _ => hab.1
  have e4 : ∀ a p f, r_partB (rx st s 0 (nI (h + 1)) a g mk wt p f) n = nI (ppb P n) := fun _ _ _ => hab.2
  have e5 : ∀ a p, r_first (rx st s 0 (nI (h + 1)) a g mk wt p fi) = fi := fun _ _ => rfl
  have e6 : ∀ a p f, r_acc (rx st s 0 (nI (h + 1)) a g mk wt p f) = a := fun _ _ _ => rfl
  simp only [nx, e1, hp, ck_nI (show h < 65 by omega) (by decide), ck_nI (show n < 64 by omega) (by decide), nIc (show h < 2 ^ 31 by omega), nIc (show n < 2 ^ 31 by omega), rx_ph, rx_fi, rx_a, e2, bd_unit, e3, e4, e5, e6, leave_eq]
  rcases (show q = 0 ∨ q = 1 ∨ q = 2 by omega) with rfl | rfl | rfl
  · have d1 : (nI 0 = (0 : Int32)) = True := eq_true rfl
    simp only [d1, if_true]
  · have d1 : (nI 1 = (0 : Int32)) = False := eq_false (by decide)
    have d2 : (nI 1 = (2 : Int32)) = False := eq_false (by decide)
    have d3 : ((1 : Nat) = 0) = False := eq_false (by decide)
    have d4 : ((1 : Nat) = 2) = False := eq_false (by decide)
    simp only [d1, d2, d3, d4, if_false]
    by_cases l : a < g
    · rw [if_pos l, if_neg (Int64.not_le.mpr l)]
    · rw [if_neg l, if_pos (Int64.not_lt.mp l)]
  · have d1 : (nI 2 = (0 : Int32)) = False := eq_false (by decide)
    have d2 : (nI 2 = (2 : Int32)) = True := eq_true rfl
    have d3 : ((2 : Nat) = 0) = False := eq_false (by decide)
    simp only [d1, d2, d3, if_false, if_true]
/-- a turn that enters a node below, then what that comes to -/
theorem RX_go {n h : Nat} {E : Int64 → Nat → Nat × Int64 → EO} (hR : HR st inp B n E) (hh : h + n ≤ 63) {n' : Nat} (hn' : n' < n) {S0 : RS} {s : Nat} {m a g : Int64} {mk wt ph : Nat → Int32} {fi : Nat → Int64} (hs : s ≤ B) (hm : mkOK mk m)
    (hS : ∃ s0 a0 g0 mk0 wt0 ph0 fi0, S0 = rx st s0 0 (nI (h + 1)) a0 g0 mk0 wt0 ph0 fi0) (hg : f_R_goOn inp (nI B) S0 = f_R_enter (nI n') (nI B) (rx st (nI s) 0 (nI (h + 1)) a g mk wt ph fi)) :
    (∀ v, (E a n' (s, m)).1 = some v → ∃ k mk' wt' ph' fi', k ≤ 2 * ((E a n' (s, m)).2.1 - s) ∧ mkOK mk' (E a n' (s, m)).2.2 ∧ (∀ i, i < h + 1 → wt' i = wt i ∧ ph' i = ph i ∧ fi' i = fi i) ∧ ∀ fuel, lp inp B (fuel + k) S0 = lp inp B fuel (rx st (nI (E a n' (s, m)).2.1) 0 (nI (h + 1)) a v mk' wt' ph' fi')) ∧
    ((E a n' (s, m)).1 = none → ∃ k mk' wt' ph' fi' h' a' g', k ≤ 2 * ((E a n' (s, m)).2.1 - s) + 1 ∧ mkOK mk' (E a n' (s, m)).2.2 ∧ ∀ fuel, lp inp B (fuel + k) S0 = lp inp B fuel (rx st (nI (E a n' (s, m)).2.1) 1 h' a' g' mk' wt' ph' fi')) := by
  obtain ⟨T, hT1, hX⟩ := hR n' hn' (h + 1) (by omega) s m a g mk wt ph fi hs hm
  obtain ⟨s0, a0, g0, mk0, wt0, ph0, fi0, rfl⟩ := hS
  rw [hT1] at hg
  have step := fun fuel => lp_step (st := st) (inp := inp) (B := B) (h := h) (by omega) fuel s0 a0 g0 mk0 wt0 ph0 fi0 hg
  constructor
  · intro v hv
    obtain ⟨k, mk', wt', ph', fi', h1, h2, h3, h4⟩ := hX.1 v hv
    exact ⟨k + 1, mk', wt', ph', fi', by omega, h2, h3, fun fuel => by rw [← Nat.add_assoc, step, h4]⟩
  · intro hv
    obtain ⟨k, mk', wt', ph', fi', h', a', g', h1, h2, h4⟩ := hX.2 hv
    exact ⟨k + 1, mk', wt', ph', fi', h', a', g', by omega, h2, fun fuel => by rw [← Nat.add_assoc, step, h4]⟩
end SIM2
