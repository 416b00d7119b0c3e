/-! the reference's machine of waiting frames works out what ev says -/
theorem vup_comm {α : Type} {f : Nat → α} {k j : Nat} {a b : α} (h : k ≠ j) : va_up (va_up f k a) j b = va_up (va_up f j b) k a := by
  funext i
  simp only [va_up]
  by_cases h1 : i = j
  · simp [h1]
    intro e; exact absurd e.symm h
  · simp [h1]
/-- the reference's steps, isCut, high, acc, given, marked, waits, phase, first set -/
def rx (st : RS) (s c h : Int32) (a g : Int64) (mk wt ph : Nat → Int32) (fi : Nat → Int64) : RS :=
  (upd (upd (upd st.1 6 s) 7 c) 8 h, vp_updL (vp_updL st.2.1 0 a) 1 g, va_up (va_up (va_up st.2.2.1 14 mk) 15 wt) 16 ph, va_up st.2.2.2 3 fi)
section RX
variable (st : RS) (s c h v : Int32) (a g w : Int64) (mk wt ph : Nat → Int32) (fi : Nat → Int64) (k : Nat)
theorem rx_s : s_r_steps (rx st s c h a g mk wt ph fi) v = rx st v c h a g mk wt ph fi := by
  simp only [s_r_steps, rx]
  rw [upd_comm (k := 8) (j := 6) (by decide), upd_comm (k := 7) (j := 6) (by decide), upd_upd]
theorem rx_c : s_r_isCut (rx st s c h a g mk wt ph fi) v = rx st s v h a g mk wt ph fi := by
  simp only [s_r_isCut, rx]
  rw [upd_comm (k := 8) (j := 7) (by decide), upd_upd]
theorem rx_h : s_r_high (rx st s c h a g mk wt ph fi) v = rx st s c v a g mk wt ph fi := by
  simp only [s_r_high, rx, upd_upd]
theorem rx_a : s_r_acc (rx st s c h a g mk wt ph fi) w = rx st s c h w g mk wt ph fi := by
  simp only [s_r_acc, rx]
  rw [updL_comm (k := 1) (j := 0) (by decide), updL_updL]
theorem rx_g : s_r_given (rx st s c h a g mk wt ph fi) w = rx st s c h a w mk wt ph fi := by
  simp only [s_r_given, rx, updL_updL]
theorem rx_mk : s_r_marked (rx st s c h a g mk wt ph fi) k v = rx st s c h a g (upd mk k v) wt ph fi := by
  have e : (va_up (va_up (va_up st.2.2.1 14 mk) 15 wt) 16 ph) 14 = mk := rfl
  simp only [s_r_marked, rx, e]
  rw [vup_comm (k := 16) (j := 14) (by decide), vup_comm (k := 15) (j := 14) (by decide), bx_uu]
theorem rx_wt : s_r_waits (rx st s c h a g mk wt ph fi) k v = rx st s c h a g mk (upd wt k v) ph fi := by
  have e : (va_up (va_up (va_up st.2.2.1 14 mk) 15 wt) 16 ph) 15 = wt := rfl
  simp only [s_r_waits, rx, e]
  rw [vup_comm (k := 16) (j := 15) (by decide), bx_uu]
theorem rx_ph : s_r_phase (rx st s c h a g mk wt ph fi) k v = rx st s c h a g mk wt (upd ph k v) fi := by
  have e : (va_up (va_up (va_up st.2.2.1 14 mk) 15 wt) 16 ph) 16 = ph := rfl
  simp only [s_r_phase, rx, e, bx_uu]
theorem rx_fi : s_r_first (rx st s c h a g mk wt ph fi) k w = rx st s c h a g mk wt ph (vp_updL fi k w) := by
  have e : (va_up st.2.2.2 3 fi) 3 = fi := rfl
  simp only [s_r_first, rx, e, bx_uu]
end RX
def treeR (st : RS) (N : Nat) (P : PT) : Prop := N ≤ 64 ∧ r_nodes st = nI N ∧ wfP P N ∧ ∀ n, n < N → (r_kindOf st n = nI (pkd P n) ∧ pkd P n < 10 ∧ r_number st n = pnu P n ∧ (¬ pkd P n = 0 → pnu P n = 0)) ∧
  (3 ≤ pkd P n → r_partA st n = nI (ppa P n) ∧ r_partB st n = nI (ppb P n)) ∧ (pkd P n < 3 → r_partA st n = -1 ∧ r_partB st n = -1) ∧ (pkd P n = 8 → r_partC st n = nI (ppc P n)) ∧ (¬ pkd P n = 8 → r_partC st n = -1)
def mkOK (mk : Nat → Int32) (m : Int64) : Prop := ∀ j, j < 64 → mk j = if tb m j then 1 else 0
theorem mkOK_set {mk : Nat → Int32} {m : Int64} {n : Nat} (h : mkOK mk m) (hn : n < 64) : mkOK (upd mk n 1) (m ||| bm n) := by
  intro j hj
  rw [tb_or, tb_bm hn]
  unfold upd
  by_cases e : j = n
  · simp [e]
  · simp [e, h j hj]
theorem bd_unit {σ : Type} (x : Option (Unit × σ)) : bd x (fun _ s => some ((), s)) = x := by
  cases x with
  | none => rfl
  | some q => rfl
section SIM
variable {st : RS} {N B : Nat} {P : PT} {inp : Int64}
theorem enter_eq (hB : B < 2 ^ 31) {n h s : Nat} (hn : n < 64) (hh : h < 65) (hs : s ≤ B) (a g : Int64) (mk wt ph : Nat → Int32) (fi : Nat → Int64) : f_R_enter (nI n) (nI B) (rx st (nI s) 0 (nI h) a g mk wt ph fi) =
    some ((), if s = B then rx st (nI s) 1 (nI h) a g mk wt ph fi else rx st (nI (s + 1)) 0 (nI (h + 1)) a g (upd mk n 1) (upd wt h (nI n)) (upd ph h 0) fi) := by
  unfold f_R_enter
  by_cases e : s = B
  · rw [if_pos e, if_pos (by show nI s = nI B; rw [e])]
    simp only [nx, rx_c]
  · rw [if_neg e, if_neg (by show ¬ nI s = nI B; rw [nI_lit (by omega) hB]; exact e)]
    have e1 : r_steps (rx st (nI s) 0 (nI h) a g mk wt ph fi) + 1 = nI (s + 1) := nI_1 s
    have e2 : vp_nar .boolean 1 = 1 := by decide
    simp only [nx, e1, rx_s, ck_nI hn (by decide), nIc (show n < 2 ^ 31 by omega), e2, rx_mk]
    have e3 : ∀ (s : Int32) (mk wt ph : Nat → Int32), r_high (rx st s 0 (nI h) a g mk wt ph fi) = nI h := fun _ _ _ _ => rfl
    simp only [e3, ck_nI hh (by decide), nIc (show h < 2 ^ 31 by omega), rx_wt, rx_ph, rx_h, nI_1]
theorem leave_eq (s c : Int32) (h : Nat) (v a g : Int64) (mk wt ph : Nat → Int32) (fi : Nat → Int64) : f_R_leave v (rx st s c (nI (h + 1)) a g mk wt ph fi) = some ((), rx st s c (nI h) a v mk wt ph fi) := by
  unfold f_R_leave
  have e1 : r_high (rx st s c (nI (h + 1)) a g mk wt ph fi) - 1 = nI h := nI_pred h
  simp only [nx, e1, rx_h, rx_g]
theorem is_eq (k n : Nat) (s c h : Int32) (a g : Int64) (mk wt ph : Nat → Int32) (fi : Nat → Int64) : f_R_is (nI k) (nI n) (rx st s c h a g mk wt ph fi) = some (if muO (r_changedKind st) (r_changedNode st) k n then 1 else 0, rx st s c h a g mk wt ph fi) := by
  unfold f_R_is
  have e1 : r_changedKind (rx st s c h a g mk wt ph fi) = r_changedKind st := rfl
  have e2 : r_changedNode (rx st s c h a g mk wt ph fi) = r_changedNode st := rfl
  rw [e1, e2]
  unfold muO
  by_cases h1 : r_changedKind st = nI k <;> by_cases h2 : r_changedNode st = nI n <;> simp [h1, h2]
/-- the loop over the frames -/
noncomputable abbrev lp (inp : Int64) (B fuel : Nat) (t : RS) : Option (Unit × RS) := f_R_workOut_51 fuel inp (nI B) t
theorem lp_step {h : Nat} (hh : h < 65) (fuel : Nat) (s : Int32) (a g : Int64) (mk wt ph : Nat → Int32) (fi : Nat → Int64) {t : RS} (hg : f_R_goOn inp (nI B) (rx st s 0 (nI (h + 1)) a g mk wt ph fi) = some ((), t)) : lp inp B (fuel + 1) (rx st s 0 (nI (h + 1)) a g mk wt ph fi) = lp inp B fuel t := by
  show f_R_workOut_51 (fuel + 1) inp (nI B) _ = _
  rw [f_R_workOut_51]
  have e1 : ¬ r_high (rx st s 0 (nI (h + 1)) a g mk wt ph fi) ≤ 0 := by
    show ¬ nI (h + 1) ≤ 0
    exact nI_nle (by omega) (by omega)
  have e2 : r_isCut (rx st s 0 (nI (h + 1)) a g mk wt ph fi) = 0 := rfl
  rw [if_neg e1, if_pos e2, bd_eq hg]
/-- what a frame's working out comes to: k turns, then the state -/
def RXo (st : RS) (inp : Int64) (B : Nat) (S0 : RS) (s0 h : Nat) (a : Int64) (wt ph : Nat → Int32) (fi : Nat → Int64) (x : EO) : Prop :=
  (∀ v, x.1 = some v → ∃ k mk' wt' ph' fi', k + 1 ≤ 2 * (x.2.1 - s0) ∧ mkOK mk' x.2.2 ∧ (∀ i, i < h → wt' i = wt i ∧ ph' i = ph i ∧ fi' i = fi i) ∧ ∀ fuel, lp inp B (fuel + k) S0 = lp inp B fuel (rx st (nI x.2.1) 0 (nI h) a v mk' wt' ph' fi')) ∧
  (x.1 = none → ∃ k mk' wt' ph' fi' h' a' g', k ≤ 2 * (x.2.1 - s0) ∧ mkOK mk' x.2.2 ∧ ∀ fuel, lp inp B (fuel + k) S0 = lp inp B fuel (rx st (nI x.2.1) 1 h' a' g' mk' wt' ph' fi'))
/-- entering and working out nodes below n, at any level -/
def HR (st : RS) (inp : Int64) (B n : Nat) (E : Int64 → Nat → Nat × Int64 → EO) : Prop := ∀ n', n' < n → ∀ h, h + n' ≤ 63 → ∀ (s : Nat) (m a g : Int64) (mk wt ph : Nat → Int32) (fi : Nat → Int64), s ≤ B → mkOK mk m →
  ∃ T, f_R_enter (nI n') (nI B) (rx st (nI s) 0 (nI h) a g mk wt ph fi) = some ((), T) ∧ RXo st inp B T s h a wt ph fi (E a n' (s, m))
theorem goOn_eq (hT : treeR st N P) {n h : Nat} (hn : n < N) (hh : h + n ≤ 63) (s : Int32) (a g : Int64) (mk wt ph : Nat → Int32) (fi : Nat → Int64) (hw : wt h = nI n) : f_R_goOn inp (nI B) (rx st s 0 (nI (h + 1)) a g mk wt ph fi) =
    if pkd P n = 0 then some ((), rx st s 0 (nI h) a (if muO (r_changedKind st) (r_changedNode st) 0 n then pnu P n + 1 else pnu P n) mk wt ph fi) else if pkd P n = 1 then some ((), rx st s 0 (nI h) a inp mk wt ph fi) else if pkd P n = 2 then some ((), rx st s 0 (nI h) a a mk wt ph fi)
    else if pkd P n = 8 then f_R_choose (nI h) (nI n) (nI B) (rx st s 0 (nI (h + 1)) a g mk wt ph fi) else if pkd P n = 9 then f_R_loop (nI h) (nI n) (nI B) (rx st s 0 (nI (h + 1)) a g mk wt ph fi) else f_R_both (nI h) (nI n) (nI B) (rx st s 0 (nI (h + 1)) a g mk wt ph fi) := by
  have hN := hT.1
  have hlt := (hT.2.2.2 n hn).1.2.1
  unfold f_R_goOn
  have e1 : r_high (rx st s 0 (nI (h + 1)) a g mk wt ph fi) - 1 = nI h := nI_pred h
  have e2 : r_waits (rx st s 0 (nI (h + 1)) a g mk wt ph fi) = wt := rfl
  have e3 : r_kindOf (rx st s 0 (nI (h + 1)) a g mk wt ph fi) n = nI (pkd P n) := (hT.2.2.2 n hn).1.1
  have e4 : r_number (rx st s 0 (nI (h + 1)) a g mk wt ph fi) n = pnu P n := (hT.2.2.2 n hn).1.2.2.1
  have e5 : r_acc (rx st s 0 (nI (h + 1)) a g mk wt ph fi) = a := rfl
  have z0 : (nI (pkd P n) = 0) = (pkd P n = 0) := nI_lit (j := 0) (by omega) (by decide)
  have z1 : (nI (pkd P n) = 1) = (pkd P n = 1) := nI_lit (j := 1) (by omega) (by decide)
  have z2 : (nI (pkd P n) = 2) = (pkd P n = 2) := nI_lit (j := 2) (by omega) (by decide)
  have z8 : (nI (pkd P n) = 8) = (pkd P n = 8) := nI_lit (j := 8) (by omega) (by decide)
  have z9 : (nI (pkd P n) = 9) = (pkd P n = 9) := nI_lit (j := 9) (by omega) (by decide)
  simp only [nx, e1, e2, nIc (show h < 2 ^ 31 by omega), hw, ck_nI (show h < 65 by omega) (by decide), ck_nI (show n < 64 by omega) (by decide), nIc (show n < 2 ^ 31 by omega), e3, z0, z1, z2, z8, z9, e5, leave_eq, bd_unit]
  by_cases k0 : pkd P n = 0
  · simp only [k0, if_true]
    have hi : f_R_is 0 (nI n) (rx st s 0 (nI (h + 1)) a g mk wt ph fi) = _ := is_eq 0 n s 0 (nI (h + 1)) a g mk wt ph fi
    rw [bd_eq hi]
    cases muO (r_changedKind st) (r_changedNode st) 0 n <;> simp [e4, leave_eq, bd_unit]
  · simp only [k0, if_false]
theorem both_eq (hT : treeR st N P) {n h : Nat} (hn : n < N) (hh : h + n ≤ 63) (hk : 3 ≤ pkd P n) (s : Int32) (a g : Int64) (mk wt ph : Nat → Int32) (fi : Nat → Int64) {q : Nat} (hq : q < 3) (hp : ph h = nI q) : f_R_both (nI h) (nI n) (nI B) (rx st s 0 (nI (h + 1)) a g mk wt ph fi) =
    if q = 0 then f_R_enter (nI (ppa P n)) (nI B) (rx st s 0 (nI (h + 1)) a g mk wt (upd ph h 1) fi)
    else if q = 1 then (if muO (r_changedKind st) (r_changedNode st) 4 n then some ((), rx st s 0 (nI h) a g mk wt (upd ph h 2) (vp_updL fi h g)) else f_R_enter (nI (ppb P n)) (nI B) (rx st s 0 (nI (h + 1)) a g mk wt (upd ph h 2) (vp_updL fi h g)))
    else some ((), rx st s 0 (nI h) a (opv (pkd P n) (muO (r_changedKind st) (r_changedNode st) 1 n) (muO (r_changedKind st) (r_changedNode st) 2 n) (muO (r_changedKind st) (r_changedNode st) 5 n) (fi h) g) mk wt (upd ph h 3) fi) := by
  have hN := hT.1
  have hlt := (hT.2.2.2 n hn).1.2.1
  have hab := (hT.2.2.2 n hn).2.1 hk
  unfold f_R_both
  have e1 : r_phase (rx st s 0 (nI (h + 1)) a g mk wt ph fi) = ph := rfl
  have e1' : ∀ p, r_phase (rx st s 0 (nI (h + 1)) a g mk wt p fi) = p := fun _ => rfl
  have e2 : ∀ p f, r_given (rx st s 0 (nI (h + 1)) a g mk wt p f) = g := fun _ _ => rfl
  have e3 : ∀ p f, r_partA (rx st s 0 (nI (h + 1)) a g mk wt p f) n = nI (ppa P n) := fun _ _ => hab.1
  have e4 : ∀ p f, r_partB (rx st s 0 (nI (h + 1)) a g mk wt p f) n = nI (ppb P n) := fun _ _ => hab.2
  have e5 : ∀ p, r_first (rx st s 0 (nI (h + 1)) a g mk wt p fi) = fi := fun _ => rfl
  have u1 : ∀ v, upd ph h v h = v := fun v => pk_us
  simp only [nx, e1, hp, ck_nI (show h < 65 by omega) (by decide), ck_nI (show n < 64 by omega) (by decide), nIc (show h < 2 ^ 31 by omega), nIc (show n < 2 ^ 31 by omega), rx_ph, e1', u1, nI_1, e2, rx_fi, bd_unit, e3, e5]
  rcases (show q = 0 ∨ q = 1 ∨ q = 2 by omega) with rfl | rfl | rfl
  · have d1 : (nI (0 + 1) = (1 : Int32)) = True := eq_true rfl
    simp only [d1, if_true]
    rfl
  · have d1 : (nI (1 + 1) = (1 : Int32)) = False := eq_false (by decide)
    have d2 : (nI (1 + 1) = (2 : Int32)) = True := eq_true rfl
    have d3 : ((1 : Nat) = 0) = False := eq_false (by decide)
    have n2 : nI (1 + 1) = 2 := rfl
    have hi : f_R_is 4 (nI n) (rx st s 0 (nI (h + 1)) a g mk wt (upd ph h 2) (vp_updL fi h g)) = _ := is_eq 4 n s 0 (nI (h + 1)) a g mk wt _ _
    simp only [d1, d2, d3, if_true, if_false, n2, hi, bd]
    cases muO (r_changedKind st) (r_changedNode st) 4 n <;> simp [e4, leave_eq, bd_unit, e2]
  · have d1 : (nI (2 + 1) = (1 : Int32)) = False := eq_false (by decide)
    have d2 : (nI (2 + 1) = (2 : Int32)) = False := eq_false (by decide)
    have d3 : ((2 : Nat) = 0) = False := eq_false (by decide)
    have d4 : ((2 : Nat) = 1) = False := eq_false (by decide)
    have n3 : nI (2 + 1) = 3 := rfl
    simp only [d1, d2, d3, d4, if_false, n3]
    have hm : f_R_made (nI n) (fi h) g (rx st s 0 (nI (h + 1)) a g mk wt (upd ph h 3) fi) = some (opv (pkd P n) (muO (r_changedKind st) (r_changedNode st) 1 n) (muO (r_changedKind st) (r_changedNode st) 2 n) (muO (r_changedKind st) (r_changedNode st) 5 n) (fi h) g, rx st s 0 (nI (h + 1)) a g mk wt (upd ph h 3) fi) := by
      unfold f_R_made f_R_made_124
      have e6 : r_kindOf (rx st s 0 (nI (h + 1)) a g mk wt (upd ph h 3) fi) n = nI (pkd P n) := (hT.2.2.2 n hn).1.1
      have z3 : (nI (pkd P n) = 3) = (pkd P n = 3) := nI_lit (j := 3) (by omega) (by decide)
      have z4 : (nI (pkd P n) = 4) = (pkd P n = 4) := nI_lit (j := 4) (by omega) (by decide)
      have z5 : (nI (pkd P n) = 5) = (pkd P n = 5) := nI_lit (j := 5) (by omega) (by decide)
      have z6 : (nI (pkd P n) = 6) = (pkd P n = 6) := nI_lit (j := 6) (by omega) (by decide)
      have i1 : f_R_is 1 (nI n) (rx st s 0 (nI (h + 1)) a g mk wt (upd ph h 3) fi) = _ := is_eq 1 n s 0 (nI (h + 1)) a g mk wt _ _
      have i2 : f_R_is 2 (nI n) (rx st s 0 (nI (h + 1)) a g mk wt (upd ph h 3) fi) = _ := is_eq 2 n s 0 (nI (h + 1)) a g mk wt _ _
      have i5 : f_R_is 5 (nI n) (rx st s 0 (nI (h + 1)) a g mk wt (upd ph h 3) fi) = _ := is_eq 5 n s 0 (nI (h + 1)) a g mk wt _ _
      simp only [ck_nI (show n < 64 by omega) (by decide), nIc (show n < 2 ^ 31 by omega), e6, z3, z4, z5, z6, opv]
      by_cases q3 : pkd P n = 3
      · cases hm2 : muO (r_changedKind st) (r_changedNode st) 2 n <;> simp [q3, i2, bd, hm2]
      by_cases q4 : pkd P n = 4
      · cases hm2 : muO (r_changedKind st) (r_changedNode st) 2 n <;> simp [q4, i2, bd, hm2]
      by_cases q5 : pkd P n = 5
      · simp [q5]
      by_cases q6 : pkd P n = 6
      · cases hm1 : muO (r_changedKind st) (r_changedNode st) 1 n <;> by_cases l1 : fi h < g <;> by_cases l2 : fi h = g <;> simp [q6, l1, l2, i1, bd, hm1]
      · cases hm5 : muO (r_changedKind st) (r_changedNode st) 5 n <;> by_cases l2 : fi h = g <;> simp [q3, q4, q5, q6, l2, i5, bd, hm5]
    rw [bd_eq hm, leave_eq, if_neg (by decide), if_neg (by decide)]
end SIM
