/-! proved ALIKE, in both -/
def isN (P : PT) (b : Nat) (v : Int64) : Bool := decide (pkd P b = 0) && decide (pnu P b = v)
def pv (P : PT) (k n : Nat) : Bool := if k = 1 then decide (pkd P (ppa P n) = 0 ∧ pkd P (ppb P n) = 0 ∧ ¬ pnu P (ppa P n) = pnu P (ppb P n)) else if k = 2 then isN P (ppb P n) 0 else if k = 3 then AL P (ppb P n) (ppc P n) else if k = 4 then isN P (ppb P n) (if pkd P n = 5 then 1 else 0) else false
theorem gC1 {st : CS} {N : Nat} {P : PT} (h : treeC st N P) {n : Nat} (hn : n < N) (hk : 3 ≤ pkd P n) : f_T_firstOf (nI n) st = some (nI (ppa P n), st) := by
  have h1 := h.1
  unfold f_T_firstOf
  rw [ck_nI (by omega) (by decide), nIc (by omega), ((h.2.2.2 n hn).2.1 hk).1]
theorem gC2 {st : CS} {N : Nat} {P : PT} (h : treeC st N P) {n : Nat} (hn : n < N) (hk : 3 ≤ pkd P n) : f_T_secondOf (nI n) st = some (nI (ppb P n), st) := by
  have h1 := h.1
  unfold f_T_secondOf
  rw [ck_nI (by omega) (by decide), nIc (by omega), ((h.2.2.2 n hn).2.1 hk).2]
theorem gC3 {st : CS} {N : Nat} {P : PT} (h : treeC st N P) {n : Nat} (hn : n < N) (hk : pkd P n = 8) : f_T_thirdOf (nI n) st = some (nI (ppc P n), st) := by
  have h1 := h.1
  unfold f_T_thirdOf
  rw [ck_nI (by omega) (by decide), nIc (by omega), (h.2.2.2 n hn).2.2.2.1 hk]
theorem gCk {st : CS} {N : Nat} {P : PT} (h : treeC st N P) {n : Nat} (hn : n < N) : f_T_kindOf (nI n) st = some (nI (pkd P n), st) := by
  have h1 := h.1
  unfold f_T_kindOf
  rw [ck_nI (by omega) (by decide), nIc (by omega), (h.2.2.2 n hn).1.1]
theorem gCn {st : CS} {N : Nat} {P : PT} (h : treeC st N P) {n : Nat} (hn : n < N) : f_T_numberOf (nI n) st = some (pnu P n, st) := by
  have h1 := h.1
  unfold f_T_numberOf
  rw [ck_nI (by omega) (by decide), nIc (by omega), (h.2.2.2 n hn).1.2.2.1]
theorem isNC {st : CS} {N : Nat} {P : PT} (h : treeC st N P) {n : Nat} (hn : n < N) (v : Int64) : f_T_isNumber (nI n) v st = some (if isN P n v then 1 else 0, st) := by
  have h1 := h.1
  have lt := (h.2.2.2 n hn).1.2.1
  have z0 : (nI (pkd P n) = 0) = (pkd P n = 0) := nI_lit (j := 0) (by omega) (by decide)
  unfold f_T_isNumber isN
  simp only [ck_nI (show n < 64 by omega) (by decide), nIc (show n < 2 ^ 31 by omega), (h.2.2.2 n hn).1.1, (h.2.2.2 n hn).1.2.2.1, z0]
  by_cases a : pkd P n = 0 <;> by_cases b : pnu P n = v <;> simp [a, b]
theorem isNR {st : RS} {N : Nat} {P : PT} (h : treeR st N P) {n : Nat} (hn : n < N) (v : Int64) : f_R_isNumber (nI n) v st = some (if isN P n v then 1 else 0, st) := by
  have h1 := h.1
  have lt := (h.2.2.2 n hn).1.2.1
  have z0 : (nI (pkd P n) = 0) = (pkd P n = 0) := nI_lit (j := 0) (by omega) (by decide)
  unfold f_R_isNumber isN
  simp only [ck_nI (show n < 64 by omega) (by decide), nIc (show n < 2 ^ 31 by omega), (h.2.2.2 n hn).1.1, (h.2.2.2 n hn).1.2.2.1, z0]
  by_cases a : pkd P n = 0 <;> by_cases b : pnu P n = v <;> simp [a, b]
theorem fit3 {k d : Nat} (h : fitK k d = true) : (k = 1 → d = 6) ∧ (k = 2 → d = 3 ∨ d = 4) ∧ (k = 3 → d = 8) ∧ (k = 4 → d = 3 ∨ d = 4 ∨ d = 5) := by
  unfold fitK at h
  refine ⟨fun e => ?_, fun e => ?_, fun e => ?_, fun e => ?_⟩ <;> subst e <;> simpa using h
theorem alikeC {cs : CS} {rs : RS} {N mn i k n : Nat} {P : PT} (hT : RT cs rs N P) (hi : i < 100) (hk : k < 6) (hn : n < N) (hf : fitK k (pkd P n) = true) (e1 : cN_kinds cs i = nI k) (e2 : cN_nodes cs i = nI n) : f_N_isAlike (nI i) cs = some (if pv P k n then 1 else 0, cs) := by
  have hN := hT.1.1
  obtain ⟨f1, f2, f3, f4⟩ := fit3 hf
  obtain ⟨w1, w2⟩ := hT.1.2.2.1 n hn
  have lt := (hT.1.2.2.2 n hn).1.2.1
  have z1 : (nI k = 1) = (k = 1) := nI_lit (j := 1) (by omega) (by decide)
  have z2 : (nI k = 2) = (k = 2) := nI_lit (j := 2) (by omega) (by decide)
  have z3 : (nI k = 3) = (k = 3) := nI_lit (j := 3) (by omega) (by decide)
  have z4 : (nI k = 4) = (k = 4) := nI_lit (j := 4) (by omega) (by decide)
  unfold f_N_isAlike pv
  simp only [ck_nI hi (by decide), nIc (show i < 2 ^ 31 by omega), e1, e2, nx_e, z1, z2, z3, z4]
  by_cases k1 : k = 1
  · have d := f1 k1
    have ab := w1 (by omega) (by omega) (by omega)
    have la := (hT.1.2.2.2 _ (show ppa P n < N by omega)).1.2.1
    have lb := (hT.1.2.2.2 _ (show ppb P n < N by omega)).1.2.1
    rw [if_pos k1, if_pos k1]
    unfold f_N_isOfDifferentNumbers
    rw [bd_eq (gC1 hT.1 hn (by omega)), bd_eq (gC2 hT.1 hn (by omega)), bd_eq (gCk hT.1 (show ppa P n < N by omega))]
    have za : (nI (pkd P (ppa P n)) = 0) = (pkd P (ppa P n) = 0) := nI_lit (j := 0) (by omega) (by decide)
    have zb : (nI (pkd P (ppb P n)) = 0) = (pkd P (ppb P n) = 0) := nI_lit (j := 0) (by omega) (by decide)
    have gk := fun k => bd_eq (k := k) (β := Int32 × CS) (gCk hT.1 (show ppb P n < N by omega))
    have gn := fun k => bd_eq (k := k) (β := Int32 × CS) (gCn hT.1 (show ppa P n < N by omega))
    have gm := fun k => bd_eq (k := k) (β := Int32 × CS) (gCn hT.1 (show ppb P n < N by omega))
    simp only [za, gk, zb, gn, gm]
    by_cases a : pkd P (ppa P n) = 0 <;> by_cases b : pkd P (ppb P n) = 0 <;> by_cases c : pnu P (ppa P n) = pnu P (ppb P n) <;> simp [a, b, c, bd, zr]
  rw [if_neg k1, if_neg k1]
  by_cases k2 : k = 2
  · have d := f2 k2
    have ab := w1 (by omega) (by omega) (by omega)
    rw [if_pos k2, if_pos k2, bd_eq (gC2 hT.1 hn (by omega)), bd_eq (isNC hT.1 (by omega) 0), zr01]
  rw [if_neg k2, if_neg k2]
  by_cases k3 : k = 3
  · have d := f3 k3
    have ab := w1 (by omega) (by omega) (by omega)
    have c := w2 d
    have l1 := (lst_spec hT.1.2.2.1 hN (show ppb P n < N by omega)).1
    have l2 := (lst_spec hT.1.2.2.1 hN (show ppc P n < N by omega)).1
    rw [if_pos k3, if_pos k3, bd_eq (gC2 hT.1 hn (by omega)), bd_eq (gC3 hT.1 hn d), bd_eq (areC (by omega) (by omega) (hT.2.2 _ (by omega)) (hT.2.2 _ (by omega)) (by omega) (by omega))]
    have e := lst_eq hT.1.2.2.1 hN (show ppb P n < N by omega) (show ppc P n < N by omega)
    by_cases h : AL P (ppb P n) (ppc P n) = true
    · rw [if_pos (e.mpr h), h]; rfl
    · have h' : AL P (ppb P n) (ppc P n) = false := by cases q : AL P (ppb P n) (ppc P n) <;> simp_all
      rw [if_neg (fun q => h (e.mp q)), h']; rfl
  rw [if_neg k3, if_neg k3]
  by_cases k4 : k = 4
  · have d := f4 k4
    have ab := w1 (by omega) (by omega) (by omega)
    have z5 : (nI (pkd P n) = 5) = (pkd P n = 5) := nI_lit (j := 5) (by omega) (by decide)
    rw [if_pos k4, if_pos k4, bd_eq (gC2 hT.1 hn (by omega)), bd_eq (gCk hT.1 hn)]
    simp only [z5]
    by_cases c : pkd P n = 5
    · rw [if_pos c, if_pos c, bd_eq (isNC hT.1 (by omega) 1), zr01]
    · rw [if_neg c, if_neg c, bd_eq (isNC hT.1 (by omega) 0), zr01]
  rw [if_neg k4, if_neg k4]
  rfl
theorem provedR {cs : CS} {rs : RS} {N i k n : Nat} {P : PT} (hT : RT cs rs N P) (hi : i < 100) (hk : k < 6) (hn : n < N) (hf : fitK k (pkd P n) = true) (e1 : r_kindM rs i = nI k) (e2 : r_nodeM rs i = nI n) : ∃ al, f_R_isProved (nI i) rs = some (if pv P k n then 1 else 0, S_r_alike rs al) := by
  have hN := hT.1.1
  have hR := hT.2.1
  obtain ⟨f1, f2, f3, f4⟩ := fit3 hf
  obtain ⟨w1, w2⟩ := hR.2.2.1 n hn
  have lt := (hR.2.2.2 n hn).1.2.1
  have z1 : (nI k = 1) = (k = 1) := nI_lit (j := 1) (by omega) (by decide)
  have z2 : (nI k = 2) = (k = 2) := nI_lit (j := 2) (by omega) (by decide)
  have z3 : (nI k = 3) = (k = 3) := nI_lit (j := 3) (by omega) (by decide)
  have z4 : (nI k = 4) = (k = 4) := nI_lit (j := 4) (by omega) (by decide)
  have same : ∀ r : Int32, some (r, rs) = some (r, S_r_alike rs (r_alike rs)) := fun r => by rw [Sg_r_alike]
  unfold f_R_isProved pv
  simp only [ck_nI hi (by decide), nIc (show i < 2 ^ 31 by omega), e1, e2, nx_e, z1, z2, z3, z4, ck_nI (show n < 64 by omega) (by decide), nIc (show n < 2 ^ 31 by omega)]
  by_cases k1 : k = 1
  · have d := f1 k1
    have ab := w1 (by omega) (by omega) (by omega)
    have la := (hR.2.2.2 _ (show ppa P n < N by omega)).1
    have lb := (hR.2.2.2 _ (show ppb P n < N by omega)).1
    have za : (nI (pkd P (ppa P n)) = 0) = (pkd P (ppa P n) = 0) := nI_lit (j := 0) (by omega) (by decide)
    have zb : (nI (pkd P (ppb P n)) = 0) = (pkd P (ppb P n) = 0) := nI_lit (j := 0) (by omega) (by decide)
    rw [if_pos k1, if_pos k1, ((hR.2.2.2 n hn).2.1 (by omega)).1, ((hR.2.2.2 n hn).2.1 (by omega)).2]
    simp only [ck_nI (show ppa P n < 64 by omega) (by decide), ck_nI (show ppb P n < 64 by omega) (by decide), nIc (show ppa P n < 2 ^ 31 by omega), nIc (show ppb P n < 2 ^ 31 by omega), la.1, lb.1, la.2.2.1, lb.2.2.1, za, zb]
    refine ⟨r_alike rs, ?_⟩
    rw [Sg_r_alike]
    by_cases a : pkd P (ppa P n) = 0 <;> by_cases b : pkd P (ppb P n) = 0 <;> by_cases c : pnu P (ppa P n) = pnu P (ppb P n) <;> simp [a, b, c]
  rw [if_neg k1, if_neg k1]
  by_cases k2 : k = 2
  · have d := f2 k2
    have ab := w1 (by omega) (by omega) (by omega)
    rw [if_pos k2, if_pos k2, ((hR.2.2.2 n hn).2.1 (by omega)).2, bd_eq (isNR hR (by omega) 0), zr01]
    exact ⟨_, same _⟩
  rw [if_neg k2, if_neg k2]
  by_cases k3 : k = 3
  · have d := f3 k3
    have ab := w1 (by omega) (by omega) (by omega)
    have c := w2 d
    obtain ⟨al, q1, q2⟩ := layR hR
    have pc : r_partC (S_r_alike rs al) n = nI (ppc P n) := (hR.2.2.2 n hn).2.2.2.1 d
    rw [if_pos k3, if_pos k3, ((hR.2.2.2 n hn).2.1 (by omega)).2, bd_eq q2, pc, idx64, ck_nI (by omega) (by decide), nIc (by omega), gS_r_alike, q1 _ _ (by omega) (by omega)]
    refine ⟨al, ?_⟩
    cases AL P (ppb P n) (ppc P n) <;> rfl
  rw [if_neg k3, if_neg k3]
  by_cases k4 : k = 4
  · have d := f4 k4
    have ab := w1 (by omega) (by omega) (by omega)
    have z5 : (nI (pkd P n) = 5) = (pkd P n = 5) := nI_lit (j := 5) (by omega) (by decide)
    rw [if_pos k4, if_pos k4, (hR.2.2.2 n hn).1.1, ((hR.2.2.2 n hn).2.1 (by omega)).2]
    simp only [z5]
    by_cases c : pkd P n = 5
    · rw [if_pos c, if_pos c, bd_eq (isNR hR (by omega) 1), zr01]
      exact ⟨_, same _⟩
    · rw [if_neg c, if_neg c, bd_eq (isNR hR (by omega) 0), zr01]
      exact ⟨_, same _⟩
  rw [if_neg k4, if_neg k4]
  exact ⟨_, same _⟩
