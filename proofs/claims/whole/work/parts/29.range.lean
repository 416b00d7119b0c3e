/-! whether a number is one of the first N -/
def iN (x : Int32) (N : Nat) : Bool := decide (0 ≤ x.toInt ∧ x.toInt < N)
def iL (x : Int64) (N : Nat) : Bool := decide (0 ≤ x.toInt ∧ x.toInt < N)
theorem iN_of {x : Int32} {N : Nat} (h : iN x N = true) (hN : N < 2 ^ 31) : ∃ j, j < N ∧ x = nI j := vp_in_of (vp_in_iff.mpr (of_decide_eq_true h)) hN
theorem iN_nI {j N : Nat} (hN : N < 2 ^ 31) (h : j < N) : iN (nI j) N = true := by
  unfold iN
  rw [nI_toInt (by omega)]
  simp; omega
theorem iL_i (x : Int32) (N : Nat) : iL x.toInt64 N = iN x N := by
  unfold iL iN
  rw [Int32.toInt_toInt64]
theorem lt0_iff (x : Int32) : x < 0 ↔ x.toInt < 0 := by
  rw [Int32.lt_iff_toInt_lt, Int32.toInt_zero]
theorem leN_iff (x : Int32) {N : Nat} (hN : N < 2 ^ 31) : nI N ≤ x ↔ (N : Int) ≤ x.toInt := by
  rw [Int32.le_iff_toInt_le, nI_toInt hN]
theorem hasC {st : CS} {N : Nat} (h : cT_size st = nI N) (hN : N < 2 ^ 31) (x : Int32) : f_T_has x st = some (if iN x N then 1 else 0, st) := by
  unfold f_T_has iN
  rw [h]
  have a := lt0_iff x
  have b := leN_iff x hN
  by_cases c1 : x < 0
  · rw [if_pos c1, if_neg (by have := a.mp c1; simp; omega)]
  · rw [if_neg c1]
    have c1' : ¬ x.toInt < 0 := fun h => c1 (a.mpr h)
    by_cases c2 : nI N ≤ x
    · rw [if_pos c2, if_neg (by have := b.mp c2; simp; omega)]
    · have c2' : ¬ (N : Int) ≤ x.toInt := fun h => c2 (b.mpr h)
      rw [if_neg c2, if_pos (by simp; omega)]
theorem hasU {st : CS} {N : Nat} (h : cU_size st = nI N) (hN : N < 2 ^ 31) (x : Int32) : f_U_has x st = some (if iN x N then 1 else 0, st) := by
  unfold f_U_has iN
  rw [h]
  have a := lt0_iff x
  have b := leN_iff x hN
  by_cases c1 : x < 0
  · rw [if_pos c1, if_neg (by have := a.mp c1; simp; omega)]
  · rw [if_neg c1]
    have c1' : ¬ x.toInt < 0 := fun h => c1 (a.mpr h)
    by_cases c2 : nI N ≤ x
    · rw [if_pos c2, if_neg (by have := b.mp c2; simp; omega)]
    · have c2' : ¬ (N : Int) ≤ x.toInt := fun h => c2 (b.mpr h)
      rw [if_neg c2, if_pos (by simp; omega)]
theorem hasN {st : CS} {N : Nat} (h : cN_size st = nI N) (hN : N < 2 ^ 31) (x : Int32) : f_N_has x st = some (if iN x N then 1 else 0, st) := by
  unfold f_N_has iN
  rw [h]
  have a := lt0_iff x
  have b := leN_iff x hN
  by_cases c1 : x < 0
  · rw [if_pos c1, if_neg (by have := a.mp c1; simp; omega)]
  · rw [if_neg c1]
    have c1' : ¬ x.toInt < 0 := fun h => c1 (a.mpr h)
    by_cases c2 : nI N ≤ x
    · rw [if_pos c2, if_neg (by have := b.mp c2; simp; omega)]
    · have c2' : ¬ (N : Int) ≤ x.toInt := fun h => c2 (b.mpr h)
      rw [if_neg c2, if_pos (by simp; omega)]
theorem pred_toInt {N : Nat} (hN : N < 2 ^ 30) : ((nI N - 1).toInt64).toInt = (N : Int) - 1 := by
  rw [Int32.toInt_toInt64]
  exact pk_sub_toInt (b := 1) hN (by decide)
theorem inR {st : RS} (x lo hi : Int64) : f_R_in x lo hi st = some (if decide (lo.toInt ≤ x.toInt ∧ x.toInt ≤ hi.toInt) then 1 else 0, st) := by
  unfold f_R_in
  have a : x < lo ↔ x.toInt < lo.toInt := Int64.lt_iff_toInt_lt
  have b : hi < x ↔ hi.toInt < x.toInt := Int64.lt_iff_toInt_lt
  by_cases c1 : x < lo
  · rw [if_pos c1, if_neg (by have := a.mp c1; simp; omega)]
  · rw [if_neg c1]
    have c1' : ¬ x.toInt < lo.toInt := fun h => c1 (a.mpr h)
    by_cases c2 : hi < x
    · rw [if_pos c2, if_neg (by have := b.mp c2; simp; omega)]
    · have c2' : ¬ hi.toInt < x.toInt := fun h => c2 (b.mpr h)
      rw [if_neg c2, if_pos (by simp; omega)]
theorem inR0 {st : RS} (x : Int64) {N : Nat} (hN : N < 2 ^ 30) : f_R_in x 0 ((nI N - 1).toInt64) st = some (if iL x N then 1 else 0, st) := by
  rw [inR, pred_toInt hN]
  have h0 : (0 : Int64).toInt = 0 := by decide
  have e : decide ((0 : Int64).toInt ≤ x.toInt ∧ x.toInt ≤ (N : Int) - 1) = iL x N := by
    unfold iL
    rw [h0]
    exact decide_eq_decide.mpr ⟨fun h => ⟨h.1, by omega⟩, fun h => ⟨h.1, by omega⟩⟩
  rw [e]
theorem zr01 {σ : Type} (b : Bool) (s : σ) : zr (if b then (1 : Int32) else 0) s = some (if b then (1 : Int32) else 0, s) := by
  cases b <;> rfl
theorem isNodeR {st : RS} {N : Nat} (h : r_nodes st = nI N) (hN : N < 2 ^ 30) (x : Int64) : f_R_isNode x st = some (if iL x N then 1 else 0, st) := by
  unfold f_R_isNode
  rw [h, bd_eq (inR0 x hN), zr01]
theorem isTestR {st : RS} {N : Nat} (h : r_tests st = nI N) (hN : N < 2 ^ 30) (x : Int32) : f_R_isTest x st = some (if iN x N then 1 else 0, st) := by
  unfold f_R_isTest
  rw [h, bd_eq (inR0 x.toInt64 hN), zr01, iL_i]
theorem isMutantR {st : RS} {N : Nat} (h : r_mutants st = nI N) (hN : N < 2 ^ 30) (x : Int32) : f_R_isMutant x st = some (if iN x N then 1 else 0, st) := by
  unfold f_R_isMutant
  rw [h, bd_eq (inR0 x.toInt64 hN), zr01, iL_i]
theorem if01 (b : Bool) : ((if b then (1 : Int32) else 0) = 0) = (b = false) := by
  cases b <;> simp
theorem ite01 (b : Bool) {α : Type} (x y : α) : (if (if b then (1 : Int32) else 0) = 0 then x else y) = if b = true then y else x := by
  cases b <;> simp
