/-! numbers and bits, as the pure functions use them -/
theorem bd_eq {α σ β : Type} {x : Option (α × σ)} {k : α → σ → Option β} {a : α} {s : σ} (h : x = some (a, s)) : bd x k = k a s := by rw [h]; rfl
theorem ck_nI {β : Type} {i n : Nat} {k : Option β} (h : i < n) (hn : n < 2 ^ 31) : ck (nI i) n k = k := ck_in (vp_in_nI h hn)
theorem nIc {n : Nat} (h : n < 2 ^ 31) : (nI n).toNatClampNeg = n := nI_clamp h
/-- the bit of a node, as the class makes it -/
def bm (n : Nat) : Int64 := (1 : Int64) <<< ((nI n).toInt64 &&& 63)
def tb (m : Int64) (j : Nat) : Bool := m.toBitVec.getLsbD j
theorem bm_tp : ∀ n, n < 64 → (bm n).toBitVec = BitVec.twoPow 64 n := by decide +kernel
theorem tb_bm {n j : Nat} (hn : n < 64) : tb (bm n) j = decide (j = n) := by
  unfold tb
  rw [bm_tp n hn, BitVec.getLsbD_twoPow]
  by_cases h : n = j
  · subst h; simp [hn]
  · have : ¬ j = n := fun e => h e.symm
    simp [h, this]
theorem tb_or (a b : Int64) (j : Nat) : tb (a ||| b) j = (tb a j || tb b j) := by
  unfold tb
  rw [Int64.toBitVec_or, BitVec.getLsbD_or]
theorem tb_and (a b : Int64) (j : Nat) : tb (a &&& b) j = (tb a j && tb b j) := by
  unfold tb
  rw [Int64.toBitVec_and, BitVec.getLsbD_and]
theorem tb_0 (j : Nat) : tb 0 j = false := by
  unfold tb
  simp
theorem tb_ext {a b : Int64} (h : ∀ j, j < 64 → tb a j = tb b j) : a = b := by
  apply Int64.toBitVec_inj.mp
  apply BitVec.eq_of_getLsbD_eq
  intro i hi
  exact h i hi
theorem and_bm {m : Int64} {n : Nat} (hn : n < 64) : (m &&& bm n) = 0 ↔ tb m n = false := by
  constructor
  · intro h
    have := congrArg (fun z => tb z n) h
    simp only [tb_and, tb_0, tb_bm hn, decide_true, Bool.and_true] at this
    exact this
  · intro h
    apply tb_ext
    intro j hj
    rw [tb_and, tb_0, tb_bm hn]
    by_cases e : j = n
    · subst e; simp [h]
    · simp [e]
theorem f_bit {n : Nat} {st : CS} : f_M_bit (nI n) st = some (bm n, st) := rfl
