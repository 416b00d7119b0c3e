/-! counting bits: bytes of a word -/
def vl : List Nat → Nat
  | [] => 0
  | c :: l => c + 256 * vl l
def mkm (m : Nat) : Nat → Nat
  | 0 => 0
  | k + 1 => m + 256 * mkm m k
def cnt (f : Nat → Bool) : Nat → Nat
  | 0 => 0
  | k + 1 => cnt f k + if f k then 1 else 0
theorem and_cat {a b a' b' : Nat} (ha : a < 256) (ha' : a' < 256) : (a + 256 * b) &&& (a' + 256 * b') = (a &&& a') + 256 * (b &&& b') := by
  have h1 : ((a + 256 * b) &&& (a' + 256 * b')) % 2 ^ 8 = (a &&& a') := by
    rw [Nat.and_mod_two_pow]
    congr 1 <;> omega
  have h2 : ((a + 256 * b) &&& (a' + 256 * b')) / 2 ^ 8 = (b &&& b') := by
    rw [Nat.and_div_two_pow]
    congr 1 <;> omega
  omega
def g1 (c : Nat) : Nat := c - ((c / 2) &&& 85)
def g2 (c : Nat) : Nat := (c &&& 51) + ((c / 4) &&& 51)
def g3 (c : Nat) : Nat := (c + c / 16) &&& 15
theorem by1 : ∀ c, c < 256 → ∀ b, b < 2 → (c / 2 + 128 * b) &&& 85 = (c / 2) &&& 85 := by decide +kernel
theorem by2 : ∀ c, c < 256 → ∀ b, b < 4 → (c / 4 + 64 * b) &&& 51 = (c / 4) &&& 51 := by decide +kernel
theorem by3 : ∀ c, c < 256 → ((c / 2) &&& 85) ≤ c ∧ g1 c < 256 ∧ g2 (g1 c) % 16 ≤ 4 ∧ g2 (g1 c) / 16 ≤ 4 ∧ g3 (g2 (g1 c)) ≤ 8 ∧ g3 (g2 (g1 c)) = cnt c.testBit 8 := by decide +kernel
theorem by4 : ∀ c, c < 256 → g2 c < 256 := by decide +kernel
theorem by5 : ∀ x, x < 256 → ∀ b, b < 16 → x + 16 * b < 256 → (x + 16 * b) &&& 15 = x &&& 15 := by decide +kernel
theorem st1 : ∀ l : List Nat, (∀ c ∈ l, c < 256) → ((vl l / 2) &&& mkm 85 l.length) ≤ vl l ∧ vl l - ((vl l / 2) &&& mkm 85 l.length) = vl (l.map g1) := by
  intro l
  induction l with
  | nil => intro _; exact ⟨by simp [mkm], rfl⟩
  | cons c l ih =>
    intro h
    have hc := h c (by simp)
    obtain ⟨i1, i2⟩ := ih (fun x hx => h x (by simp [hx]))
    have e : ((vl (c :: l) / 2) &&& mkm 85 (c :: l).length) = ((c / 2) &&& 85) + 256 * ((vl l / 2) &&& mkm 85 l.length) := by
      show ((c + 256 * vl l) / 2 &&& (85 + 256 * mkm 85 l.length)) = _
      have : (c + 256 * vl l) / 2 = (c / 2 + 128 * (vl l % 2)) + 256 * (vl l / 2) := by omega
      rw [this, and_cat (by omega) (by decide), by1 c hc _ (by omega)]
    have := (by3 c hc).1
    rw [e]
    show _ ≤ c + 256 * vl l ∧ c + 256 * vl l - _ = (c - ((c / 2) &&& 85)) + 256 * vl (l.map g1)
    rw [← i2]
    omega
theorem st2 : ∀ l : List Nat, (∀ c ∈ l, c < 256) → (vl l &&& mkm 51 l.length) + ((vl l / 4) &&& mkm 51 l.length) = vl (l.map g2) := by
  intro l
  induction l with
  | nil => intro _; rfl
  | cons c l ih =>
    intro h
    have hc := h c (by simp)
    have i2 := ih (fun x hx => h x (by simp [hx]))
    show (c + 256 * vl l &&& (51 + 256 * mkm 51 l.length)) + ((c + 256 * vl l) / 4 &&& (51 + 256 * mkm 51 l.length)) = ((c &&& 51) + ((c / 4) &&& 51)) + 256 * vl (l.map g2)
    have : (c + 256 * vl l) / 4 = (c / 4 + 64 * (vl l % 4)) + 256 * (vl l / 4) := by omega
    rw [this, and_cat hc (by decide), and_cat (by omega) (by decide), by2 c hc _ (by omega), ← i2]
    omega
theorem vl16 : ∀ l : List Nat, (∀ c ∈ l, c % 16 ≤ 4) → vl l % 16 ≤ 4 := by
  intro l h
  cases l with
  | nil => decide
  | cons c l =>
    have := h c (by simp)
    show (c + 256 * vl l) % 16 ≤ 4
    omega
theorem st3 : ∀ l : List Nat, (∀ c ∈ l, c % 16 ≤ 4 ∧ c / 16 ≤ 4) → (vl l + vl l / 16) &&& mkm 15 l.length = vl (l.map g3) := by
  intro l
  induction l with
  | nil => intro _; rfl
  | cons c l ih =>
    intro h
    have hc := h c (by simp)
    have i2 := ih (fun x hx => h x (by simp [hx]))
    have h16 := vl16 l (fun x hx => (h x (by simp [hx])).1)
    show (c + 256 * vl l + (c + 256 * vl l) / 16 &&& (15 + 256 * mkm 15 l.length)) = ((c + c / 16) &&& 15) + 256 * vl (l.map g3)
    have : c + 256 * vl l + (c + 256 * vl l) / 16 = ((c + c / 16) + 16 * (vl l % 16)) + 256 * (vl l + vl l / 16) := by omega
    rw [this, and_cat (by omega) (by decide), by5 (c + c / 16) (by omega) _ (by omega) (by omega), ← i2]
theorem cnt_add (f : Nat → Bool) (a : Nat) : ∀ k, cnt f (a + k) = cnt f a + cnt (fun j => f (a + j)) k := by
  intro k
  induction k with
  | zero => rfl
  | succ k ih =>
    show cnt f (a + k) + (if f (a + k) then 1 else 0) = cnt f a + (cnt (fun j => f (a + j)) k + if f (a + k) then 1 else 0)
    omega
theorem cnt_ext {f g : Nat → Bool} : ∀ k, (∀ j, j < k → f j = g j) → cnt f k = cnt g k := by
  intro k
  induction k with
  | zero => intro _; rfl
  | succ k ih =>
    intro h
    show cnt f k + (if f k then 1 else 0) = cnt g k + (if g k then 1 else 0)
    rw [ih (fun j hj => h j (by omega)), h k (by omega)]
theorem cnt_vl : ∀ l : List Nat, (∀ c ∈ l, c < 256) → cnt (vl l).testBit (8 * l.length) = (l.map (fun c => cnt c.testBit 8)).sum := by
  intro l
  induction l with
  | nil => intro _; rfl
  | cons c l ih =>
    intro h
    have hc := h c (by simp)
    have i2 := ih (fun x hx => h x (by simp [hx]))
    have e : ∀ j, (vl (c :: l)).testBit j = if j < 8 then c.testBit j else (vl l).testBit (j - 8) := by
      intro j
      show (c + 256 * vl l).testBit j = _
      rw [Nat.add_comm, show 256 = 2 ^ 8 by decide, Nat.testBit_two_pow_mul_add _ (show c < 2 ^ 8 by omega)]
    rw [List.length_cons, show 8 * (l.length + 1) = 8 + 8 * l.length by omega, cnt_add, List.map_cons, List.sum_cons, ← i2]
    congr 1
    · exact cnt_ext 8 (fun j hj => by rw [e j, if_pos hj])
    · exact cnt_ext _ (fun j hj => by rw [e (8 + j), if_neg (by omega), Nat.add_sub_cancel_left])
theorem lN_plus (a b : Nat) : lN a + lN b = lN (a + b) := wb_inj (by rw [Int64.toBitVec_add, wb_tb, wb_tb, wb_tb, BitVec.ofNat_add])
theorem lN_minus {a b : Nat} (h : b ≤ a) : lN a - lN b = lN (a - b) := by
  have : lN a = lN (a - b) + lN b := by rw [lN_plus]; congr 1; omega
  rw [this, Int64.add_sub_cancel]
theorem lN_low (x : Nat) : (lN x).toInt32 &&& 127 = nI (x % 128) := by
  apply Int32.toBitVec_inj.mp
  apply BitVec.eq_of_toNat_eq
  rw [Int32.toBitVec_and, Int64.toBitVec_toInt32, wb_tb, BitVec.signExtend_eq_setWidth_of_le _ (by decide), BitVec.toNat_and, BitVec.toNat_setWidth, BitVec.toNat_ofNat]
  show (x % 2 ^ 64 % 2 ^ 32 &&& 127) = (BitVec.ofNat 32 (x % 128)).toNat
  rw [BitVec.toNat_ofNat, show 127 = 2 ^ 7 - 1 by decide, Nat.and_two_pow_sub_one_eq_mod]
  omega
