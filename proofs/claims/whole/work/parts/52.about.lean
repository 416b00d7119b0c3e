theorem dvs {lo hi B v : Nat} (hB : 0 < B) (h : lo < B) (e : v = lo + B * hi) : v / B = hi := by
  rw [e, Nat.add_mul_div_left _ _ hB, Nat.div_eq_of_lt h, Nat.zero_add]
theorem vl_cons (c : Nat) (l : List Nat) : vl (c :: l) = c + 256 * vl l := rfl
theorem vl_dv {p0 : Nat} {l : List Nat} (h0 : p0 ≤ 8) : vl (p0 :: l) / 256 = vl l := dvs (lo := p0) (by decide) (by omega) (vl_cons _ _)
theorem fo4 (p0 p1 p2 p3 p4 p5 p6 p7 : Nat) : vl [p0, p1, p2, p3, p4, p5, p6, p7] + vl [p1, p2, p3, p4, p5, p6, p7] = ((p0 + p1) + 256 * (p1 + p2)) + 65536 * ((p2 + p3) + 256 * (p3 + p4) + 65536 * ((p4 + p5) + 256 * (p5 + p6) + 65536 * ((p6 + p7) + 256 * p7))) := by
  simp only [vl_cons, show vl [] = 0 from rfl]; omega
theorem fo5 (p0 p1 p2 p3 p4 p5 p6 p7 : Nat) : (((p0 + p1) + 256 * (p1 + p2)) + 65536 * ((p2 + p3) + 256 * (p3 + p4) + 65536 * ((p4 + p5) + 256 * (p5 + p6) + 65536 * ((p6 + p7) + 256 * p7)))) + ((p2 + p3) + 256 * (p3 + p4) + 65536 * ((p4 + p5) + 256 * (p5 + p6) + 65536 * ((p6 + p7) + 256 * p7))) = ((p0 + p1 + p2 + p3) + 256 * (p1 + p2 + p3 + p4) + 65536 * ((p2 + p3 + p4 + p5) + 256 * (p3 + p4 + p5 + p6))) + 4294967296 * ((p4 + p5 + p6 + p7) + 256 * (p5 + p6 + p7) + 65536 * ((p6 + p7) + 256 * p7)) := by omega
theorem fo6 (p0 p1 p2 p3 p4 p5 p6 p7 : Nat) : (((p0 + p1 + p2 + p3) + 256 * (p1 + p2 + p3 + p4) + 65536 * ((p2 + p3 + p4 + p5) + 256 * (p3 + p4 + p5 + p6))) + 4294967296 * ((p4 + p5 + p6 + p7) + 256 * (p5 + p6 + p7) + 65536 * ((p6 + p7) + 256 * p7))) + ((p4 + p5 + p6 + p7) + 256 * (p5 + p6 + p7) + 65536 * ((p6 + p7) + 256 * p7)) = (p0 + p1 + p2 + p3 + p4 + p5 + p6 + p7) + 128 * (2 * (p1 + p2 + p3 + p4 + p5 + p6 + p7) + 512 * ((p2 + p3 + p4 + p5 + p6 + p7) + 256 * (p3 + p4 + p5 + p6 + p7)) + 33554432 * ((p4 + p5 + p6 + p7) + 256 * (p5 + p6 + p7) + 65536 * ((p6 + p7) + 256 * p7))) := by omega
theorem fl4 {a b c d e f g h : Nat} (ha : a ≤ 64) (hb : b ≤ 64) (hc : c ≤ 64) (hd : d ≤ 64) (he : e ≤ 64) (hf : f ≤ 64) (hg : g ≤ 64) (hh : h ≤ 64) : (a + 256 * b) + 65536 * (c + 256 * d + 65536 * (e + 256 * f + 65536 * (g + 256 * h))) < 2 ^ 64 := by omega
theorem fl5 {a b c d e f g h : Nat} (ha : a ≤ 64) (hb : b ≤ 64) (hc : c ≤ 64) (hd : d ≤ 64) (he : e ≤ 64) (hf : f ≤ 64) (hg : g ≤ 64) (hh : h ≤ 64) : (a + 256 * b + 65536 * (c + 256 * d)) + 4294967296 * (e + 256 * f + 65536 * (g + 256 * h)) < 2 ^ 64 := by omega
theorem fold8 {p0 p1 p2 p3 p4 p5 p6 p7 v4 v5 v6 : Nat} (h0 : p0 ≤ 8) (h1 : p1 ≤ 8) (h2 : p2 ≤ 8) (h3 : p3 ≤ 8) (h4 : p4 ≤ 8) (h5 : p5 ≤ 8) (h6 : p6 ≤ 8) (h7 : p7 ≤ 8)
    (e4 : v4 = vl [p0, p1, p2, p3, p4, p5, p6, p7] + vl [p0, p1, p2, p3, p4, p5, p6, p7] / 256) (e5 : v5 = v4 + v4 / 65536) (e6 : v6 = v5 + v5 / 4294967296) : v6 % 128 = p0 + p1 + p2 + p3 + p4 + p5 + p6 + p7 ∧ v4 < 2 ^ 64 ∧ v5 < 2 ^ 64 := by
  rw [vl_dv h0, fo4] at e4
  have k1 : (p0 + p1) + 256 * (p1 + p2) < 65536 := by clear e4 e5 e6; omega
  have k2 : (p0 + p1 + p2 + p3) + 256 * (p1 + p2 + p3 + p4) + 65536 * ((p2 + p3 + p4 + p5) + 256 * (p3 + p4 + p5 + p6)) < 4294967296 := by clear e4 e5 e6; omega
  have k3 : p0 + p1 + p2 + p3 + p4 + p5 + p6 + p7 < 128 := by clear e4 e5 e6 k1 k2; omega
  have l4 : v4 < 2 ^ 64 := by
    rw [e4]
    clear e4 e5 e6 k1 k2 k3
    exact fl4 (by omega) (by omega) (by omega) (by omega) (by omega) (by omega) (by omega) (by omega)
  have q4 := dvs (by decide) k1 e4
  rw [q4, e4, fo5] at e5
  have l5 : v5 < 2 ^ 64 := by
    rw [e5]
    clear e4 e5 e6 k1 k2 k3 q4 l4
    exact fl5 (by omega) (by omega) (by omega) (by omega) (by omega) (by omega) (by omega) (by omega)
  have q5 := dvs (by decide) k2 e5
  rw [q5, e5, fo6] at e6
  refine ⟨?_, l4, l5⟩
  rw [e6, Nat.add_mul_mod_self_left]
  exact Nat.mod_eq_of_lt k3
theorem vl_lt : ∀ l : List Nat, (∀ c ∈ l, c < 256) → vl l < 256 ^ l.length := by
  intro l
  induction l with
  | nil => intro _; decide
  | cons c l ih =>
    intro h
    have hc := h c (by simp)
    have i2 := ih (fun x hx => h x (by simp [hx]))
    rw [List.length_cons, Nat.pow_succ]
    show c + 256 * vl l < _
    omega
theorem vl_lt2 : ∀ l : List Nat, (∀ c ∈ l, c < 128) → 2 * vl l < 256 ^ l.length := by
  intro l
  induction l with
  | nil => intro _; decide
  | cons c l ih =>
    intro h
    have hc := h c (by simp)
    have i2 := ih (fun x hx => h x (by simp [hx]))
    rw [List.length_cons, Nat.pow_succ]
    show 2 * (c + 256 * vl l) < _
    omega
theorem vl_of : ∀ (k n : Nat), n < 256 ^ k → ∃ l : List Nat, (∀ c ∈ l, c < 256) ∧ l.length = k ∧ n = vl l := by
  intro k
  induction k with
  | zero => intro n h; exact ⟨[], by simp, rfl, by simp at h; exact h⟩
  | succ k ih =>
    intro n h
    rw [Nat.pow_succ] at h
    obtain ⟨l, h1, h2, h3⟩ := ih (n / 256) (by omega)
    refine ⟨n % 256 :: l, fun c hc => ?_, by rw [List.length_cons, h2], ?_⟩
    · rcases List.mem_cons.mp hc with q | q
      · omega
      · exact h1 c q
    · rw [vl_cons, ← h3]; omega
theorem tb_lN {n j : Nat} (hj : j < 64) : tb (lN n) j = n.testBit j := by
  unfold tb
  rw [wb_tb, BitVec.getLsbD_ofNat]
  simp [hj]
theorem km1 : (6148914691236517205 : Int64) = lN 6148914691236517205 := rfl
theorem km2 : (3689348814741910323 : Int64) = lN 3689348814741910323 := rfl
theorem km3 : (1085102592571150095 : Int64) = lN 1085102592571150095 := rfl
theorem sh1 {n : Nat} (hn : n < 2 ^ 64) : ((lN n).toUInt64 >>> ((1 : Int32).toInt64.toUInt64 &&& Int64.toUInt64 63)).toInt64 = lN (n / 2) := wb_shr (k := 1) hn (by decide)
theorem sh2 {n : Nat} (hn : n < 2 ^ 64) : ((lN n).toUInt64 >>> ((2 : Int32).toInt64.toUInt64 &&& Int64.toUInt64 63)).toInt64 = lN (n / 4) := wb_shr (k := 2) hn (by decide)
theorem sh4 {n : Nat} (hn : n < 2 ^ 64) : ((lN n).toUInt64 >>> ((4 : Int32).toInt64.toUInt64 &&& Int64.toUInt64 63)).toInt64 = lN (n / 16) := wb_shr (k := 4) hn (by decide)
theorem sh8 {n : Nat} (hn : n < 2 ^ 64) : ((lN n).toUInt64 >>> ((8 : Int32).toInt64.toUInt64 &&& Int64.toUInt64 63)).toInt64 = lN (n / 256) := wb_shr (k := 8) hn (by decide)
theorem sh16 {n : Nat} (hn : n < 2 ^ 64) : ((lN n).toUInt64 >>> ((16 : Int32).toInt64.toUInt64 &&& Int64.toUInt64 63)).toInt64 = lN (n / 65536) := wb_shr (k := 16) hn (by decide)
theorem sh32 {n : Nat} (hn : n < 2 ^ 64) : ((lN n).toUInt64 >>> ((32 : Int32).toInt64.toUInt64 &&& Int64.toUInt64 63)).toInt64 = lN (n / 4294967296) := wb_shr (k := 32) hn (by decide)
