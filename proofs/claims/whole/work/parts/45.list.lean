/-! tests by their distances: buckets, and putting a new one in -/
def bk (S : Nat → Bool) (D : Nat → Nat) (k d : Nat) : List Nat := (List.range k).filter (fun t => S t && D t == d)
def BK (S : Nat → Bool) (D : Nat → Nat) (k m : Nat) : List Nat := (List.range m).flatMap (bk S D k)
theorem bk_succ (S : Nat → Bool) (D : Nat → Nat) (k d : Nat) : bk S D (k + 1) d = bk S D k d ++ (if S k && D k == d then [k] else []) := by
  unfold bk
  rw [List.range_succ, List.filter_append]
  congr 1
  cases h : (S k && D k == d) <;> simp [h]
theorem BK_succ (S : Nat → Bool) (D : Nat → Nat) (k m : Nat) : BK S D k (m + 1) = BK S D k m ++ bk S D k m := by
  unfold BK
  rw [List.range_succ, List.flatMap_append]
  simp
theorem BK_no {S : Nat → Bool} {D : Nat → Nat} {k : Nat} (h : S k = false) : ∀ m, BK S D (k + 1) m = BK S D k m := by
  intro m
  induction m with
  | zero => rfl
  | succ m ih => rw [BK_succ, BK_succ, ih, bk_succ, h]; simp
theorem BK_lo {S : Nat → Bool} {D : Nat → Nat} {k : Nat} : ∀ m, m ≤ D k → BK S D (k + 1) m = BK S D k m := by
  intro m
  induction m with
  | zero => intro _; rfl
  | succ m ih =>
    intro h
    rw [BK_succ, BK_succ, ih (by omega), bk_succ]
    have : (S k && D k == m) = false := by
      have : ¬ D k = m := by omega
      simp [this]
    rw [this]; simp
theorem BK_mem {S : Nat → Bool} {D : Nat → Nat} {k m x : Nat} (h : x ∈ BK S D k m) : x < k ∧ S x = true ∧ D x < m := by
  unfold BK at h
  obtain ⟨d, hd, hx⟩ := List.mem_flatMap.mp h
  unfold bk at hx
  obtain ⟨h1, h2⟩ := List.mem_filter.mp hx
  simp only [Bool.and_eq_true, beq_iff_eq] at h2
  exact ⟨List.mem_range.mp h1, h2.1, by rw [h2.2]; exact List.mem_range.mp hd⟩
/-- a new one goes behind those that are no further, ahead of those that are -/
theorem BK_put {S : Nat → Bool} {D : Nat → Nat} {k : Nat} (hS : S k = true) : ∀ m, D k < m → ∃ X Y, BK S D k m = X ++ Y ∧ BK S D (k + 1) m = X ++ k :: Y ∧ (∀ x ∈ X, D x ≤ D k) ∧ (∀ y ∈ Y, D k < D y) := by
  intro m
  induction m with
  | zero => intro h; omega
  | succ m ih =>
    intro h
    by_cases e : D k = m
    · refine ⟨BK S D k (m + 1), [], by simp, ?_, fun x hx => ?_, fun y hy => by simp at hy⟩
      · rw [BK_succ, BK_succ, BK_lo m (by omega), bk_succ, hS, e]
        simp
      · have := BK_mem hx
        omega
    · obtain ⟨X, Y, a, b, c, d⟩ := ih (by omega)
      refine ⟨X, Y ++ bk S D k m, ?_, ?_, c, fun y hy => ?_⟩
      · rw [BK_succ, a, List.append_assoc]
      · rw [BK_succ, b, bk_succ]
        have : (S k && D k == m) = false := by simp [e]
        rw [this]
        simp
      · rcases List.mem_append.mp hy with q | q
        · exact d y q
        · unfold bk at q
          have := (List.mem_filter.mp q).2
          simp only [Bool.and_eq_true, beq_iff_eq] at this
          omega
theorem BK_len {S : Nat → Bool} {D : Nat → Nat} : ∀ k m, (BK S D k m).length ≤ k := by
  intro k
  induction k with
  | zero =>
    intro m
    induction m with
    | zero => simp [BK]
    | succ m ih => rw [BK_succ, List.length_append]; simp [bk]; exact List.length_eq_zero_iff.mp (Nat.le_zero.mp ih)
  | succ k ih =>
    intro m
    by_cases hS : S k = true
    · by_cases hd : D k < m
      · obtain ⟨X, Y, a, b, -, -⟩ := BK_put (S := S) (D := D) hS m hd
        have := ih m
        rw [a, List.length_append] at this
        rw [b, List.length_append, List.length_cons]
        omega
      · rw [BK_lo m (by omega)]
        have := ih m
        omega
    · rw [BK_no (by cases h : S k <;> simp_all)]
      have := ih m
      omega
/-- what an array holds of a list of numbers -/
def rep (f : Nat → Int32) (g : Nat → Nat) (L : List Nat) : Prop := ∀ (i x : Nat), L[i]? = some x → f i = nI (g x)
/-! what is covered is reached -/
def mkS (Rc : Nat → Prop) (s : Nat × Int64) (r : EO) : Prop := ∀ j, tb r.2.2 j = true → tb s.2 j = true ∨ Rc j
theorem mkS_an {Rc : Nat → Prop} {s : Nat × Int64} {x : EO} {f : Int64 → Nat × Int64 → EO} (hx : mkS Rc s x) (hf : ∀ v, mkS Rc x.2 (f v x.2)) : mkS Rc s (an x f) := by
  cases h : x.1 with
  | none => rw [an_none h]; exact hx
  | some v =>
    rw [an_some h]
    intro j hj
    rcases hf v j hj with q | q
    · exact hx j q
    · exact Or.inr q
theorem evl_mk {Rc : Nat → Prop} {E : Int64 → Nat → Nat × Int64 → EO} {a b : Nat} (ha : ∀ v s, mkS Rc s (E v a s)) (hb : ∀ v s, mkS Rc s (E v b s)) : ∀ (k : Nat) (v e : Int64) (s : Nat × Int64), mkS Rc s (evl E a b k v e s) := by
  intro k
  induction k with
  | zero => intro v e s j hj; exact Or.inl hj
  | succ k ih =>
    intro v e s
    rw [evl]
    split
    · exact mkS_an (hb v s) (fun v1 => mkS_an (ha v1 _) (fun e1 => ih v1 e1 _))
    · intro j hj; exact Or.inl hj
theorem ev_mk {P : PT} {N : Nat} (hN : N ≤ 64) (hP : wfP P N) {Rc : Nat → Prop} (hc : ∀ n, n < N → Rc n → (3 ≤ pkd P n → Rc (ppa P n) ∧ Rc (ppb P n)) ∧ (pkd P n = 8 → Rc (ppc P n))) (mu : Nat → Nat → Bool) (inp : Int64) (B : Nat) : ∀ (d : Nat) (acc : Int64) (n : Nat) (s : Nat × Int64), n < N → Rc n → mkS Rc s (ev P mu inp B d acc n s) := by
  intro d
  induction d with
  | zero => intro acc n s _ _ j hj; exact Or.inl hj
  | succ d ih =>
    intro acc n s hn hR
    obtain ⟨w1, w2⟩ := hP n hn
    obtain ⟨r1, r2⟩ := hc n hn hR
    rw [ev]
    split
    · intro j hj; exact Or.inl hj
    have base : ∀ r : EO, mkS Rc (s.1 + 1, s.2 ||| bm n) r → mkS Rc s r := by
      intro r h j hj
      rcases h j hj with q | q
      · rw [tb_or, Bool.or_eq_true, tb_bm (by omega), decide_eq_true_eq] at q
        rcases q with q | q
        · exact Or.inl q
        · rw [q]; exact Or.inr hR
      · exact Or.inr q
    apply base
    generalize ((s.1 + 1, s.2 ||| bm n) : Nat × Int64) = s'
    have idm : ∀ v, mkS Rc s' (some v, s') := fun v j hj => Or.inl hj
    unfold evb
    by_cases k0 : pkd P n = 0
    · rw [if_pos k0]; exact idm _
    rw [if_neg k0]
    by_cases k1 : pkd P n = 1
    · rw [if_pos k1]; exact idm _
    rw [if_neg k1]
    by_cases k2 : pkd P n = 2
    · rw [if_pos k2]; exact idm _
    rw [if_neg k2]
    have ab := w1 k0 k1 k2
    have rab := r1 (by omega)
    by_cases k8 : pkd P n = 8
    · have c := w2 k8
      have rc := r2 k8
      rw [if_pos k8]
      refine mkS_an (ih _ _ _ (by omega) rab.1) (fun v => ?_)
      split
      · exact ih _ _ _ (by omega) rab.2
      · exact ih _ _ _ (by omega) rc
    rw [if_neg k8]
    by_cases k9 : pkd P n = 9
    · rw [if_pos k9]
      exact mkS_an (ih _ _ _ (by omega) rab.1) (fun v => evl_mk (fun v s => ih _ _ _ (by omega) rab.1) (fun v s => ih _ _ _ (by omega) rab.2) _ _ _ _)
    rw [if_neg k9]
    refine mkS_an (ih _ _ _ (by omega) rab.1) (fun v => ?_)
    split
    · intro j hj; exact Or.inl hj
    · exact mkS_an (ih _ _ _ (by omega) rab.2) (fun v j hj => Or.inl hj)
theorem cov_far {P : PT} {N : Nat} (hN : N ≤ 64) (hP : wfP P N) {root : Nat} (hr : root < N) (mu : Nat → Nat → Bool) (inp : Int64) (B : Nat) {j : Nat} (h : tb (evr P mu inp B root).2.2 j = true) : ∃ d, d + j ≤ root ∧ FR P root j = nI d := by
  have key := ev_mk hN hP (Rc := fun n => n ≤ root ∧ ¬ FR P root n = -1) (fun n hn hR => by
    have := FR_parts hP hr hN hR.1 hR.2
    obtain ⟨w1, w2⟩ := hP n hn
    refine ⟨fun h3 => ?_, fun h8 => ?_⟩
    · have ab := w1 (by omega) (by omega) (by omega)
      exact ⟨⟨by omega, (this.1 h3).1⟩, ⟨by omega, (this.1 h3).2⟩⟩
    · have c := w2 h8
      exact ⟨by omega, this.2 h8⟩) mu inp B DP 0 root (0, 0) hr ⟨Nat.le_refl _, by
    rw [FR_at hP hr (Nat.le_refl _), Nat.sub_self]
    show ¬ w0 root root = -1
    unfold w0
    rw [if_pos rfl]
    decide⟩ j h
  rcases key with q | q
  · rw [tb_0] at q; cases q
  · rcases FR_ok hP hr j with z | ⟨d, a, b⟩
    · exact absurd z q.2
    · exact ⟨d, a, b⟩
