theorem choice_ev {st : CS} {N B : Nat} {P : PT} {fw : Int32 → CS → Option (Int64 × CS)} {E : Int64 → Nat → Nat × Int64 → EO} (hT : treeC st N P) {n : Nat} (hn : n < N) (hF : HW st n B fw E) (hE : okE B n E) (hcut : cutE B E n) {ch : Int32} {mu : Nat → Nat → Bool} (hch : ∀ k, k < 10 → (ch = nI k ↔ mu k n = true)) (hk8 : pkd P n = 8) (s : Nat) (m a : Int64) (hs : s ≤ B) :
    wP st (f_K_worthOfChoice fw (nI n) ch (ks st (nI s) 0 m a)) 0 a (an (E a (ppa P n) (s, m)) fun x s => E a (if decide (x ≠ 0) ≠ mu 3 n then ppb P n else ppc P n) s) := by
  have hk : 3 ≤ pkd P n := by omega
  have hab := (hT.2.2.1 n hn).1 (by omega) (by omega) (by omega)
  have hc := (hT.2.2.1 n hn).2 hk8
  have h1 := hF (ppa P n) hab.1 s m a 0 hs (Or.inl rfl)
  have o1 := hE a (ppa P n) (s, m) hab.1 hs
  unfold f_K_worthOfChoice
  rw [bd_eq (g_first hT hn hk _ _ _ _)]
  generalize E a (ppa P n) (s, m) = x1 at h1 o1 ⊢
  cases e1 : x1.1 with
  | none =>
    obtain ⟨r1, g1⟩ := wP_none e1 h1
    have e2 := o1.2.2.1 e1
    rw [an_none e1, bd_eq g1, e2]
    have f42 : ∀ s0, ∃ r, f_K_worthOfChoice_42 fw (nI n) s0 (ks st (nI B) 1 x1.2.2 a) = some (r, ks st (nI B) 1 x1.2.2 a) := by
      intro s0
      unfold f_K_worthOfChoice_42
      obtain ⟨r2, g2⟩ := HW_cut hF hcut hab.2 x1.2.2 a
      obtain ⟨r3, g3⟩ := HW_cut hF hcut hc x1.2.2 a
      split
      · rw [bd_eq (g_third hT hn hk8 _ _ _ _), bd_eq g3]; exact ⟨_, rfl⟩
      · rw [bd_eq (g_second hT hn hk _ _ _ _), bd_eq g2]; exact ⟨_, rfl⟩
    have f22 : ∀ s0, ∃ r, f_K_worthOfChoice_22 fw (nI n) ch s0 (ks st (nI B) 1 x1.2.2 a) = some (r, ks st (nI B) 1 x1.2.2 a) := by
      intro s0
      unfold f_K_worthOfChoice_22
      repeat' split
      all_goals exact f42 _
    split
    · obtain ⟨r, hr⟩ := f22 0
      exact ⟨r, by rw [hr]; simp [e2], fun v hv => by simp at hv⟩
    · obtain ⟨r, hr⟩ := f22 1
      exact ⟨r, by rw [hr]; simp [e2], fun v hv => by simp at hv⟩
  | some x =>
    rw [an_some e1, bd_eq (wP_some e1 h1)]
    have h2 := hF (ppb P n) hab.2 x1.2.1 x1.2.2 a 0 o1.2.1 (Or.inl rfl)
    have h3 := hF (ppc P n) hc x1.2.1 x1.2.2 a 0 o1.2.1 (Or.inl rfl)
    have h2 : wP st (fw (nI (ppb P n)) (ks st (nI x1.2.1) 0 x1.2.2 a)) 0 a (E a (ppb P n) x1.2) := h2
    have h3 : wP st (fw (nI (ppc P n)) (ks st (nI x1.2.1) 0 x1.2.2 a)) 0 a (E a (ppc P n) x1.2) := h3
    have t2 : wP st (f_K_worthOfChoice_42 fw (nI n) 1 (ks st (nI x1.2.1) 0 x1.2.2 a)) 0 a (E a (ppb P n) x1.2) := by
      obtain ⟨r, g, g2⟩ := h2
      unfold f_K_worthOfChoice_42
      rw [if_neg (by decide), bd_eq (g_second hT hn hk _ _ _ _), bd_eq g]
      exact ⟨r, rfl, g2⟩
    have t3 : wP st (f_K_worthOfChoice_42 fw (nI n) 0 (ks st (nI x1.2.1) 0 x1.2.2 a)) 0 a (E a (ppc P n) x1.2) := by
      obtain ⟨r, g, g2⟩ := h3
      unfold f_K_worthOfChoice_42
      rw [if_pos rfl, bd_eq (g_third hT hn hk8 _ _ _ _), bd_eq g]
      exact ⟨r, rfl, g2⟩
    have c3 : (ch = 3) = (mu 3 n = true) := propext (hch 3 (by omega))
    unfold f_K_worthOfChoice_22
    by_cases x0 : x = 0
    · rw [if_pos x0]
      cases hm : mu 3 n with
      | true =>
        have : ch = 3 := by rw [c3]; exact hm
        simp only [this, if_true, x0, ne_eq, not_true_eq_false, decide_false]
        simpa using t2
      | false =>
        have : ¬ ch = 3 := by rw [c3, hm]; simp
        simp only [this, if_false, x0, ne_eq, not_true_eq_false, decide_false]
        simpa using t3
    · rw [if_neg x0]
      cases hm : mu 3 n with
      | true =>
        have : ch = 3 := by rw [c3]; exact hm
        simp only [this, if_true, x0, ne_eq, not_false_eq_true, decide_true]
        simpa using t3
      | false =>
        have : ¬ ch = 3 := by rw [c3, hm]; simp
        simp only [this, if_false, x0, ne_eq, not_false_eq_true, decide_true]
        simpa using t2
theorem loop_cut {st : CS} {fw : Int32 → CS → Option (Int64 × CS)} (k : Nat) (n : Int32) (oa e : Int64) (t s : Int32) (m v : Int64) : ∃ r, f_K_worthOfLoop_27 fw (k + 1) n oa e t (ks st s 1 m v) = some (r, ks st s 1 m oa) := by
  rw [f_K_worthOfLoop_27]
  have h1 : ¬ cK_cut (ks st s 1 m v) = 0 := by show ¬ (1 : Int32) = 0; decide
  by_cases h : cK_bound (ks st s 1 m v) ≤ t
  · rw [if_pos h]
    exact ⟨v, by simp only [nx, ks_a]; rfl⟩
  · rw [if_neg h, if_neg h1]
    exact ⟨v, by simp only [nx, ks_a]; rfl⟩
theorem loop_ev {st : CS} {N B : Nat} {P : PT} {fw : Int32 → CS → Option (Int64 × CS)} {E : Int64 → Nat → Nat × Int64 → EO} (hT : treeC st N P) (hB : cK_bound st = nI B) (hB2 : B ≤ 5000) {n : Nat} (hn : n < N) (hF : HW st n B fw E) (hE : okE B n E) (hcut : cutE B E n) (hk : 3 ≤ pkd P n) (oa : Int64) :
    ∀ (k fuel t : Nat) (s : Nat) (m v e : Int64), t + k = B → k + 2 ≤ fuel → s ≤ B → B < s + 2 * k → wP st (f_K_worthOfLoop_27 fw fuel (nI n) oa e (nI t) (ks st (nI s) 0 m v)) 0 oa (evl E (ppa P n) (ppb P n) k v e (s, m)) := by
  have hlt : pkd P n < 10 := (hT.2.2.2 n hn).1.2.1
  have hab := (hT.2.2.1 n hn).1 (by omega) (by omega) (by omega)
  intro k
  induction k with
  | zero => intro fuel t s m v e h1 h2 h3 h4; omega
  | succ k ih =>
    intro fuel t s m v e h1 h2 h3 h4
    obtain ⟨fuel, rfl⟩ : ∃ f, fuel = f + 1 := ⟨fuel - 1, by omega⟩
    rw [f_K_worthOfLoop_27, evl]
    have b1 : ¬ cK_bound (ks st (nI s) 0 m v) ≤ nI t := by
      show ¬ cK_bound st ≤ nI t
      rw [hB]
      exact nI_ge (by omega) (by omega)
    have b2 : cK_cut (ks st (nI s) 0 m v) = 0 := rfl
    rw [if_neg b1, if_pos b2]
    by_cases hc : v < e
    · have hc' : ¬ e ≤ cK_acc (ks st (nI s) 0 m v) := by
        show ¬ e ≤ v
        exact Int64.not_le.mpr hc
      rw [if_pos hc, if_neg hc', bd_eq (g_second hT hn hk _ _ _ _)]
      have q1 := hF (ppb P n) hab.2 s m v 0 h3 (Or.inl rfl)
      have o1 := hE v (ppb P n) (s, m) hab.2 h3
      generalize E v (ppb P n) (s, m) = x1 at q1 o1 ⊢
      cases e1 : x1.1 with
      | none =>
        obtain ⟨r1, g1⟩ := wP_none e1 q1
        have e2 := o1.2.2.1 e1
        rw [an_none e1, bd_eq g1, e2]
        simp only [nx, ks_a]
        rw [bd_eq (g_first hT hn hk _ _ _ _)]
        obtain ⟨r2, g2⟩ := HW_cut hF hcut hab.1 x1.2.2 r1
        rw [bd_eq g2]
        obtain ⟨f2, rfl⟩ : ∃ f, fuel = f + 1 := ⟨fuel - 1, by omega⟩
        obtain ⟨r3, g3⟩ := loop_cut (st := st) (fw := fw) f2 (nI n) oa r2 (nI t + 1) (nI B) x1.2.2 r1
        exact ⟨r3, by rw [g3]; simp [e2], fun w hw => by simp at hw⟩
      | some v1 =>
        rw [an_some e1, bd_eq (wP_some e1 q1)]
        simp only [nx, ks_a]
        rw [bd_eq (g_first hT hn hk _ _ _ _)]
        have q2 := hF (ppa P n) hab.1 x1.2.1 x1.2.2 v1 0 o1.2.1 (Or.inl rfl)
        have o2 := hE v1 (ppa P n) x1.2 hab.1 o1.2.1
        have q2 : wP st (fw (nI (ppa P n)) (ks st (nI x1.2.1) 0 x1.2.2 v1)) 0 v1 (E v1 (ppa P n) x1.2) := q2
        have l1 := o1.1 v1 e1
        generalize E v1 (ppa P n) x1.2 = x2 at q2 o2 ⊢
        cases e2 : x2.1 with
        | none =>
          obtain ⟨r2, g2⟩ := wP_none e2 q2
          rw [an_none e2, bd_eq g2]
          obtain ⟨f2, rfl⟩ : ∃ f, fuel = f + 1 := ⟨fuel - 1, by omega⟩
          obtain ⟨r3, g3⟩ := loop_cut (st := st) (fw := fw) f2 (nI n) oa r2 (nI t + 1) (nI x2.2.1) x2.2.2 v1
          exact ⟨r3, by rw [g3]; simp, fun w hw => by simp at hw⟩
        | some e' =>
          have l2 := o2.1 e' e2
          rw [an_some e2, bd_eq (wP_some e2 q2), nI_1]
          exact ih fuel (t + 1) x2.2.1 x2.2.2 v1 e' (by omega) (by omega) o2.2.1 (by simp only at l1; omega)
    · have hc' : e ≤ cK_acc (ks st (nI s) 0 m v) := by
        show e ≤ v
        exact Int64.not_lt.mp hc
      rw [if_neg hc, if_pos hc']
      exact ⟨v, by simp only [nx, ks_a]; rfl, fun w hw => by simpa using hw⟩
theorem wloop_ev {st : CS} {N B : Nat} {P : PT} {fw : Int32 → CS → Option (Int64 × CS)} {E : Int64 → Nat → Nat × Int64 → EO} (hT : treeC st N P) (hB : cK_bound st = nI B) (hB2 : B ≤ 5000) {n : Nat} (hn : n < N) (hF : HW st n B fw E) (hE : okE B n E) (hcut : cutE B E n) (hk9 : pkd P n = 9) (s : Nat) (m a : Int64) (hs : s ≤ B) (hs1 : 1 ≤ s) :
    wP st (f_K_worthOfLoop fw (nI n) (ks st (nI s) 0 m a)) 0 a (an (E 0 (ppa P n) (s, m)) fun e s => evl E (ppa P n) (ppb P n) B 0 e s) := by
  have hk : 3 ≤ pkd P n := by omega
  have hab := (hT.2.2.1 n hn).1 (by omega) (by omega) (by omega)
  have hFU : FU = 100000 := FU_eq
  unfold f_K_worthOfLoop
  simp only [nx, ks_a]
  rw [bd_eq (g_first hT hn hk _ _ _ _)]
  have q1 := hF (ppa P n) hab.1 s m 0 0 hs (Or.inl rfl)
  have o1 := hE 0 (ppa P n) (s, m) hab.1 hs
  generalize E 0 (ppa P n) (s, m) = x1 at q1 o1 ⊢
  show wP st (bd (fw (nI (ppa P n)) (ks st (nI s) 0 m 0)) fun r30 st29 => f_K_worthOfLoop_27 fw FU (nI n) a r30 0 st29) 0 a _
  cases e1 : x1.1 with
  | none =>
    obtain ⟨r1, g1⟩ := wP_none e1 q1
    rw [an_none e1, bd_eq g1]
    obtain ⟨r3, g3⟩ := loop_cut (st := st) (fw := fw) 99999 (nI n) a r1 0 (nI x1.2.1) x1.2.2 0
    exact ⟨r3, by rw [hFU, g3]; simp, fun w hw => by simp at hw⟩
  | some e =>
    rw [an_some e1, bd_eq (wP_some e1 q1)]
    have l1 := o1.1 e e1
    exact loop_ev hT hB hB2 hn hF hE hcut hk a B FU 0 x1.2.1 x1.2.2 0 e (by omega) (by omega) o1.2.1 (by omega)
theorem worthB_ev {st : CS} {N B : Nat} {P : PT} {fw : Int32 → CS → Option (Int64 × CS)} {E : Int64 → Nat → Nat × Int64 → EO} (hT : treeC st N P) (hB : cK_bound st = nI B) (hB2 : B ≤ 5000) {n : Nat} (hn : n < N) (hF : HW st n B fw E) (hE : okE B n E) (hcut : cutE B E n) (s : Nat) (m a : Int64) (c : Int32) (hs : s ≤ B) (hc : c = 0 ∨ (c = 1 ∧ s = B)) :
    wP st (f_K_worthB fw (nI n) (ks st (nI s) c m a)) c a (if B ≤ s then (none, (s, m)) else evb P (muO (cK_changeKind st) (cK_changedNode st)) (cK_input st) B E a n (s + 1, m ||| bm n)) := by
  have hN := hT.1
  unfold f_K_worthB
  by_cases hsB : B ≤ s
  · have h1 : ¬ cK_steps (ks st (nI s) c m a) < cK_bound (ks st (nI s) c m a) := by
      show ¬ nI s < cK_bound st
      rw [hB]
      exact nI_nlt hsB (by omega)
    rw [if_neg h1, if_pos hsB]
    simp only [nx, ks_c]
    exact ⟨0, by simp, fun v hv => by simp at hv⟩
  · have h1 : cK_steps (ks st (nI s) c m a) < cK_bound (ks st (nI s) c m a) := by
      show nI s < cK_bound st
      rw [hB]
      exact nI_lt (by omega) (by omega)
    have hc0 : c = 0 := by
      rcases hc with h | ⟨_, h⟩
      · exact h
      · omega
    subst hc0
    rw [if_pos h1, if_neg hsB]
    have e1 : (nI s + 1 : Int32) = nI (s + 1) := nI_1 s
    have st1 : s_cK_steps (ks st (nI s) 0 m a) (cK_steps (ks st (nI s) 0 m a) + 1) = ks st (nI (s + 1)) 0 m a := by
      rw [ks_s]
      show ks st (nI s + 1) 0 m a = _
      rw [e1]
    simp only [nx, st1]
    rw [bd_eq f_bit]
    have st2 : s_cK_covered (ks st (nI (s + 1)) 0 m a) (cK_covered (ks st (nI (s + 1)) 0 m a) ||| bm n) = ks st (nI (s + 1)) 0 (m ||| bm n) a := by
      rw [ks_m]
      rfl
    rw [st2]
    have hkd : f_T_kindOf (nI n) (ks st (nI (s + 1)) 0 (m ||| bm n) a) = some (nI (pkd P n), ks st (nI (s + 1)) 0 (m ||| bm n) a) := by
      unfold f_T_kindOf
      rw [ck_nI (by omega) (by decide), nIc (by omega)]
      show some (cT_kinds st n, _) = _
      rw [(hT.2.2.2 n hn).1.1]
    rw [bd_eq hkd]
    have hlt : pkd P n < 10 := (hT.2.2.2 n hn).1.2.1
    obtain ⟨ch, hch, hgo⟩ : ∃ ch, (∀ k, k < 10 → (ch = nI k ↔ muO (cK_changeKind st) (cK_changedNode st) k n = true)) ∧ (if nI n = cK_changedNode (ks st (nI (s + 1)) 0 (m ||| bm n) a) then f_K_worthB_66 fw (nI n) (nI (pkd P n)) (cK_changeKind (ks st (nI (s + 1)) 0 (m ||| bm n) a)) (ks st (nI (s + 1)) 0 (m ||| bm n) a) else f_K_worthB_66 fw (nI n) (nI (pkd P n)) (-1) (ks st (nI (s + 1)) 0 (m ||| bm n) a)) = f_K_worthB_66 fw (nI n) (nI (pkd P n)) ch (ks st (nI (s + 1)) 0 (m ||| bm n) a) := by
      by_cases hq : nI n = cK_changedNode st
      · refine ⟨cK_changeKind st, fun k hk => ?_, if_pos hq⟩
        simp only [muO, decide_eq_true_eq, hq.symm, true_and]
      · refine ⟨-1, fun k hk => ?_, if_neg hq⟩
        have h0 : ¬ (-1 : Int32) = nI k := by
          intro h
          have h2 := congrArg Int32.toInt h
          rw [nI_toInt (by omega)] at h2
          have h3 : (-1 : Int32).toInt = -1 := by decide
          omega
        have h4 : ¬ cK_changedNode st = nI n := fun h => hq h.symm
        simp only [muO, decide_eq_true_eq, h0, h4, false_and]
    rw [hgo]
    clear hgo
    generalize muO (cK_changeKind st) (cK_changedNode st) = mu at hch ⊢
    unfold f_K_worthB_66 evb
    have z0 : (nI (pkd P n) = 0) = (pkd P n = 0) := nI_lit (j := 0) (by omega) (by decide)
    have z1 : (nI (pkd P n) = 1) = (pkd P n = 1) := nI_lit (j := 1) (by omega) (by decide)
    have z2 : (nI (pkd P n) = 2) = (pkd P n = 2) := nI_lit (j := 2) (by omega) (by decide)
    have z8 : (nI (pkd P n) = 8) = (pkd P n = 8) := nI_lit (j := 8) (by omega) (by decide)
    have z9 : (nI (pkd P n) = 9) = (pkd P n = 9) := nI_lit (j := 9) (by omega) (by decide)
    simp only [z0, z1, z2, z8, z9]
    have wrap : ∀ {fr : Option (Int64 × CS)} {x : EO}, wP st fr 0 a x → wP st (bd fr fun r st => some (r, st)) 0 a x := by
      intro fr x h
      obtain ⟨r, g1, g2⟩ := h
      exact ⟨r, by rw [bd_eq g1], g2⟩
    by_cases k0 : pkd P n = 0
    · rw [if_pos k0, if_pos k0]
      have hnum : f_T_numberOf (nI n) (ks st (nI (s + 1)) 0 (m ||| bm n) a) = some (pnu P n, ks st (nI (s + 1)) 0 (m ||| bm n) a) := by
        unfold f_T_numberOf
        rw [ck_nI (by omega) (by decide), nIc (by omega)]
        show some (cT_numbers st n, _) = _
        rw [(hT.2.2.2 n hn).1.2.2.1]
      have c0 : (ch = 0) = (mu 0 n = true) := propext (hch 0 (by omega))
      by_cases m0 : mu 0 n = true
      · rw [if_pos (by rw [c0]; exact m0), if_pos m0, bd_eq hnum]
        exact ⟨pnu P n + 1, by simp, fun v hv => by simpa using hv⟩
      · rw [if_neg (by rw [c0]; exact m0), if_neg m0, bd_eq hnum]
        exact ⟨pnu P n, by simp, fun v hv => by simpa using hv⟩
    rw [if_neg k0, if_neg k0]
    by_cases k1 : pkd P n = 1
    · rw [if_pos k1, if_pos k1]
      exact ⟨cK_input st, by simp; rfl, fun v hv => by simpa using hv⟩
    rw [if_neg k1, if_neg k1]
    by_cases k2 : pkd P n = 2
    · rw [if_pos k2, if_pos k2]
      exact ⟨a, by simp; rfl, fun v hv => by simpa using hv⟩
    rw [if_neg k2, if_neg k2]
    by_cases k8 : pkd P n = 8
    · rw [if_pos k8, if_pos k8]
      exact wrap (choice_ev hT hn hF hE hcut hch k8 (s + 1) (m ||| bm n) a (by omega))
    rw [if_neg k8, if_neg k8]
    by_cases k9 : pkd P n = 9
    · rw [if_pos k9, if_pos k9]
      exact wrap (wloop_ev hT hB hB2 hn hF hE hcut k9 (s + 1) (m ||| bm n) a (by omega) (by omega))
    rw [if_neg k9, if_neg k9]
    exact wrap (two_ev hT hn hF hE hcut hch (by omega) k8 k9 (s + 1) (m ||| bm n) a (by omega))
theorem ev_cut (P : PT) (mu : Nat → Nat → Bool) (inp : Int64) (B d : Nat) (a : Int64) (n : Nat) (m : Int64) : ev P mu inp B d a n (B, m) = (none, (B, m)) := by
  cases d with
  | zero => rfl
  | succ d => rw [ev, if_pos (Nat.le_refl B)]
/-- Worker.worth is ev -/
theorem worth_ev {st : CS} {N B : Nat} {P : PT} (hT : treeC st N P) (hB : cK_bound st = nI B) (hB2 : B ≤ 5000) : ∀ (d n : Nat), n < d → n < N → ∀ (s : Nat) (m a : Int64) (c : Int32), s ≤ B → (c = 0 ∨ (c = 1 ∧ s = B)) →
    wP st (f_K_worth d (nI n) (ks st (nI s) c m a)) c a (ev P (muO (cK_changeKind st) (cK_changedNode st)) (cK_input st) B d a n (s, m)) := by
  intro d
  induction d with
  | zero => intro n h; omega
  | succ d ih =>
    intro n hd hn s m a c hs hc
    rw [f_K_worth, ev]
    exact worthB_ev hT hB hB2 hn (fun n' h' s m a c hs hc => ih n' (by omega) (by omega) s m a c hs hc) (fun acc n' s h' hs => ev_ok hT.2.2.1 _ _ _ d acc n' s (by omega) (by omega) hs) (fun a n' m h' => ev_cut _ _ _ _ _ _ _ _) s m a c hs hc
