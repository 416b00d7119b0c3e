theorem bd_id {α σ : Type} (x : Option (α × σ)) : bd x (fun r s => some (r, s)) = x := by
  cases x with
  | none => rfl
  | some q => rfl
theorem partsR {k : Nat} (hk : k < 10) (st : RS) : f_R_parts (nI k) st = some (if k = 8 then 3 else if 3 ≤ k then 2 else 0, st) := by
  unfold f_R_parts
  have z8 : (nI k = 8) = (k = 8) := nI_lit (j := 8) (by omega) (by decide)
  by_cases l : 3 ≤ k
  · have : (3 : Int32) ≤ nI k := nI_le (a := 3) l (by omega)
    rw [if_pos this]
    simp only [z8]
    by_cases h8 : k = 8
    · simp [h8]
    · simp [h8, l]
  · have : ¬ (3 : Int32) ≤ nI k := nI_ge (b := 3) (by omega) (by decide)
    rw [if_neg this, if_neg (by omega), if_neg l]
theorem iL_of {x : Int64} {N : Nat} (h : iL x N = true) (hN : N < 2 ^ 31) : ∃ a, a < N ∧ x.toInt32 = nI a := by
  have h := of_decide_eq_true h
  have h0 : ¬ x < 0 := by
    rw [Int64.lt_iff_toInt_lt]
    have : (0 : Int64).toInt = 0 := by decide
    omega
  obtain ⟨k, hk, rfl⟩ := pk_lOf h0
  rw [pk_lT hk] at h
  exact ⟨k, by omega, lN_i k⟩
theorem earlyC {cs : CS} {N : Nat} (h : cT_size cs = nI N) (hN : N ≤ 64) (p : Int32) (x2 : Int64) (x4 x5 : Int32) : f_T_areEarlier p x2 x4 x5 cs = some (if iL x2 N = true ∧ iN x4 N = true ∧ (p < 3 ∨ iN x5 N = true) then 1 else 0, cs) := by
  unfold f_T_areEarlier
  have h0 : (0 : Int64).toInt = 0 := by decide
  have a : x2 < 0 ↔ x2.toInt < 0 := by rw [Int64.lt_iff_toInt_lt, h0]
  have b : (cT_size cs).toInt64 ≤ x2 ↔ (N : Int) ≤ x2.toInt := by rw [h, Int64.le_iff_toInt_le, Int32.toInt_toInt64, nI_toInt (by omega)]
  by_cases c1 : x2 < 0
  · have : ¬ iL x2 N = true := by unfold iL; have := a.mp c1; simp; omega
    rw [if_pos c1, if_neg (fun q => this q.1)]
  rw [if_neg c1]
  have c1' : ¬ x2.toInt < 0 := fun q => c1 (a.mpr q)
  by_cases c2 : (cT_size cs).toInt64 ≤ x2
  · have : ¬ iL x2 N = true := by unfold iL; have := b.mp c2; simp; omega
    rw [if_pos c2, if_neg (fun q => this q.1)]
  rw [if_neg c2]
  have c2' : ¬ (N : Int) ≤ x2.toInt := fun q => c2 (b.mpr q)
  have hL : iL x2 N = true := by unfold iL; simp; omega
  rw [bd_eq (hasC h (by omega) _), ite01]
  by_cases c3 : iN x4 N = true
  · rw [if_pos c3]
    by_cases c4 : p < 3
    · rw [if_pos c4, if_pos ⟨hL, c3, Or.inl c4⟩]
    · rw [if_neg c4, bd_eq (hasC h (by omega) _), ite01]
      by_cases c5 : iN x5 N = true
      · rw [if_pos c5, if_pos ⟨hL, c3, Or.inr c5⟩]
      · rw [if_neg c5, if_neg (fun q => q.2.2.elim c4 c5)]
  · rw [if_neg c3, if_neg (fun q => c3 q.2.1)]
theorem same_node (x1 : Int32) (x2 : Int64) (x4 x5 : Int32) : Same (f_M_node x1 x2 x4 x5) (f_R_node x1 x2 x4 x5) := by
  intro cs rs ⟨N, P, tn, mn, sn, hT, hU, hM, hD, hK⟩
  have hN := hT.1.1
  have keep : Rel cs rs := ⟨N, P, tn, mn, sn, hT, hU, hM, hD, hK⟩
  unfold f_M_node f_R_node f_T_grow
  rw [bd_id, hT.1.2.1, hT.2.1.2.1]
  by_cases h64 : N = 64
  · rw [if_pos (show (64 : Int32) ≤ nI N by rw [h64]; decide), if_pos (show nI N = 64 by rw [h64]; rfl)]
    exact ⟨_, _, _, rfl, rfl, keep⟩
  have l64 : ¬ (64 : Int32) ≤ nI N := nI_ge (b := 64) (by omega) (by decide)
  have e64 : ¬ nI N = (64 : Int32) := by
    have : (nI N = nI 64) = (N = 64) := nI_lit (by omega) (by decide)
    show ¬ nI N = nI 64
    rw [this]; exact h64
  rw [if_neg l64, if_neg e64, bd_eq (inR _ _ _), ite01]
  have h0 : (0 : Int64).toInt = 0 := by decide
  have h9 : (9 : Int64).toInt = 9 := by decide
  have h9' : (9 : Int32).toInt = 9 := by decide
  rw [h0, h9, Int32.toInt_toInt64]
  have a := lt0_iff x1
  have b : x1 ≤ 9 ↔ x1.toInt ≤ 9 := by rw [Int32.le_iff_toInt_le, h9']
  by_cases c : 0 ≤ x1.toInt ∧ x1.toInt ≤ 9
  · rw [if_pos (show decide (0 ≤ x1.toInt ∧ x1.toInt ≤ 9) = true from decide_eq_true c)]
    have c1 : ¬ x1 < 0 := fun q => by have := a.mp q; omega
    rw [if_neg c1, if_pos (b.mpr c.2)]
    obtain ⟨k, hk, rfl⟩ := iN_of (x := x1) (N := 10) (by unfold iN; exact decide_eq_true ⟨c.1, by omega⟩) (by decide)
    rw [bd_eq (pcC hk _), bd_eq (partsR hk _)]
    by_cases h3 : 3 ≤ k
    · -- with parts
      have key : ∀ p : Int32, (p = 2 ∧ ¬ k = 8 ∨ p = 3 ∧ k = 8) → ∃ r cs' rs', (if p ≤ 0 then f_T_grow_48 (nI k) x2 x4 x5 p cs else bd (f_T_areEarlier p x2 x4 x5 cs) fun r30 st29 => if r30 = 0 then some (-1, st29) else f_T_grow_48 (nI k) x2 x4 x5 p st29) = some (r, cs') ∧ (if p ≤ 0 then f_R_node_42 (nI k) x2 x4 x5 p rs else bd (f_R_isNode x2 rs) fun r36 st35 => if r36 = 0 then some (-1, st35) else f_R_node_42 (nI k) x2 x4 x5 p st35) = some (r, rs') ∧ Rel cs' rs' := by
        intro p hp
        have p0 : ¬ p ≤ 0 := by rcases hp with ⟨rfl, _⟩ | ⟨rfl, _⟩ <;> decide
        have p1 : ¬ p ≤ 1 := by rcases hp with ⟨rfl, _⟩ | ⟨rfl, _⟩ <;> decide
        rw [if_neg p0, if_neg p0, bd_eq (earlyC hT.1.2.1 hN _ _ _ _), bd_eq (isNodeR hT.2.1.2.1 (by omega) _), ite01]
        by_cases q1 : iL x2 N = true
        · rw [if_pos q1]
          unfold f_R_node_42
          rw [if_neg p1, bd_eq (isNodeR hT.2.1.2.1 (by omega) _), ite01, iL_i]
          by_cases q2 : iN x4 N = true
          · rw [if_pos q2]
            unfold f_R_node_58
            obtain ⟨ea, ha1, ha2⟩ := iL_of q1 (by omega)
            obtain ⟨eb, hb1, hb2⟩ := iN_of q2 (by omega)
            rcases hp with ⟨rfl, h8⟩ | ⟨rfl, h8⟩
            · rw [if_pos (show (2 : Int32) ≤ 2 by decide), if_pos (show iL x2 N = true ∧ iN x4 N = true ∧ ((2 : Int32) < 3 ∨ iN x5 N = true) from ⟨q1, q2, Or.inl (by decide)⟩), if_neg (show ¬ (1 : Int32) = 0 by decide), growN hT.1.2.1 (by omega) hk, nodeN hT.2.1.2.1 (by omega) hk _ _ _ _ (by decide)]
              obtain ⟨cs', w1, w2⟩ := node_fin (k := k) (v := if k = 0 then x2 else 0) (fa := if (2 : Int32) ≤ 0 then -1 else x2.toInt32) (fb := if (2 : Int32) ≤ 0 then -1 else x4) (fc := if (2 : Int32) ≤ 2 then -1 else x5) (a := ea) (b := eb) (c := 0) hT hU hM hD hK (by omega) hk ⟨fun _ => ⟨ha2, hb2, ha1, hb1⟩, fun _ => by omega, fun q => absurd q h8, fun _ => rfl, fun q => if_neg q⟩
              exact ⟨_, _, _, w1, rfl, w2⟩
            · rw [if_neg (show ¬ (3 : Int32) ≤ 2 by decide), bd_eq (isNodeR hT.2.1.2.1 (by omega) _), ite01, iL_i]
              by_cases q3 : iN x5 N = true
              · obtain ⟨ec, hc1, hc2⟩ := iN_of q3 (by omega)
                rw [if_pos q3, if_pos (show iL x2 N = true ∧ iN x4 N = true ∧ ((3 : Int32) < 3 ∨ iN x5 N = true) from ⟨q1, q2, Or.inr q3⟩), if_neg (show ¬ (1 : Int32) = 0 by decide), growN hT.1.2.1 (by omega) hk, nodeN hT.2.1.2.1 (by omega) hk _ _ _ _ (by decide)]
                obtain ⟨cs', w1, w2⟩ := node_fin (k := k) (v := if k = 0 then x2 else 0) (fa := if (3 : Int32) ≤ 0 then -1 else x2.toInt32) (fb := if (3 : Int32) ≤ 0 then -1 else x4) (fc := if (3 : Int32) ≤ 2 then -1 else x5) (a := ea) (b := eb) (c := ec) hT hU hM hD hK (by omega) hk ⟨fun _ => ⟨ha2, hb2, ha1, hb1⟩, fun _ => by omega, fun _ => ⟨hc2, hc1⟩, fun q => absurd h8 q, fun q => if_neg q⟩
                exact ⟨_, _, _, w1, rfl, w2⟩
              · rw [if_neg q3, if_neg (show ¬ (iL x2 N = true ∧ iN x4 N = true ∧ ((3 : Int32) < 3 ∨ iN x5 N = true)) from fun q => q.2.2.elim (by decide) q3), if_pos rfl]
                exact ⟨_, _, _, rfl, rfl, keep⟩
          · rw [if_neg q2, if_neg (show ¬ (iL x2 N = true ∧ iN x4 N = true ∧ (p < 3 ∨ iN x5 N = true)) from fun q => q2 q.2.1), if_pos rfl]
            exact ⟨_, _, _, rfl, rfl, keep⟩
        · rw [if_neg q1, if_neg (show ¬ (iL x2 N = true ∧ iN x4 N = true ∧ (p < 3 ∨ iN x5 N = true)) from fun q => q1 q.1), if_pos rfl]
          exact ⟨_, _, _, rfl, rfl, keep⟩
      by_cases h8 : k = 8
      · rw [if_pos h8]; exact key 3 (Or.inr ⟨rfl, h8⟩)
      · rw [if_neg h8, if_pos h3]; exact key 2 (Or.inl ⟨rfl, h8⟩)
    · rw [if_neg (show ¬ k = 8 by omega), if_neg h3, if_pos (show (0 : Int32) ≤ 0 by decide), if_pos (show (0 : Int32) ≤ 0 by decide)]
      unfold f_R_node_42 f_R_node_58
      rw [if_pos (show (0 : Int32) ≤ 1 by decide), if_pos (show (0 : Int32) ≤ 2 by decide), growN hT.1.2.1 (by omega) hk, nodeN hT.2.1.2.1 (by omega) hk _ _ _ _ (by decide)]
      obtain ⟨cs', w1, w2⟩ := node_fin (k := k) (v := if k = 0 then x2 else 0) (fa := if (0 : Int32) ≤ 0 then -1 else x2.toInt32) (fb := if (0 : Int32) ≤ 0 then -1 else x4) (fc := if (0 : Int32) ≤ 2 then -1 else x5) (a := 0) (b := 0) (c := 0) hT hU hM hD hK (by omega) hk ⟨fun q => absurd q h3, fun _ => ⟨rfl, rfl⟩, fun q => by omega, fun _ => rfl, fun q => if_neg q⟩
      exact ⟨_, _, _, w1, rfl, w2⟩
  · rw [if_neg (show ¬ decide (0 ≤ x1.toInt ∧ x1.toInt ≤ 9) = true by rw [decide_eq_true_eq]; exact c)]
    refine ⟨-1, cs, rs, ?_, rfl, keep⟩
    by_cases c1 : x1 < 0
    · rw [if_pos c1]
    · have c1' : ¬ x1.toInt < 0 := fun q => c1 (a.mpr q)
      rw [if_neg c1, if_neg (fun q => c ⟨by omega, b.mp q⟩)]
