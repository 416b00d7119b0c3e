theorem nodeC {cs : CS} {i n : Nat} (hi : i < 100) (h : cN_nodes cs i = nI n) : f_N_nodeOf (nI i) cs = some (nI n, cs) := by
  unfold f_N_nodeOf
  rw [ck_nI hi (by decide), nIc (by omega), h]
theorem kindOfC {cs : CS} {i k : Nat} (hi : i < 100) (h : cN_kinds cs i = nI k) : f_N_kindOf (nI i) cs = some (nI k, cs) := by
  unfold f_N_kindOf
  rw [ck_nI hi (by decide), nIc (by omega), h]
theorem atC {cs : CS} {z : Nat} (h : cG_size cs = nI z) (hz : z ≤ 24) (x : Int32) : f_G_at x cs = some (if iN x z then cG_line cs x.toNatClampNeg else -1, cs) := by
  unfold f_G_at
  rw [h]
  have a := lt0_iff x
  have b := leN_iff x (N := z) (by omega)
  by_cases c1 : x < 0
  · rw [if_pos c1, if_neg (by have := a.mp c1; simp [iN]; omega)]
  · rw [if_neg c1]
    have c1' : ¬ x.toInt < 0 := fun h => c1 (a.mpr h)
    by_cases c2 : nI z ≤ x
    · rw [if_pos c2, if_neg (by have := b.mp c2; simp [iN]; omega)]
    · have c2' : ¬ (z : Int) ≤ x.toInt := fun h => c2 (b.mpr h)
      have c3 : iN x z = true := by unfold iN; exact decide_eq_true ⟨by omega, by omega⟩
      rw [if_neg c2, if_pos c3]
      obtain ⟨j, hj, rfl⟩ := iN_of c3 (by omega)
      rw [ck_nI (by omega) (by decide)]
theorem same_order (x1 x2 : Int32) : Same (f_M_order x1 x2) (f_R_order x1 x2) := by
  intro cs rs ⟨N, P, tn, mn, sn, hT, hU, hM, hD, hK⟩
  have hm := hM.1
  have htn := hU.1
  have keep : Rel cs rs := ⟨N, P, tn, mn, sn, hT, hU, hM, hD, hK⟩
  unfold f_M_order f_R_order
  rw [bd_eq (hasN hM.2.1 (by omega) x1), ite01, bd_eq (isMutantR hM.2.2.1 (by omega) x1), ite01]
  by_cases c : iN x1 mn = true
  · rw [if_pos c, if_pos c]
    obtain ⟨i, hi, rfl⟩ := iN_of c (by omega)
    obtain ⟨kk, n, ⟨g1, g2, g3⟩, ⟨g4, g4'⟩, ⟨g5, g5'⟩, g6, g7, g8⟩ := hM.2.2.2.1 i hi
    obtain ⟨w, f, g, q1, q2⟩ := gathC hT hU g2
    obtain ⟨w', f', p1, p2⟩ := layListR (i := i) hT hU g2 (by omega) g5'
    have hl := BK_len (S := tS cs n) (D := tE rs P n) tn 64
    rw [bd_eq (nodeC (by omega) g5), bd_eq q2, bd_eq p2]
    generalize BK (tS cs n) (tE rs P n) tn 64 = L at q1 p1 hl ⊢
    have ec : cG_size (gs cs w f g (nI L.length)) = nI L.length := rfl
    have er : r_listed (hs rs w' f' (nI L.length)) = nI L.length := rfl
    rw [bd_eq (atC ec (by omega) x2), er, bd_eq (inR0 _ (by omega)), ite01, iL_i]
    by_cases d : iN x2 L.length = true
    · rw [if_pos d, if_pos d]
      obtain ⟨j, hj, rfl⟩ := iN_of d (by omega)
      have el : L[j]? = some L[j] := List.getElem?_eq_getElem hj
      have e1 : cG_line (gs cs w f g (nI L.length)) j = nI L[j] := q1 j _ el
      have e2 : r_list (hs rs w' f' (nI L.length)) j = nI L[j] := p1 j _ el
      rw [ck_nI (by omega) (by decide), nIc (by omega), e1, e2]
      exact ⟨_, _, _, rfl, rfl, N, P, tn, mn, sn, hT, hU, hM, hD, hK⟩
    · rw [if_neg d, if_neg d]
      exact ⟨_, _, _, rfl, rfl, N, P, tn, mn, sn, hT, hU, hM, hD, hK⟩
  · rw [if_neg c, if_neg c]
    exact ⟨_, _, _, rfl, rfl, keep⟩
