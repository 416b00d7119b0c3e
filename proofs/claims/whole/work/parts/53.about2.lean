/-- the last three steps, on words -/
theorem bit456 {v3 R : Nat} (st : CS) (fo : (v3 + v3 / 256 + (v3 + v3 / 256) / 65536 + (v3 + v3 / 256 + (v3 + v3 / 256) / 65536) / 4294967296) % 128 = R ∧ v3 + v3 / 256 < 2 ^ 64 ∧ v3 + v3 / 256 + (v3 + v3 / 256) / 65536 < 2 ^ 64) (m v0 v1 v2 : Nat) (hm : v0 < 2 ^ 64) (b1 : v1 < 2 ^ 64) (b2 : 2 * v2 < 2 ^ 64)
    (a0 : ((v0 / 2) &&& 6148914691236517205) ≤ v0) (a1 : v0 - ((v0 / 2) &&& 6148914691236517205) = v1) (a2 : (v1 &&& 3689348814741910323) + ((v1 / 4) &&& 3689348814741910323) = v2) (a3 : (v2 + v2 / 16) &&& 1085102592571150095 = v3) : f_J_bitCount (lN v0) st = some (nI R, st) := by
  obtain ⟨f1, f2, f3⟩ := fo
  have h3 : v3 < 2 ^ 64 := Nat.lt_of_le_of_lt (Nat.le_add_right _ _) f2
  have y1 : v0 / 2 < 2 ^ 64 := Nat.lt_of_le_of_lt (Nat.div_le_self _ _) hm
  have y2 : v1 / 4 < 2 ^ 64 := Nat.lt_of_le_of_lt (Nat.div_le_self _ _) b1
  have y3 : v2 < 2 ^ 64 := by clear a0 a1 a2 a3 f1 f2 f3; omega
  have y4 : v2 + v2 / 16 < 2 ^ 64 := by clear a0 a1 a2 a3 f1 f2 f3; omega
  unfold f_J_bitCount
  rw [nx_e, sh1 hm, km1, wb_and y1 (by decide), lN_minus a0, a1]
  rw [nx_e, sh2 b1, km2, wb_and y2 (by decide), wb_and b1 (by decide), lN_plus, a2]
  rw [nx_e, sh4 y3, km3, lN_plus, wb_and y4 (by decide), a3]
  rw [nx_e, sh8 h3, lN_plus]
  rw [nx_e, sh16 f2, lN_plus]
  rw [nx_e, sh32 f3, lN_plus, lN_low, f1]
theorem bitC (m : Int64) (st : CS) : f_J_bitCount m st = some (nI (cnt (tb m) 64), st) := by
  obtain ⟨n, hn, rfl⟩ := wb_of m
  have ec : cnt (tb (lN n)) 64 = cnt n.testBit 64 := cnt_ext 64 (fun j hj => tb_lN hj)
  rw [ec]
  obtain ⟨l, hl, hlen, rfl⟩ := vl_of 8 n hn
  have hl1 : ∀ c ∈ l.map g1, c < 256 := by
    intro c hc
    obtain ⟨x, hx, rfl⟩ := List.mem_map.mp hc
    exact (by3 x (hl x hx)).2.1
  have hl2 : ∀ c ∈ (l.map g1).map g2, c % 16 ≤ 4 ∧ c / 16 ≤ 4 := by
    intro c hc
    obtain ⟨y, hy, rfl⟩ := List.mem_map.mp hc
    obtain ⟨x, hx, rfl⟩ := List.mem_map.mp hy
    exact ⟨(by3 x (hl x hx)).2.2.1, (by3 x (hl x hx)).2.2.2.1⟩
  have a1 := st1 l hl
  have a2 := st2 (l.map g1) hl1
  have a3 := st3 ((l.map g1).map g2) hl2
  have b1 := vl_lt (l.map g1) hl1
  have b2 := vl_lt2 ((l.map g1).map g2) (fun c hc => by have := hl2 c hc; omega)
  have cv := cnt_vl l hl
  rw [List.length_map, hlen] at a2 b1
  rw [List.length_map, List.length_map, hlen] at a3 b2
  rw [hlen] at a1 cv
  have m1 : mkm 85 8 = 6148914691236517205 := by decide +kernel
  have m2 : mkm 51 8 = 3689348814741910323 := by decide +kernel
  have m3 : mkm 15 8 = 1085102592571150095 := by decide +kernel
  rw [m1] at a1
  rw [m2] at a2
  rw [m3] at a3
  have k8 : ∀ c ∈ l, g3 (g2 (g1 c)) ≤ 8 := fun c hc => (by3 c (hl c hc)).2.2.2.2.1
  have kc : (l.map (fun c => cnt c.testBit 8)).sum = (((l.map g1).map g2).map g3).sum := by
    rw [List.map_map, List.map_map]
    congr 1
    exact List.map_congr_left (fun c hc => (by3 c (hl c hc)).2.2.2.2.2.symm)
  have cv2 : cnt (vl l).testBit 64 = (((l.map g1).map g2).map g3).sum := cv.trans kc
  refine bit456 st ?_ 0 (vl l) (vl (l.map g1)) (vl ((l.map g1).map g2)) hn b1 b2 a1.1 a1.2 a2 a3
  rw [cv2]
  clear a1 a2 a3 b1 b2 cv m1 m2 m3 kc cv2 hl1 hl2 ec hl hn
  match l, hlen, k8 with
  | [c0, c1, c2, c3, c4, c5, c6, c7], _, k8 =>
    have fo := fold8 (k8 c0 (by simp)) (k8 c1 (by simp)) (k8 c2 (by simp)) (k8 c3 (by simp)) (k8 c4 (by simp)) (k8 c5 (by simp)) (k8 c6 (by simp)) (k8 c7 (by simp)) rfl rfl rfl
    have es : (((([c0, c1, c2, c3, c4, c5, c6, c7] : List Nat).map g1).map g2).map g3).sum = g3 (g2 (g1 c0)) + g3 (g2 (g1 c1)) + g3 (g2 (g1 c2)) + g3 (g2 (g1 c3)) + g3 (g2 (g1 c4)) + g3 (g2 (g1 c5)) + g3 (g2 (g1 c6)) + g3 (g2 (g1 c7)) := by
      simp only [List.map_cons, List.map_nil, List.sum_cons, List.sum_nil]
      clear fo k8
      omega
    rw [es]
    exact fo
theorem about45 {rs : RS} {t : Nat} (ht : t < 24) {f : Nat → Bool} (hf : ∀ j, j < 64 → r_covers rs (64 * t + j) = if f j then 1 else 0) : ∀ (k fuel j : Nat), j + k = 64 → k < fuel → f_R_about_45 fuel (nI t) (nI (cnt f j)) (nI j) rs = some (nI (cnt f 64), rs) := by
  intro k
  induction k with
  | zero =>
    intro fuel j h1 h2
    obtain ⟨fuel, rfl⟩ : ∃ q, fuel = q + 1 := ⟨fuel - 1, by omega⟩
    have : j = 64 := by omega
    subst this
    rw [f_R_about_45, if_pos (by decide)]
  | succ k ih =>
    intro fuel j h1 h2
    obtain ⟨fuel, rfl⟩ : ∃ q, fuel = q + 1 := ⟨fuel - 1, by omega⟩
    have l64 : ¬ (64 : Int32) ≤ nI j := nI_ge (b := 64) (by omega) (by decide)
    have key := ih fuel (j + 1) (by omega) (by omega)
    have es : cnt f (j + 1) = cnt f j + if f j then 1 else 0 := rfl
    have e0 : (nI (cnt f j) : Int32) + 0 = nI (cnt f j) := Int32.add_zero _
    rw [f_R_about_45, if_neg l64, idx64, ck_nI (by omega) (by decide), nIc (by omega), hf j (by omega), ite01]
    simp only [nx_e, nI_1, e0]
    by_cases c : f j = true
    · rw [if_pos c] at es ⊢
      rw [es] at key
      exact key
    · rw [if_neg c] at es ⊢
      rw [es] at key
      exact key
theorem same_about (x1 x2 : Int32) : Same (f_M_about x1 x2) (f_R_about x1 x2) := by
  intro cs rs ⟨N, P, tn, mn, sn, hT, hU, hM, hD, hK⟩
  have htn := hU.1
  have hFU := FU_eq
  have keep : Rel cs rs := ⟨N, P, tn, mn, sn, hT, hU, hM, hD, hK⟩
  unfold f_M_about f_R_about
  rw [bd_eq (hasU hU.2.1 (by omega) x1), ite01, bd_eq (isTestR hU.2.2.1 (by omega) x1), ite01]
  by_cases c : iN x1 tn = true
  · rw [if_pos c, if_pos c]
    obtain ⟨t, ht, rfl⟩ := iN_of c (by omega)
    obtain ⟨r, inp, w, g1, -, -, -, ⟨g5, g5'⟩, ⟨g6, g6'⟩, g7, g8⟩ := hU.2.2.2 t ht
    have hs1 : f_U_stateOf (nI t) cs = some (r_passes rs t, cs) := by unfold f_U_stateOf; rw [ck_nI (by omega) (by decide), nIc (by omega), g5, g5']
    have hs2 : f_U_stepsOf (nI t) cs = some (r_stepsOf rs t, cs) := by unfold f_U_stepsOf; rw [ck_nI (by omega) (by decide), nIc (by omega), g6, g6']
    have hs3 : f_U_coveredBy (nI t) cs = some (cU_covered cs t, cs) := by unfold f_U_coveredBy; rw [ck_nI (by omega) (by decide), nIc (by omega)]
    rw [bd_eq hs1, bd_eq hs2, bd_eq hs3, bd_eq (bitC _ _), ck_nI (by omega) (by decide), ck_nI (by omega) (by decide), nIc (by omega)]
    have ab := about45 (rs := rs) (t := t) (by omega) (f := tb (cU_covered cs t)) (fun j hj => by rw [g7]; exact g8 j hj) 64 FU 0 (by omega) (by omega)
    rw [show cnt (tb (cU_covered cs t)) 0 = 0 from rfl, nI_0] at ab
    rw [ab]
    by_cases e0 : x2 = 0
    · rw [if_pos e0, if_pos e0]; exact ⟨_, _, _, rfl, rfl, keep⟩
    rw [if_neg e0, if_neg e0]
    by_cases e1 : x2 = 1
    · rw [if_pos e1, if_pos e1]; exact ⟨_, _, _, rfl, rfl, keep⟩
    rw [if_neg e1, if_neg e1]
    by_cases e2 : x2 = 2
    · rw [if_pos e2, if_pos e2]; exact ⟨_, _, _, rfl, rfl, keep⟩
    rw [if_neg e2, if_neg e2]
    exact ⟨_, _, _, rfl, rfl, keep⟩
  · rw [if_neg c, if_neg c]
    exact ⟨_, _, _, rfl, rfl, keep⟩
