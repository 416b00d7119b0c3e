/-! the reference's list -/
def hs (rs : RS) (w f : Nat → Int32) (z : Int32) : RS := (upd rs.1 9 z, rs.2.1, va_up (va_up rs.2.2.1 17 w) 18 f, rs.2.2.2)
theorem hs_w (rs : RS) (w f w' : Nat → Int32) (z : Int32) : S_r_far (hs rs w f z) w' = hs rs w' f z := by
  simp only [S_r_far, hs]
  rw [vup_comm (k := 18) (j := 17) (by decide), bx_uu]
theorem hs_f (rs : RS) (w f : Nat → Int32) (z v : Int32) (k : Nat) : s_r_list (hs rs w f z) k v = hs rs w (upd f k v) z := by
  have e : (va_up (va_up rs.2.2.1 17 w) 18 f) 18 = f := rfl
  simp only [s_r_list, hs, e, bx_uu]
theorem hs_z (rs : RS) (w f : Nat → Int32) (z v : Int32) : s_r_listed (hs rs w f z) v = hs rs w f v := by
  simp only [s_r_listed, hs, upd_upd]
theorem hs_init (rs : RS) (z : Int32) : s_r_listed rs z = hs rs (r_far rs) (r_list rs) z := by
  have e2 : va_up (va_up rs.2.2.1 17 (rs.2.2.1 17)) 18 (rs.2.2.1 18) = rs.2.2.1 := by
    rw [vup_self, vup_self]
  simp only [s_r_listed, hs, r_far, r_list, e2]
theorem bk_mono {S : Nat → Bool} {D : Nat → Nat} {d : Nat} : ∀ (j t : Nat), (bk S D t d).length ≤ (bk S D (t + j) d).length := by
  intro j
  induction j with
  | zero => intro t; exact Nat.le_refl _
  | succ j ih =>
    intro t
    have := ih t
    rw [← Nat.add_assoc, bk_succ, List.length_append]
    omega
theorem rep_app {f : Nat → Int32} {g : Nat → Nat} {L : List Nat} {t : Nat} (h : rep f g L) : rep (upd f L.length (nI (g t))) g (L ++ [t]) := by
  intro i x hx
  by_cases c : i < L.length
  · rw [List.getElem?_append_left c] at hx
    rw [pk_un (by omega)]
    exact h i x hx
  · rw [List.getElem?_append_right (by omega)] at hx
    have : i = L.length := by
      have := (List.getElem?_eq_some_iff.mp hx).1
      simp at this
      omega
    subst this
    rw [Nat.sub_self] at hx
    cases hx
    exact pk_us
theorem lay23 {cs : CS} {rs : RS} {N tn n : Nat} {P : PT} (hT : RT cs rs N P) (hU : RU cs rs N P tn) (hn : n < N) (K : Int32 → Int32 → RS → Option (Unit × RS)) {d : Nat} (hd : d < 64) : ∀ (k fuel t : Nat) (w f : Nat → Int32), t + k = tn → k < fuel → rep f (fun x => x) (BK (tS cs n) (tE rs P n) tn d ++ bk (tS cs n) (tE rs P n) t d) →
    ∃ w' f', rep f' (fun x => x) (BK (tS cs n) (tE rs P n) tn (d + 1)) ∧ f_R_layList_23 K fuel (nI n) (nI d) (nI t) (hs rs w f (nI (BK (tS cs n) (tE rs P n) tn d ++ bk (tS cs n) (tE rs P n) t d).length)) = K (nI n) (nI (d + 1)) (hs rs w' f' (nI (BK (tS cs n) (tE rs P n) tn (d + 1)).length)) := by
  have hN := hT.1.1
  have htn := hU.1
  intro k
  induction k with
  | zero =>
    intro fuel t w f h1 h2 h3
    obtain ⟨fuel, rfl⟩ : ∃ q, fuel = q + 1 := ⟨fuel - 1, by omega⟩
    have : t = tn := by omega
    subst this
    rw [← BK_succ] at h3 ⊢
    refine ⟨w, f, h3, ?_⟩
    rw [f_R_layList_23, show r_tests (hs rs w f (nI (BK (tS cs n) (tE rs P n) t (d + 1)).length)) = nI t from hU.2.2.1, if_pos (nI_le (Nat.le_refl _) (by omega)), nx_e, nI_1]
  | succ k ih =>
    intro fuel t w f h1 h2 h3
    obtain ⟨fuel, rfl⟩ : ∃ q, fuel = q + 1 := ⟨fuel - 1, by omega⟩
    obtain ⟨r, inp, ww, g1, ⟨g2, g2'⟩, -, -, ⟨g5, g5'⟩, -, g7, g8⟩ := hU.2.2.2 t (by omega)
    have lb := bk_succ (tS cs n) (tE rs P n) t d
    have stay : (tS cs n t && tE rs P n t == d) = false → ∀ w, ∃ w' f', rep f' (fun x => x) (BK (tS cs n) (tE rs P n) tn (d + 1)) ∧ f_R_layList_23 K fuel (nI n) (nI d) (nI (t + 1)) (hs rs w f (nI (BK (tS cs n) (tE rs P n) tn d ++ bk (tS cs n) (tE rs P n) t d).length)) = K (nI n) (nI (d + 1)) (hs rs w' f' (nI (BK (tS cs n) (tE rs P n) tn (d + 1)).length)) := by
      intro q w
      rw [q] at lb
      have lb : bk (tS cs n) (tE rs P n) (t + 1) d = bk (tS cs n) (tE rs P n) t d := by rw [lb]; simp
      rw [← lb] at h3 ⊢
      exact ih fuel (t + 1) w f (by omega) (by omega) h3
    generalize hM : BK (tS cs n) (tE rs P n) tn d ++ bk (tS cs n) (tE rs P n) t d = M at h3 stay ⊢
    have e0 : r_tests (hs rs w f (nI M.length)) = nI tn := hU.2.2.1
    have e1 : r_passes (hs rs w f (nI M.length)) t = cU_states cs t := by rw [g5]; exact g5'
    have e2 : r_covers (hs rs w f (nI M.length)) (64 * t + n) = if tb (cU_covered cs t) n then 1 else 0 := by rw [g7]; exact g8 n (by omega)
    have e3 : r_root (hs rs w f (nI M.length)) t = nI r := g2'
    rw [f_R_layList_23, e0, if_neg (nI_ge (by omega) (by omega))]
    simp only [ck_nI (show t < 24 by omega) (by decide), nIc (show t < 2 ^ 31 by omega), idx64, ck_nI (show 64 * t + n < 1536 by omega) (by decide), nIc (show 64 * t + n < 2 ^ 31 by omega), e1, e2, e3, nx_e, nI_1]
    rw [ite01]
    by_cases c1 : cU_states cs t = 1
    · rw [if_pos c1]
      by_cases c2 : tb (cU_covered cs t) n = true
      · rw [if_pos c2]
        have hS : tS cs n t = true := by unfold tS; simp [c1, c2]
        obtain ⟨r', r1, r2, r3, r4, r5, r6⟩ := tS_far hT hU (by omega) hS
        have er : r' = r := (nI_eq (by omega) (by omega)).mp (r3.symm.trans g2')
        subst er
        have eE : tE rs P n t = tD rs P n t := if_pos r6
        have hTg : treeR (hs rs w f (nI M.length)) N P := hT.2.1
        obtain ⟨w1, b1, b2⟩ := farR hTg r1
        rw [hs_w] at b2
        have ef : r_far (hs rs w1 f (nI M.length)) n = nI (tE rs P n t) := by rw [eE, ← r5]; exact b1 n (by omega)
        rw [bd_eq b2, ck_nI (by omega) (by decide), nIc (by omega), ef]
        have hlt := tE_lt rs P n t
        by_cases c3 : tE rs P n t = d
        · rw [if_pos (by rw [c3])]
          have q : (tS cs n t && tE rs P n t == d) = true := by simp [hS, c3]
          rw [q] at lb
          have lb : bk (tS cs n) (tE rs P n) (t + 1) d = bk (tS cs n) (tE rs P n) t d ++ [t] := by rw [lb]; simp
          have len : M.length < 24 := by
            have l1 := BK_len (S := tS cs n) (D := tE rs P n) tn (d + 1)
            rw [BK_succ, List.length_append] at l1
            have l2 := bk_mono (S := tS cs n) (D := tE rs P n) (d := d) k (t + 1)
            rw [show t + 1 + k = tn by omega, lb, List.length_append] at l2
            rw [← hM, List.length_append]
            simp at l2
            omega
          have e5 : r_listed (hs rs w1 f (nI M.length)) = nI M.length := rfl
          have e6 : ∀ f, r_listed (hs rs w1 f (nI M.length)) = nI M.length := fun _ => rfl
          simp only [e5, ck_nI len (by decide), nIc (show M.length < 2 ^ 31 by omega), hs_f, e6, nI_1, hs_z]
          have e7 : BK (tS cs n) (tE rs P n) tn d ++ bk (tS cs n) (tE rs P n) (t + 1) d = M ++ [t] := by rw [lb, ← hM, List.append_assoc]
          have key := ih fuel (t + 1) w1 (upd f M.length (nI t)) (by omega) (by omega) (by rw [e7]; exact rep_app h3)
          rw [e7, List.length_append] at key
          exact key
        · have hne : ¬ nI (tE rs P n t) = nI d := by rw [nI_lit (by omega) (by omega)]; exact c3
          rw [if_neg hne]
          exact stay (by simp [c3]) w1
      · rw [if_neg c2]
        exact stay (by unfold tS; simp [c2]) w
    · rw [if_neg c1]
      exact stay (by unfold tS; simp [c1]) w
theorem lay14 {cs : CS} {rs : RS} {N tn n : Nat} {P : PT} (hT : RT cs rs N P) (hU : RU cs rs N P tn) (hn : n < N) : ∀ (k fuel d : Nat) (w f : Nat → Int32), d + k = 64 → k < fuel → rep f (fun x => x) (BK (tS cs n) (tE rs P n) tn d) →
    ∃ w' f', rep f' (fun x => x) (BK (tS cs n) (tE rs P n) tn 64) ∧ f_R_layList_14 fuel (nI n) (nI d) (hs rs w f (nI (BK (tS cs n) (tE rs P n) tn d).length)) = some ((), hs rs w' f' (nI (BK (tS cs n) (tE rs P n) tn 64).length)) := by
  have htn := hU.1
  have hFU := FU_eq
  intro k
  induction k with
  | zero =>
    intro fuel d w f h1 h2 h3
    obtain ⟨fuel, rfl⟩ : ∃ q, fuel = q + 1 := ⟨fuel - 1, by omega⟩
    have : d = 64 := by omega
    subst this
    exact ⟨w, f, h3, by rw [f_R_layList_14, if_pos (by decide)]⟩
  | succ k ih =>
    intro fuel d w f h1 h2 h3
    obtain ⟨fuel, rfl⟩ : ∃ q, fuel = q + 1 := ⟨fuel - 1, by omega⟩
    have e0 : BK (tS cs n) (tE rs P n) tn d ++ bk (tS cs n) (tE rs P n) 0 d = BK (tS cs n) (tE rs P n) tn d := by simp [bk]
    obtain ⟨w1, f1, q1, q2⟩ := lay23 hT hU hn (f_R_layList_14 fuel) (d := d) (by omega) tn FU 0 w f (by omega) (by omega) (by rw [e0]; exact h3)
    rw [e0, nI_0] at q2
    obtain ⟨w2, f2, q3, q4⟩ := ih fuel (d + 1) w1 f1 (by omega) (by omega) q1
    have l64 : ¬ (64 : Int32) ≤ nI d := nI_ge (b := 64) (by omega) (by decide)
    exact ⟨w2, f2, q3, by rw [f_R_layList_14, if_neg l64, q2, q4]⟩
theorem layListR {cs : CS} {rs : RS} {N tn i n : Nat} {P : PT} (hT : RT cs rs N P) (hU : RU cs rs N P tn) (hn : n < N) (hi : i < 100) (e : r_nodeM rs i = nI n) : ∃ w f, rep f (fun x => x) (BK (tS cs n) (tE rs P n) tn 64) ∧ f_R_layList (nI i) rs = some ((), hs rs w f (nI (BK (tS cs n) (tE rs P n) tn 64).length)) := by
  have hFU := FU_eq
  obtain ⟨w, f, q1, q2⟩ := lay14 hT hU hn 64 FU 0 (r_far rs) (r_list rs) (by omega) (by omega) (by intro i x hx; simp [BK] at hx)
  refine ⟨w, f, q1, ?_⟩
  have z : (BK (tS cs n) (tE rs P n) tn 0).length = 0 := by simp [BK]
  rw [z, nI_0] at q2
  have e2 : r_nodeM (hs rs (r_far rs) (r_list rs) 0) i = nI n := e
  unfold f_R_layList
  rw [nx_e, hs_init, ck_nI hi (by decide), nIc (by omega), nx_e, e2]
  exact q2
