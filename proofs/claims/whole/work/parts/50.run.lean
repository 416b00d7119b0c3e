/-! running a mutant -/
def jv (x : EO) (w : Int64) : Int32 := match x.1 with
  | none => 2
  | some v => if v = w then 0 else 1
theorem jv3 (x : EO) (w : Int64) : jv x w = 0 ∨ jv x w = 1 ∨ jv x w = 2 := by
  unfold jv
  split
  · simp
  · split <;> simp
def jc (cs : CS) (k n : Int32) (inp : Int64) (b s c : Int32) (m : Int64) : CS := s_cK_changedNode (s_cK_changeKind (ks (s_cK_bound (s_cK_input (s_cK_changedNode (s_cK_changeKind cs k) n) inp) b) s c m 0) (-1)) (-1)
theorem judgeC {cs : CS} {N B : Nat} {P : PT} (hT : treeC cs N P) {t r : Nat} (ht : t < 24) (hr : cU_roots cs t = nI r) (hrN : r < N) (hB : B ≤ 5000) (k n : Int32) :
    ∃ s c m, f_U_judge (nI t) k n (nI B) cs = some (jv (evr P (muO k n) (cU_inputs cs t) B r) (cU_wanted cs t), jc cs k n (cU_inputs cs t) (nI B) s c m) := by
  have hT1 : treeC (s_cK_changedNode (s_cK_changeKind cs k) n) N P := hT
  obtain ⟨rr, w1, w2⟩ := workC hT1 hB hrN (cU_inputs cs t)
  have ek : cK_changeKind (s_cK_changedNode (s_cK_changeKind cs k) n) = k := rfl
  have en : cK_changedNode (s_cK_changedNode (s_cK_changeKind cs k) n) = n := rfl
  rw [ek, en] at w1 w2
  generalize evr P (muO k n) (cU_inputs cs t) B r = x at w1 w2 ⊢
  obtain ⟨cf, hcf⟩ : ∃ cf : Int32, cf = if x.1 = none then 1 else 0 := ⟨_, rfl⟩
  rw [← hcf] at w1
  have hc01 : cf = 0 ∨ cf = 1 := by rw [hcf]; split <;> simp
  refine ⟨nI x.2.1, cf, x.2.2, ?_⟩
  have hch : f_K_changeAt k n cs = some ((), s_cK_changedNode (s_cK_changeKind cs k) n) := by unfold f_K_changeAt; rw [nx_e, nx_e]
  have hun : ∀ K, f_K_unchange K = some ((), s_cK_changedNode (s_cK_changeKind K (-1)) (-1)) := fun K => by unfold f_K_unchange; rw [nx_e, nx_e]
  have e1 : cU_roots (s_cK_changedNode (s_cK_changeKind cs k) n) t = nI r := hr
  have e2 : cU_inputs (s_cK_changedNode (s_cK_changeKind cs k) n) t = cU_inputs cs t := rfl
  have hcut : f_K_isCut (jc cs k n (cU_inputs cs t) (nI B) (nI x.2.1) cf x.2.2) = some (cf, jc cs k n (cU_inputs cs t) (nI B) (nI x.2.1) cf x.2.2) := by
    show zr cf _ = _
    unfold zr
    rw [if_pos hc01]
  have e3 : cU_wanted (jc cs k n (cU_inputs cs t) (nI B) (nI x.2.1) cf x.2.2) t = cU_wanted cs t := rfl
  unfold f_U_judge
  rw [bd_eq hch]
  simp only [ck_nI ht (by decide), nIc (show t < 2 ^ 31 by omega), e1, e2]
  rw [bd_eq w1, bd_eq (hun _)]
  rw [bd_eq (show f_K_isCut (s_cK_changedNode (s_cK_changeKind (ks (s_cK_bound (s_cK_input (s_cK_changedNode (s_cK_changeKind cs k) n) (cU_inputs cs t)) (nI B)) (nI x.2.1) cf x.2.2 0) (-1)) (-1)) = _ from hcut), e3]
  cases e : x.1 with
  | none =>
    have h1 : ¬ cf = 0 := by rw [hcf, e]; decide
    rw [if_neg h1]
    simp only [jv, e]
  | some v =>
    have h1 : cf = 0 := by rw [hcf, e]; simp
    rw [if_pos h1, w2 v e]
    by_cases hq : v = cU_wanted cs t
    · rw [if_pos hq]; simp only [jv, e, if_pos hq]
    · rw [if_neg hq]; simp only [jv, e, if_neg hq]
theorem run143 (K : Int32 → Int32 → Int32 → RS → Option (Int32 × RS)) {i j : Nat} (hi : i < 100) (x2 x4 v : Int32) (hv : v = 0 ∨ v = 1 ∨ v = 2) (st : RS) : f_R_run_143 K (nI i) x2 (nI j) x4 (nI i) v st = K (nI i) x2 (nI (j + 1)) (s_r_ender (s_r_outcome st i v) i (if v = 0 then -1 else x4)) := by
  have e : r_outcome (s_r_outcome st i v) i = v := pk_us
  unfold f_R_run_143
  simp only [ck_nI hi (by decide), nIc (show i < 2 ^ 31 by omega), nx_e, e, nI_1]
  rcases hv with h | h | h <;> subst h
  · rw [if_pos (by decide), if_pos rfl]
  · rw [if_neg (by decide), if_neg (by decide)]
  · rw [if_neg (by decide), if_neg (by decide)]
theorem runStepR {rs : RS} {N B : Nat} {P : PT} (hT : treeR rs N P) {i j t r z : Nat} (hi : i < 100) (ht : t < 24) (hr : r_root rs t = nI r) (hrN : r < N) (hB : B ≤ 5000) (hz : r_listed rs = nI z) (hz2 : z ≤ 24) (hj : j < z) (hl : r_list rs j = nI t) (ho : r_outcome rs i = 0) (fuel : Nat) :
    ∃ s c h a g mk wt ph fi, f_R_run_63 (fuel + 1) (nI i) (nI B) (nI j) rs = f_R_run_63 fuel (nI i) (nI B) (nI (j + 1)) (s_r_ender (s_r_outcome (rx rs s c h a g mk wt ph fi) i (jv (evr P (muO (r_changedKind rs) (r_changedNode rs)) (r_input rs t) B r) (r_wanted rs t))) i (if jv (evr P (muO (r_changedKind rs) (r_changedNode rs)) (r_input rs t) B r) (r_wanted rs t) = 0 then -1 else nI t)) := by
  obtain ⟨h', a', g', mk', wt', ph', fi', w1, w2, w3⟩ := workR hT hB hrN (r_input rs t)
  generalize evr P (muO (r_changedKind rs) (r_changedNode rs)) (r_input rs t) B r = x at w1 w2 w3 ⊢
  obtain ⟨cf, hcf⟩ : ∃ cf : Int32, cf = if x.1 = none then 1 else 0 := ⟨_, rfl⟩
  rw [← hcf] at w1
  refine ⟨nI x.2.1, cf, h', a', g', mk', wt', ph', fi', ?_⟩
  have e1 : r_isCut (rx rs (nI x.2.1) cf h' a' g' mk' wt' ph' fi') = cf := rfl
  have e2 : r_given (rx rs (nI x.2.1) cf h' a' g' mk' wt' ph' fi') = g' := rfl
  have e3 : r_wanted (rx rs (nI x.2.1) cf h' a' g' mk' wt' ph' fi') t = r_wanted rs t := rfl
  rw [f_R_run_63, hz, if_neg (nI_ge hj (by omega))]
  simp only [ck_nI hi (by decide), nIc (show i < 2 ^ 31 by omega), ck_nI (show j < 24 by omega) (by decide), nIc (show j < 2 ^ 31 by omega), nx_e, hl, ck_nI ht (by decide), nIc (show t < 2 ^ 31 by omega)]
  rw [if_pos ho, hr, bd_eq w1, e1, e2, e3]
  cases e : x.1 with
  | none =>
    have h1 : ¬ cf = 0 := by rw [hcf, e]; decide
    have hj2 : jv x (r_wanted rs t) = 2 := by simp only [jv, e]
    rw [if_neg h1, hj2]
    exact run143 _ hi _ _ 2 (by simp) _
  | some v =>
    have h1 : cf = 0 := by rw [hcf, e]; simp
    rw [if_pos h1, w3 v e]
    by_cases hq : v = r_wanted rs t
    · have hj2 : jv x (r_wanted rs t) = 0 := by simp only [jv, e, if_pos hq]
      rw [if_pos hq, hj2]
      exact run143 _ hi _ _ 0 (by simp) _
    · have hj2 : jv x (r_wanted rs t) = 1 := by simp only [jv, e, if_neg hq]
      rw [if_neg hq, hj2]
      exact run143 _ hi _ _ 1 (by simp) _
/-- while mutant i runs -/
def RMx (cs : CS) (rs : RS) (N : Nat) (P : PT) (mn i k n : Nat) : Prop := mn ≤ 100 ∧ cN_size cs = nI mn ∧ r_mutants rs = nI mn ∧ (∀ j, j < mn → ¬ j = i → mOK cs rs N P j) ∧ (∀ k, k < 6 → ∀ n, n < 64 → (tb (cN_madeAt cs k) n = true ↔ ∃ i, i < mn ∧ cN_kinds cs i = nI k ∧ cN_nodes cs i = nI n)) ∧
  (i < mn ∧ k < 6 ∧ n < N ∧ fitK k (pkd P n) = true) ∧ (cN_kinds cs i = nI k ∧ r_kindM rs i = nI k) ∧ (cN_nodes cs i = nI n ∧ r_nodeM rs i = nI n)
theorem runEnd {cs : CS} {rs : RS} {N tn mn sn i k n : Nat} {P : PT} (hT : RT cs rs N P) (hU : RU cs rs N P tn) (hM : RMx cs rs N P mn i k n) (hD : RD cs rs sn) (hK : RK cs) (hv : r_outcome rs i = 0 ∨ r_outcome rs i = 1 ∨ r_outcome rs i = 2) : ∃ cs', f_N_settle (nI i) (r_outcome rs i) (r_ender rs i) cs = some ((), cs') ∧ Rel cs' rs := by
  obtain ⟨m1, m2, m3, m4, m5, ⟨m6, m7⟩, m8, m9⟩ := hM
  refine ⟨s_cN_enders (s_cN_outcomes cs i (r_outcome rs i)) i (r_ender rs i), ?_, N, P, tn, mn, sn, hT, hU, ⟨m1, m2, m3, fun j hj => ?_, m5⟩, hD, hK⟩
  · unfold f_N_settle
    simp only [ck_nI (show i < 100 by omega) (by decide), nIc (show i < 2 ^ 31 by omega), nx_e]
  · by_cases e : j = i
    · subst e
      exact ⟨k, n, m7, m8, m9, pk_us, Or.inr hv, pk_us⟩
    · obtain ⟨kk, n, g3, g4, g5, g6, g7, g8⟩ := m4 j hj e
      exact ⟨kk, n, g3, g4, g5, (pk_un e).trans g6, g7, (pk_un e).trans g8⟩
theorem runL {N tn mn sn i kk n B : Nat} {P : PT} {L : List Nat} (hL : L.length ≤ 24) (hLt : ∀ x ∈ L, x < tn) (hB : B ≤ 5000) : ∀ (k fuel fuel' j : Nat) (cs : CS) (rs : RS), j + k = L.length → k < fuel → k < fuel' → RT cs rs N P → RU cs rs N P tn → RMx cs rs N P mn i kk n → RD cs rs sn → RK cs → (cG_size cs = nI L.length ∧ rep (cG_line cs) (fun x => x) L) → (r_listed rs = nI L.length ∧ rep (r_list rs) (fun x => x) L) → (r_changedKind rs = nI kk ∧ r_changedNode rs = nI n) → (r_outcome rs i = 0 ∨ r_outcome rs i = 1 ∨ r_outcome rs i = 2) →
    ∃ r cs' rs', f_M_run_62 fuel (nI i) (nI B) (nI kk) (nI n) (r_outcome rs i) (r_ender rs i) (nI j) cs = some (r, cs') ∧ f_R_run_63 fuel' (nI i) (nI B) (nI j) rs = some (r, rs') ∧ Rel cs' rs' := by
  intro k
  induction k with
  | zero =>
    intro fuel fuel' j cs rs h1 h2 h3 hT hU hM hD hK hG hL2 hC hv
    obtain ⟨fuel, rfl⟩ : ∃ q, fuel = q + 1 := ⟨fuel - 1, by omega⟩
    obtain ⟨fuel', rfl⟩ : ∃ q, fuel' = q + 1 := ⟨fuel' - 1, by omega⟩
    obtain ⟨cs', e1, e2⟩ := runEnd hT hU hM hD hK hv
    have hi := hM.2.2.2.2.2.1.1
    have hm := hM.1
    have hz : f_G_size cs = some (nI L.length, cs) := by unfold f_G_size; rw [hG.1]
    refine ⟨r_outcome rs i, cs', rs, ?_, ?_, e2⟩
    · rw [f_M_run_62, bd_eq hz, if_pos (nI_le (by omega) (by omega)), bd_eq e1]
    · rw [f_R_run_63, hL2.1, if_pos (nI_le (by omega) (by omega)), ck_nI (by omega) (by decide), nIc (by omega)]
  | succ k ih =>
    intro fuel fuel' j cs rs h1 h2 h3 hT hU hM hD hK hG hL2 hC hv
    obtain ⟨fuel, rfl⟩ : ∃ q, fuel = q + 1 := ⟨fuel - 1, by omega⟩
    obtain ⟨fuel', rfl⟩ : ∃ q, fuel' = q + 1 := ⟨fuel' - 1, by omega⟩
    have hi := hM.2.2.2.2.2.1.1
    have hm := hM.1
    have htn := hU.1
    have hz : f_G_size cs = some (nI L.length, cs) := by unfold f_G_size; rw [hG.1]
    by_cases ho : r_outcome rs i = 0
    · have lj : j < L.length := by omega
      have el : L[j]? = some L[j] := List.getElem?_eq_getElem lj
      have ht := hLt L[j] (List.getElem_mem lj)
      have c1 : cG_line cs j = nI L[j] := hG.2 j _ el
      have r1 : r_list rs j = nI L[j] := hL2.2 j _ el
      generalize L[j] = t at ht c1 r1
      have tk := hU.2.2.2 t ht
      obtain ⟨r, inp, w, g1, ⟨g2, g2'⟩, ⟨g3, g3'⟩, ⟨g4, g4'⟩, -⟩ := hU.2.2.2 t ht
      obtain ⟨s, c, m, q1⟩ := judgeC hT.1 (show t < 24 by omega) g2 g1 hB (nI kk) (nI n)
      obtain ⟨s', c', h', a', g', mk', wt', ph', fi', q2⟩ := runStepR hT.2.1 (i := i) (by omega) (show t < 24 by omega) g2' g1 hB hL2.1 hL lj r1 ho fuel'
      rw [g3, g4] at q1
      rw [hC.1, hC.2, g3', g4'] at q2
      have hj3 := jv3 (evr P (muO (nI kk) (nI n)) inp B r) w
      generalize jv (evr P (muO (nI kk) (nI n)) inp B r) w = v at q1 q2 hj3
      have hat : f_G_at (nI j) cs = some (nI t, cs) := by
        rw [atC hG.1 hL, if_pos (iN_nI (by omega) lj), nIc (by omega), c1]
      generalize hcs' : jc cs (nI kk) (nI n) inp (nI B) s c m = cs' at q1
      have hG' : cG_size cs' = nI L.length := by rw [← hcs']; exact hG.1
      have c1' : cG_line cs' j = nI t := by rw [← hcs']; exact c1
      have hat' : f_G_at (nI j) cs' = some (nI t, cs') := by
        rw [atC hG' hL, if_pos (iN_nI (by omega) lj), nIc (by omega), c1']
      rw [q2]
      generalize hrs' : s_r_ender (s_r_outcome (rx rs s' c' h' a' g' mk' wt' ph' fi') i v) i (if v = 0 then -1 else nI t) = rs'
      have o1 : r_outcome rs' i = v := by rw [← hrs']; exact pk_us
      have o2 : r_ender rs' i = if v = 0 then -1 else nI t := by rw [← hrs']; exact pk_us
      have key := ih fuel fuel' (j + 1) cs' rs' (by omega) (by omega) (by omega) (by rw [← hcs', ← hrs']; exact hT) (by rw [← hcs', ← hrs']; exact hU) (by
        rw [← hcs', ← hrs']
        obtain ⟨m1, m2, m3, m4, m5, m6, m8, m9⟩ := hM
        refine ⟨m1, m2, m3, fun j hj e => ?_, m5, m6, m8, m9⟩
        obtain ⟨kk, n, g3, g4, g5, g6, g7, g8⟩ := m4 j hj e
        have u1 : r_outcome (s_r_ender (s_r_outcome (rx rs s' c' h' a' g' mk' wt' ph' fi') i v) i (if v = 0 then -1 else nI t)) j = r_outcome rs j := pk_un e
        have u2 : r_ender (s_r_ender (s_r_outcome (rx rs s' c' h' a' g' mk' wt' ph' fi') i v) i (if v = 0 then -1 else nI t)) j = r_ender rs j := pk_un e
        exact ⟨kk, n, g3, g4, g5, by rw [u1]; exact g6, by rw [u1]; exact g7, by rw [u2]; exact g8⟩) (by rw [← hcs', ← hrs']; exact hD) (by rw [← hcs']; exact ⟨rfl, rfl⟩) (by rw [← hcs']; exact hG) (by rw [← hrs']; exact hL2) (by rw [← hrs']; exact hC) (by rw [o1]; exact hj3)
      rw [o1, o2] at key
      obtain ⟨R, C2, R2, k1, k2, k3⟩ := key
      refine ⟨R, C2, R2, ?_, k2, k3⟩
      rw [f_M_run_62, bd_eq hz, if_neg (nI_ge (by omega) (by omega)), if_pos ho, bd_eq hat, bd_eq q1]
      by_cases hv0 : v = 0
      · rw [if_pos hv0] at k1 ⊢
        rw [nx_e, nI_1]
        exact k1
      · rw [if_neg hv0] at k1 ⊢
        rw [bd_eq hat', nx_e, nI_1]
        exact k1
    · obtain ⟨cs', e1, e2⟩ := runEnd hT hU hM hD hK hv
      refine ⟨r_outcome rs i, cs', rs, ?_, ?_, e2⟩
      · rw [f_M_run_62, bd_eq hz, if_neg (nI_ge (by omega) (by omega)), if_neg ho, bd_eq e1]
      · rw [f_R_run_63, hL2.1, if_neg (nI_ge (by omega) (by omega)), ck_nI (by omega) (by decide), nIc (by omega), if_neg ho, ck_nI (by omega) (by decide)]
theorem same_run (x1 x2 : Int32) : Same (f_M_run x1 x2) (f_R_run x1 x2) := by
  intro cs rs ⟨N, P, tn, mn, sn, hT, hU, hM, hD, hK⟩
  have hm := hM.1
  have htn := hU.1
  have hFU := FU_eq
  have keep : Rel cs rs := ⟨N, P, tn, mn, sn, hT, hU, hM, hD, hK⟩
  unfold f_M_run f_R_run
  rw [bd_eq (hasN hM.2.1 (by omega) x1), ite01, bd_eq (isMutantR hM.2.2.1 (by omega) x1), ite01]
  by_cases c : iN x1 mn = true
  · rw [if_pos c, if_pos c, bd_eq (inR _ _ _), ite01]
    obtain ⟨i, hi, rfl⟩ := iN_of c (by omega)
    have z1 : (1 : Int64).toInt = 1 := by decide
    have z5 : (5000 : Int64).toInt = 5000 := by decide
    have a : x2 < 1 ↔ x2.toInt < 1 := by rw [Int32.lt_iff_toInt_lt, show (1 : Int32).toInt = 1 by decide]
    have b : x2 ≤ 5000 ↔ x2.toInt ≤ 5000 := by rw [Int32.le_iff_toInt_le, show (5000 : Int32).toInt = 5000 by decide]
    rw [z1, z5, Int32.toInt_toInt64]
    by_cases c1 : x2 < 1
    · have := a.mp c1
      rw [if_pos c1, if_neg (by rw [decide_eq_true_eq]; omega)]
      exact ⟨_, _, _, rfl, rfl, keep⟩
    by_cases c2 : x2 ≤ 5000
    · have c1' : ¬ x2.toInt < 1 := fun q => c1 (a.mpr q)
      have c2' := b.mp c2
      rw [if_neg c1, if_pos c2, if_pos (by rw [decide_eq_true_eq]; omega)]
      obtain ⟨B, hB, rfl⟩ := iN_of (x := x2) (N := 5001) (by unfold iN; exact decide_eq_true ⟨by omega, by omega⟩) (by decide)
      obtain ⟨kk, n, ⟨g1, g2, g3⟩, ⟨g4, g4'⟩, ⟨g5, g5'⟩, g6, g7, g8⟩ := hM.2.2.2.1 i hi
      obtain ⟨w, f, g, q1, q2⟩ := gathC hT hU g2
      obtain ⟨w', f', p1, p2⟩ := layListR (i := i) hT hU g2 (by omega) g5'
      have hl := BK_len (S := tS cs n) (D := tE rs P n) tn 64
      have hmem : ∀ x ∈ BK (tS cs n) (tE rs P n) tn 64, x < tn := fun x hx => (BK_mem hx).1
      rw [bd_eq (kindOfC (by omega) g4), bd_eq (nodeC (by omega) g5), bd_eq q2, bd_eq p2]
      generalize BK (tS cs n) (tE rs P n) tn 64 = L at q1 p1 hl hmem ⊢
      simp only [ck_nI (show i < 100 by omega) (by decide), nIc (show i < 2 ^ 31 by omega), nx_e]
      generalize hrs' : s_r_changedNode (s_r_changedKind (s_r_ender (s_r_outcome (hs rs w' f' (nI L.length)) i 0) i (-1)) (r_kindM (s_r_ender (s_r_outcome (hs rs w' f' (nI L.length)) i 0) i (-1)) i)) (r_nodeM (s_r_changedKind (s_r_ender (s_r_outcome (hs rs w' f' (nI L.length)) i 0) i (-1)) (r_kindM (s_r_ender (s_r_outcome (hs rs w' f' (nI L.length)) i 0) i (-1)) i)) i) = rs'
      have o1 : r_outcome rs' i = 0 := by rw [← hrs']; exact pk_us
      have o2 : r_ender rs' i = -1 := by rw [← hrs']; exact pk_us
      have key := runL (N := N) (tn := tn) (mn := mn) (sn := sn) (i := i) (kk := kk) (n := n) (B := B) (P := P) (L := L) (by omega) hmem (by omega) L.length FU FU 0 (gs cs w f g (nI L.length)) rs' (by omega) (by omega) (by omega) (by rw [← hrs']; exact hT) (by rw [← hrs']; exact hU) (by
        rw [← hrs']
        refine ⟨hM.1, hM.2.1, hM.2.2.1, fun j hj e => ?_, hM.2.2.2.2, ⟨hi, g1, g2, g3⟩, ⟨g4, g4'⟩, ⟨g5, g5'⟩⟩
        obtain ⟨kk, n, g3, g4, g5, g6, g7, g8⟩ := hM.2.2.2.1 j hj
        exact ⟨kk, n, g3, g4, g5, g6.trans (pk_un e).symm, by
          have u1 : r_outcome (s_r_changedNode (s_r_changedKind (s_r_ender (s_r_outcome (hs rs w' f' (nI L.length)) i 0) i (-1)) (r_kindM (s_r_ender (s_r_outcome (hs rs w' f' (nI L.length)) i 0) i (-1)) i)) (r_nodeM (s_r_changedKind (s_r_ender (s_r_outcome (hs rs w' f' (nI L.length)) i 0) i (-1)) (r_kindM (s_r_ender (s_r_outcome (hs rs w' f' (nI L.length)) i 0) i (-1)) i)) i)) j = r_outcome rs j := pk_un e
          rw [u1]; exact g7, g8.trans (pk_un e).symm⟩) (by rw [← hrs']; exact hD) hK ⟨rfl, q1⟩ (by rw [← hrs']; exact ⟨rfl, p1⟩) (by rw [← hrs']; exact ⟨g4', g5'⟩) (Or.inl o1)
      rw [o1, o2, nI_0] at key
      exact key
    · have c1' : ¬ x2.toInt < 1 := fun q => c1 (a.mpr q)
      have c2' : ¬ x2.toInt ≤ 5000 := fun q => c2 (b.mpr q)
      rw [if_neg c1, if_neg c2, if_neg (by rw [decide_eq_true_eq]; omega)]
      exact ⟨_, _, _, rfl, rfl, keep⟩
  · rw [if_neg c, if_neg c]
    exact ⟨_, _, _, rfl, rfl, keep⟩
