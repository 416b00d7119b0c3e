/-! the reference's table of alike nodes -/
def alOK (P : PT) (al : Nat → Int32) (X : Nat) : Prop := ∀ x y, x < X → y < X → al (64 * x + y) = if AL P x y = true then 1 else 0
def alRow (P : PT) (al : Nat → Int32) (x y : Nat) : Prop := alOK P al x ∧ ∀ b, b < y → al (64 * x + b) = (if AL P x b = true then 1 else 0) ∧ al (64 * b + x) = (if AL P b x = true then 1 else 0)
theorem areR {rs : RS} {P : PT} {al : Nat → Int32} {a b : Nat} (ha : a < 64) (hb : b < 64) (h : al (64 * a + b) = if AL P a b = true then 1 else 0) : f_R_areParts (nI a) (nI b) (S_r_alike rs al) = some (if AL P a b = true then 1 else 0, S_r_alike rs al) := by
  unfold f_R_areParts
  rw [if_neg (ne_m1 (by omega)), idx64, ck_nI (by omega) (by decide), nIc (by omega), gS_r_alike, h]
  by_cases q : AL P a b = true
  · rw [if_pos q, if_neg (by decide)]
  · rw [if_neg q, if_pos rfl]
theorem areM {rs : RS} (b : Int32) : f_R_areParts (-1) b rs = some (1, rs) := by
  unfold f_R_areParts
  rw [if_pos rfl]
theorem set115 {rs : RS} {K : Int32 → Int32 → RS → Option (Unit × RS)} {al : Nat → Int32} {x y : Nat} (hx : x < 64) (hy : y < 64) (b : Bool) : f_R_layAlike_115 K (nI x) (nI y) (if b then 1 else 0) (S_r_alike rs al) = K (nI x) (nI (y + 1)) (S_r_alike rs (upd (upd al (64 * x + y) (if b then 1 else 0)) (64 * y + x) (if b then 1 else 0))) := by
  unfold f_R_layAlike_115
  simp only [idx64, ck_nI (show 64 * x + y < 4096 by omega) (by decide), ck_nI (show 64 * y + x < 4096 by omega) (by decide), nIc (show 64 * x + y < 2 ^ 31 by omega), nIc (show 64 * y + x < 2 ^ 31 by omega), nx_e, nar01, sS_r_alike, gS_r_alike, SS_r_alike, nI_1]
theorem row_step {P : PT} {N : Nat} (hP : wfP P N) (hN : N ≤ 64) {al : Nat → Int32} {x y : Nat} (hx : x < N) (hy : y ≤ x) (h : alRow P al x y) : alRow P (upd (upd al (64 * x + y) (if AL P x y then 1 else 0)) (64 * y + x) (if AL P x y then 1 else 0)) x (y + 1) := by
  have sy : AL P y x = AL P x y := by
    cases e : AL P x y with
    | true => exact AL_symm hP hN _ _ hx (by omega) e
    | false =>
      cases e2 : AL P y x with
      | false => rfl
      | true => rw [AL_symm hP hN _ _ (by omega) hx e2] at e; cases e
  refine ⟨fun a b ha hb => ?_, fun b hb => ?_⟩
  · unfold upd
    rw [if_neg (by omega), if_neg (by omega)]
    exact h.1 a b ha hb
  · unfold upd
    by_cases e : b = y
    · subst e
      refine ⟨?_, ?_⟩
      · by_cases e2 : 64 * x + b = 64 * b + x
        · rw [if_pos e2]
        · rw [if_neg e2, if_pos rfl]
      · rw [if_pos rfl, sy]
    · have := h.2 b (by omega)
      refine ⟨?_, ?_⟩
      · rw [if_neg (by omega), if_neg (by omega)]; exact this.1
      · rw [if_neg (by omega), if_neg (by omega)]; exact this.2
theorem row_end {P : PT} {al : Nat → Int32} {x : Nat} (h : alRow P al x (x + 1)) : alOK P al (x + 1) := by
  intro a b ha hb
  by_cases e : a = x
  · subst e; exact (h.2 b hb).1
  · by_cases e2 : b = x
    · subst e2; exact (h.2 a ha).2
    · exact h.1 a b (by omega) (by omega)
theorem lay12 {rs : RS} {N : Nat} {P : PT} (hT : treeR rs N P) (K : Int32 → RS → Option (Unit × RS)) {x : Nat} (hx : x < N) : ∀ (k fuel y : Nat) (al : Nat → Int32), y + k = x + 1 → k < fuel → alRow P al x y → ∃ al', alOK P al' (x + 1) ∧ f_R_layAlike_12 K fuel (nI x) (nI y) (S_r_alike rs al) = K (nI (x + 1)) (S_r_alike rs al') := by
  have hN := hT.1
  have hP := hT.2.2.1
  intro k
  induction k with
  | zero =>
    intro fuel y al h1 h2 h3
    obtain ⟨fuel, rfl⟩ : ∃ f, fuel = f + 1 := ⟨fuel - 1, by omega⟩
    have : y = x + 1 := by omega
    subst this
    refine ⟨al, row_end h3, ?_⟩
    rw [f_R_layAlike_12, if_pos (nI_lt (by omega) (by omega)), nx_e, nI_1]
  | succ k ih =>
    intro fuel y al h1 h2 h3
    obtain ⟨fuel, rfl⟩ : ∃ f, fuel = f + 1 := ⟨fuel - 1, by omega⟩
    obtain ⟨al', q1, q2⟩ := ih fuel (y + 1) _ (by omega) (by omega) (row_step hP hN hx (by omega) h3)
    refine ⟨al', q1, ?_⟩
    rw [← q2, ← set115 (rs := rs) (K := f_R_layAlike_12 K fuel) (al := al) (x := x) (y := y) (by omega) (by omega) (AL P x y)]
    rw [f_R_layAlike_12, if_neg (nI_nlt (by omega) (by omega))]
    by_cases e : x = y
    · subst e
      rw [if_pos rfl, AL_refl hP hN x hx]
      rfl
    · have hne : ¬ nI x = nI y := by rw [nI_lit (by omega) (by omega)]; exact e
      rw [if_neg hne]
      obtain ⟨⟨a1, a2, a3, a4⟩, a5, a6, a7, a8⟩ := hT.2.2.2 x hx
      obtain ⟨⟨b1, b2, b3, b4⟩, b5, b6, b7, b8⟩ := hT.2.2.2 y (by omega)
      obtain ⟨w1, w2⟩ := hP x hx
      obtain ⟨v1, v2⟩ := hP y (by omega)
      have ek : (nI (pkd P x) = nI (pkd P y)) = (pkd P x = pkd P y) := nI_lit (by omega) (by omega)
      have k1 : ∀ z, r_kindOf (S_r_alike rs al) z = r_kindOf rs z := fun _ => rfl
      have k2 : ∀ z, r_number (S_r_alike rs al) z = r_number rs z := fun _ => rfl
      have k3 : ∀ z, r_partA (S_r_alike rs al) z = r_partA rs z := fun _ => rfl
      have k4 : ∀ z, r_partB (S_r_alike rs al) z = r_partB rs z := fun _ => rfl
      have k5 : ∀ z, r_partC (S_r_alike rs al) z = r_partC rs z := fun _ => rfl
      simp only [ck_nI (show x < 64 by omega) (by decide), ck_nI (show y < 64 by omega) (by decide), nIc (show x < 2 ^ 31 by omega), nIc (show y < 2 ^ 31 by omega), k1, k2, k3, k4, a1, b1, a3, b3, ek]
      have ali := AL_iff hP hN (x := x) (y := y) hx
      have no : ¬ AL P x y = true → AL P x y = false := by cases AL P x y <;> simp
      by_cases c1 : pkd P x = pkd P y
      · rw [if_pos c1]
        by_cases c2 : pnu P x = pnu P y
        · rw [if_pos c2]
          by_cases h3' : 3 ≤ pkd P x
          · have ab := w1 (by omega) (by omega) (by omega)
            have ab2 := v1 (by omega) (by omega) (by omega)
            rw [(a5 h3').1, (b5 (by omega)).1, bd_eq (areR (by omega) (by omega) (h3.1 _ _ (by omega) (by omega)))]
            by_cases d1 : AL P (ppa P x) (ppa P y) = true
            · rw [if_pos d1, if_neg (show ¬ (1 : Int32) = 0 by decide), k4, (a5 h3').2, k4, (b5 (by omega)).2, bd_eq (areR (by omega) (by omega) (h3.1 _ _ (by omega) (by omega)))]
              by_cases d2 : AL P (ppb P x) (ppb P y) = true
              · rw [if_pos d2, if_neg (show ¬ (1 : Int32) = 0 by decide), k5, k5]
                by_cases h8 : pkd P x = 8
                · have c := w2 h8
                  have c' := v2 (by omega)
                  rw [a7 h8, b7 (by omega), bd_eq (areR (by omega) (by omega) (h3.1 _ _ (by omega) (by omega)))]
                  by_cases d3 : AL P (ppc P x) (ppc P y) = true
                  · have : AL P x y = true := ali.mpr ⟨c1, c2, fun _ => ⟨d1, d2⟩, fun _ => d3⟩
                    rw [if_pos d3, if_neg (show ¬ (1 : Int32) = 0 by decide), this]; rfl
                  · have : AL P x y = false := no (fun q => d3 ((ali.mp q).2.2.2 h8))
                    rw [if_neg d3, if_pos rfl, this]; rfl
                · have : AL P x y = true := ali.mpr ⟨c1, c2, fun _ => ⟨d1, d2⟩, fun q => absurd q h8⟩
                  rw [a8 h8, bd_eq (areM _), if_neg (show ¬ (1 : Int32) = 0 by decide), this]; rfl
              · have : AL P x y = false := no (fun q => d2 ((ali.mp q).2.2.1 h3').2)
                rw [if_neg d2, if_pos rfl, this]; rfl
            · have : AL P x y = false := no (fun q => d1 ((ali.mp q).2.2.1 h3').1)
              rw [if_neg d1, if_pos rfl, this]; rfl
          · have : AL P x y = true := ali.mpr ⟨c1, c2, fun q => absurd q h3', fun q => by omega⟩
            rw [(a6 (by omega)).1, bd_eq (areM _), if_neg (show ¬ (1 : Int32) = 0 by decide), k4, (a6 (by omega)).2, bd_eq (areM _), if_neg (show ¬ (1 : Int32) = 0 by decide), k5, a8 (by omega), bd_eq (areM _), if_neg (show ¬ (1 : Int32) = 0 by decide), this]; rfl
        · have : AL P x y = false := no (fun q => c2 (ali.mp q).2.1)
          rw [if_neg c2, this]; rfl
      · have : AL P x y = false := no (fun q => c1 (ali.mp q).1)
        rw [if_neg c1, this]; rfl
theorem lay2 {rs : RS} {N : Nat} {P : PT} (hT : treeR rs N P) : ∀ (k fuel x : Nat) (al : Nat → Int32), x + k = N → k < fuel → alOK P al x → ∃ al', alOK P al' N ∧ f_R_layAlike_2 fuel (nI x) (S_r_alike rs al) = some ((), S_r_alike rs al') := by
  have hN := hT.1
  have hFU := FU_eq
  intro k
  induction k with
  | zero =>
    intro fuel x al h1 h2 h3
    obtain ⟨fuel, rfl⟩ : ∃ f, fuel = f + 1 := ⟨fuel - 1, by omega⟩
    have : x = N := by omega
    subst this
    refine ⟨al, h3, ?_⟩
    have e : r_nodes (S_r_alike rs al) = nI x := hT.2.1
    rw [f_R_layAlike_2, e, if_pos (nI_le (Nat.le_refl _) (by omega))]
  | succ k ih =>
    intro fuel x al h1 h2 h3
    obtain ⟨fuel, rfl⟩ : ∃ f, fuel = f + 1 := ⟨fuel - 1, by omega⟩
    have e : r_nodes (S_r_alike rs al) = nI N := hT.2.1
    obtain ⟨al1, q1, q2⟩ := lay12 hT (f_R_layAlike_2 fuel) (x := x) (by omega) (x + 1) FU 0 al (by omega) (by omega) ⟨h3, fun b hb => by omega⟩
    obtain ⟨al2, q3, q4⟩ := ih fuel (x + 1) al1 (by omega) (by omega) q1
    refine ⟨al2, q3, ?_⟩
    rw [nI_0] at q2
    rw [f_R_layAlike_2, e, if_neg (nI_ge (by omega) (by omega)), q2, q4]
theorem layR {rs : RS} {N : Nat} {P : PT} (hT : treeR rs N P) : ∃ al', alOK P al' N ∧ f_R_layAlike rs = some ((), S_r_alike rs al') := by
  have hN := hT.1
  have hFU := FU_eq
  obtain ⟨al, q1, q2⟩ := lay2 hT N FU 0 (r_alike rs) (by omega) (by omega) (fun x y h => by omega)
  rw [Sg_r_alike, nI_0] at q2
  exact ⟨al, q1, q2⟩
