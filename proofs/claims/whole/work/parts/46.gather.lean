/-! the class's lineup -/
def gs (cs : CS) (w f g : Nat → Int32) (z : Int32) : CS := (upd cs.1 8 z, cs.2.1, va_up (va_up (va_up cs.2.2.1 5 w) 13 f) 14 g, cs.2.2.2)
section GS
variable (cs : CS) (w f g w' : Nat → Int32) (z v : Int32) (k : Nat)
theorem gs_w : S_cT_ways (gs cs w f g z) w' = gs cs w' f g z := by
  simp only [S_cT_ways, gs]
  rw [vup_comm (k := 14) (j := 5) (by decide), vup_comm (k := 13) (j := 5) (by decide), bx_uu]
theorem gs_f : s_cG_line (gs cs w f g z) k v = gs cs w (upd f k v) g z := by
  have e : (va_up (va_up (va_up cs.2.2.1 5 w) 13 f) 14 g) 13 = f := rfl
  simp only [s_cG_line, gs, e]
  rw [vup_comm (k := 14) (j := 13) (by decide), bx_uu]
theorem gs_g : s_cG_distances (gs cs w f g z) k v = gs cs w f (upd g k v) z := by
  have e : (va_up (va_up (va_up cs.2.2.1 5 w) 13 f) 14 g) 14 = g := rfl
  simp only [s_cG_distances, gs, e, bx_uu]
theorem gs_z : s_cG_size (gs cs w f g z) v = gs cs w f g v := by
  simp only [s_cG_size, gs, upd_upd]
end GS
theorem gs_init (cs : CS) (z : Int32) : s_cG_size cs z = gs cs (cT_ways cs) (cG_line cs) (cG_distances cs) z := by
  have e2 : va_up (va_up (va_up cs.2.2.1 5 (cs.2.2.1 5)) 13 (cs.2.2.1 13)) 14 (cs.2.2.1 14) = cs.2.2.1 := by
    rw [vup_self, vup_self, vup_self]
  simp only [s_cG_size, gs, cT_ways, cG_line, cG_distances, e2]
theorem insL {cs : CS} {w : Nat → Int32} {D : Nat → Nat} {k : Nat} {X Y : List Nat} (hX : ∀ x ∈ X, D x ≤ D k) (hY : ∀ y ∈ Y, D k < D y) (hD : ∀ x, D x < 64) (hlen : X.length + Y.length < 24) : ∀ (j fuel : Nat) (f g : Nat → Int32), j ≤ Y.length → j < fuel →
    (∀ i x, i < X.length + j → (X ++ Y)[i]? = some x → f i = nI x ∧ g i = nI (D x)) → (∀ i x, X.length + j ≤ i → (X ++ Y)[i]? = some x → f (i + 1) = nI x ∧ g (i + 1) = nI (D x)) →
    ∃ f' g', rep f' (fun x => x) (X ++ k :: Y) ∧ rep g' D (X ++ k :: Y) ∧ f_G_insert_5 fuel (nI k) (nI (D k)) (nI (X.length + j)) (gs cs w f g (nI (X.length + Y.length))) = some ((), gs cs w f' g' (nI (X.length + Y.length + 1))) := by
  have hDk := hD k
  intro j
  induction j with
  | zero =>
    intro fuel f g hj hf h1 h2
    obtain ⟨fuel, rfl⟩ : ∃ q, fuel = q + 1 := ⟨fuel - 1, by omega⟩
    rw [Nat.add_zero] at *
    have fin : f_G_insert_55 (nI k) (nI (D k)) (nI X.length) (gs cs w f g (nI (X.length + Y.length))) = some ((), gs cs w (upd f X.length (nI k)) (upd g X.length (nI (D k))) (nI (X.length + Y.length + 1))) := by
      have e : ∀ f g, cG_size (gs cs w f g (nI (X.length + Y.length))) = nI (X.length + Y.length) := fun _ _ => rfl
      unfold f_G_insert_55
      simp only [ck_nI (show X.length < 24 by omega) (by decide), nIc (show X.length < 2 ^ 31 by omega), nx_e, gs_f, gs_g, e, gs_z, nI_1]
    have hr : ∀ i x, (X ++ k :: Y)[i]? = some x → upd f X.length (nI k) i = nI x ∧ upd g X.length (nI (D k)) i = nI (D x) := by
      intro i x hx
      by_cases c1 : i < X.length
      · rw [List.getElem?_append_left c1] at hx
        have := h1 i x c1 (by rw [List.getElem?_append_left c1]; exact hx)
        rw [pk_un (by omega), pk_un (by omega)]
        exact this
      · rw [List.getElem?_append_right (by omega)] at hx
        by_cases c2 : i = X.length
        · subst c2
          rw [Nat.sub_self] at hx
          cases hx
          exact ⟨pk_us, pk_us⟩
        · obtain ⟨m, rfl⟩ : ∃ m, i = m + 1 := ⟨i - 1, by omega⟩
          rw [show m + 1 - X.length = (m - X.length) + 1 by omega, List.getElem?_cons_succ] at hx
          have := h2 m x (by omega) (by rw [List.getElem?_append_right (by omega)]; exact hx)
          rw [pk_un (by omega), pk_un (by omega)]
          exact this
    refine ⟨_, _, fun i x hx => (hr i x hx).1, fun i x hx => (hr i x hx).2, ?_⟩
    rw [f_G_insert_5, Nat.add_zero]
    by_cases c0 : X.length = 0
    · rw [c0] at fin ⊢
      rw [if_pos (by decide), fin]
    · obtain ⟨m, hm⟩ : ∃ m, X.length = m + 1 := ⟨X.length - 1, by omega⟩
      have lm : m < X.length := by omega
      have hx : X[m]? = some X[m] := List.getElem?_eq_getElem lm
      have gd := (h1 m X[m] (by omega) (by rw [List.getElem?_append_left lm]; exact hx)).2
      have le := hX X[m] (List.getElem_mem lm)
      have eg : cG_distances (gs cs w f g (nI (X.length + Y.length))) m = nI (D X[m]) := gd
      rw [if_neg (nI_nle (by omega) (by omega))]
      rw [show nI X.length - 1 = nI m by rw [hm]; exact nI_pred m, ck_nI (by omega) (by decide), nIc (by omega), eg, if_pos (nI_le le (by omega)), fin]
  | succ j ih =>
    intro fuel f g hj hf h1 h2
    obtain ⟨fuel, rfl⟩ : ∃ q, fuel = q + 1 := ⟨fuel - 1, by omega⟩
    have lj : j < Y.length := by omega
    have hy : (X ++ Y)[X.length + j]? = some Y[j] := by
      rw [List.getElem?_append_right (by omega), Nat.add_sub_cancel_left]
      exact List.getElem?_eq_getElem lj
    have at1 := h1 (X.length + j) Y[j] (by omega) hy
    have lt := hY Y[j] (List.getElem_mem lj)
    have hDy := hD Y[j]
    have eg : cG_distances (gs cs w f g (nI (X.length + Y.length))) (X.length + j) = nI (D Y[j]) := at1.2
    have ef : cG_line (gs cs w f g (nI (X.length + Y.length))) (X.length + j) = nI Y[j] := at1.1
    have eg2 : ∀ f, cG_distances (gs cs w f g (nI (X.length + Y.length))) (X.length + j) = nI (D Y[j]) := fun _ => at1.2
    rw [f_G_insert_5, if_neg (nI_nle (by omega) (by omega)), ← Nat.add_assoc, nI_pred, ck_nI (by omega) (by decide), nIc (by omega), eg, if_neg (nI_ge lt (by omega))]
    simp only [ck_nI (show X.length + j < 24 by omega) (by decide), ck_nI (show X.length + j + 1 < 24 by omega) (by decide), nIc (show X.length + j + 1 < 2 ^ 31 by omega), nx_e, ef, gs_f, eg2, gs_g, pk_m1]
    refine ih fuel (upd f (X.length + j + 1) (nI Y[j])) (upd g (X.length + j + 1) (nI (D Y[j]))) (by omega) (by omega) (fun i x hi hx => ?_) (fun i x hi hx => ?_)
    · rw [pk_un (by omega), pk_un (by omega)]
      exact h1 i x (by omega) hx
    · by_cases e : i = X.length + j
      · subst e
        rw [hy] at hx
        cases hx
        exact ⟨pk_us, pk_us⟩
      · rw [pk_un (by omega), pk_un (by omega)]
        exact h2 i x (by omega) hx
theorem pacC {cs : CS} {t n : Nat} (ht : t < 24) (hn : n < 64) : f_U_passesAndCovers (nI t) (nI n) cs = some (if decide (cU_states cs t = 1) && tb (cU_covered cs t) n then 1 else 0, cs) := by
  unfold f_U_passesAndCovers
  simp only [ck_nI ht (by decide), nIc (show t < 2 ^ 31 by omega)]
  rw [bd_eq f_bit]
  by_cases c : cU_states cs t = 1
  · rw [if_pos c]
    cases d : tb (cU_covered cs t) n
    · rw [if_pos ((and_bm hn).mpr d)]; simp [c]
    · rw [if_neg (fun q => by rw [(and_bm hn).mp q] at d; cases d)]; simp [c]
  · rw [if_neg c]; simp [c]
