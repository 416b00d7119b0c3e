section SIM3
variable {st : RS} {N B : Nat} {P : PT} {inp : Int64}
theorem simL (hT : treeR st N P) {n h : Nat} (hn : n < N) (hh : h + n ≤ 63) (hk : pkd P n = 9) {E : Int64 → Nat → Nat × Int64 → EO} (hR : HR st inp B n E) (hE : okE B n E) : ∀ (k s : Nat) (m v e : Int64) (mk wt ph : Nat → Int32) (fi : Nat → Int64), s ≤ B → B < s + 2 * k → mkOK mk m → wt h = nI n → ph h = nI 1 →
    (∀ w, (evl E (ppa P n) (ppb P n) k v e (s, m)).1 = some w → ∃ kk mk' wt' ph' fi', kk ≤ 2 * ((evl E (ppa P n) (ppb P n) k v e (s, m)).2.1 - s) + 1 ∧ mkOK mk' (evl E (ppa P n) (ppb P n) k v e (s, m)).2.2 ∧ (∀ i, i < h → wt' i = wt i ∧ ph' i = ph i ∧ fi' i = fi i) ∧ ∀ fuel, lp inp B (fuel + kk) (rx st (nI s) 0 (nI (h + 1)) v e mk wt ph fi) = lp inp B fuel (rx st (nI (evl E (ppa P n) (ppb P n) k v e (s, m)).2.1) 0 (nI h) (fi h) w mk' wt' ph' fi')) ∧
    ((evl E (ppa P n) (ppb P n) k v e (s, m)).1 = none → ∃ kk mk' wt' ph' fi' h' a' g', kk ≤ 2 * ((evl E (ppa P n) (ppb P n) k v e (s, m)).2.1 - s) + 1 ∧ mkOK mk' (evl E (ppa P n) (ppb P n) k v e (s, m)).2.2 ∧ ∀ fuel, lp inp B (fuel + kk) (rx st (nI s) 0 (nI (h + 1)) v e mk wt ph fi) = lp inp B fuel (rx st (nI (evl E (ppa P n) (ppb P n) k v e (s, m)).2.1) 1 h' a' g' mk' wt' ph' fi')) := by
  have hab := (hT.2.2.1 n hn).1 (by omega) (by omega) (by omega)
  intro k
  induction k with
  | zero => intro s m v e mk wt ph fi h1 h2; omega
  | succ k ih =>
    intro s m v e mk wt ph fi hs hB hm hw hp
    have g0 : f_R_goOn inp (nI B) (rx st (nI s) 0 (nI (h + 1)) v e mk wt ph fi) = if v < e then f_R_enter (nI (ppb P n)) (nI B) (rx st (nI s) 0 (nI (h + 1)) v e mk wt (upd ph h 2) fi) else some ((), rx st (nI s) 0 (nI h) (fi h) v mk wt ph fi) := by
      rw [goOn_eq hT hn hh _ _ _ _ _ _ _ hw, if_neg (by omega), if_neg (by omega), if_neg (by omega), if_neg (by omega), if_pos hk, loopR_eq hT hn hh (by omega) _ _ _ _ _ _ _ (q := 1) (by omega) hp, if_neg (by decide), if_neg (by decide)]
    rw [evl]
    by_cases hc : v < e
    · rw [if_pos hc] at g0 ⊢
      obtain ⟨A1, A2⟩ := RX_go hR hh hab.2 hs hm ⟨_, _, _, _, _, _, _, rfl⟩ g0
      have o1 := hE v (ppb P n) (s, m) hab.2 hs
      generalize E v (ppb P n) (s, m) = x1 at A1 A2 o1 ⊢
      have o14 := o1.2.2.2
      simp only at o14
      cases e1 : x1.1 with
      | none =>
        rw [an_none e1]
        refine ⟨fun w hw => by simp at hw, fun _ => ?_⟩
        exact A2 e1
      | some v1 =>
        rw [an_some e1]
        obtain ⟨k1, mk1, wt1, ph1, fi1, b1, b2, b3, b4⟩ := A1 v1 e1
        have hw1 : wt1 h = nI n := by rw [(b3 h (by omega)).1, hw]
        have hp1 : ph1 h = nI 2 := by rw [(b3 h (by omega)).2.1]; exact pk_us
        have g1 : f_R_goOn inp (nI B) (rx st (nI x1.2.1) 0 (nI (h + 1)) v v1 mk1 wt1 ph1 fi1) = f_R_enter (nI (ppa P n)) (nI B) (rx st (nI x1.2.1) 0 (nI (h + 1)) v1 v1 mk1 wt1 (upd ph1 h 1) fi1) := by
          rw [goOn_eq hT hn hh _ _ _ _ _ _ _ hw1, if_neg (by omega), if_neg (by omega), if_neg (by omega), if_neg (by omega), if_pos hk, loopR_eq hT hn hh (by omega) _ _ _ _ _ _ _ (q := 2) (by omega) hp1, if_neg (by decide), if_pos rfl]
        obtain ⟨C1, C2⟩ := RX_go hR hh hab.1 o1.2.1 b2 ⟨_, _, _, _, _, _, _, rfl⟩ g1
        have o2 := hE v1 (ppa P n) x1.2 hab.1 o1.2.1
        have C1 : ∀ v, (E v1 (ppa P n) x1.2).1 = some v → _ := C1
        have C2 : (E v1 (ppa P n) x1.2).1 = none → _ := C2
        have l1 := o1.1 v1 e1
        simp only at l1
        change ((∀ w, (an (E v1 (ppa P n) x1.2) fun e s => evl E (ppa P n) (ppb P n) k v1 e s).1 = some w → _) ∧ _)
        have ex : ((x1.2.1, x1.2.2) : Nat × Int64) = x1.2 := rfl
        rw [ex] at C1 C2
        generalize E v1 (ppa P n) x1.2 = x2 at C1 C2 o2 ⊢
        have o24 := o2.2.2.2
        cases e2 : x2.1 with
        | none =>
          rw [an_none e2]
          refine ⟨fun w hw => by simp at hw, fun _ => ?_⟩
          obtain ⟨k2, mk2, wt2, ph2, fi2, h2, a2, g2, c1, c2, c4⟩ := C2 e2
          exact ⟨k2 + k1, mk2, wt2, ph2, fi2, h2, a2, g2, by simp only; omega, c2, fun fuel => by rw [← Nat.add_assoc, b4, c4]⟩
        | some ee =>
          rw [an_some e2]
          obtain ⟨k2, mk2, wt2, ph2, fi2, c1, c2, c3, c4⟩ := C1 ee e2
          have l2 := o2.1 ee e2
          have hw2 : wt2 h = nI n := by rw [(c3 h (by omega)).1, hw1]
          have hp2 : ph2 h = nI 1 := by rw [(c3 h (by omega)).2.1]; exact pk_us
          obtain ⟨D1, D2⟩ := ih x2.2.1 x2.2.2 v1 ee mk2 wt2 ph2 fi2 o2.2.1 (by omega) c2 hw2 hp2
          have hf : fi2 h = fi h := by rw [(c3 h (by omega)).2.2, (b3 h (by omega)).2.2]
          have ex2 : ((x2.2.1, x2.2.2) : Nat × Int64) = x2.2 := rfl
          rw [ex2] at D1 D2
          have o3 := evl_ok hE hab.1 hab.2 k v1 ee x2.2 o2.2.1 (by omega)
          refine ⟨fun w hw => ?_, fun hw => ?_⟩
          · obtain ⟨k3, mk3, wt3, ph3, fi3, d1, d2, d3, d4⟩ := D1 w hw
            have := o3.2.2.2
            refine ⟨k3 + (k2 + k1), mk3, wt3, ph3, fi3, by omega, d2, fun i hi => ?_, fun fuel => ?_⟩
            · have q1 := d3 i hi
              have q2 := c3 i (by omega)
              have q3 := b3 i (by omega)
              have u1 : upd ph h 2 i = ph i := pk_un (by omega)
              have u2 : upd ph1 h 1 i = ph1 i := pk_un (by omega)
              exact ⟨by rw [q1.1, q2.1, q3.1], by rw [q1.2.1, q2.2.1, u2, q3.2.1, u1], by rw [q1.2.2, q2.2.2, q3.2.2]⟩
            · rw [← Nat.add_assoc, ← Nat.add_assoc, b4, c4, d4, hf]
          · obtain ⟨k3, mk3, wt3, ph3, fi3, h3, a3, g3, d1, d2, d4⟩ := D2 hw
            have := o3.2.2.2
            exact ⟨k3 + (k2 + k1), mk3, wt3, ph3, fi3, h3, a3, g3, by omega, d2, fun fuel => by rw [← Nat.add_assoc, ← Nat.add_assoc, b4, c4, d4]⟩
    · rw [if_neg hc] at g0 ⊢
      refine ⟨fun w hw => ?_, fun hw => by simp at hw⟩
      have : v = w := by simpa using hw
      subst this
      exact ⟨1, mk, wt, ph, fi, by omega, hm, fun i _ => ⟨rfl, rfl, rfl⟩, fun fuel => lp_step (by omega) fuel _ _ _ _ _ _ _ g0⟩
end SIM3
