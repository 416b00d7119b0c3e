section SIM4
variable {st : RS} {N B : Nat} {P : PT} {inp : Int64}
theorem simB (hT : treeR st N P) (hB2 : B ≤ 5000) {n h : Nat} (hn : n < N) (hh : h + n ≤ 63) {E : Int64 → Nat → Nat × Int64 → EO} (hR : HR st inp B n E) (hE : okE B n E) (s : Nat) (m a g : Int64) (mk wt ph : Nat → Int32) (fi : Nat → Int64) (hs : s ≤ B) (hs1 : 1 ≤ s) (hm : mkOK mk m) (hw : wt h = nI n) (hp : ph h = nI 0) :
    RXo st inp B (rx st (nI s) 0 (nI (h + 1)) a g mk wt ph fi) (s - 1) h a wt ph fi (evb P (muO (r_changedKind st) (r_changedNode st)) inp B E a n (s, m)) := by
  have hlt := (hT.2.2.2 n hn).1.2.1
  have g0 := goOn_eq (B := B) (inp := inp) hT hn hh (nI s) a g mk wt ph fi hw
  unfold evb
  have leaf : ∀ v, f_R_goOn inp (nI B) (rx st (nI s) 0 (nI (h + 1)) a g mk wt ph fi) = some ((), rx st (nI s) 0 (nI h) a v mk wt ph fi) → RXo st inp B (rx st (nI s) 0 (nI (h + 1)) a g mk wt ph fi) (s - 1) h a wt ph fi (some v, (s, m)) := by
    intro v hg
    refine ⟨fun w hw => ?_, fun hw => by simp at hw⟩
    have : v = w := by simpa using hw
    subst this
    exact ⟨1, mk, wt, ph, fi, by simp only; omega, hm, fun i _ => ⟨rfl, rfl, rfl⟩, fun fuel => lp_step (by omega) fuel _ _ _ _ _ _ _ hg⟩
  by_cases k0 : pkd P n = 0
  · rw [if_pos k0] at g0 ⊢; exact leaf _ g0
  rw [if_neg k0] at g0 ⊢
  by_cases k1 : pkd P n = 1
  · rw [if_pos k1] at g0 ⊢; exact leaf _ g0
  rw [if_neg k1] at g0 ⊢
  by_cases k2 : pkd P n = 2
  · rw [if_pos k2] at g0 ⊢; exact leaf _ g0
  rw [if_neg k2] at g0 ⊢
  have hab := (hT.2.2.1 n hn).1 k0 k1 k2
  by_cases k8 : pkd P n = 8
  · rw [if_pos k8] at g0 ⊢
    have hc := (hT.2.2.1 n hn).2 k8
    rw [choose_eq hT hn hh k8 _ _ _ _ _ _ _ (q := 0) (by omega) hp, if_pos rfl] at g0
    obtain ⟨A1, A2⟩ := RX_go hR hh hab.1 hs hm ⟨_, _, _, _, _, _, _, rfl⟩ g0
    have o1 := hE a (ppa P n) (s, m) hab.1 hs
    generalize E a (ppa P n) (s, m) = x1 at A1 A2 o1 ⊢
    have o14 := o1.2.2.2
    simp only at o14
    cases e1 : x1.1 with
    | none =>
      rw [an_none e1]
      obtain ⟨kk, mk', wt', ph', fi', h', a', g', c1, c2, c4⟩ := A2 e1
      exact ⟨fun w hw => by simp at hw, fun _ => ⟨kk, mk', wt', ph', fi', h', a', g', by simp only; omega, c2, c4⟩⟩
    | some v1 =>
      rw [an_some e1]
      obtain ⟨q1, mk1, wt1, ph1, fi1, b1, b2, b3, b4⟩ := A1 v1 e1
      have hw1 : wt1 h = nI n := by rw [(b3 h (by omega)).1, hw]
      have hp1 : ph1 h = nI 1 := by rw [(b3 h (by omega)).2.1]; exact pk_us
      have g1 := goOn_eq (B := B) (inp := inp) hT hn hh (nI x1.2.1) a v1 mk1 wt1 ph1 fi1 hw1
      rw [if_neg k0, if_neg k1, if_neg k2, if_pos k8, choose_eq hT hn hh k8 _ _ _ _ _ _ _ (q := 1) (by omega) hp1, if_neg (by decide), if_pos rfl] at g1
      generalize hz : (if decide (v1 ≠ 0) ≠ muO (r_changedKind st) (r_changedNode st) 3 n then ppb P n else ppc P n) = z at g1 ⊢
      have hzn : z < n := by rw [← hz]; split <;> omega
      obtain ⟨C1, C2⟩ := RX_go hR hh hzn o1.2.1 b2 ⟨_, _, _, _, _, _, _, rfl⟩ g1
      have o2 := hE a z x1.2 hzn o1.2.1
      have ex : ((x1.2.1, x1.2.2) : Nat × Int64) = x1.2 := rfl
      rw [ex] at C1 C2
      generalize E a z x1.2 = x2 at C1 C2 o2 ⊢
      have o24 := o2.2.2.2
      constructor
      · intro v2 e2
        obtain ⟨q2, mk2, wt2, ph2, fi2, c1, c2, c3, c4⟩ := C1 v2 e2
        have hw2 : wt2 h = nI n := by rw [(c3 h (by omega)).1, hw1]
        have hp2 : ph2 h = nI 2 := by rw [(c3 h (by omega)).2.1]; exact pk_us
        have g2 := goOn_eq (B := B) (inp := inp) hT hn hh (nI x2.2.1) a v2 mk2 wt2 ph2 fi2 hw2
        rw [if_neg k0, if_neg k1, if_neg k2, if_pos k8, choose_eq hT hn hh k8 _ _ _ _ _ _ _ (q := 2) (by omega) hp2, if_neg (by decide), if_neg (by decide)] at g2
        refine ⟨1 + (q2 + q1), mk2, wt2, upd ph2 h 3, fi2, by omega, c2, fun i hi => ?_, fun fuel => ?_⟩
        · have r2 := c3 i (by omega)
          have r1 := b3 i (by omega)
          have u1 : upd ph h 1 i = ph i := pk_un (by omega)
          have u2 : upd ph1 h 2 i = ph1 i := pk_un (by omega)
          have u3 : upd ph2 h 3 i = ph2 i := pk_un (by omega)
          exact ⟨by rw [r2.1, r1.1], by rw [u3, r2.2.1, u2, r1.2.1, u1], by rw [r2.2.2, r1.2.2]⟩
        · rw [← Nat.add_assoc, ← Nat.add_assoc, b4, c4]
          exact lp_step (by omega) fuel _ _ _ _ _ _ _ g2
      · intro e2
        obtain ⟨q2, mk2, wt2, ph2, fi2, h2, a2, g2, c1, c2, c4⟩ := C2 e2
        exact ⟨q2 + q1, mk2, wt2, ph2, fi2, h2, a2, g2, by omega, c2, fun fuel => by rw [← Nat.add_assoc, b4, c4]⟩
  rw [if_neg k8] at g0 ⊢
  by_cases k9 : pkd P n = 9
  · rw [if_pos k9] at g0 ⊢
    rw [loopR_eq hT hn hh (by omega) _ _ _ _ _ _ _ (q := 0) (by omega) hp, if_pos rfl] at g0
    obtain ⟨A1, A2⟩ := RX_go hR hh hab.1 hs hm ⟨_, _, _, _, _, _, _, rfl⟩ g0
    have o1 := hE 0 (ppa P n) (s, m) hab.1 hs
    generalize E 0 (ppa P n) (s, m) = x1 at A1 A2 o1 ⊢
    have o14 := o1.2.2.2
    simp only at o14
    cases e1 : x1.1 with
    | none =>
      rw [an_none e1]
      obtain ⟨kk, mk', wt', ph', fi', h', a', g', c1, c2, c4⟩ := A2 e1
      exact ⟨fun w hw => by simp at hw, fun _ => ⟨kk, mk', wt', ph', fi', h', a', g', by simp only; omega, c2, c4⟩⟩
    | some e =>
      rw [an_some e1]
      obtain ⟨q1, mk1, wt1, ph1, fi1, b1, b2, b3, b4⟩ := A1 e e1
      have hw1 : wt1 h = nI n := by rw [(b3 h (by omega)).1, hw]
      have hp1 : ph1 h = nI 1 := by rw [(b3 h (by omega)).2.1]; exact pk_us
      have hf1 : fi1 h = a := by rw [(b3 h (by omega)).2.2]; exact pk_uLs
      have l1 := o1.1 e e1
      simp only at l1
      obtain ⟨D1, D2⟩ := simL (inp := inp) hT hn hh k9 hR hE B x1.2.1 x1.2.2 0 e mk1 wt1 ph1 fi1 o1.2.1 (by omega) b2 hw1 hp1
      have ex : ((x1.2.1, x1.2.2) : Nat × Int64) = x1.2 := rfl
      rw [ex] at D1 D2
      have o3 := evl_ok hE hab.1 hab.2 B 0 e x1.2 o1.2.1 (by omega)
      have o34 := o3.2.2.2
      constructor
      · intro w hw
        obtain ⟨q2, mk2, wt2, ph2, fi2, c1, c2, c3, c4⟩ := D1 w hw
        refine ⟨q2 + q1, mk2, wt2, ph2, fi2, by omega, c2, fun i hi => ?_, fun fuel => ?_⟩
        · have r2 := c3 i hi
          have r1 := b3 i (by omega)
          have u1 : upd ph h 1 i = ph i := pk_un (by omega)
          have u2 : vp_updL fi h a i = fi i := pk_uLn (by omega)
          exact ⟨by rw [r2.1, r1.1], by rw [r2.2.1, r1.2.1, u1], by rw [r2.2.2, r1.2.2, u2]⟩
        · rw [← Nat.add_assoc, b4, c4, hf1]
      · intro hw
        obtain ⟨q2, mk2, wt2, ph2, fi2, h2, a2, g2, c1, c2, c4⟩ := D2 hw
        exact ⟨q2 + q1, mk2, wt2, ph2, fi2, h2, a2, g2, by omega, c2, fun fuel => by rw [← Nat.add_assoc, b4, c4]⟩
  rw [if_neg k9] at g0 ⊢
  rw [both_eq hT hn hh (by omega) _ _ _ _ _ _ _ (q := 0) (by omega) hp, if_pos rfl] at g0
  obtain ⟨A1, A2⟩ := RX_go hR hh hab.1 hs hm ⟨_, _, _, _, _, _, _, rfl⟩ g0
  have o1 := hE a (ppa P n) (s, m) hab.1 hs
  generalize E a (ppa P n) (s, m) = x1 at A1 A2 o1 ⊢
  have o14 := o1.2.2.2
  simp only at o14
  cases e1 : x1.1 with
  | none =>
    rw [an_none e1]
    obtain ⟨kk, mk', wt', ph', fi', h', a', g', c1, c2, c4⟩ := A2 e1
    exact ⟨fun w hw => by simp at hw, fun _ => ⟨kk, mk', wt', ph', fi', h', a', g', by simp only; omega, c2, c4⟩⟩
  | some v1 =>
    rw [an_some e1]
    obtain ⟨q1, mk1, wt1, ph1, fi1, b1, b2, b3, b4⟩ := A1 v1 e1
    have hw1 : wt1 h = nI n := by rw [(b3 h (by omega)).1, hw]
    have hp1 : ph1 h = nI 1 := by rw [(b3 h (by omega)).2.1]; exact pk_us
    have g1 := goOn_eq (B := B) (inp := inp) hT hn hh (nI x1.2.1) a v1 mk1 wt1 ph1 fi1 hw1
    rw [if_neg k0, if_neg k1, if_neg k2, if_neg k8, if_neg k9, both_eq hT hn hh (by omega) _ _ _ _ _ _ _ (q := 1) (by omega) hp1, if_neg (by decide), if_pos rfl] at g1
    by_cases m4 : muO (r_changedKind st) (r_changedNode st) 4 n = true
    · rw [if_pos m4] at g1 ⊢
      refine ⟨fun w hw => ?_, fun hw => by simp at hw⟩
      have : v1 = w := by simpa using hw
      subst this
      refine ⟨1 + q1, mk1, wt1, upd ph1 h 2, vp_updL fi1 h v1, by simp only; omega, b2, fun i hi => ?_, fun fuel => ?_⟩
      · have r1 := b3 i (by omega)
        have u1 : upd ph h 1 i = ph i := pk_un (by omega)
        have u2 : upd ph1 h 2 i = ph1 i := pk_un (by omega)
        have u3 : vp_updL fi1 h v1 i = fi1 i := pk_uLn (by omega)
        exact ⟨r1.1, by rw [u2, r1.2.1, u1], by rw [u3, r1.2.2]⟩
      · rw [← Nat.add_assoc, b4]
        exact lp_step (by omega) fuel _ _ _ _ _ _ _ g1
    rw [if_neg m4] at g1 ⊢
    obtain ⟨C1, C2⟩ := RX_go hR hh hab.2 o1.2.1 b2 ⟨_, _, _, _, _, _, _, rfl⟩ g1
    have o2 := hE a (ppb P n) x1.2 hab.2 o1.2.1
    have ex : ((x1.2.1, x1.2.2) : Nat × Int64) = x1.2 := rfl
    rw [ex] at C1 C2
    generalize E a (ppb P n) x1.2 = x2 at C1 C2 o2 ⊢
    have o24 := o2.2.2.2
    cases e2 : x2.1 with
    | none =>
      rw [an_none e2]
      obtain ⟨q2, mk2, wt2, ph2, fi2, h2, a2, g2, c1, c2, c4⟩ := C2 e2
      exact ⟨fun w hw => by simp at hw, fun _ => ⟨q2 + q1, mk2, wt2, ph2, fi2, h2, a2, g2, by simp only; omega, c2, fun fuel => by rw [← Nat.add_assoc, b4, c4]⟩⟩
    | some v2 =>
      rw [an_some e2]
      obtain ⟨q2, mk2, wt2, ph2, fi2, c1, c2, c3, c4⟩ := C1 v2 e2
      have hw2 : wt2 h = nI n := by rw [(c3 h (by omega)).1, hw1]
      have hp2 : ph2 h = nI 2 := by rw [(c3 h (by omega)).2.1]; exact pk_us
      have hf2 : fi2 h = v1 := by rw [(c3 h (by omega)).2.2]; exact pk_uLs
      have g2 := goOn_eq (B := B) (inp := inp) hT hn hh (nI x2.2.1) a v2 mk2 wt2 ph2 fi2 hw2
      rw [if_neg k0, if_neg k1, if_neg k2, if_neg k8, if_neg k9, both_eq hT hn hh (by omega) _ _ _ _ _ _ _ (q := 2) (by omega) hp2, if_neg (by decide), if_neg (by decide), hf2] at g2
      refine ⟨fun w hw => ?_, fun hw => by simp at hw⟩
      have : opv (pkd P n) (muO (r_changedKind st) (r_changedNode st) 1 n) (muO (r_changedKind st) (r_changedNode st) 2 n) (muO (r_changedKind st) (r_changedNode st) 5 n) v1 v2 = w := by simpa using hw
      subst this
      refine ⟨1 + (q2 + q1), mk2, wt2, upd ph2 h 3, fi2, by simp only; omega, c2, fun i hi => ?_, fun fuel => ?_⟩
      · have r2 := c3 i (by omega)
        have r1 := b3 i (by omega)
        have u1 : upd ph h 1 i = ph i := pk_un (by omega)
        have u2 : upd ph1 h 2 i = ph1 i := pk_un (by omega)
        have u3 : upd ph2 h 3 i = ph2 i := pk_un (by omega)
        have u4 : vp_updL fi1 h v1 i = fi1 i := pk_uLn (by omega)
        exact ⟨by rw [r2.1, r1.1], by rw [u3, r2.2.1, u2, r1.2.1, u1], by rw [r2.2.2, u4, r1.2.2]⟩
      · rw [← Nat.add_assoc, ← Nat.add_assoc, b4, c4]
        exact lp_step (by omega) fuel _ _ _ _ _ _ _ g2
/-- working out by frames is ev -/
theorem sim (hT : treeR st N P) (hB2 : B ≤ 5000) : ∀ d n, n ≤ d → n ≤ N → HR st inp B n (ev P (muO (r_changedKind st) (r_changedNode st)) inp B d) := by
  have hN := hT.1
  intro d
  induction d with
  | zero => intro n h1 _ n' h; omega
  | succ d ih =>
    intro n hd hN2 n' hn' h hh s m a g mk wt ph fi hs hm
    refine ⟨_, enter_eq (by omega) (by omega) (by omega) hs a g mk wt ph fi, ?_⟩
    rw [ev]
    by_cases e : s = B
    · rw [if_pos e, if_pos (show B ≤ ((s, m) : Nat × Int64).1 by show B ≤ s; omega)]
      exact ⟨fun v hv => by simp at hv, fun _ => ⟨0, mk, wt, ph, fi, _, _, _, by omega, hm, fun fuel => rfl⟩⟩
    · rw [if_neg e, if_neg (show ¬ B ≤ ((s, m) : Nat × Int64).1 by show ¬ B ≤ s; omega)]
      have key := simB (inp := inp) hT hB2 (n := n') (h := h) (by omega) hh (ih n' (by omega) (by omega)) (fun acc m s h1 h2 => ev_ok hT.2.2.1 _ inp B d acc m s (by omega) (by omega) h2) (s + 1) (m ||| bm n') a g (upd mk n' 1) (upd wt h (nI n')) (upd ph h 0) fi (by omega) (by omega) (mkOK_set hm (by omega)) pk_us pk_us
      obtain ⟨K1, K2⟩ := key
      refine ⟨fun v hv => ?_, fun hv => ?_⟩
      · obtain ⟨k, mk', wt', ph', fi', b1, b2, b3, b4⟩ := K1 v hv
        refine ⟨k, mk', wt', ph', fi', b1, b2, fun i hi => ?_, b4⟩
        have r := b3 i hi
        exact ⟨r.1.trans (pk_un (by omega)), r.2.1.trans (pk_un (by omega)), r.2.2⟩
      · exact K2 hv
end SIM4
