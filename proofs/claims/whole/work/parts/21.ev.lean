/-! what working out a NODE is: the document's own words, as a function. A program: kinds, numbers, parts; mu k n: is the change of kind k at n. -/
abbrev PT : Type := (Nat → Nat) × (Nat → Int64) × (Nat → Nat) × (Nat → Nat) × (Nat → Nat)
abbrev EO : Type := Option Int64 × (Nat × Int64)
def pkd (P : PT) : Nat → Nat := P.1
def pnu (P : PT) : Nat → Int64 := P.2.1
def ppa (P : PT) : Nat → Nat := P.2.2.1
def ppb (P : PT) : Nat → Nat := P.2.2.2.1
def ppc (P : PT) : Nat → Nat := P.2.2.2.2
def an (x : EO) (f : Int64 → Nat × Int64 → EO) : EO := match x.1 with
  | none => (none, x.2)
  | some v => f v x.2
def opv (k : Nat) (m1 m2 m5 : Bool) (x y : Int64) : Int64 :=
  if k = 3 then (if m2 then x - y else x + y) else if k = 4 then (if m2 then x + y else x - y) else if k = 5 then x * y
  else if k = 6 then (if x < y ∨ (x = y ∧ m1 = true) then 1 else 0) else (if decide (x = y) ≠ m5 then 1 else 0)
def evl (E : Int64 → Nat → Nat × Int64 → EO) (a b : Nat) : Nat → Int64 → Int64 → Nat × Int64 → EO
  | 0, _, _, s => (none, s)
  | k + 1, v, e, s => if v < e then an (E v b s) fun v s => an (E v a s) fun e s => evl E a b k v e s else (some v, s)
def evb (P : PT) (mu : Nat → Nat → Bool) (inp : Int64) (B : Nat) (E : Int64 → Nat → Nat × Int64 → EO) (acc : Int64) (n : Nat) (s : Nat × Int64) : EO :=
  if pkd P n = 0 then (some (if mu 0 n then pnu P n + 1 else pnu P n), s)
  else if pkd P n = 1 then (some inp, s)
  else if pkd P n = 2 then (some acc, s)
  else if pkd P n = 8 then an (E acc (ppa P n) s) fun x s => E acc (if decide (x ≠ 0) ≠ mu 3 n then ppb P n else ppc P n) s
  else if pkd P n = 9 then an (E 0 (ppa P n) s) fun e s => evl E (ppa P n) (ppb P n) B 0 e s
  else an (E acc (ppa P n) s) fun x s => if mu 4 n then (some x, s) else an (E acc (ppb P n) s) fun y s => (some (opv (pkd P n) (mu 1 n) (mu 2 n) (mu 5 n) x y), s)
def ev (P : PT) (mu : Nat → Nat → Bool) (inp : Int64) (B : Nat) : Nat → Int64 → Nat → Nat × Int64 → EO
  | 0, _, _, s => (none, s)
  | d + 1, acc, n, s => if B ≤ s.1 then (none, s) else evb P mu inp B (ev P mu inp B d) acc n (s.1 + 1, s.2 ||| bm n)
/-- the parts of the first N nodes are earlier ones -/
def wfP (P : PT) (N : Nat) : Prop := ∀ n, n < N → (¬ pkd P n = 0 → ¬ pkd P n = 1 → ¬ pkd P n = 2 → ppa P n < n ∧ ppb P n < n) ∧ (pkd P n = 8 → ppc P n < n)
/-- how the steps go: a value costs some; cut is at the bound -/
def okS (B : Nat) (s : Nat × Int64) (r : EO) : Prop := (∀ v, r.1 = some v → s.1 < r.2.1) ∧ r.2.1 ≤ B ∧ (r.1 = none → r.2.1 = B) ∧ s.1 ≤ r.2.1
def okE (B N : Nat) (E : Int64 → Nat → Nat × Int64 → EO) : Prop := ∀ acc n s, n < N → s.1 ≤ B → okS B s (E acc n s)
theorem an_some {x : EO} {f : Int64 → Nat × Int64 → EO} {v : Int64} (h : x.1 = some v) : an x f = f v x.2 := by
  unfold an; rw [h]
theorem an_none {x : EO} {f : Int64 → Nat × Int64 → EO} (h : x.1 = none) : an x f = (none, x.2) := by
  unfold an; rw [h]
theorem okS_an {B : Nat} {s : Nat × Int64} {x : EO} {f : Int64 → Nat × Int64 → EO} (hx : okS B s x) (hf : ∀ v, x.1 = some v → (∀ w, (f v x.2).1 = some w → x.2.1 ≤ (f v x.2).2.1) ∧ (f v x.2).2.1 ≤ B ∧ ((f v x.2).1 = none → (f v x.2).2.1 = B) ∧ x.2.1 ≤ (f v x.2).2.1) : okS B s (an x f) := by
  obtain ⟨h1, h2, h3, h4⟩ := hx
  cases h : x.1 with
  | none =>
    rw [an_none h]
    exact ⟨fun v hv => by simp at hv, h2, fun _ => h3 h, h4⟩
  | some v =>
    rw [an_some h]
    obtain ⟨g1, g2, g3, g4⟩ := hf v h
    have := h1 v h
    exact ⟨fun w hw => by omega, g2, g3, by omega⟩
theorem okS_w {B : Nat} {s t : Nat × Int64} {x : EO} (hx : okS B t x) (h : s.1 ≤ t.1) : okS B s x := by
  obtain ⟨h1, h2, h3, h4⟩ := hx
  exact ⟨fun v hv => by have := h1 v hv; omega, h2, h3, by omega⟩
theorem evl_ok {B N : Nat} {E : Int64 → Nat → Nat × Int64 → EO} (hE : okE B N E) {a b : Nat} (ha : a < N) (hb : b < N) : ∀ (k : Nat) (v e : Int64) (s : Nat × Int64), s.1 ≤ B → B < s.1 + 2 * k → (∀ w, (evl E a b k v e s).1 = some w → s.1 ≤ (evl E a b k v e s).2.1) ∧ (evl E a b k v e s).2.1 ≤ B ∧ ((evl E a b k v e s).1 = none → (evl E a b k v e s).2.1 = B) ∧ s.1 ≤ (evl E a b k v e s).2.1 := by
  intro k
  induction k with
  | zero => intro v e s h1 h2; omega
  | succ k ih =>
    intro v e s h1 h2
    rw [evl]
    by_cases hc : v < e
    · rw [if_pos hc]
      have o1 := hE v b s hb h1
      have key : okS B s (an (E v b s) fun v s => an (E v a s) fun e s => evl E a b k v e s) := by
        refine okS_an o1 (fun v1 hv1 => ?_)
        have o2 := hE v1 a (E v b s).2 ha o1.2.1
        have l1 := o1.1 v1 hv1
        have key2 : okS B (E v b s).2 (an (E v1 a (E v b s).2) fun e s => evl E a b k v1 e s) := by
          refine okS_an o2 (fun e1 he1 => ?_)
          have l2 := o2.1 e1 he1
          exact ih v1 e1 (E v1 a (E v b s).2).2 o2.2.1 (by omega)
        exact ⟨fun w hw => Nat.le_of_lt (key2.1 w hw), key2.2⟩
      exact ⟨fun w hw => Nat.le_of_lt (key.1 w hw), key.2⟩
    · rw [if_neg hc]
      exact ⟨fun _ _ => Nat.le_refl _, h1, fun h => by simp at h, Nat.le_refl _⟩
theorem ev_ok {P : PT} {N : Nat} (hP : wfP P N) (mu : Nat → Nat → Bool) (inp : Int64) (B : Nat) : ∀ (d : Nat) (acc : Int64) (n : Nat) (s : Nat × Int64), n < d → n < N → s.1 ≤ B → okS B s (ev P mu inp B d acc n s) := by
  intro d
  induction d with
  | zero => intro acc n s h; omega
  | succ d ih =>
    intro acc n s hd hn hs
    rw [ev]
    by_cases hc : B ≤ s.1
    · rw [if_pos hc]
      exact ⟨fun v hv => by simp at hv, hs, fun _ => by show s.1 = B; omega, Nat.le_refl _⟩
    rw [if_neg hc]
    have hE : okE B n (ev P mu inp B d) := fun acc m s hm hs => ih acc m s (by omega) (by omega) hs
    have hs1 : ((s.1 + 1, s.2 ||| bm n) : Nat × Int64).1 ≤ B := by show s.1 + 1 ≤ B; omega
    have val : ∀ v : Int64, okS B s (some v, ((s.1 + 1, s.2 ||| bm n) : Nat × Int64)) := fun v => ⟨fun w _ => by show s.1 < s.1 + 1; omega, hs1, fun h => by simp at h, by show s.1 ≤ s.1 + 1; omega⟩
    obtain ⟨w1, w2⟩ := hP n hn
    unfold evb
    generalize hs' : ((s.1 + 1, s.2 ||| bm n) : Nat × Int64) = s' at *
    have hl : s.1 ≤ s'.1 := by rw [← hs']; show s.1 ≤ s.1 + 1; omega
    by_cases k0 : pkd P n = 0
    · rw [if_pos k0]; exact val _
    rw [if_neg k0]
    by_cases k1 : pkd P n = 1
    · rw [if_pos k1]; exact val _
    rw [if_neg k1]
    by_cases k2 : pkd P n = 2
    · rw [if_pos k2]; exact val _
    rw [if_neg k2]
    obtain ⟨ha, hb⟩ := w1 k0 k1 k2
    by_cases k8 : pkd P n = 8
    · rw [if_pos k8]
      have hc := w2 k8
      have o1 := hE acc _ s' ha hs1
      refine okS_w (okS_an o1 (fun x hx => ?_)) hl
      have o2 := hE acc (if decide (x ≠ 0) ≠ mu 3 n then ppb P n else ppc P n) (ev P mu inp B d acc (ppa P n) s').2 (by split <;> omega) o1.2.1
      exact ⟨fun w hw => Nat.le_of_lt (o2.1 w hw), o2.2⟩
    rw [if_neg k8]
    by_cases k9 : pkd P n = 9
    · rw [if_pos k9]
      have o1 := hE 0 _ s' ha hs1
      refine okS_w (okS_an o1 (fun x hx => ?_)) hl
      have l1 := o1.1 x hx
      exact evl_ok hE ha hb B 0 x _ o1.2.1 (by have : 1 ≤ s'.1 := by rw [← hs']; show 1 ≤ s.1 + 1; omega
                                               omega)
    rw [if_neg k9]
    have o1 := hE acc _ s' ha hs1
    refine okS_w (okS_an o1 (fun x hx => ?_)) hl
    by_cases m4 : mu 4 n = true
    · rw [if_pos m4]
      exact ⟨fun _ _ => Nat.le_refl _, o1.2.1, fun h => by simp at h, Nat.le_refl _⟩
    rw [if_neg m4]
    have o2 := hE acc (ppb P n) (ev P mu inp B d acc (ppa P n) s').2 hb o1.2.1
    have key : okS B (ev P mu inp B d acc (ppa P n) s').2 (an (ev P mu inp B d acc (ppb P n) (ev P mu inp B d acc (ppa P n) s').2) fun y s => (some (opv (pkd P n) (mu 1 n) (mu 2 n) (mu 5 n) x y), s)) := okS_an o2 (fun y hy => ⟨fun _ _ => Nat.le_refl _, o2.2.1, fun h => by simp at h, Nat.le_refl _⟩)
    exact ⟨fun w hw => Nat.le_of_lt (key.1 w hw), key.2⟩
