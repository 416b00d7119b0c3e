/-! another number at one node: a run that doesn't come by there stays as it was -/
def pren (P : PT) (n : Nat) (v : Int64) : PT := (P.1, fun i => if i = n then v else pnu P i, P.2.2)
theorem pren_nu (P : PT) (n : Nat) (v : Int64) (i : Nat) : pnu (pren P n v) i = if i = n then v else pnu P i := rfl
def mon (n : Nat) (s : Nat × Int64) (r : EO) : Prop := tb s.2 n = true → tb r.2.2 n = true
theorem mon_id (n : Nat) (s : Nat × Int64) (o : Option Int64) : mon n s (o, s) := fun h => h
theorem mon_an {n : Nat} {s : Nat × Int64} {x : EO} {f : Int64 → Nat × Int64 → EO} (hx : mon n s x) (hf : ∀ v, mon n x.2 (f v x.2)) : mon n s (an x f) := by
  cases h : x.1 with
  | none => rw [an_none h]; exact hx
  | some v => rw [an_some h]; exact fun q => hf v (hx q)
theorem evl_mon {n : Nat} {E : Int64 → Nat → Nat × Int64 → EO} (hE : ∀ v m s, mon n s (E v m s)) (a b : Nat) : ∀ (k : Nat) (v e : Int64) (s : Nat × Int64), mon n s (evl E a b k v e s) := by
  intro k
  induction k with
  | zero => intro v e s; exact mon_id _ _ _
  | succ k ih =>
    intro v e s
    rw [evl]
    split
    · exact mon_an (hE _ _ _) (fun v1 => mon_an (hE _ _ _) (fun e1 => ih v1 e1 _))
    · exact mon_id _ _ _
theorem ev_mon (n : Nat) (P : PT) (mu : Nat → Nat → Bool) (inp : Int64) (B : Nat) : ∀ (d : Nat) (acc : Int64) (m : Nat) (s : Nat × Int64), mon n s (ev P mu inp B d acc m s) := by
  intro d
  induction d with
  | zero => intro acc m s; exact mon_id _ _ _
  | succ d ih =>
    intro acc m s
    rw [ev]
    split
    · exact mon_id _ _ _
    have base : ∀ r : EO, mon n (s.1 + 1, s.2 ||| bm m) r → mon n s r := by
      intro r h q
      apply h
      show tb (s.2 ||| bm m) n = true
      rw [tb_or, q, Bool.true_or]
    apply base
    generalize ((s.1 + 1, s.2 ||| bm m) : Nat × Int64) = s'
    unfold evb
    split
    · exact mon_id _ _ _
    split
    · exact mon_id _ _ _
    split
    · exact mon_id _ _ _
    split
    · exact mon_an (ih _ _ _) (fun v => ih _ _ _)
    split
    · exact mon_an (ih _ _ _) (fun v => evl_mon ih _ _ _ _ _ _)
    refine mon_an (ih _ _ _) (fun v => ?_)
    split
    · exact mon_id _ _ _
    · exact mon_an (ih _ _ _) (fun v => mon_id _ _ _)
def DD (n : Nat) (x y : EO) : Prop := x = y ∨ (tb x.2.2 n = true ∧ tb y.2.2 n = true)
theorem DD_an {n : Nat} {x y : EO} {f g : Int64 → Nat × Int64 → EO} (h : DD n x y) (hf : ∀ v s, DD n (f v s) (g v s)) (mf : ∀ v s, mon n s (f v s)) (mg : ∀ v s, mon n s (g v s)) : DD n (an x f) (an y g) := by
  rcases h with h | ⟨h1, h2⟩
  · subst h
    cases e : x.1 with
    | none => rw [an_none e, an_none e]; exact Or.inl rfl
    | some v => rw [an_some e, an_some e]; exact hf v x.2
  · exact Or.inr ⟨mon_an (fun q => q) (fun v => mf v _) h1, mon_an (fun q => q) (fun v => mg v _) h2⟩
theorem evl_D {n : Nat} {E F : Int64 → Nat → Nat × Int64 → EO} (hE : ∀ v m s, mon n s (E v m s)) (hF : ∀ v m s, mon n s (F v m s)) (h : ∀ v m s, DD n (E v m s) (F v m s)) (a b : Nat) : ∀ (k : Nat) (v e : Int64) (s : Nat × Int64), DD n (evl E a b k v e s) (evl F a b k v e s) := by
  intro k
  induction k with
  | zero => intro v e s; exact Or.inl rfl
  | succ k ih =>
    intro v e s
    rw [evl, evl]
    by_cases c : v < e
    · rw [if_pos c, if_pos c]
      exact DD_an (h _ _ _) (fun v1 s1 => DD_an (h _ _ _) (fun e1 s2 => ih _ _ _) (fun e1 s2 => evl_mon hE _ _ _ _ _ _) (fun e1 s2 => evl_mon hF _ _ _ _ _ _)) (fun v1 s1 => mon_an (hE _ _ _) (fun e1 => evl_mon hE _ _ _ _ _ _)) (fun v1 s1 => mon_an (hF _ _ _) (fun e1 => evl_mon hF _ _ _ _ _ _))
    · rw [if_neg c, if_neg c]; exact Or.inl rfl
theorem ev_D {P : PT} {n : Nat} (hn : n < 64) (hk : pkd P n = 0) (v : Int64) (mu : Nat → Nat → Bool) (inp : Int64) (B : Nat) : ∀ (d : Nat) (acc : Int64) (m : Nat) (s : Nat × Int64), DD n (ev P mu inp B d acc m s) (ev (pren P n v) mu inp B d acc m s) := by
  intro d
  induction d with
  | zero => intro acc m s; exact Or.inl rfl
  | succ d ih =>
    intro acc m s
    have m1 := ev_mon n P mu inp B d
    have m2 := ev_mon n (pren P n v) mu inp B d
    have em : pkd (pren P n v) m = pkd P m := rfl
    have ea : ppa (pren P n v) m = ppa P m := rfl
    have eb : ppb (pren P n v) m = ppb P m := rfl
    have ec : ppc (pren P n v) m = ppc P m := rfl
    rw [ev, ev]
    by_cases c : B ≤ s.1
    · rw [if_pos c, if_pos c]; exact Or.inl rfl
    rw [if_neg c, if_neg c]
    unfold evb
    rw [em, ea, eb, ec, pren_nu]
    by_cases k0 : pkd P m = 0
    · rw [if_pos k0, if_pos k0]
      by_cases e : m = n
      · subst e
        have : tb (s.2 ||| bm m) m = true := by rw [tb_or, tb_bm hn]; simp
        exact Or.inr ⟨this, this⟩
      · rw [if_neg e]; exact Or.inl rfl
    rw [if_neg k0, if_neg k0]
    generalize ((s.1 + 1, s.2 ||| bm m) : Nat × Int64) = s'
    by_cases k1 : pkd P m = 1
    · rw [if_pos k1, if_pos k1]; exact Or.inl rfl
    rw [if_neg k1, if_neg k1]
    by_cases k2 : pkd P m = 2
    · rw [if_pos k2, if_pos k2]; exact Or.inl rfl
    rw [if_neg k2, if_neg k2]
    by_cases k8 : pkd P m = 8
    · rw [if_pos k8, if_pos k8]
      exact DD_an (ih _ _ _) (fun x s => ih _ _ _) (fun x s => m1 _ _ _) (fun x s => m2 _ _ _)
    rw [if_neg k8, if_neg k8]
    by_cases k9 : pkd P m = 9
    · rw [if_pos k9, if_pos k9]
      exact DD_an (ih _ _ _) (fun x s => evl_D m1 m2 ih _ _ _ _ _ _) (fun x s => evl_mon m1 _ _ _ _ _ _) (fun x s => evl_mon m2 _ _ _ _ _ _)
    rw [if_neg k9, if_neg k9]
    refine DD_an (ih _ _ _) (fun x s => ?_) (fun x s => ?_) (fun x s => ?_)
    · split
      · exact Or.inl rfl
      · exact DD_an (ih _ _ _) (fun y s => Or.inl rfl) (fun y s => mon_id _ _ _) (fun y s => mon_id _ _ _)
    · split
      · exact mon_id _ _ _
      · exact mon_an (m1 _ _ _) (fun y => mon_id _ _ _)
    · split
      · exact mon_id _ _ _
      · exact mon_an (m2 _ _ _) (fun y => mon_id _ _ _)
theorem evr_D {P : PT} {n : Nat} (hn : n < 64) (hk : pkd P n = 0) (v : Int64) (mu : Nat → Nat → Bool) (inp : Int64) (B root : Nat) : tb (evr (pren P n v) mu inp B root).2.2 n = tb (evr P mu inp B root).2.2 n ∧ (tb (evr P mu inp B root).2.2 n = false → evr (pren P n v) mu inp B root = evr P mu inp B root) := by
  rcases ev_D hn hk v mu inp B DP 0 root (0, 0) with h | ⟨h1, h2⟩
  · have h : evr P mu inp B root = evr (pren P n v) mu inp B root := h
    rw [← h]
    exact ⟨rfl, fun _ => rfl⟩
  · have h1 : tb (evr P mu inp B root).2.2 n = true := h1
    have h2 : tb (evr (pren P n v) mu inp B root).2.2 n = true := h2
    rw [h1, h2]
    exact ⟨rfl, fun q => by cases q⟩
theorem pren_wf {P : PT} {N n : Nat} {v : Int64} (h : wfP P N) : wfP (pren P n v) N := h
theorem pren_agr (P : PT) (n : Nat) (v : Int64) : agr P (pren P n v) n := by
  intro m hm
  exact ⟨rfl, by rw [pren_nu, if_neg (by omega)], rfl, rfl, rfl⟩
theorem tree_ren {cs : CS} {N n : Nat} {P : PT} (hT : treeC cs N P) (hk : pkd P n = 0) (v : Int64) : treeC (s_cT_numbers cs n v) N (pren P n v) := by
  refine ⟨hT.1, hT.2.1, hT.2.2.1, fun m hm => ?_⟩
  obtain ⟨⟨q1, q2, q3, q4⟩, q5⟩ := hT.2.2.2 m hm
  refine ⟨⟨q1, q2, ?_, fun h => ?_⟩, q5⟩
  · rw [pren_nu]
    by_cases e : m = n
    · subst e; rw [if_pos rfl]; exact pk_uLs
    · rw [if_neg e]; exact (pk_uLn e).trans q3
  · have h : ¬ pkd P m = 0 := h
    rw [pren_nu, if_neg (fun e => h (by rw [e]; exact hk))]
    exact q4 h
theorem tree_renR {rs : RS} {N n : Nat} {P : PT} (hT : treeR rs N P) (hk : pkd P n = 0) (v : Int64) : treeR (s_r_number rs n v) N (pren P n v) := by
  refine ⟨hT.1, hT.2.1, hT.2.2.1, fun m hm => ?_⟩
  obtain ⟨⟨q1, q2, q3, q4⟩, q5⟩ := hT.2.2.2 m hm
  refine ⟨⟨q1, q2, ?_, fun h => ?_⟩, q5⟩
  · rw [pren_nu]
    by_cases e : m = n
    · subst e; rw [if_pos rfl]; exact pk_uLs
    · rw [if_neg e]; exact (pk_uLn e).trans q3
  · have h : ¬ pkd P m = 0 := h
    rw [pren_nu, if_neg (fun e => h (by rw [e]; exact hk))]
    exact q4 h
theorem renL {cs : CS} {N : Nat} {Q : PT} (hT : treeC cs N Q) : ∀ (k fuel i : Nat) (sh : Nat → Int32), i + k = N → k < fuel → (∀ j, j < i → sh j = nI (lst Q j)) →
    ∃ sh', (∀ j, j < N → sh' j = nI (lst Q j)) ∧ f_T_renumber_10 fuel (nI i) (S_cT_shapes cs sh) = some ((), S_cT_shapes cs sh') := by
  have hN := hT.1
  intro k
  induction k with
  | zero =>
    intro fuel i sh h1 h2 h3
    obtain ⟨fuel, rfl⟩ : ∃ q, fuel = q + 1 := ⟨fuel - 1, by omega⟩
    have : i = N := by omega
    subst this
    have e : cT_size (S_cT_shapes cs sh) = nI i := hT.2.1
    exact ⟨sh, h3, by rw [f_T_renumber_10, e, if_pos (nI_le (Nat.le_refl _) (by omega))]⟩
  | succ k ih =>
    intro fuel i sh h1 h2 h3
    obtain ⟨fuel, rfl⟩ : ∃ q, fuel = q + 1 := ⟨fuel - 1, by omega⟩
    have e : cT_size (S_cT_shapes cs sh) = nI N := hT.2.1
    have hT' : treeC (S_cT_shapes cs sh) N Q := hT
    obtain ⟨sh', q1, q2⟩ := ih fuel (i + 1) (upd sh i (nI (lst Q i))) (by omega) (by omega) (fun j hj => by
      by_cases e : j = i
      · subst e; exact pk_us
      · rw [pk_un e]; exact h3 j (by omega))
    refine ⟨sh', q1, ?_⟩
    rw [f_T_renumber_10, e, if_neg (nI_ge (by omega) (by omega)), bd_eq (shapeC hT' (by omega) h3), ck_nI (by omega) (by decide), nIc (by omega), nx_e, nx_e, nI_1, sS_cT_shapes, gS_cT_shapes, SS_cT_shapes]
    exact q2
theorem renC {cs : CS} {N n : Nat} {P : PT} (hT : treeC cs N P) (hS : shOK cs N P) (hn : n < N) (hk : pkd P n = 0) (v : Int64) : ∃ sh, (∀ j, j < N → sh j = nI (lst (pren P n v) j)) ∧ f_T_renumber (nI n) v cs = some ((), S_cT_shapes (s_cT_numbers cs n v) sh) := by
  have hN := hT.1
  have hFU := FU_eq
  obtain ⟨sh, q1, q2⟩ := renL (tree_ren hT hk v) (N - n) FU n (cT_shapes (s_cT_numbers cs n v)) (by omega) (by omega) (fun j hj => by
    rw [← lst_agr (pren_agr P n v) (fun m hm => hT.2.2.1 m (by omega)) hj]
    exact hS j (by omega))
  rw [Sg_cT_shapes] at q2
  refine ⟨sh, q1, ?_⟩
  unfold f_T_renumber
  rw [ck_nI (by omega) (by decide), nIc (by omega), nx_e]
  exact q2
