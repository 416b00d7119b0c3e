
abbrev PSt : Type := CS × RS
def lC {α : Type} (f : CS → Option (α × CS)) (st : PSt) : Option (α × PSt) := bd (f st.1) fun r c => some (r, (c, st.2))
def lR {α : Type} (f : RS → Option (α × RS)) (st : PSt) : Option (α × PSt) := bd (f st.2) fun r c => some (r, (st.1, c))
theorem lC_some {α : Type} {f : CS → Option (α × CS)} {st st2 : PSt} {r : α} (h : lC f st = some (r, st2)) : f st.1 = some (r, st2.1) ∧ st2.2 = st.2 := by
  obtain ⟨a, s, h1, h2⟩ := bd_some h
  cases h2
  exact ⟨h1, rfl⟩
theorem lR_some {α : Type} {f : RS → Option (α × RS)} {st st2 : PSt} {r : α} (h : lR f st = some (r, st2)) : f st.2 = some (r, st2.2) ∧ st2.1 = st.1 := by
  obtain ⟨a, s, h1, h2⟩ := bd_some h
  cases h2
  exact ⟨h1, rfl⟩
section LAWB
variable {p : Program} {l : Launch} {e : Env} {R : Room} {s : State} {m : MethodId} {args : Array Value} {below : List Frame} {meth : Method} {c : Code} {H H0 : Heap} {locs : List Loc} {Q : State → Prop} {D : va_G} {tys : List (ClassId × FieldType)} {w1 w1' w2 : va_W} {A0 : Nat → Prop} {cs : ClassId × ClassId × ClassId}
variable {own : String} {cc cd : ByteArray} {nL mL idx n pc cells slots : Nat} {y : MethodName} {ret : Option FieldType} {rm : Room} {As rest st0 : List Value} {rv : Option Value} {ls : Array Slot} {b : Nat} {lvs : List (Nat × Value)} {A B : Nat → Nat} {st st2 : PSt}
theorem va_Run.mono {mc ms : Nat} {g : JFrame} {Qa Qb : State → Outcome → State → Prop} {free : Addr → Prop} (hr : va_Run p l e R s m args below meth c H locs cells slots mc ms g rest Qa free) (hq : ∀ st o t, Qa st o t → Qb st o t) : va_Run p l e R s m args below meth c H locs cells slots mc ms g rest Qb free := by
  intro T hT X
  obtain ⟨v, st₀, t, T', L, h0, X', hL, e1, e2, h3, st⟩ := hr T hT X
  exact ⟨v, st₀, t, T', L, h0, X', hL, e1, e2, hq _ _ _ h3, st⟩
/-- a call of a method on the right part of the cells -/
theorem cVR (E : EC own cc nL p s m args c D tys) (I : IW D (w2 ++ w1) A0 H0 H locs) (hA : ∀ q, H0.size ≤ q → A0 q) (hM : Cn l y cd mL ret rm D tys w1 w1' (.ref b :: As) rv) (g : gV own idx y cd mL ret n) (hm : rm.cells = 0 ∧ rm.slots = 0)
    (k : Nat) {ci : Nat} {fs : List Value} {T : u_T} {N : Nat} (he : w1[k]? = some (b, .inr (ci, fs))) (hc : vwCl[ci]? = some (y.cls, T, N)) (hn : As.length = n) (hl : lv_has ls nL lvs) (hst : st0 = As.reverse ++ .ref b :: rest) (hrs : (rest.map fun v => v.category).sum ≤ 8)
    (hR : rm.frames + 1 ≤ R.frames ∧ 8 + (mL + 11) + rm.locals ≤ R.locals) (hf : cells ≤ R.cells ∧ slots ≤ R.slots) (hd : decode cc pc = .ok (.invokevirtual idx, 3))
    {stk : List Value} (hk : rv.toList ++ rest = stk) (kk : ∀ (H1 : Heap) (locs1 : List Loc), IW D (w2 ++ w1') A0 H0 H1 locs1 → W p l e R s m args below meth c H1 locs1 cells slots Q (F0 m (pc + 3) ls stk)) : W p l e R s m args below meth c H locs cells slots Q (F0 m pc ls st0) := by
  subst hk
  obtain ⟨hx, hb, hml, hown, hts, hK, hN⟩ := E
  obtain ⟨⟨g1, g2, g3, g4, g5⟩, gd⟩ := g
  have I2 := iw_right I
  refine iw_frame (Post := fun z => z = w1') I hA ((va_runV (As := As) (b := b) (rest := rest) (C := y.cls) (Ts := TB) ⟨hx, hb, hml, hown, hts⟩ (hM H.size) ⟨callB_of n hts (gi_code g5) rfl hm.1 hm.2 (hts _ g4) (hts _ g1) gd hR, hts _ g2, hts _ g3⟩ ⟨PW_blind, va_recv hK I2.1 hc he, fun U hU hW => ⟨rfl, by rw [hU], by rw [hU]; exact I2.1, va_K.moved hW.alike hK, I2.2.weaken (fun _ _ _ _ => trivial), hN.warm hW⟩⟩ rfl hn hl.1 hst (lv_room hrs) hd ⟨hf.1, hf.2⟩).mono (fun st o t h => ⟨h.1, w1', rfl, h.2.1, h.2.2.2.1, h.2.2.2.2⟩)) (fun w H1 locs1 e I => ?_)
  subst e
  exact kk H1 locs1 I
theorem cLR (E : EC own cc nL p s m args c D (tyL cs)) (I : IW D (cwC A cs st.1 ++ cwR B cs st.2) A0 H0 H locs) (hA : ∀ q, H0.size ≤ q → A0 q) (hM : Cn l y cd mL ret rm D (tyL cs) (cwR B cs st.2) (cwR B cs st2.2) (.ref (B 0) :: As) rv) (he : st2.1 = st.1) (g : gV own idx y cd mL ret n) (hm : rm.cells = 0 ∧ rm.slots = 0 ∧ y.cls = R_R)
    (hn : As.length = n) (hl : lv_has ls nL lvs) (hst : st0 = As.reverse ++ .ref (B 0) :: rest) (hrs : (rest.map fun v => v.category).sum ≤ 8)
    (hR : rm.frames + 1 ≤ R.frames ∧ 8 + (mL + 11) + rm.locals ≤ R.locals) (hf : cells ≤ R.cells ∧ slots ≤ R.slots) (hd : decode cc pc = .ok (.invokevirtual idx, 3))
    {stk : List Value} (hk : rv.toList ++ rest = stk) (kk : ∀ (H1 : Heap) (locs1 : List Loc), IW D (cwC A cs st2.1 ++ cwR B cs st2.2) A0 H0 H1 locs1 → W p l e R s m args below meth c H1 locs1 cells slots Q (F0 m (pc + 3) ls stk)) : W p l e R s m args below meth c H locs cells slots Q (F0 m pc ls st0) := by
  rw [he] at kk
  exact cVR E I hA hM g ⟨hm.1, hm.2.1⟩ 0 (ci := 7) rfl (by rw [hm.2.2]; rfl) hn hl hst hrs hR hf hd hk kk
theorem cLC (E : EC own cc nL p s m args c D (tyL cs)) (I : IW D (cwC A cs st.1 ++ cwR B cs st.2) A0 H0 H locs) (hA : ∀ q, H0.size ≤ q → A0 q) (hM : Cn l y cd mL ret rm D (tyL cs) (cwC A cs st.1) (cwC A cs st2.1) (.ref (A 0) :: As) rv) (he : st2.2 = st.2) (g : gV own idx y cd mL ret n) (hm : rm.cells = 0 ∧ rm.slots = 0 ∧ y.cls = R_M)
    (hn : As.length = n) (hl : lv_has ls nL lvs) (hst : st0 = As.reverse ++ .ref (A 0) :: rest) (hrs : (rest.map fun v => v.category).sum ≤ 8)
    (hR : rm.frames + 1 ≤ R.frames ∧ 8 + (mL + 11) + rm.locals ≤ R.locals) (hf : cells ≤ R.cells ∧ slots ≤ R.slots) (hd : decode cc pc = .ok (.invokevirtual idx, 3))
    {stk : List Value} (hk : rv.toList ++ rest = stk) (kk : ∀ (H1 : Heap) (locs1 : List Loc), IW D (cwC A cs st2.1 ++ cwR B cs st2.2) A0 H0 H1 locs1 → W p l e R s m args below meth c H1 locs1 cells slots Q (F0 m (pc + 3) ls stk)) : W p l e R s m args below meth c H locs cells slots Q (F0 m pc ls st0) := by
  rw [he] at kk
  exact cVR E (iw_swap I) hA hM g ⟨hm.1, hm.2.1⟩ 0 (ci := 0) rfl (by rw [hm.2.2]; rfl) hn hl hst hrs hR hf hd hk (fun H1 locs1 I => kk H1 locs1 (iw_swap I))
end LAWB
