/-! Making cells: constructors, and calls beside other cells (the frame rule). -/
section BASE2
variable {p : Program} {l : Launch} {e : Env} {R : Room} {s : State} {m : MethodId} {args : Array Value} {below : List Frame} {meth : Method} {c : Code} {H H0 : Heap} {locs : List Loc} {Q : State → Prop} {D : va_G} {tys : List (ClassId × FieldType)} {ws ws' w1 w2 : va_W} {A0 : Nat → Prop} {cs : ClassId × ClassId × ClassId}
theorem iw_swap (I : IW D (w1 ++ w2) A0 H0 H locs) : IW D (w2 ++ w1) A0 H0 H locs := by
  obtain ⟨hP, hD, hS⟩ := I
  have P1 : va_P D vwCl w1 H := fun k q hk => by
    have hl := (List.getElem?_eq_some_iff.mp hk).1
    exact hP k q (by rw [List.getElem?_append_left hl]; exact hk)
  have P2 : va_P D vwCl w2 H := fun k q hk => hP (w1.length + k) q (by rw [List.getElem?_append_right (by omega), Nat.add_sub_cancel_left]; exact hk)
  have at1 : ∀ (k : Nat) (q : Nat × va_E), w1[k]? = some q → (w1 ++ w2)[k]? = some q := fun k q hk => by
    rw [List.getElem?_append_left (List.getElem?_eq_some_iff.mp hk).1]; exact hk
  have at2 : ∀ (k : Nat) (q : Nat × va_E), w2[k]? = some q → (w1 ++ w2)[w1.length + k]? = some q := fun k q hk => by
    rw [List.getElem?_append_right (by omega), Nat.add_sub_cancel_left]; exact hk
  refine ⟨P2.app P1, va_D.app ⟨fun i j x y hi hj h => ?_, fun k q hk => hD.2 _ q (at2 k q hk)⟩ ⟨fun i j x y hi hj h => hD.1 i j x y (at1 i x hi) (at1 j y hj) h, fun k q hk => hD.2 _ q (at1 k q hk)⟩ (fun i j x y hi hj h => ?_), hS⟩
  · have := hD.1 _ _ x y (at2 i x hi) (at2 j y hj) h
    omega
  · have h1 := hD.1 _ _ x y (at2 i x hi) (at1 j y hj) h
    have h2 := (List.getElem?_eq_some_iff.mp hj).1
    omega
theorem iw_right (I : IW D (w2 ++ w1) A0 H0 H locs) : va_P D vwCl w1 H ∧ va_D A0 w1 := by
  obtain ⟨hP, hD, hS⟩ := I
  have at1 : ∀ (k : Nat) (q : Nat × va_E), w1[k]? = some q → (w2 ++ w1)[w2.length + k]? = some q := fun k q hk => by
    rw [List.getElem?_append_right (by omega), Nat.add_sub_cancel_left]; exact hk
  refine ⟨fun k q hk => hP _ q (at1 k q hk), fun i j x y hi hj h => ?_, fun k q hk => hD.2 _ q (at1 k q hk)⟩
  have := hD.1 _ _ x y (at1 i x hi) (at1 j y hj) h
  omega
/-- a call on the right part of the cells; the left part stays -/
theorem iw_frame {cells slots mc ms pc : Nat} {ls : Array Slot} {st0 rest : List Value} {rv : Option Value} {Post : va_W → Prop} (I : IW D (w2 ++ w1) A0 H0 H locs) (hA : ∀ q, H0.size ≤ q → A0 q)
    (hr : va_Run p l e R s m args below meth c H locs cells slots mc ms (F0 m pc ls st0) rest (fun st o t => o = .returned rv ∧ ∃ ws', Post ws' ∧ va_P D vwCl ws' t.heap ∧ va_D (va_A w1 H.size) ws' ∧ va_F (va_A w1 H.size) st t) (va_A w1 H.size))
    (kk : ∀ (ws' : va_W) (H1 : Heap) (locs1 : List Loc), Post ws' → IW D (w2 ++ ws') A0 H0 H1 locs1 → W p l e R s m args below meth c H1 locs1 (cells + mc) (slots + ms) Q (F0 m (pc + 3) ls (rv.toList ++ rest))) : W p l e R s m args below meth c H locs cells slots Q (F0 m pc ls st0) := by
  intro T hT X
  have I2 := iw_right I
  obtain ⟨hP, hD, hS⟩ := I
  have hF : ∀ q, va_A w1 H.size q → A0 q := by
    intro q h
    rcases h with ⟨k, e, h⟩ | h
    · exact I2.2.2 k (q, e) h
    · exact hA q (Nat.le_trans hS.1 h)
  obtain ⟨v, st₀, t, T', L, h0, X', hL, e1, e2, ⟨hv, ws', hp, hP', hD', hz, hk⟩, st⟩ := hr T hT X
  cases hv
  rw [h0] at hz hk
  have atL : ∀ (k : Nat) (q : Nat × va_E), w2[k]? = some q → (w2 ++ w1)[k]? = some q := fun k q hk => by
    rw [List.getElem?_append_left (List.getElem?_eq_some_iff.mp hk).1]; exact hk
  have apart : ∀ (k : Nat) (q : Nat × va_E), w2[k]? = some q → q.1 < H.size ∧ ¬ va_A w1 H.size q.1 := by
    intro k q hq
    have hl := (hP k q (atL k q hq)).lt
    refine ⟨hl, fun h => ?_⟩
    rcases h with ⟨k2, e, h⟩ | h
    · have h3 := hD.1 k (w2.length + k2) q (q.1, e) (atL k q hq) (by rw [List.getElem?_append_right (by omega), Nat.add_sub_cancel_left]; exact h) rfl
      have h4 := (List.getElem?_eq_some_iff.mp hq).1
      omega
    · omega
  have hP2 : va_P D vwCl (w2 ++ ws') T'.heap := by
    rw [e1]
    exact va_P.app (fun k q hq => (hP k q (atL k q hq)).kept (hk q.1 (apart k q hq).1 (apart k q hq).2)) hP'
  have hD2 : va_D A0 (w2 ++ ws') := va_D.app ⟨fun i j x y hi hj h => hD.1 i j x y (atL i x hi) (atL j y hj) h, fun k q hk => hD.2 _ q (atL k q hk)⟩ (hD'.weaken (fun k q _ h => hF q.1 h)) (fun i j x y hx hy hxy => (apart i x hx).2 (by rw [hxy]; exact hD'.2 j y hy))
  obtain ⟨t2, a1, b1⟩ := kk ws' T'.heap (locs ++ L) hp ⟨hP2, hD2, Nat.le_trans hS.1 (by rw [e1]; exact hz), fun q h1 h2 => by
      rw [e1, hk q (Nat.lt_of_lt_of_le h1 hS.1) (fun z => h2 (hF q z))]; exact hS.2.1 q h1 h2, fun q hq => by
      rcases List.mem_append.mp hq with h | h
      · exact hS.2.2 q h
      · exact hF _ (hL q h)⟩ T' rfl X'
  exact ⟨t2, st t2 a1, b1⟩
/-- a constructor's contract -/
def QI (D : va_G) (tys : List (ClassId × FieldType)) (ws0 : va_W) (Post : va_W → Prop) (sz : Nat) (_ : Array Value) (st : State) (o : Outcome) (t : State) : Prop :=
  o = .returned none ∧ ∃ ws', Post ws' ∧ va_P D vwCl ws' t.heap ∧ va_D (va_A ws0 sz) ws' ∧ va_F (va_A ws0 sz) st t
def Ci (l : Launch) (y : MethodName) (cd : ByteArray) (nL : Nat) (rm : Room) (D : va_G) (tys : List (ClassId × FieldType)) (ws0 : va_W) (Post : va_W → Prop) (As : List Value) (mc ms : Nat) : Prop :=
  ∀ sz : Nat, Met l y (Cond.code y cd nL none :: TB) rm (va_Pc As (PW D tys ws0 sz)) (QI D tys ws0 Post sz) mc ms (va_A ws0 sz)
def gI (own : String) (idx : Nat) (y : MethodName) (cd : ByteArray) (nL : Nat) (n : Nat) : Prop :=
  (Cond.methodLink own idx y ∈ TB ∧ Cond.instanceMethod y ∈ TB ∧ Cond.initialized y.cls ∈ TB ∧ Cond.code y cd nL none ∈ TB) ∧ y.name = "<init>" ∧ (y.cls ≠ "java/lang/invoke/MethodHandle" ∧ y.cls ≠ "java/lang/invoke/VarHandle" ∧ (parseMethodDescriptor y.desc).map (fun d => d.parameters.length) = some n)
variable {own : String} {cc cd : ByteArray} {nL mL idx n pc cells slots mc ms : Nat} {y : MethodName} {rm : Room} {As rest st0 : List Value} {ls : Array Slot} {b : Nat} {lvs : List (Nat × Value)} {Post : va_W → Prop}
theorem cI (E : EC own cc nL p s m args c D tys) (I : IW D (w2 ++ w1) A0 H0 H locs) (hA : ∀ q, H0.size ≤ q → A0 q) (hM : Ci l y cd mL rm D tys w1 Post (.ref b :: As) mc ms) (g : gI own idx y cd mL n) (hm : rm.cells = mc ∧ rm.slots = ms)
    (hn : As.length = n) (hl : lv_has ls nL lvs) (hst : st0 = As.reverse ++ .ref b :: rest) (hrs : (rest.map fun v => v.category).sum ≤ 8)
    (hR : rm.frames + 1 ≤ R.frames ∧ 8 + (mL + 11) + rm.locals ≤ R.locals) (hf : cells + mc ≤ R.cells ∧ slots + ms ≤ R.slots) (hd : decode cc pc = .ok (.invokespecial idx, 3))
    (kk : ∀ (ws' : va_W) (H1 : Heap) (locs1 : List Loc), Post ws' → IW D (w2 ++ ws') A0 H0 H1 locs1 → W p l e R s m args below meth c H1 locs1 (cells + mc) (slots + ms) Q (F0 m (pc + 3) ls rest)) : W p l e R s m args below meth c H locs cells slots Q (F0 m pc ls st0) := by
  obtain ⟨hx, hb, hml, hown, hts, hK, hN⟩ := E
  obtain ⟨⟨g1, g2, g4, g5⟩, gn, gd⟩ := g
  have I2 := iw_right I
  exact iw_frame (rv := none) I hA (va_runI (As := As) (b := b) (rest := rest) (Ts := TB) ⟨hx, hb, hml, hown, hts⟩ (hM H.size) ⟨callB_of n hts (gi_code g5) rfl hm.1 hm.2 (hts _ g4) (hts _ g1) gd hR, gn, hts _ g2⟩ ⟨PW_blind, fun U hU hW => ⟨rfl, by rw [hU], by rw [hU]; exact I2.1, va_K.moved hW.alike hK, I2.2.weaken (fun _ _ _ _ => trivial), hN.warm hW⟩⟩ rfl hn hl.1 hst (lv_room hrs) hd ⟨hf.1, hf.2⟩) kk
theorem ci_intro {As : List Value} {mc ms : Nat} {Post : va_W → Prop} (hy : plainName y.cls = true) (hyn : y.name = "<init>") (hlen : (lg_sl As).length ≤ nL)
    (body : ∀ (p : Program) (e : Env) (s : State) (m : MethodId) (below : List Frame) (meth : Method) (c : Code) (A0 : Nat → Prop) (Q : State → Prop) (ls : Array Slot), EC y.cls cd nL p s m As.toArray c D tys → meth.sig.returnType = none → meth.locks = false → meth.name = "<init>" →
      (∀ q, s.heap.size ≤ q → A0 q) → A0 = va_A ws s.heap.size → Q = MQ below (QI D tys ws Post s.heap.size) As.toArray s mc ms (va_A ws s.heap.size) → IW D ws A0 s.heap s.heap [] → lv_has ls nL (lv_args 0 As) → W p l e rm s m As.toArray below meth c s.heap [] 0 0 Q (F0 m 0 ls [])) : Ci l y cd nL rm D tys ws Post As mc ms := by
  intro sz
  refine Met.ofW (cc := cd) (maxL := nL) (ret := none) hy rfl ?_
  intro p e s m args below meth c s₁ B hml hv
  obtain ⟨rfl, hsz, hP, hK, hD0, hN⟩ := hv
  have hts := atoms_spec (ws := Cond.code y cd nL none :: TB) B.pre
  subst hsz
  rw [lg_entry_eq]
  exact body p e s m below meth c (va_A ws s.heap.size) _ _ ⟨B.exec, B.bytes, hml, findClass_of_methodNamed B.named, fun w hw => hts w (List.mem_cons_of_mem _ hw), hK, hN⟩ B.returns B.notSynchronized ((name_of_methodNamed B.named B.method).1.trans hyn) (fun q h => Or.inr h) rfl rfl ⟨hP, hD0.self (sz := s.heap.size), va_S.rf⟩ (lv_entry As hlen)
theorem rt_c (E : EC own cc nL p s m args c D tys) (hr : meth.sig.returnType = none) (hlk : meth.locks = false) (hA0 : A0 = va_A ws s.heap.size) (hQ : Q = MQ below (QI D tys ws Post s.heap.size) args s mc ms (va_A ws s.heap.size)) (hp : Post ws') (I : IW D ws' A0 s.heap H locs) (d : decode cc pc = .ok (.return_, 1)) : W p l e R s m args below meth c H locs mc ms Q (F0 m pc ls []) := by
  subst hQ
  subst hA0
  obtain ⟨hP, hD, hS⟩ := I
  exact W.vret E.1 E.2.1 hr (fun t ht hW => ⟨rfl, ws', hp, by rw [ht]; exact hP, hD, hS.F ht⟩) hS.2.2 d hlk
/-- Object.<init> -/
theorem kO_code : Cond.code objectInit ⟨#[0xb1]⟩ 1 none ∈ TB := tb_in (List.mem_of_getElem? (i := 53) (by decide +kernel)) rfl
theorem kO_inst : Cond.instanceMethod objectInit ∈ TB := tb_in (List.mem_of_getElem? (i := 52) (by decide +kernel)) rfl
theorem cO (E : EC own cc nL p s m args c D tys) (lk : Cond.methodLink own idx objectInit ∈ TB) (hl : lv_has ls nL lvs) (hrs : (rest.map fun v => v.category).sum ≤ 8) (hR : 1 ≤ R.frames ∧ 20 ≤ R.locals) (hd : decode cc pc = .ok (.invokespecial idx, 3))
    (kk : W p l e R s m args below meth c H locs cells slots Q (F0 m (pc + 3) ls rest)) : W p l e R s m args below meth c H locs cells slots Q (F0 m pc ls (.ref b :: rest)) := by
  have h2 := lv_room (m := m) (pc := pc) (ls := ls) (rest := .ref b :: rest) hrs
  exact W.objInit E.1 E.2.1 E.2.2.2.1 (E.2.2.2.2.1 _ lk) (E.2.2.2.2.1 _ kO_inst) (E.2.2.2.2.1 _ kO_code) rfl (by rw [E.2.2.1]; exact hl.1) rfl hd hR.1 (by omega) kk
theorem tyL_i {cA : ClassId} (hK : va_K D vwCl (tyL cs ++ [(cA, .int)]) s) : cA = cs.1 := by
  have h1 := (hK.2 0 _ rfl).2
  have h2 := (hK.2 3 _ rfl).2
  exact Option.some.inj (h2.symm.trans h1)
theorem tyL_l {cA : ClassId} (hK : va_K D vwCl (tyL cs ++ [(cA, .long)]) s) : cA = cs.2.1 := by
  have h1 := (hK.2 1 _ rfl).2
  have h2 := (hK.2 3 _ rfl).2
  exact Option.some.inj (h2.symm.trans h1)
theorem tyL_z {cA : ClassId} (hK : va_K D vwCl (tyL cs ++ [(cA, .boolean)]) s) : cA = cs.2.2 := by
  have h1 := (hK.2 2 _ rfl).2
  have h2 := (hK.2 3 _ rfl).2
  exact Option.some.inj (h2.symm.trans h1)
variable {k : Int32} {N : Nat}
theorem cell_i (cA : ClassId) (N : Nat) : vp_cell cA (N, .inl (fun _ => 0)) = arrV cA N (fun _ => defaultValue .int) := rfl
theorem cell_l (cA : ClassId) (N : Nat) : vp_cell cA (N, .inr (.inl (fun _ => 0))) = arrV cA N (fun _ => defaultValue .long) := rfl
theorem cell_z (cA : ClassId) (N : Nat) : vp_cell cA (N, .inl (fun _ => 0)) = arrV cA N (fun _ => defaultValue .boolean) := rfl
theorem c_newi (E : EC own cc nL p s m args c D (tyL cs)) (I : IW D ws A0 H0 H locs) (hA : ∀ q, H0.size ≤ q → A0 q) (lk : Cond.arrayClass .int ∈ TB) (hn : ¬ k < 0) (hN : k.toNatClampNeg = N) (hb : N ≤ 10000) (hf : cells + 1 ≤ R.cells ∧ slots + N ≤ R.slots) (hd : decode cc pc = .ok (.newarray .int, 2))
    (kk : ∀ (q : Nat) (H1 : Heap), IW D (ws ++ [(q, .inl (cs.1, N, .inl (fun _ => 0)))]) A0 H0 H1 locs → W p l e R s m args below meth c H1 locs (cells + 1) (slots + N) Q (F0 m (pc + 2) ls (.ref q :: rest))) : W p l e R s m args below meth c H locs cells slots Q (F0 m pc ls (.int k :: rest)) := by
  refine va_newa (atype := .int) (ty := .int) E.1 E.2.1 (E.2.2.2.2.1 _ lk) rfl E.2.2.2.2.2.1 I.1 I.2.1 I.2.2 hA (fun cA => cell_i cA N) hn hN (by show N * 4 ≤ _; omega) hf.1 hf.2 hd (fun q cA H1 hK hP hD hS => ?_)
  obtain rfl := tyL_i hK
  exact kk q H1 ⟨hP, hD, hS⟩
theorem c_newl (E : EC own cc nL p s m args c D (tyL cs)) (I : IW D ws A0 H0 H locs) (hA : ∀ q, H0.size ≤ q → A0 q) (lk : Cond.arrayClass .long ∈ TB) (hn : ¬ k < 0) (hN : k.toNatClampNeg = N) (hb : N ≤ 10000) (hf : cells + 1 ≤ R.cells ∧ slots + N ≤ R.slots) (hd : decode cc pc = .ok (.newarray .long, 2))
    (kk : ∀ (q : Nat) (H1 : Heap), IW D (ws ++ [(q, .inl (cs.2.1, N, .inr (.inl (fun _ => 0))))]) A0 H0 H1 locs → W p l e R s m args below meth c H1 locs (cells + 1) (slots + N) Q (F0 m (pc + 2) ls (.ref q :: rest))) : W p l e R s m args below meth c H locs cells slots Q (F0 m pc ls (.int k :: rest)) := by
  refine va_newa (atype := .long) (ty := .long) E.1 E.2.1 (E.2.2.2.2.1 _ lk) rfl E.2.2.2.2.2.1 I.1 I.2.1 I.2.2 hA (fun cA => cell_l cA N) hn hN (by show N * 8 ≤ _; omega) hf.1 hf.2 hd (fun q cA H1 hK hP hD hS => ?_)
  obtain rfl := tyL_l hK
  exact kk q H1 ⟨hP, hD, hS⟩
theorem c_newz (E : EC own cc nL p s m args c D (tyL cs)) (I : IW D ws A0 H0 H locs) (hA : ∀ q, H0.size ≤ q → A0 q) (lk : Cond.arrayClass .boolean ∈ TB) (hn : ¬ k < 0) (hN : k.toNatClampNeg = N) (hb : N ≤ 10000) (hf : cells + 1 ≤ R.cells ∧ slots + N ≤ R.slots) (hd : decode cc pc = .ok (.newarray .boolean, 2))
    (kk : ∀ (q : Nat) (H1 : Heap), IW D (ws ++ [(q, .inl (cs.2.2, N, .inl (fun _ => 0)))]) A0 H0 H1 locs → W p l e R s m args below meth c H1 locs (cells + 1) (slots + N) Q (F0 m (pc + 2) ls (.ref q :: rest))) : W p l e R s m args below meth c H locs cells slots Q (F0 m pc ls (.int k :: rest)) := by
  refine va_newa (atype := .boolean) (ty := .boolean) E.1 E.2.1 (E.2.2.2.2.1 _ lk) rfl E.2.2.2.2.2.1 I.1 I.2.1 I.2.2 hA (fun cA => cell_z cA N) hn hN (by show N * 1 ≤ _; omega) hf.1 hf.2 hd (fun q cA H1 hK hP hD hS => ?_)
  obtain rfl := tyL_z hK
  exact kk q H1 ⟨hP, hD, hS⟩
variable {C : String} {T : u_T} {ci q0 : Nat} {fs : List Value} {v : Value} {ty0 : Nat → FieldType}
theorem c_new (E : EC own cc nL p s m args c D tys) (I : IW D ws A0 H0 H locs) (hA : ∀ q, H0.size ≤ q → A0 q) (hin : ∀ w ∈ u_ws C T N, w ∈ TB) (hty : ∀ k, k < N → parseFieldDescriptor (T k).2.2.1 = some (ty0 k)) (lk : Cond.classLink own idx C ∈ TB) (hi : Cond.instantiable C N ∈ TB) (hz : Cond.initialized C ∈ TB) (hc : vwCl[ci]? = some (C, T, N)) (hfs : ∀ j, j < N → defaultValue (ty0 j) = vp_V fs j) (hf : cells + 1 ≤ R.cells ∧ slots + N ≤ R.slots) (hd : decode cc pc = .ok (.new idx, 3))
    (kk : ∀ (q : Nat) (H1 : Heap), IW D (ws ++ [(q, .inr (ci, fs))]) A0 H0 H1 locs → W p l e R s m args below meth c H1 locs (cells + 1) (slots + N) Q (F0 m (pc + 3) ls (.ref q :: rest))) : W p l e R s m args below meth c H locs cells slots Q (F0 m pc ls rest) :=
  va_new E.1 E.2.1 E.2.2.2.2.1 hin ty0 hty E.2.2.2.1 (E.2.2.2.2.1 _ lk) (E.2.2.2.2.1 _ hi) (E.2.2.2.2.1 _ hz) E.2.2.2.2.2.1 I.1 I.2.1 I.2.2 hA hc hfs hf.1 hf.2 hd (fun q H1 h1 h2 h3 => kk q H1 ⟨h1, h2, h3⟩)
theorem c_put {ty : FieldType} {a : Nat} (fk : Nat) (E : EC own cc nL p s m args c D tys) (I : IW D ws A0 H0 H locs) (hin : ∀ w ∈ u_ws C T N, w ∈ TB) (hty : ∀ k, k < N → parseFieldDescriptor (T k).2.2.1 = some (ty0 k)) (hnm : ∀ a, a < N → ∀ b, b < N → a ≠ b → (T a).2.1 ≠ (T b).2.1) (q0 : Nat) (he : ws[q0]? = some (a, .inr (ci, fs))) (hc : vwCl[ci]? = some (C, T, N)) (hk : fk < N) (lk : Cond.fieldLink own idx (T fk).1 (T fk).2.1 (T fk).2.2.1 ∈ TB) (hfin : (T fk).2.2.2 = false) (hd0 : parseFieldDescriptor (T fk).2.2.1 = some ty) (hn : narrow ty v = v) (hfit : fits ty v = true) (hl : fk < fs.length) (hd : decode cc pc = .ok (.putfield idx, 3))
    (kk : ∀ (H1 : Heap) (locs1 : List Loc), IW D (ws.set q0 (a, .inr (ci, fs.set fk v))) A0 H0 H1 locs1 → W p l e R s m args below meth c H1 locs1 cells slots Q (F0 m (pc + 3) ls rest)) : W p l e R s m args below meth c H locs cells slots Q (F0 m pc ls (v :: .ref a :: rest)) :=
  va_put E.1 E.2.1 E.2.2.2.2.1 hin ty0 hty hnm E.2.2.2.1 E.2.2.2.2.2.1 I.1 I.2.1 I.2.2 q0 he hc fk hk (E.2.2.2.2.1 _ lk) (fun _ h => h) hfin hd0 hn hfit hl hd (fun H1 locs1 h1 h2 h3 => kk H1 locs1 ⟨h1, h2, h3⟩)
theorem c_putF {ty : FieldType} {a : Nat} (fk : Nat) (E : EC own cc nL p s m args c D tys) (hin2 : meth.name = "<init>") (I : IW D ws A0 H0 H locs) (hin : ∀ w ∈ u_ws C T N, w ∈ TB) (hty : ∀ k, k < N → parseFieldDescriptor (T k).2.2.1 = some (ty0 k)) (hnm : ∀ a, a < N → ∀ b, b < N → a ≠ b → (T a).2.1 ≠ (T b).2.1) (q0 : Nat) (he : ws[q0]? = some (a, .inr (ci, fs))) (hc : vwCl[ci]? = some (C, T, N)) (hk : fk < N) (lk : Cond.fieldLink own idx (T fk).1 (T fk).2.1 (T fk).2.2.1 ∈ TB) (hfin : (T fk).2.2.2 = true) (hdc : (T fk).1 = own) (hd0 : parseFieldDescriptor (T fk).2.2.1 = some ty) (hn : narrow ty v = v) (hfit : fits ty v = true) (hl : fk < fs.length) (hd : decode cc pc = .ok (.putfield idx, 3))
    (kk : ∀ (H1 : Heap) (locs1 : List Loc), IW D (ws.set q0 (a, .inr (ci, fs.set fk v))) A0 H0 H1 locs1 → W p l e R s m args below meth c H1 locs1 cells slots Q (F0 m (pc + 3) ls rest)) : W p l e R s m args below meth c H locs cells slots Q (F0 m pc ls (v :: .ref a :: rest)) :=
  va_putF E.1 E.2.1 E.2.2.2.2.1 hin ty0 hty hnm E.2.2.2.1 E.2.2.2.2.2.1 I.1 I.2.1 I.2.2 q0 he hc fk hk (E.2.2.2.2.1 _ lk) (fun _ h => h) hfin hin2 hdc hd0 hn hfit hl hd (fun H1 locs1 h1 h2 h3 => kk H1 locs1 ⟨h1, h2, h3⟩)
theorem c_get {a : Nat} (fk : Nat) (E : EC own cc nL p s m args c D tys) (I : IW D ws A0 H0 H locs) (hin : ∀ w ∈ u_ws C T N, w ∈ TB) (q0 : Nat) (he : ws[q0]? = some (a, .inr (ci, fs))) (hc : vwCl[ci]? = some (C, T, N)) (hk : fk < N) (lk : Cond.fieldLink own idx (T fk).1 (T fk).2.1 (T fk).2.2.1 ∈ TB) (hv : fs[fk]? = some v) (hd : decode cc pc = .ok (.getfield idx, 3))
    (kk : W p l e R s m args below meth c H locs cells slots Q (F0 m (pc + 3) ls (v :: rest))) : W p l e R s m args below meth c H locs cells slots Q (F0 m pc ls (.ref a :: rest)) :=
  va_get E.1 E.2.1 E.2.2.2.2.1 hin E.2.2.2.1 E.2.2.2.2.2.1 I.1 q0 he hc fk hk (E.2.2.2.2.1 _ lk) (fun _ h => h) hv hd kk
end BASE2
