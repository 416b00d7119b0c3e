/-! The pure words that decompiled methods are written in, and the judgements over a world of cells that stays at its places. -/
def nx {α β : Type} (x : α) (k : α → Option β) : Option β := k x
theorem nx_k {α β : Type} {x y : α} {k : α → Option β} {r : Option β} (e : y = x) (h : nx x k = r) : k y = r := by
  subst e; exact h
def bd {α σ β : Type} (x : Option (α × σ)) (k : α → σ → Option β) : Option β := match x with
  | none => none
  | some q => k q.1 q.2
theorem bd_some {α σ β : Type} {x : Option (α × σ)} {k : α → σ → Option β} {r : β} (h : bd x k = some r) : ∃ a s, x = some (a, s) ∧ k a s = some r := by
  cases x with
  | none => cases h
  | some q => exact ⟨q.1, q.2, rfl, h⟩
def ck {β : Type} (i : Int32) (n : Nat) (k : Option β) : Option β := if i < 0 ∨ n ≤ i.toNatClampNeg then none else k
theorem ck_some {β : Type} {i : Int32} {n : Nat} {k : Option β} {r : β} (h : ck i n k = some r) : vp_in i n ∧ k = some r := by
  unfold ck at h
  split at h
  · cases h
  · rename_i g
    exact ⟨g, h⟩
theorem ck_in {β : Type} {i : Int32} {n : Nat} {k : Option β} (h : vp_in i n) : ck i n k = k := if_neg h
def zr {σ : Type} (v : Int32) (s : σ) : Option (Int32 × σ) := if v = 0 ∨ v = 1 then some (v, s) else none
theorem zr_some {σ : Type} {v : Int32} {s : σ} {r : Int32 × σ} (h : zr v s = some r) : (v = 0 ∨ v = 1) ∧ some (v, s) = some r := by
  unfold zr at h
  split at h
  · rename_i g
    exact ⟨g, h⟩
  · cases h
theorem zr_nar {v : Int32} (h : v = 0 ∨ v = 1) : narrow .boolean (.int v) = .int v := by
  rcases h with rfl | rfl <;> decide
theorem zr_fit {v : Int32} (h : v = 0 ∨ v = 1) : fits .boolean (.int v) = true := by
  rcases h with rfl | rfl <;> decide
def dvi {β : Type} (y : Int32) (k : Option β) : Option β := if y = 0 then none else k
theorem dvi_some {β : Type} {y : Int32} {k : Option β} {r : β} (h : dvi y k = some r) : ¬ y = 0 ∧ k = some r := by
  unfold dvi at h
  split at h
  · cases h
  · rename_i g
    exact ⟨g, h⟩
def dvl {β : Type} (y : Int64) (k : Option β) : Option β := if y = 0 then none else k
theorem dvl_some {β : Type} {y : Int64} {k : Option β} {r : β} (h : dvl y k = some r) : ¬ y = 0 ∧ k = some r := by
  unfold dvl at h
  split at h
  · cases h
  · rename_i g
    exact ⟨g, h⟩
theorem ifp {c : Prop} [Decidable c] {α : Type} {a b x : α} (hc : c) (h : (if c then a else b) = x) : a = x := by rwa [if_pos hc] at h
theorem ifn {c : Prop} [Decidable c] {α : Type} {a b x : α} (hc : ¬ c) (h : (if c then a else b) = x) : b = x := by rwa [if_neg hc] at h
theorem ne_ti {x k : Int32} {z : Int} (hz : k.toInt = z) (h : ¬ x = k) : x.toInt ≠ z := fun e => h (Int32.toInt_inj.mp (e.trans hz.symm))
/-- more turns than any loop here takes -/
noncomputable def FU : Nat := Classical.choose (⟨100000, rfl⟩ : ∃ n : Nat, n = 100000)
theorem FU_eq : FU = 100000 := Classical.choose_spec (⟨100000, rfl⟩ : ∃ n : Nat, n = 100000)
/-- a world of cells ws in the heap H, since H0 nothing outside A0 changed -/
def IW (D : va_G) (ws : va_W) (A0 : Nat → Prop) (H0 H : Heap) (locs : List Loc) : Prop := va_P D vwCl ws H ∧ va_D A0 ws ∧ va_S A0 H0 H locs
/-- the links among nest mates, which stand beside the words -/
def NW (U : State) : Prop := va_Nw (.methodLinkNest R_K 46 y_M_bit R_M) U ∧ va_Nw (.methodLinkNest R_N 36 y_M_bit R_M) U ∧ va_Nw (.methodLinkNest R_U 44 y_M_bit R_M) U
theorem NW.warm {s U : State} (hW : s.WarmedH U.vm) (h : NW s) : NW U := ⟨va_Nw.warmM hW h.1, va_Nw.warmM hW h.2.1, va_Nw.warmM hW h.2.2⟩
theorem NW.same {u U : State} (e : u.vm = U.vm) (h : NW u) : NW U := ⟨va_Nw.same rfl e h.1, va_Nw.same rfl e h.2.1, va_Nw.same rfl e h.2.2⟩
/-- what stays the same in a method's body -/
def EC (own : String) (cc : ByteArray) (nL : Nat) (p : Program) (s : State) (m : MethodId) (args : Array Value) (c : Code) (D : va_G) (tys : List (ClassId × FieldType)) : Prop :=
  p.tables.exec = Jvm.exec ∧ c.code = cc ∧ c.maxLocals = nL ∧ s.vm.findClass own = some m.cls ∧ (∀ w ∈ TB, w.before args s = true) ∧ va_K D vwCl tys s ∧ NW s
def PW (D : va_G) (tys : List (ClassId × FieldType)) (ws : va_W) (sz : Nat) (U : State) : Prop := U.heap.size = sz ∧ va_P D vwCl ws U.heap ∧ va_K D vwCl tys U ∧ va_D (fun _ => True) ws ∧ NW U
def QW (D : va_G) (tys : List (ClassId × FieldType)) (ws ws' : va_W) (sz : Nat) (rv : Option Value) (_ : Array Value) (st : State) (o : Outcome) (t : State) : Prop :=
  o = .returned rv ∧ va_P D vwCl ws' t.heap ∧ va_K D vwCl tys t ∧ va_D (va_A ws sz) ws' ∧ va_F (va_A ws sz) st t
/-- a method's contract: from the world ws to the world ws', with the answer rv; it makes no cells -/
def Cn (l : Launch) (y : MethodName) (cd : ByteArray) (nL : Nat) (ret : Option FieldType) (rm : Room) (D : va_G) (tys : List (ClassId × FieldType)) (ws ws' : va_W) (As : List Value) (rv : Option Value) : Prop :=
  ∀ sz : Nat, Met l y (Cond.code y cd nL ret :: TB) rm (va_Pc As (PW D tys ws sz)) (QW D tys ws ws' sz rv) 0 0 (va_A ws sz)
theorem PW_blind {D : va_G} {tys : List (ClassId × FieldType)} {ws : va_W} {sz : Nat} {As : List Value} : FrameBlind (va_Pc As (PW D tys ws sz)) := by
  intro a U g mk q
  obtain ⟨q0, q1, qP, qK, qD, qN⟩ := q
  exact ⟨q0, q1, qP, va_K.moved (u := U) (U := U.calling g mk a) (Vm.Alike.refl U.vm) qK, qD, NW.same (u := U) rfl qN⟩
section BASE
variable {p : Program} {l : Launch} {e : Env} {R : Room} {s : State} {m : MethodId} {args : Array Value} {below : List Frame} {meth : Method} {c : Code} {H H0 : Heap} {locs : List Loc} {Q : State → Prop} {D : va_G} {tys : List (ClassId × FieldType)} {ws ws' : va_W} {A0 : Nat → Prop}
theorem iw_free (I : IW D ws A0 H0 H locs) (hA : ∀ q, H0.size ≤ q → A0 q) : ∀ q, va_A ws H.size q → A0 q := by
  intro q h
  rcases h with ⟨k, e, h⟩ | h
  · exact I.2.1.2 k (q, e) h
  · exact hA q (Nat.le_trans I.2.2.1 h)
theorem iw_call {cells slots pc : Nat} {ls : Array Slot} {st0 rest : List Value} {rv : Option Value} {a : Array Value} (I : IW D ws A0 H0 H locs) (hA : ∀ q, H0.size ≤ q → A0 q)
    (hr : va_Run p l e R s m args below meth c H locs cells slots 0 0 (F0 m pc ls st0) rest (QW D tys ws ws' H.size rv a) (va_A ws H.size))
    (kk : ∀ (H1 : Heap) (locs1 : List Loc), IW D ws' A0 H0 H1 locs1 → W p l e R s m args below meth c H1 locs1 cells slots Q (F0 m (pc + 3) ls (rv.toList ++ rest))) : W p l e R s m args below meth c H locs cells slots Q (F0 m pc ls st0) := by
  intro T hT X
  have hF := iw_free I hA
  obtain ⟨v, st₀, t, T', L, h0, X', hL, e1, e2, ⟨hv, hP', -, hD', hz, hk⟩, st⟩ := hr T hT X
  cases hv
  rw [h0] at hz hk
  obtain ⟨hP, hD, hS⟩ := I
  obtain ⟨t2, a1, b1⟩ := kk T'.heap (locs ++ L) ⟨by rw [e1]; exact hP', hD'.weaken (fun k q _ h => hF q.1 h), Nat.le_trans hS.1 (by rw [e1]; exact hz), fun q h1 h2 => by
      rw [e1, hk q (Nat.lt_of_lt_of_le h1 hS.1) (fun z => h2 (hF q z))]; exact hS.2.1 q h1 h2, fun q hq => by
      rcases List.mem_append.mp hq with h | h
      · exact hS.2.2 q h
      · exact hF _ (hL q h)⟩ T' rfl X'
  exact ⟨t2, st t2 a1, b1⟩
theorem tb_good : ∀ w ∈ TB, (w.onTables && w.keeps) = true ∨ ∃ ty, w = .arrayClass ty := fun w hw => good_of_word (List.mem_filter.mp hw).2
theorem gi_code {y : MethodName} {cd : ByteArray} {nL : Nat} {ret : Option FieldType} (hc : Cond.code y cd nL ret ∈ TB) : GoodIn TB (Cond.code y cd nL ret :: TB) := by
  intro w hw
  rcases List.mem_cons.mp hw with rfl | h
  · exact ⟨hc, tb_good _ hc⟩
  · exact ⟨h, tb_good _ h⟩
/-- the words of a call of an instance method -/
def gV (own : String) (idx : Nat) (y : MethodName) (cd : ByteArray) (nL : Nat) (ret : Option FieldType) (n : Nat) : Prop :=
  (Cond.methodLink own idx y ∈ TB ∧ Cond.instanceMethod y ∈ TB ∧ Cond.selects y.cls y y ∈ TB ∧ Cond.initialized y.cls ∈ TB ∧ Cond.code y cd nL ret ∈ TB) ∧ (y.cls ≠ "java/lang/invoke/MethodHandle" ∧ y.cls ≠ "java/lang/invoke/VarHandle" ∧ (parseMethodDescriptor y.desc).map (fun d => d.parameters.length) = some n)
def gS (own : String) (idx : Nat) (y : MethodName) (cd : ByteArray) (nL : Nat) (ret : Option FieldType) (n : Nat) : Prop :=
  (Cond.methodLink own idx y ∈ TB ∧ Cond.static y ∈ TB ∧ Cond.initialized y.cls ∈ TB ∧ Cond.code y cd nL ret ∈ TB) ∧ (y.cls ≠ "java/lang/invoke/MethodHandle" ∧ y.cls ≠ "java/lang/invoke/VarHandle" ∧ (parseMethodDescriptor y.desc).map (fun d => d.parameters.length) = some n)
def gSN (own : String) (idx : Nat) (y : MethodName) (host : String) (cd : ByteArray) (nL : Nat) (ret : Option FieldType) (n : Nat) : Prop :=
  ((∀ U : State, NW U → va_Nw (.methodLinkNest own idx y host) U) ∧ Cond.static y ∈ TB ∧ Cond.initialized y.cls ∈ TB ∧ Cond.code y cd nL ret ∈ TB) ∧ (y.cls ≠ "java/lang/invoke/MethodHandle" ∧ y.cls ≠ "java/lang/invoke/VarHandle" ∧ (parseMethodDescriptor y.desc).map (fun d => d.parameters.length) = some n)
variable {own : String} {cc cd : ByteArray} {nL mL idx n pc cells slots : Nat} {y : MethodName} {ret : Option FieldType} {rm : Room} {As rest st0 : List Value} {rv : Option Value} {ls : Array Slot} {b : Nat} {lvs : List (Nat × Value)}
theorem cV (E : EC own cc nL p s m args c D tys) (I : IW D ws A0 H0 H locs) (hA : ∀ q, H0.size ≤ q → A0 q) (hM : Cn l y cd mL ret rm D tys ws ws' (.ref b :: As) rv) (g : gV own idx y cd mL ret n) (hm : rm.cells = 0 ∧ rm.slots = 0)
    (k : Nat) {ci : Nat} {fs : List Value} {T : u_T} {N : Nat} (he : ws[k]? = some (b, .inr (ci, fs))) (hc : vwCl[ci]? = some (y.cls, T, N)) (hn : As.length = n) (hl : lv_has ls nL lvs) (hst : st0 = As.reverse ++ .ref b :: rest) (hrs : (rest.map fun v => v.category).sum ≤ 8)
    (hR : rm.frames + 1 ≤ R.frames ∧ 8 + (mL + 11) + rm.locals ≤ R.locals) (hf : cells ≤ R.cells ∧ slots ≤ R.slots) (hd : decode cc pc = .ok (.invokevirtual idx, 3))
    {stk : List Value} (hk : rv.toList ++ rest = stk) (kk : ∀ (H1 : Heap) (locs1 : List Loc), IW D ws' A0 H0 H1 locs1 → W p l e R s m args below meth c H1 locs1 cells slots Q (F0 m (pc + 3) ls stk)) : W p l e R s m args below meth c H locs cells slots Q (F0 m pc ls st0) := by
  subst hk
  obtain ⟨hx, hb, hml, hown, hts, hK, hN⟩ := E
  obtain ⟨⟨g1, g2, g3, g4, g5⟩, gd⟩ := g
  refine iw_call I hA (va_runV (As := As) (b := b) (rest := rest) (C := y.cls) (Ts := TB) ⟨hx, hb, hml, hown, hts⟩ (hM H.size) ⟨callB_of n hts (gi_code g5) rfl hm.1 hm.2 (hts _ g4) (hts _ g1) gd hR, hts _ g2, hts _ g3⟩ ⟨PW_blind, va_recv hK I.1 hc he, fun U hU hW => ⟨rfl, by rw [hU], by rw [hU]; exact I.1, va_K.moved hW.alike hK, I.2.1.weaken (fun _ _ _ _ => trivial), hN.warm hW⟩⟩ rfl hn hl.1 hst (lv_room hrs) hd ⟨hf.1, hf.2⟩) kk
theorem cS (E : EC own cc nL p s m args c D tys) (I : IW D ws A0 H0 H locs) (hA : ∀ q, H0.size ≤ q → A0 q) (hM : Cn l y cd mL ret rm D tys ws ws' As rv) (g : gS own idx y cd mL ret n) (hm : rm.cells = 0 ∧ rm.slots = 0)
    (hn : As.length = n) (hl : lv_has ls nL lvs) (hst : st0 = As.reverse ++ rest) (hrs : (rest.map fun v => v.category).sum ≤ 8)
    (hR : rm.frames + 1 ≤ R.frames ∧ 8 + (mL + 11) + rm.locals ≤ R.locals) (hf : cells ≤ R.cells ∧ slots ≤ R.slots) (hd : decode cc pc = .ok (.invokestatic idx, 3))
    {stk : List Value} (hk : rv.toList ++ rest = stk) (kk : ∀ (H1 : Heap) (locs1 : List Loc), IW D ws' A0 H0 H1 locs1 → W p l e R s m args below meth c H1 locs1 cells slots Q (F0 m (pc + 3) ls stk)) : W p l e R s m args below meth c H locs cells slots Q (F0 m pc ls st0) := by
  subst hk
  obtain ⟨hx, hb, hml, hown, hts, hK, hN⟩ := E
  obtain ⟨⟨g1, g2, g4, g5⟩, gd⟩ := g
  refine iw_call I hA (va_runS (As := As) (rest := rest) (Ts := TB) ⟨hx, hb, hml, hown, hts⟩ (hM H.size) ⟨callB_of n hts (gi_code g5) rfl hm.1 hm.2 (hts _ g4) (hts _ g1) gd hR, hts _ g2⟩ ⟨PW_blind, fun U hU hW => ⟨rfl, by rw [hU], by rw [hU]; exact I.1, va_K.moved hW.alike hK, I.2.1.weaken (fun _ _ _ _ => trivial), hN.warm hW⟩⟩ rfl hn hl.1 hst (lv_room hrs) hd ⟨hf.1, hf.2⟩) kk
theorem cSN {host : String} (E : EC own cc nL p s m args c D tys) (I : IW D ws A0 H0 H locs) (hA : ∀ q, H0.size ≤ q → A0 q) (hM : Cn l y cd mL ret rm D tys ws ws' As rv) (g : gSN own idx y host cd mL ret n) (hm : rm.cells = 0 ∧ rm.slots = 0)
    (hn : As.length = n) (hl : lv_has ls nL lvs) (hst : st0 = As.reverse ++ rest) (hrs : (rest.map fun v => v.category).sum ≤ 8)
    (hR : rm.frames + 1 ≤ R.frames ∧ 8 + (mL + 11) + rm.locals ≤ R.locals) (hf : cells ≤ R.cells ∧ slots ≤ R.slots) (hd : decode cc pc = .ok (.invokestatic idx, 3))
    {stk : List Value} (hk : rv.toList ++ rest = stk) (kk : ∀ (H1 : Heap) (locs1 : List Loc), IW D ws' A0 H0 H1 locs1 → W p l e R s m args below meth c H1 locs1 cells slots Q (F0 m (pc + 3) ls stk)) : W p l e R s m args below meth c H locs cells slots Q (F0 m pc ls st0) := by
  subst hk
  obtain ⟨hx, hb, hml, hown, hts, hK, hN⟩ := E
  obtain ⟨⟨g1, g2, g4, g5⟩, gd⟩ := g
  refine iw_call I hA (va_runSN (As := As) (rest := rest) (Ts := TB) ⟨hx, hb, hml, hown, hts⟩ (hM H.size) ⟨va_cnB n hts (gi_code g5) rfl hm.1 hm.2 (g1 _ hN) (hts _ g4) gd hR, hts _ g2, trivial⟩ ⟨PW_blind, fun U hU hW => ⟨rfl, by rw [hU], by rw [hU]; exact I.1, va_K.moved hW.alike hK, I.2.1.weaken (fun _ _ _ _ => trivial), hN.warm hW⟩⟩ rfl hn hl.1 hst (lv_room hrs) hd ⟨hf.1, hf.2⟩) kk
/-- a contract out of its body's walk -/
theorem cn_intro {y : MethodName} {cd : ByteArray} {nL : Nat} {ret : Option FieldType} {rm : Room} {As : List Value} {rv : Option Value} (hy : plainName y.cls = true) (hlen : (lg_sl As).length ≤ nL)
    (body : ∀ (p : Program) (e : Env) (s : State) (m : MethodId) (below : List Frame) (meth : Method) (c : Code) (A0 : Nat → Prop) (Q : State → Prop) (ls : Array Slot), EC y.cls cd nL p s m As.toArray c D tys → meth.sig.returnType = ret → meth.locks = false →
      (∀ q, s.heap.size ≤ q → A0 q) → A0 = va_A ws s.heap.size → Q = MQ below (QW D tys ws ws' s.heap.size rv) As.toArray s 0 0 (va_A ws s.heap.size) → IW D ws A0 s.heap s.heap [] → lv_has ls nL (lv_args 0 As) → W p l e rm s m As.toArray below meth c s.heap [] 0 0 Q (F0 m 0 ls [])) : Cn l y cd nL ret rm D tys ws ws' As rv := by
  intro sz
  refine Met.ofW (cc := cd) (maxL := nL) (ret := ret) hy rfl ?_
  intro p e s m args below meth c s₁ B hml hv
  obtain ⟨rfl, hsz, hP, hK, hD0, hN⟩ := hv
  have hts := atoms_spec (ws := Cond.code y cd nL ret :: TB) B.pre
  subst hsz
  rw [lg_entry_eq]
  exact body p e s m below meth c (va_A ws s.heap.size) _ _ ⟨B.exec, B.bytes, hml, findClass_of_methodNamed B.named, fun w hw => hts w (List.mem_cons_of_mem _ hw), hK, hN⟩ B.returns B.notSynchronized (fun q h => Or.inr h) rfl rfl ⟨hP, hD0.self (sz := s.heap.size), va_S.rf⟩ (lv_entry As hlen)
theorem rt_q {A1 : Nat → Prop} (hA0 : A0 = A1) (I : IW D ws' A0 s.heap H locs) (hK : va_K D vwCl tys s) (hA1 : A1 = va_A ws s.heap.size) : (∀ t : State, t.heap = H → s.WarmedH t.vm → QW D tys ws ws' s.heap.size rv args s (.returned rv) t) ∧ ∀ q ∈ locs, (va_A ws s.heap.size) q.base := by
  subst hA0
  subst hA1
  obtain ⟨hP, hD, hS⟩ := I
  exact ⟨fun t ht hW => ⟨rfl, by rw [ht]; exact hP, va_K.moved hW.alike hK, hD, hS.F ht⟩, hS.2.2⟩
theorem rt_i {r : Int32} (E : EC own cc nL p s m args c D tys) (hr : meth.sig.returnType = some .int) (hlk : meth.locks = false) (hA0 : A0 = va_A ws s.heap.size) (hQ : Q = MQ below (QW D tys ws ws' s.heap.size (some (.int r))) args s 0 0 (va_A ws s.heap.size)) :
    ∀ (H : Heap) (locs : List Loc) (pc : Nat) (ls : Array Slot), IW D ws' A0 s.heap H locs → decode cc pc = .ok (.ireturn, 1) → W p l e R s m args below meth c H locs 0 0 Q (F0 m pc ls [.int r]) := by
  intro H locs pc ls I d
  subst hQ
  obtain ⟨h1, h2⟩ := rt_q (rv := some (.int r)) (args := args) hA0 I E.2.2.2.2.2.1 rfl
  exact W.iret E.1 E.2.1 hr h1 h2 d hlk
theorem rt_z {r : Int32} (E : EC own cc nL p s m args c D tys) (hr : meth.sig.returnType = some .boolean) (hlk : meth.locks = false) (hA0 : A0 = va_A ws s.heap.size) (hQ : Q = MQ below (QW D tys ws ws' s.heap.size (some (.int r))) args s 0 0 (va_A ws s.heap.size)) :
    ∀ (H : Heap) (locs : List Loc) (pc : Nat) (ls : Array Slot), IW D ws' A0 s.heap H locs → narrow .boolean (.int r) = .int r → decode cc pc = .ok (.ireturn, 1) → W p l e R s m args below meth c H locs 0 0 Q (F0 m pc ls [.int r]) := by
  intro H locs pc ls I hn d
  subst hQ
  obtain ⟨h1, h2⟩ := rt_q (rv := some (.int r)) (args := args) hA0 I E.2.2.2.2.2.1 rfl
  exact W.zret E.1 E.2.1 hr hn h1 h2 d hlk
theorem rt_l {r : Int64} (E : EC own cc nL p s m args c D tys) (hr : meth.sig.returnType = some .long) (hlk : meth.locks = false) (hA0 : A0 = va_A ws s.heap.size) (hQ : Q = MQ below (QW D tys ws ws' s.heap.size (some (.long r))) args s 0 0 (va_A ws s.heap.size)) :
    ∀ (H : Heap) (locs : List Loc) (pc : Nat) (ls : Array Slot), IW D ws' A0 s.heap H locs → decode cc pc = .ok (.lreturn, 1) → W p l e R s m args below meth c H locs 0 0 Q (F0 m pc ls [.long r]) := by
  intro H locs pc ls I d
  subst hQ
  obtain ⟨h1, h2⟩ := rt_q (rv := some (.long r)) (args := args) hA0 I E.2.2.2.2.2.1 rfl
  exact W.lret E.1 E.2.1 hr h1 h2 d hlk
theorem rt_v (E : EC own cc nL p s m args c D tys) (hr : meth.sig.returnType = none) (hlk : meth.locks = false) (hA0 : A0 = va_A ws s.heap.size) (hQ : Q = MQ below (QW D tys ws ws' s.heap.size none) args s 0 0 (va_A ws s.heap.size)) :
    ∀ (H : Heap) (locs : List Loc) (pc : Nat) (ls : Array Slot), IW D ws' A0 s.heap H locs → decode cc pc = .ok (.return_, 1) → W p l e R s m args below meth c H locs 0 0 Q (F0 m pc ls []) := by
  intro H locs pc ls I d
  subst hQ
  obtain ⟨h1, h2⟩ := rt_q (rv := none) (args := args) hA0 I E.2.2.2.2.2.1 rfl
  exact W.vret E.1 E.2.1 hr h1 h2 d hlk
end BASE
