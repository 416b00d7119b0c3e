abbrev RS : Type := (Nat → Int32) × (Nat → Int64) × (Nat → Nat → Int32) × (Nat → Nat → Int64)
def r_nodes (s : RS) : Int32 := s.1 0
def s_r_nodes (s : RS) (v : Int32) : RS := (upd s.1 0 v, s.2)
def r_tests (s : RS) : Int32 := s.1 1
def s_r_tests (s : RS) (v : Int32) : RS := (upd s.1 1 v, s.2)
def r_mutants (s : RS) : Int32 := s.1 2
def s_r_mutants (s : RS) (v : Int32) : RS := (upd s.1 2 v, s.2)
def r_sampledMany (s : RS) : Int32 := s.1 3
def s_r_sampledMany (s : RS) (v : Int32) : RS := (upd s.1 3 v, s.2)
def r_changedKind (s : RS) : Int32 := s.1 4
def s_r_changedKind (s : RS) (v : Int32) : RS := (upd s.1 4 v, s.2)
def r_changedNode (s : RS) : Int32 := s.1 5
def s_r_changedNode (s : RS) (v : Int32) : RS := (upd s.1 5 v, s.2)
def r_steps (s : RS) : Int32 := s.1 6
def s_r_steps (s : RS) (v : Int32) : RS := (upd s.1 6 v, s.2)
def r_isCut (s : RS) : Int32 := s.1 7
def s_r_isCut (s : RS) (v : Int32) : RS := (upd s.1 7 v, s.2)
def r_high (s : RS) : Int32 := s.1 8
def s_r_high (s : RS) (v : Int32) : RS := (upd s.1 8 v, s.2)
def r_acc (s : RS) : Int64 := s.2.1 0
def s_r_acc (s : RS) (v : Int64) : RS := (s.1, vp_updL s.2.1 0 v, s.2.2)
def r_given (s : RS) : Int64 := s.2.1 1
def s_r_given (s : RS) (v : Int64) : RS := (s.1, vp_updL s.2.1 1 v, s.2.2)
def r_listed (s : RS) : Int32 := s.1 9
def s_r_listed (s : RS) (v : Int32) : RS := (upd s.1 9 v, s.2)
def r_kindOf (s : RS) : Nat → Int32 := s.2.2.1 0
def s_r_kindOf (s : RS) (k : Nat) (v : Int32) : RS := (s.1, s.2.1, va_up s.2.2.1 0 (upd (s.2.2.1 0) k v), s.2.2.2)
def r_number (s : RS) : Nat → Int64 := s.2.2.2 0
def s_r_number (s : RS) (k : Nat) (v : Int64) : RS := (s.1, s.2.1, s.2.2.1, va_up s.2.2.2 0 (vp_updL (s.2.2.2 0) k v))
def r_partA (s : RS) : Nat → Int32 := s.2.2.1 1
def s_r_partA (s : RS) (k : Nat) (v : Int32) : RS := (s.1, s.2.1, va_up s.2.2.1 1 (upd (s.2.2.1 1) k v), s.2.2.2)
def r_partB (s : RS) : Nat → Int32 := s.2.2.1 2
def s_r_partB (s : RS) (k : Nat) (v : Int32) : RS := (s.1, s.2.1, va_up s.2.2.1 2 (upd (s.2.2.1 2) k v), s.2.2.2)
def r_partC (s : RS) : Nat → Int32 := s.2.2.1 3
def s_r_partC (s : RS) (k : Nat) (v : Int32) : RS := (s.1, s.2.1, va_up s.2.2.1 3 (upd (s.2.2.1 3) k v), s.2.2.2)
def r_root (s : RS) : Nat → Int32 := s.2.2.1 4
def s_r_root (s : RS) (k : Nat) (v : Int32) : RS := (s.1, s.2.1, va_up s.2.2.1 4 (upd (s.2.2.1 4) k v), s.2.2.2)
def r_input (s : RS) : Nat → Int64 := s.2.2.2 1
def s_r_input (s : RS) (k : Nat) (v : Int64) : RS := (s.1, s.2.1, s.2.2.1, va_up s.2.2.2 1 (vp_updL (s.2.2.2 1) k v))
def r_wanted (s : RS) : Nat → Int64 := s.2.2.2 2
def s_r_wanted (s : RS) (k : Nat) (v : Int64) : RS := (s.1, s.2.1, s.2.2.1, va_up s.2.2.2 2 (vp_updL (s.2.2.2 2) k v))
def r_passes (s : RS) : Nat → Int32 := s.2.2.1 5
def s_r_passes (s : RS) (k : Nat) (v : Int32) : RS := (s.1, s.2.1, va_up s.2.2.1 5 (upd (s.2.2.1 5) k v), s.2.2.2)
def r_stepsOf (s : RS) : Nat → Int32 := s.2.2.1 6
def s_r_stepsOf (s : RS) (k : Nat) (v : Int32) : RS := (s.1, s.2.1, va_up s.2.2.1 6 (upd (s.2.2.1 6) k v), s.2.2.2)
def r_covers (s : RS) : Nat → Int32 := s.2.2.1 7
def s_r_covers (s : RS) (k : Nat) (v : Int32) : RS := (s.1, s.2.1, va_up s.2.2.1 7 (upd (s.2.2.1 7) k v), s.2.2.2)
def r_covered (s : RS) : Nat → Int32 := s.2.2.1 8
def s_r_covered (s : RS) (k : Nat) (v : Int32) : RS := (s.1, s.2.1, va_up s.2.2.1 8 (upd (s.2.2.1 8) k v), s.2.2.2)
def r_kindM (s : RS) : Nat → Int32 := s.2.2.1 9
def s_r_kindM (s : RS) (k : Nat) (v : Int32) : RS := (s.1, s.2.1, va_up s.2.2.1 9 (upd (s.2.2.1 9) k v), s.2.2.2)
def r_nodeM (s : RS) : Nat → Int32 := s.2.2.1 10
def s_r_nodeM (s : RS) (k : Nat) (v : Int32) : RS := (s.1, s.2.1, va_up s.2.2.1 10 (upd (s.2.2.1 10) k v), s.2.2.2)
def r_outcome (s : RS) : Nat → Int32 := s.2.2.1 11
def s_r_outcome (s : RS) (k : Nat) (v : Int32) : RS := (s.1, s.2.1, va_up s.2.2.1 11 (upd (s.2.2.1 11) k v), s.2.2.2)
def r_ender (s : RS) : Nat → Int32 := s.2.2.1 12
def s_r_ender (s : RS) (k : Nat) (v : Int32) : RS := (s.1, s.2.1, va_up s.2.2.1 12 (upd (s.2.2.1 12) k v), s.2.2.2)
def r_sampleRow (s : RS) : Nat → Int32 := s.2.2.1 13
def s_r_sampleRow (s : RS) (k : Nat) (v : Int32) : RS := (s.1, s.2.1, va_up s.2.2.1 13 (upd (s.2.2.1 13) k v), s.2.2.2)
def r_marked (s : RS) : Nat → Int32 := s.2.2.1 14
def s_r_marked (s : RS) (k : Nat) (v : Int32) : RS := (s.1, s.2.1, va_up s.2.2.1 14 (upd (s.2.2.1 14) k v), s.2.2.2)
def r_waits (s : RS) : Nat → Int32 := s.2.2.1 15
def s_r_waits (s : RS) (k : Nat) (v : Int32) : RS := (s.1, s.2.1, va_up s.2.2.1 15 (upd (s.2.2.1 15) k v), s.2.2.2)
def r_phase (s : RS) : Nat → Int32 := s.2.2.1 16
def s_r_phase (s : RS) (k : Nat) (v : Int32) : RS := (s.1, s.2.1, va_up s.2.2.1 16 (upd (s.2.2.1 16) k v), s.2.2.2)
def r_first (s : RS) : Nat → Int64 := s.2.2.2 3
def s_r_first (s : RS) (k : Nat) (v : Int64) : RS := (s.1, s.2.1, s.2.2.1, va_up s.2.2.2 3 (vp_updL (s.2.2.2 3) k v))
def r_far (s : RS) : Nat → Int32 := s.2.2.1 17
def s_r_far (s : RS) (k : Nat) (v : Int32) : RS := (s.1, s.2.1, va_up s.2.2.1 17 (upd (s.2.2.1 17) k v), s.2.2.2)
def r_list (s : RS) : Nat → Int32 := s.2.2.1 18
def s_r_list (s : RS) (k : Nat) (v : Int32) : RS := (s.1, s.2.1, va_up s.2.2.1 18 (upd (s.2.2.1 18) k v), s.2.2.2)
def r_alike (s : RS) : Nat → Int32 := s.2.2.1 19
def s_r_alike (s : RS) (k : Nat) (v : Int32) : RS := (s.1, s.2.1, va_up s.2.2.1 19 (upd (s.2.2.1 19) k v), s.2.2.2)
/-- the cells, at the addresses A -/
abbrev cwR (A : Nat → Nat) (cs : ClassId × ClassId × ClassId) (st : RS) : va_W := [(A 0, .inr (7, [.int (r_nodes st), .ref (A 1), .ref (A 2), .ref (A 3), .ref (A 4), .ref (A 5), .int (r_tests st), .ref (A 6), .ref (A 7), .ref (A 8), .ref (A 9), .ref (A 10), .ref (A 11), .ref (A 12), .int (r_mutants st), .ref (A 13), .ref (A 14), .ref (A 15), .ref (A 16), .int (r_sampledMany st), .ref (A 17), .int (r_changedKind st), .int (r_changedNode st), .int (r_steps st), .int (r_isCut st), .ref (A 18), .int (r_high st), .ref (A 19), .ref (A 20), .ref (A 21), .long (r_acc st), .long (r_given st), .ref (A 22), .int (r_listed st), .ref (A 23), .ref (A 24)])),
  (A 1, .inl (cs.1, 64, .inl (r_kindOf st))),
  (A 2, .inl (cs.2.1, 64, .inr (.inl (r_number st)))),
  (A 3, .inl (cs.1, 64, .inl (r_partA st))),
  (A 4, .inl (cs.1, 64, .inl (r_partB st))),
  (A 5, .inl (cs.1, 64, .inl (r_partC st))),
  (A 6, .inl (cs.1, 24, .inl (r_root st))),
  (A 7, .inl (cs.2.1, 24, .inr (.inl (r_input st)))),
  (A 8, .inl (cs.2.1, 24, .inr (.inl (r_wanted st)))),
  (A 9, .inl (cs.1, 24, .inl (r_passes st))),
  (A 10, .inl (cs.1, 24, .inl (r_stepsOf st))),
  (A 11, .inl (cs.2.2, 1536, .inl (r_covers st))),
  (A 12, .inl (cs.2.2, 1536, .inl (r_covered st))),
  (A 13, .inl (cs.1, 100, .inl (r_kindM st))),
  (A 14, .inl (cs.1, 100, .inl (r_nodeM st))),
  (A 15, .inl (cs.1, 100, .inl (r_outcome st))),
  (A 16, .inl (cs.1, 100, .inl (r_ender st))),
  (A 17, .inl (cs.1, 100, .inl (r_sampleRow st))),
  (A 18, .inl (cs.2.2, 64, .inl (r_marked st))),
  (A 19, .inl (cs.1, 65, .inl (r_waits st))),
  (A 20, .inl (cs.1, 65, .inl (r_phase st))),
  (A 21, .inl (cs.2.1, 65, .inr (.inl (r_first st)))),
  (A 22, .inl (cs.1, 64, .inl (r_far st))),
  (A 23, .inl (cs.1, 24, .inl (r_list st))),
  (A 24, .inl (cs.2.2, 4096, .inl (r_alike st)))]
section WORLDR
variable {p : Program} {l : Launch} {e : Env} {R : Room} {s : State} {m : MethodId} {args : Array Value} {below : List Frame} {meth : Method} {c : Code} {H H0 : Heap} {locs : List Loc} {cells slots : Nat} {Q : State → Prop} {D : va_G} {A0 : Nat → Prop} {own : String} {cc : ByteArray} {nL idx pc : Nat} {ls : Array Slot} {rest : List Value} {A : Nat → Nat} {cs : ClassId × ClassId × ClassId} {st st1 : RS} {i : Int32}
theorem g_r_nodes (E : EC own cc nL p s m args c D (tyL cs)) (I : IW D (cwR A cs st) A0 H0 H locs) (lk : Cond.fieldLink own idx "MutantRowsModel" "nodes" "I" ∈ TB) (d : decode cc pc = .ok (.getfield idx, 3)) (kk : W p l e R s m args below meth c H locs cells slots Q (F0 m (pc + 3) ls (.int (r_nodes st) :: rest))) : W p l e R s m args below meth c H locs cells slots Q (F0 m pc ls (.ref (A 0) :: rest)) :=
  va_get (D := D) (ci := 7) (v := .int (r_nodes st)) (C := R_R) (T := F_R) (N := 36) E.1 E.2.1 E.2.2.2.2.1 ii_R E.2.2.2.1 E.2.2.2.2.2.1 I.1 0 rfl rfl 0 (by decide) (E.2.2.2.2.1 _ lk) (fun _ h => h) rfl d kk
theorem p_r_nodes {v : Int32} (E : EC own cc nL p s m args c D (tyL cs)) (I : IW D (cwR A cs st) A0 H0 H locs) (e1 : st1 = s_r_nodes st v) (lk : Cond.fieldLink own idx "MutantRowsModel" "nodes" "I" ∈ TB) (d : decode cc pc = .ok (.putfield idx, 3)) (kk : ∀ (H1 : Heap) (locs1 : List Loc), IW D (cwR A cs st1) A0 H0 H1 locs1 → W p l e R s m args below meth c H1 locs1 cells slots Q (F0 m (pc + 3) ls (rest))) : W p l e R s m args below meth c H locs cells slots Q (F0 m pc ls (.int v :: .ref (A 0) :: rest)) := by
  subst e1
  exact va_put (D := D) (ci := 7) (v := .int v) (ty := .int) (C := R_R) (T := F_R) (N := 36) E.1 E.2.1 E.2.2.2.2.1 ii_R tt_R tt_R_ok nn_R E.2.2.2.1 E.2.2.2.2.2.1 I.1 I.2.1 I.2.2 0 rfl rfl 0 (by decide) (E.2.2.2.2.1 _ lk) (fun _ h => h) rfl (by decide +kernel) rfl rfl (Nat.le_of_ble_eq_true rfl) d (fun H1 locs1 h1 h2 h3 => kk H1 locs1 ⟨h1, h2, h3⟩)
theorem g_rR_kindOf (E : EC own cc nL p s m args c D (tyL cs)) (I : IW D (cwR A cs st) A0 H0 H locs) (lk : Cond.fieldLink own idx "MutantRowsModel" "kindOf" "[I" ∈ TB) (d : decode cc pc = .ok (.getfield idx, 3)) (kk : W p l e R s m args below meth c H locs cells slots Q (F0 m (pc + 3) ls (.ref (A 1) :: rest))) : W p l e R s m args below meth c H locs cells slots Q (F0 m pc ls (.ref (A 0) :: rest)) :=
  va_get (D := D) (ci := 7) (v := .ref (A 1)) (C := R_R) (T := F_R) (N := 36) E.1 E.2.1 E.2.2.2.2.1 ii_R E.2.2.2.1 E.2.2.2.2.2.1 I.1 0 rfl rfl 1 (by decide) (E.2.2.2.2.1 _ lk) (fun _ h => h) rfl d kk
theorem g_rR_number (E : EC own cc nL p s m args c D (tyL cs)) (I : IW D (cwR A cs st) A0 H0 H locs) (lk : Cond.fieldLink own idx "MutantRowsModel" "number" "[J" ∈ TB) (d : decode cc pc = .ok (.getfield idx, 3)) (kk : W p l e R s m args below meth c H locs cells slots Q (F0 m (pc + 3) ls (.ref (A 2) :: rest))) : W p l e R s m args below meth c H locs cells slots Q (F0 m pc ls (.ref (A 0) :: rest)) :=
  va_get (D := D) (ci := 7) (v := .ref (A 2)) (C := R_R) (T := F_R) (N := 36) E.1 E.2.1 E.2.2.2.2.1 ii_R E.2.2.2.1 E.2.2.2.2.2.1 I.1 0 rfl rfl 2 (by decide) (E.2.2.2.2.1 _ lk) (fun _ h => h) rfl d kk
theorem g_rR_partA (E : EC own cc nL p s m args c D (tyL cs)) (I : IW D (cwR A cs st) A0 H0 H locs) (lk : Cond.fieldLink own idx "MutantRowsModel" "partA" "[I" ∈ TB) (d : decode cc pc = .ok (.getfield idx, 3)) (kk : W p l e R s m args below meth c H locs cells slots Q (F0 m (pc + 3) ls (.ref (A 3) :: rest))) : W p l e R s m args below meth c H locs cells slots Q (F0 m pc ls (.ref (A 0) :: rest)) :=
  va_get (D := D) (ci := 7) (v := .ref (A 3)) (C := R_R) (T := F_R) (N := 36) E.1 E.2.1 E.2.2.2.2.1 ii_R E.2.2.2.1 E.2.2.2.2.2.1 I.1 0 rfl rfl 3 (by decide) (E.2.2.2.2.1 _ lk) (fun _ h => h) rfl d kk
theorem g_rR_partB (E : EC own cc nL p s m args c D (tyL cs)) (I : IW D (cwR A cs st) A0 H0 H locs) (lk : Cond.fieldLink own idx "MutantRowsModel" "partB" "[I" ∈ TB) (d : decode cc pc = .ok (.getfield idx, 3)) (kk : W p l e R s m args below meth c H locs cells slots Q (F0 m (pc + 3) ls (.ref (A 4) :: rest))) : W p l e R s m args below meth c H locs cells slots Q (F0 m pc ls (.ref (A 0) :: rest)) :=
  va_get (D := D) (ci := 7) (v := .ref (A 4)) (C := R_R) (T := F_R) (N := 36) E.1 E.2.1 E.2.2.2.2.1 ii_R E.2.2.2.1 E.2.2.2.2.2.1 I.1 0 rfl rfl 4 (by decide) (E.2.2.2.2.1 _ lk) (fun _ h => h) rfl d kk
theorem g_rR_partC (E : EC own cc nL p s m args c D (tyL cs)) (I : IW D (cwR A cs st) A0 H0 H locs) (lk : Cond.fieldLink own idx "MutantRowsModel" "partC" "[I" ∈ TB) (d : decode cc pc = .ok (.getfield idx, 3)) (kk : W p l e R s m args below meth c H locs cells slots Q (F0 m (pc + 3) ls (.ref (A 5) :: rest))) : W p l e R s m args below meth c H locs cells slots Q (F0 m pc ls (.ref (A 0) :: rest)) :=
  va_get (D := D) (ci := 7) (v := .ref (A 5)) (C := R_R) (T := F_R) (N := 36) E.1 E.2.1 E.2.2.2.2.1 ii_R E.2.2.2.1 E.2.2.2.2.2.1 I.1 0 rfl rfl 5 (by decide) (E.2.2.2.2.1 _ lk) (fun _ h => h) rfl d kk
theorem g_r_tests (E : EC own cc nL p s m args c D (tyL cs)) (I : IW D (cwR A cs st) A0 H0 H locs) (lk : Cond.fieldLink own idx "MutantRowsModel" "tests" "I" ∈ TB) (d : decode cc pc = .ok (.getfield idx, 3)) (kk : W p l e R s m args below meth c H locs cells slots Q (F0 m (pc + 3) ls (.int (r_tests st) :: rest))) : W p l e R s m args below meth c H locs cells slots Q (F0 m pc ls (.ref (A 0) :: rest)) :=
  va_get (D := D) (ci := 7) (v := .int (r_tests st)) (C := R_R) (T := F_R) (N := 36) E.1 E.2.1 E.2.2.2.2.1 ii_R E.2.2.2.1 E.2.2.2.2.2.1 I.1 0 rfl rfl 6 (by decide) (E.2.2.2.2.1 _ lk) (fun _ h => h) rfl d kk
theorem p_r_tests {v : Int32} (E : EC own cc nL p s m args c D (tyL cs)) (I : IW D (cwR A cs st) A0 H0 H locs) (e1 : st1 = s_r_tests st v) (lk : Cond.fieldLink own idx "MutantRowsModel" "tests" "I" ∈ TB) (d : decode cc pc = .ok (.putfield idx, 3)) (kk : ∀ (H1 : Heap) (locs1 : List Loc), IW D (cwR A cs st1) A0 H0 H1 locs1 → W p l e R s m args below meth c H1 locs1 cells slots Q (F0 m (pc + 3) ls (rest))) : W p l e R s m args below meth c H locs cells slots Q (F0 m pc ls (.int v :: .ref (A 0) :: rest)) := by
  subst e1
  exact va_put (D := D) (ci := 7) (v := .int v) (ty := .int) (C := R_R) (T := F_R) (N := 36) E.1 E.2.1 E.2.2.2.2.1 ii_R tt_R tt_R_ok nn_R E.2.2.2.1 E.2.2.2.2.2.1 I.1 I.2.1 I.2.2 0 rfl rfl 6 (by decide) (E.2.2.2.2.1 _ lk) (fun _ h => h) rfl (by decide +kernel) rfl rfl (Nat.le_of_ble_eq_true rfl) d (fun H1 locs1 h1 h2 h3 => kk H1 locs1 ⟨h1, h2, h3⟩)
theorem g_rR_root (E : EC own cc nL p s m args c D (tyL cs)) (I : IW D (cwR A cs st) A0 H0 H locs) (lk : Cond.fieldLink own idx "MutantRowsModel" "root" "[I" ∈ TB) (d : decode cc pc = .ok (.getfield idx, 3)) (kk : W p l e R s m args below meth c H locs cells slots Q (F0 m (pc + 3) ls (.ref (A 6) :: rest))) : W p l e R s m args below meth c H locs cells slots Q (F0 m pc ls (.ref (A 0) :: rest)) :=
  va_get (D := D) (ci := 7) (v := .ref (A 6)) (C := R_R) (T := F_R) (N := 36) E.1 E.2.1 E.2.2.2.2.1 ii_R E.2.2.2.1 E.2.2.2.2.2.1 I.1 0 rfl rfl 7 (by decide) (E.2.2.2.2.1 _ lk) (fun _ h => h) rfl d kk
theorem g_rR_input (E : EC own cc nL p s m args c D (tyL cs)) (I : IW D (cwR A cs st) A0 H0 H locs) (lk : Cond.fieldLink own idx "MutantRowsModel" "input" "[J" ∈ TB) (d : decode cc pc = .ok (.getfield idx, 3)) (kk : W p l e R s m args below meth c H locs cells slots Q (F0 m (pc + 3) ls (.ref (A 7) :: rest))) : W p l e R s m args below meth c H locs cells slots Q (F0 m pc ls (.ref (A 0) :: rest)) :=
  va_get (D := D) (ci := 7) (v := .ref (A 7)) (C := R_R) (T := F_R) (N := 36) E.1 E.2.1 E.2.2.2.2.1 ii_R E.2.2.2.1 E.2.2.2.2.2.1 I.1 0 rfl rfl 8 (by decide) (E.2.2.2.2.1 _ lk) (fun _ h => h) rfl d kk
theorem g_rR_wanted (E : EC own cc nL p s m args c D (tyL cs)) (I : IW D (cwR A cs st) A0 H0 H locs) (lk : Cond.fieldLink own idx "MutantRowsModel" "wanted" "[J" ∈ TB) (d : decode cc pc = .ok (.getfield idx, 3)) (kk : W p l e R s m args below meth c H locs cells slots Q (F0 m (pc + 3) ls (.ref (A 8) :: rest))) : W p l e R s m args below meth c H locs cells slots Q (F0 m pc ls (.ref (A 0) :: rest)) :=
  va_get (D := D) (ci := 7) (v := .ref (A 8)) (C := R_R) (T := F_R) (N := 36) E.1 E.2.1 E.2.2.2.2.1 ii_R E.2.2.2.1 E.2.2.2.2.2.1 I.1 0 rfl rfl 9 (by decide) (E.2.2.2.2.1 _ lk) (fun _ h => h) rfl d kk
theorem g_rR_passes (E : EC own cc nL p s m args c D (tyL cs)) (I : IW D (cwR A cs st) A0 H0 H locs) (lk : Cond.fieldLink own idx "MutantRowsModel" "passes" "[I" ∈ TB) (d : decode cc pc = .ok (.getfield idx, 3)) (kk : W p l e R s m args below meth c H locs cells slots Q (F0 m (pc + 3) ls (.ref (A 9) :: rest))) : W p l e R s m args below meth c H locs cells slots Q (F0 m pc ls (.ref (A 0) :: rest)) :=
  va_get (D := D) (ci := 7) (v := .ref (A 9)) (C := R_R) (T := F_R) (N := 36) E.1 E.2.1 E.2.2.2.2.1 ii_R E.2.2.2.1 E.2.2.2.2.2.1 I.1 0 rfl rfl 10 (by decide) (E.2.2.2.2.1 _ lk) (fun _ h => h) rfl d kk
theorem g_rR_stepsOf (E : EC own cc nL p s m args c D (tyL cs)) (I : IW D (cwR A cs st) A0 H0 H locs) (lk : Cond.fieldLink own idx "MutantRowsModel" "stepsOf" "[I" ∈ TB) (d : decode cc pc = .ok (.getfield idx, 3)) (kk : W p l e R s m args below meth c H locs cells slots Q (F0 m (pc + 3) ls (.ref (A 10) :: rest))) : W p l e R s m args below meth c H locs cells slots Q (F0 m pc ls (.ref (A 0) :: rest)) :=
  va_get (D := D) (ci := 7) (v := .ref (A 10)) (C := R_R) (T := F_R) (N := 36) E.1 E.2.1 E.2.2.2.2.1 ii_R E.2.2.2.1 E.2.2.2.2.2.1 I.1 0 rfl rfl 11 (by decide) (E.2.2.2.2.1 _ lk) (fun _ h => h) rfl d kk
theorem g_rR_covers (E : EC own cc nL p s m args c D (tyL cs)) (I : IW D (cwR A cs st) A0 H0 H locs) (lk : Cond.fieldLink own idx "MutantRowsModel" "covers" "[Z" ∈ TB) (d : decode cc pc = .ok (.getfield idx, 3)) (kk : W p l e R s m args below meth c H locs cells slots Q (F0 m (pc + 3) ls (.ref (A 11) :: rest))) : W p l e R s m args below meth c H locs cells slots Q (F0 m pc ls (.ref (A 0) :: rest)) :=
  va_get (D := D) (ci := 7) (v := .ref (A 11)) (C := R_R) (T := F_R) (N := 36) E.1 E.2.1 E.2.2.2.2.1 ii_R E.2.2.2.1 E.2.2.2.2.2.1 I.1 0 rfl rfl 12 (by decide) (E.2.2.2.2.1 _ lk) (fun _ h => h) rfl d kk
theorem g_rR_covered (E : EC own cc nL p s m args c D (tyL cs)) (I : IW D (cwR A cs st) A0 H0 H locs) (lk : Cond.fieldLink own idx "MutantRowsModel" "covered" "[Z" ∈ TB) (d : decode cc pc = .ok (.getfield idx, 3)) (kk : W p l e R s m args below meth c H locs cells slots Q (F0 m (pc + 3) ls (.ref (A 12) :: rest))) : W p l e R s m args below meth c H locs cells slots Q (F0 m pc ls (.ref (A 0) :: rest)) :=
  va_get (D := D) (ci := 7) (v := .ref (A 12)) (C := R_R) (T := F_R) (N := 36) E.1 E.2.1 E.2.2.2.2.1 ii_R E.2.2.2.1 E.2.2.2.2.2.1 I.1 0 rfl rfl 13 (by decide) (E.2.2.2.2.1 _ lk) (fun _ h => h) rfl d kk
theorem g_r_mutants (E : EC own cc nL p s m args c D (tyL cs)) (I : IW D (cwR A cs st) A0 H0 H locs) (lk : Cond.fieldLink own idx "MutantRowsModel" "mutants" "I" ∈ TB) (d : decode cc pc = .ok (.getfield idx, 3)) (kk : W p l e R s m args below meth c H locs cells slots Q (F0 m (pc + 3) ls (.int (r_mutants st) :: rest))) : W p l e R s m args below meth c H locs cells slots Q (F0 m pc ls (.ref (A 0) :: rest)) :=
  va_get (D := D) (ci := 7) (v := .int (r_mutants st)) (C := R_R) (T := F_R) (N := 36) E.1 E.2.1 E.2.2.2.2.1 ii_R E.2.2.2.1 E.2.2.2.2.2.1 I.1 0 rfl rfl 14 (by decide) (E.2.2.2.2.1 _ lk) (fun _ h => h) rfl d kk
theorem p_r_mutants {v : Int32} (E : EC own cc nL p s m args c D (tyL cs)) (I : IW D (cwR A cs st) A0 H0 H locs) (e1 : st1 = s_r_mutants st v) (lk : Cond.fieldLink own idx "MutantRowsModel" "mutants" "I" ∈ TB) (d : decode cc pc = .ok (.putfield idx, 3)) (kk : ∀ (H1 : Heap) (locs1 : List Loc), IW D (cwR A cs st1) A0 H0 H1 locs1 → W p l e R s m args below meth c H1 locs1 cells slots Q (F0 m (pc + 3) ls (rest))) : W p l e R s m args below meth c H locs cells slots Q (F0 m pc ls (.int v :: .ref (A 0) :: rest)) := by
  subst e1
  exact va_put (D := D) (ci := 7) (v := .int v) (ty := .int) (C := R_R) (T := F_R) (N := 36) E.1 E.2.1 E.2.2.2.2.1 ii_R tt_R tt_R_ok nn_R E.2.2.2.1 E.2.2.2.2.2.1 I.1 I.2.1 I.2.2 0 rfl rfl 14 (by decide) (E.2.2.2.2.1 _ lk) (fun _ h => h) rfl (by decide +kernel) rfl rfl (Nat.le_of_ble_eq_true rfl) d (fun H1 locs1 h1 h2 h3 => kk H1 locs1 ⟨h1, h2, h3⟩)
theorem g_rR_kindM (E : EC own cc nL p s m args c D (tyL cs)) (I : IW D (cwR A cs st) A0 H0 H locs) (lk : Cond.fieldLink own idx "MutantRowsModel" "kindM" "[I" ∈ TB) (d : decode cc pc = .ok (.getfield idx, 3)) (kk : W p l e R s m args below meth c H locs cells slots Q (F0 m (pc + 3) ls (.ref (A 13) :: rest))) : W p l e R s m args below meth c H locs cells slots Q (F0 m pc ls (.ref (A 0) :: rest)) :=
  va_get (D := D) (ci := 7) (v := .ref (A 13)) (C := R_R) (T := F_R) (N := 36) E.1 E.2.1 E.2.2.2.2.1 ii_R E.2.2.2.1 E.2.2.2.2.2.1 I.1 0 rfl rfl 15 (by decide) (E.2.2.2.2.1 _ lk) (fun _ h => h) rfl d kk
theorem g_rR_nodeM (E : EC own cc nL p s m args c D (tyL cs)) (I : IW D (cwR A cs st) A0 H0 H locs) (lk : Cond.fieldLink own idx "MutantRowsModel" "nodeM" "[I" ∈ TB) (d : decode cc pc = .ok (.getfield idx, 3)) (kk : W p l e R s m args below meth c H locs cells slots Q (F0 m (pc + 3) ls (.ref (A 14) :: rest))) : W p l e R s m args below meth c H locs cells slots Q (F0 m pc ls (.ref (A 0) :: rest)) :=
  va_get (D := D) (ci := 7) (v := .ref (A 14)) (C := R_R) (T := F_R) (N := 36) E.1 E.2.1 E.2.2.2.2.1 ii_R E.2.2.2.1 E.2.2.2.2.2.1 I.1 0 rfl rfl 16 (by decide) (E.2.2.2.2.1 _ lk) (fun _ h => h) rfl d kk
theorem g_rR_outcome (E : EC own cc nL p s m args c D (tyL cs)) (I : IW D (cwR A cs st) A0 H0 H locs) (lk : Cond.fieldLink own idx "MutantRowsModel" "outcome" "[I" ∈ TB) (d : decode cc pc = .ok (.getfield idx, 3)) (kk : W p l e R s m args below meth c H locs cells slots Q (F0 m (pc + 3) ls (.ref (A 15) :: rest))) : W p l e R s m args below meth c H locs cells slots Q (F0 m pc ls (.ref (A 0) :: rest)) :=
  va_get (D := D) (ci := 7) (v := .ref (A 15)) (C := R_R) (T := F_R) (N := 36) E.1 E.2.1 E.2.2.2.2.1 ii_R E.2.2.2.1 E.2.2.2.2.2.1 I.1 0 rfl rfl 17 (by decide) (E.2.2.2.2.1 _ lk) (fun _ h => h) rfl d kk
theorem g_rR_ender (E : EC own cc nL p s m args c D (tyL cs)) (I : IW D (cwR A cs st) A0 H0 H locs) (lk : Cond.fieldLink own idx "MutantRowsModel" "ender" "[I" ∈ TB) (d : decode cc pc = .ok (.getfield idx, 3)) (kk : W p l e R s m args below meth c H locs cells slots Q (F0 m (pc + 3) ls (.ref (A 16) :: rest))) : W p l e R s m args below meth c H locs cells slots Q (F0 m pc ls (.ref (A 0) :: rest)) :=
  va_get (D := D) (ci := 7) (v := .ref (A 16)) (C := R_R) (T := F_R) (N := 36) E.1 E.2.1 E.2.2.2.2.1 ii_R E.2.2.2.1 E.2.2.2.2.2.1 I.1 0 rfl rfl 18 (by decide) (E.2.2.2.2.1 _ lk) (fun _ h => h) rfl d kk
theorem g_r_sampledMany (E : EC own cc nL p s m args c D (tyL cs)) (I : IW D (cwR A cs st) A0 H0 H locs) (lk : Cond.fieldLink own idx "MutantRowsModel" "sampledMany" "I" ∈ TB) (d : decode cc pc = .ok (.getfield idx, 3)) (kk : W p l e R s m args below meth c H locs cells slots Q (F0 m (pc + 3) ls (.int (r_sampledMany st) :: rest))) : W p l e R s m args below meth c H locs cells slots Q (F0 m pc ls (.ref (A 0) :: rest)) :=
  va_get (D := D) (ci := 7) (v := .int (r_sampledMany st)) (C := R_R) (T := F_R) (N := 36) E.1 E.2.1 E.2.2.2.2.1 ii_R E.2.2.2.1 E.2.2.2.2.2.1 I.1 0 rfl rfl 19 (by decide) (E.2.2.2.2.1 _ lk) (fun _ h => h) rfl d kk
theorem p_r_sampledMany {v : Int32} (E : EC own cc nL p s m args c D (tyL cs)) (I : IW D (cwR A cs st) A0 H0 H locs) (e1 : st1 = s_r_sampledMany st v) (lk : Cond.fieldLink own idx "MutantRowsModel" "sampledMany" "I" ∈ TB) (d : decode cc pc = .ok (.putfield idx, 3)) (kk : ∀ (H1 : Heap) (locs1 : List Loc), IW D (cwR A cs st1) A0 H0 H1 locs1 → W p l e R s m args below meth c H1 locs1 cells slots Q (F0 m (pc + 3) ls (rest))) : W p l e R s m args below meth c H locs cells slots Q (F0 m pc ls (.int v :: .ref (A 0) :: rest)) := by
  subst e1
  exact va_put (D := D) (ci := 7) (v := .int v) (ty := .int) (C := R_R) (T := F_R) (N := 36) E.1 E.2.1 E.2.2.2.2.1 ii_R tt_R tt_R_ok nn_R E.2.2.2.1 E.2.2.2.2.2.1 I.1 I.2.1 I.2.2 0 rfl rfl 19 (by decide) (E.2.2.2.2.1 _ lk) (fun _ h => h) rfl (by decide +kernel) rfl rfl (Nat.le_of_ble_eq_true rfl) d (fun H1 locs1 h1 h2 h3 => kk H1 locs1 ⟨h1, h2, h3⟩)
theorem g_rR_sampleRow (E : EC own cc nL p s m args c D (tyL cs)) (I : IW D (cwR A cs st) A0 H0 H locs) (lk : Cond.fieldLink own idx "MutantRowsModel" "sampleRow" "[I" ∈ TB) (d : decode cc pc = .ok (.getfield idx, 3)) (kk : W p l e R s m args below meth c H locs cells slots Q (F0 m (pc + 3) ls (.ref (A 17) :: rest))) : W p l e R s m args below meth c H locs cells slots Q (F0 m pc ls (.ref (A 0) :: rest)) :=
  va_get (D := D) (ci := 7) (v := .ref (A 17)) (C := R_R) (T := F_R) (N := 36) E.1 E.2.1 E.2.2.2.2.1 ii_R E.2.2.2.1 E.2.2.2.2.2.1 I.1 0 rfl rfl 20 (by decide) (E.2.2.2.2.1 _ lk) (fun _ h => h) rfl d kk
theorem g_r_changedKind (E : EC own cc nL p s m args c D (tyL cs)) (I : IW D (cwR A cs st) A0 H0 H locs) (lk : Cond.fieldLink own idx "MutantRowsModel" "changedKind" "I" ∈ TB) (d : decode cc pc = .ok (.getfield idx, 3)) (kk : W p l e R s m args below meth c H locs cells slots Q (F0 m (pc + 3) ls (.int (r_changedKind st) :: rest))) : W p l e R s m args below meth c H locs cells slots Q (F0 m pc ls (.ref (A 0) :: rest)) :=
  va_get (D := D) (ci := 7) (v := .int (r_changedKind st)) (C := R_R) (T := F_R) (N := 36) E.1 E.2.1 E.2.2.2.2.1 ii_R E.2.2.2.1 E.2.2.2.2.2.1 I.1 0 rfl rfl 21 (by decide) (E.2.2.2.2.1 _ lk) (fun _ h => h) rfl d kk
theorem p_r_changedKind {v : Int32} (E : EC own cc nL p s m args c D (tyL cs)) (I : IW D (cwR A cs st) A0 H0 H locs) (e1 : st1 = s_r_changedKind st v) (lk : Cond.fieldLink own idx "MutantRowsModel" "changedKind" "I" ∈ TB) (d : decode cc pc = .ok (.putfield idx, 3)) (kk : ∀ (H1 : Heap) (locs1 : List Loc), IW D (cwR A cs st1) A0 H0 H1 locs1 → W p l e R s m args below meth c H1 locs1 cells slots Q (F0 m (pc + 3) ls (rest))) : W p l e R s m args below meth c H locs cells slots Q (F0 m pc ls (.int v :: .ref (A 0) :: rest)) := by
  subst e1
  exact va_put (D := D) (ci := 7) (v := .int v) (ty := .int) (C := R_R) (T := F_R) (N := 36) E.1 E.2.1 E.2.2.2.2.1 ii_R tt_R tt_R_ok nn_R E.2.2.2.1 E.2.2.2.2.2.1 I.1 I.2.1 I.2.2 0 rfl rfl 21 (by decide) (E.2.2.2.2.1 _ lk) (fun _ h => h) rfl (by decide +kernel) rfl rfl (Nat.le_of_ble_eq_true rfl) d (fun H1 locs1 h1 h2 h3 => kk H1 locs1 ⟨h1, h2, h3⟩)
theorem g_r_changedNode (E : EC own cc nL p s m args c D (tyL cs)) (I : IW D (cwR A cs st) A0 H0 H locs) (lk : Cond.fieldLink own idx "MutantRowsModel" "changedNode" "I" ∈ TB) (d : decode cc pc = .ok (.getfield idx, 3)) (kk : W p l e R s m args below meth c H locs cells slots Q (F0 m (pc + 3) ls (.int (r_changedNode st) :: rest))) : W p l e R s m args below meth c H locs cells slots Q (F0 m pc ls (.ref (A 0) :: rest)) :=
  va_get (D := D) (ci := 7) (v := .int (r_changedNode st)) (C := R_R) (T := F_R) (N := 36) E.1 E.2.1 E.2.2.2.2.1 ii_R E.2.2.2.1 E.2.2.2.2.2.1 I.1 0 rfl rfl 22 (by decide) (E.2.2.2.2.1 _ lk) (fun _ h => h) rfl d kk
theorem p_r_changedNode {v : Int32} (E : EC own cc nL p s m args c D (tyL cs)) (I : IW D (cwR A cs st) A0 H0 H locs) (e1 : st1 = s_r_changedNode st v) (lk : Cond.fieldLink own idx "MutantRowsModel" "changedNode" "I" ∈ TB) (d : decode cc pc = .ok (.putfield idx, 3)) (kk : ∀ (H1 : Heap) (locs1 : List Loc), IW D (cwR A cs st1) A0 H0 H1 locs1 → W p l e R s m args below meth c H1 locs1 cells slots Q (F0 m (pc + 3) ls (rest))) : W p l e R s m args below meth c H locs cells slots Q (F0 m pc ls (.int v :: .ref (A 0) :: rest)) := by
  subst e1
  exact va_put (D := D) (ci := 7) (v := .int v) (ty := .int) (C := R_R) (T := F_R) (N := 36) E.1 E.2.1 E.2.2.2.2.1 ii_R tt_R tt_R_ok nn_R E.2.2.2.1 E.2.2.2.2.2.1 I.1 I.2.1 I.2.2 0 rfl rfl 22 (by decide) (E.2.2.2.2.1 _ lk) (fun _ h => h) rfl (by decide +kernel) rfl rfl (Nat.le_of_ble_eq_true rfl) d (fun H1 locs1 h1 h2 h3 => kk H1 locs1 ⟨h1, h2, h3⟩)
theorem g_r_steps (E : EC own cc nL p s m args c D (tyL cs)) (I : IW D (cwR A cs st) A0 H0 H locs) (lk : Cond.fieldLink own idx "MutantRowsModel" "steps" "I" ∈ TB) (d : decode cc pc = .ok (.getfield idx, 3)) (kk : W p l e R s m args below meth c H locs cells slots Q (F0 m (pc + 3) ls (.int (r_steps st) :: rest))) : W p l e R s m args below meth c H locs cells slots Q (F0 m pc ls (.ref (A 0) :: rest)) :=
  va_get (D := D) (ci := 7) (v := .int (r_steps st)) (C := R_R) (T := F_R) (N := 36) E.1 E.2.1 E.2.2.2.2.1 ii_R E.2.2.2.1 E.2.2.2.2.2.1 I.1 0 rfl rfl 23 (by decide) (E.2.2.2.2.1 _ lk) (fun _ h => h) rfl d kk
theorem p_r_steps {v : Int32} (E : EC own cc nL p s m args c D (tyL cs)) (I : IW D (cwR A cs st) A0 H0 H locs) (e1 : st1 = s_r_steps st v) (lk : Cond.fieldLink own idx "MutantRowsModel" "steps" "I" ∈ TB) (d : decode cc pc = .ok (.putfield idx, 3)) (kk : ∀ (H1 : Heap) (locs1 : List Loc), IW D (cwR A cs st1) A0 H0 H1 locs1 → W p l e R s m args below meth c H1 locs1 cells slots Q (F0 m (pc + 3) ls (rest))) : W p l e R s m args below meth c H locs cells slots Q (F0 m pc ls (.int v :: .ref (A 0) :: rest)) := by
  subst e1
  exact va_put (D := D) (ci := 7) (v := .int v) (ty := .int) (C := R_R) (T := F_R) (N := 36) E.1 E.2.1 E.2.2.2.2.1 ii_R tt_R tt_R_ok nn_R E.2.2.2.1 E.2.2.2.2.2.1 I.1 I.2.1 I.2.2 0 rfl rfl 23 (by decide) (E.2.2.2.2.1 _ lk) (fun _ h => h) rfl (by decide +kernel) rfl rfl (Nat.le_of_ble_eq_true rfl) d (fun H1 locs1 h1 h2 h3 => kk H1 locs1 ⟨h1, h2, h3⟩)
theorem g_r_isCut (E : EC own cc nL p s m args c D (tyL cs)) (I : IW D (cwR A cs st) A0 H0 H locs) (lk : Cond.fieldLink own idx "MutantRowsModel" "isCut" "Z" ∈ TB) (d : decode cc pc = .ok (.getfield idx, 3)) (kk : W p l e R s m args below meth c H locs cells slots Q (F0 m (pc + 3) ls (.int (r_isCut st) :: rest))) : W p l e R s m args below meth c H locs cells slots Q (F0 m pc ls (.ref (A 0) :: rest)) :=
  va_get (D := D) (ci := 7) (v := .int (r_isCut st)) (C := R_R) (T := F_R) (N := 36) E.1 E.2.1 E.2.2.2.2.1 ii_R E.2.2.2.1 E.2.2.2.2.2.1 I.1 0 rfl rfl 24 (by decide) (E.2.2.2.2.1 _ lk) (fun _ h => h) rfl d kk
theorem p_r_isCut {v : Int32} (E : EC own cc nL p s m args c D (tyL cs)) (I : IW D (cwR A cs st) A0 H0 H locs) (e1 : st1 = s_r_isCut st v) (lk : Cond.fieldLink own idx "MutantRowsModel" "isCut" "Z" ∈ TB) (hz : v = 0 ∨ v = 1) (d : decode cc pc = .ok (.putfield idx, 3)) (kk : ∀ (H1 : Heap) (locs1 : List Loc), IW D (cwR A cs st1) A0 H0 H1 locs1 → W p l e R s m args below meth c H1 locs1 cells slots Q (F0 m (pc + 3) ls (rest))) : W p l e R s m args below meth c H locs cells slots Q (F0 m pc ls (.int v :: .ref (A 0) :: rest)) := by
  subst e1
  exact va_put (D := D) (ci := 7) (v := .int v) (ty := .boolean) (C := R_R) (T := F_R) (N := 36) E.1 E.2.1 E.2.2.2.2.1 ii_R tt_R tt_R_ok nn_R E.2.2.2.1 E.2.2.2.2.2.1 I.1 I.2.1 I.2.2 0 rfl rfl 24 (by decide) (E.2.2.2.2.1 _ lk) (fun _ h => h) rfl (by decide +kernel) (zr_nar hz) (zr_fit hz) (Nat.le_of_ble_eq_true rfl) d (fun H1 locs1 h1 h2 h3 => kk H1 locs1 ⟨h1, h2, h3⟩)
theorem g_rR_marked (E : EC own cc nL p s m args c D (tyL cs)) (I : IW D (cwR A cs st) A0 H0 H locs) (lk : Cond.fieldLink own idx "MutantRowsModel" "marked" "[Z" ∈ TB) (d : decode cc pc = .ok (.getfield idx, 3)) (kk : W p l e R s m args below meth c H locs cells slots Q (F0 m (pc + 3) ls (.ref (A 18) :: rest))) : W p l e R s m args below meth c H locs cells slots Q (F0 m pc ls (.ref (A 0) :: rest)) :=
  va_get (D := D) (ci := 7) (v := .ref (A 18)) (C := R_R) (T := F_R) (N := 36) E.1 E.2.1 E.2.2.2.2.1 ii_R E.2.2.2.1 E.2.2.2.2.2.1 I.1 0 rfl rfl 25 (by decide) (E.2.2.2.2.1 _ lk) (fun _ h => h) rfl d kk
theorem g_r_high (E : EC own cc nL p s m args c D (tyL cs)) (I : IW D (cwR A cs st) A0 H0 H locs) (lk : Cond.fieldLink own idx "MutantRowsModel" "high" "I" ∈ TB) (d : decode cc pc = .ok (.getfield idx, 3)) (kk : W p l e R s m args below meth c H locs cells slots Q (F0 m (pc + 3) ls (.int (r_high st) :: rest))) : W p l e R s m args below meth c H locs cells slots Q (F0 m pc ls (.ref (A 0) :: rest)) :=
  va_get (D := D) (ci := 7) (v := .int (r_high st)) (C := R_R) (T := F_R) (N := 36) E.1 E.2.1 E.2.2.2.2.1 ii_R E.2.2.2.1 E.2.2.2.2.2.1 I.1 0 rfl rfl 26 (by decide) (E.2.2.2.2.1 _ lk) (fun _ h => h) rfl d kk
theorem p_r_high {v : Int32} (E : EC own cc nL p s m args c D (tyL cs)) (I : IW D (cwR A cs st) A0 H0 H locs) (e1 : st1 = s_r_high st v) (lk : Cond.fieldLink own idx "MutantRowsModel" "high" "I" ∈ TB) (d : decode cc pc = .ok (.putfield idx, 3)) (kk : ∀ (H1 : Heap) (locs1 : List Loc), IW D (cwR A cs st1) A0 H0 H1 locs1 → W p l e R s m args below meth c H1 locs1 cells slots Q (F0 m (pc + 3) ls (rest))) : W p l e R s m args below meth c H locs cells slots Q (F0 m pc ls (.int v :: .ref (A 0) :: rest)) := by
  subst e1
  exact va_put (D := D) (ci := 7) (v := .int v) (ty := .int) (C := R_R) (T := F_R) (N := 36) E.1 E.2.1 E.2.2.2.2.1 ii_R tt_R tt_R_ok nn_R E.2.2.2.1 E.2.2.2.2.2.1 I.1 I.2.1 I.2.2 0 rfl rfl 26 (by decide) (E.2.2.2.2.1 _ lk) (fun _ h => h) rfl (by decide +kernel) rfl rfl (Nat.le_of_ble_eq_true rfl) d (fun H1 locs1 h1 h2 h3 => kk H1 locs1 ⟨h1, h2, h3⟩)
theorem g_rR_waits (E : EC own cc nL p s m args c D (tyL cs)) (I : IW D (cwR A cs st) A0 H0 H locs) (lk : Cond.fieldLink own idx "MutantRowsModel" "waits" "[I" ∈ TB) (d : decode cc pc = .ok (.getfield idx, 3)) (kk : W p l e R s m args below meth c H locs cells slots Q (F0 m (pc + 3) ls (.ref (A 19) :: rest))) : W p l e R s m args below meth c H locs cells slots Q (F0 m pc ls (.ref (A 0) :: rest)) :=
  va_get (D := D) (ci := 7) (v := .ref (A 19)) (C := R_R) (T := F_R) (N := 36) E.1 E.2.1 E.2.2.2.2.1 ii_R E.2.2.2.1 E.2.2.2.2.2.1 I.1 0 rfl rfl 27 (by decide) (E.2.2.2.2.1 _ lk) (fun _ h => h) rfl d kk
theorem g_rR_phase (E : EC own cc nL p s m args c D (tyL cs)) (I : IW D (cwR A cs st) A0 H0 H locs) (lk : Cond.fieldLink own idx "MutantRowsModel" "phase" "[I" ∈ TB) (d : decode cc pc = .ok (.getfield idx, 3)) (kk : W p l e R s m args below meth c H locs cells slots Q (F0 m (pc + 3) ls (.ref (A 20) :: rest))) : W p l e R s m args below meth c H locs cells slots Q (F0 m pc ls (.ref (A 0) :: rest)) :=
  va_get (D := D) (ci := 7) (v := .ref (A 20)) (C := R_R) (T := F_R) (N := 36) E.1 E.2.1 E.2.2.2.2.1 ii_R E.2.2.2.1 E.2.2.2.2.2.1 I.1 0 rfl rfl 28 (by decide) (E.2.2.2.2.1 _ lk) (fun _ h => h) rfl d kk
theorem g_rR_first (E : EC own cc nL p s m args c D (tyL cs)) (I : IW D (cwR A cs st) A0 H0 H locs) (lk : Cond.fieldLink own idx "MutantRowsModel" "first" "[J" ∈ TB) (d : decode cc pc = .ok (.getfield idx, 3)) (kk : W p l e R s m args below meth c H locs cells slots Q (F0 m (pc + 3) ls (.ref (A 21) :: rest))) : W p l e R s m args below meth c H locs cells slots Q (F0 m pc ls (.ref (A 0) :: rest)) :=
  va_get (D := D) (ci := 7) (v := .ref (A 21)) (C := R_R) (T := F_R) (N := 36) E.1 E.2.1 E.2.2.2.2.1 ii_R E.2.2.2.1 E.2.2.2.2.2.1 I.1 0 rfl rfl 29 (by decide) (E.2.2.2.2.1 _ lk) (fun _ h => h) rfl d kk
theorem g_r_acc (E : EC own cc nL p s m args c D (tyL cs)) (I : IW D (cwR A cs st) A0 H0 H locs) (lk : Cond.fieldLink own idx "MutantRowsModel" "acc" "J" ∈ TB) (d : decode cc pc = .ok (.getfield idx, 3)) (kk : W p l e R s m args below meth c H locs cells slots Q (F0 m (pc + 3) ls (.long (r_acc st) :: rest))) : W p l e R s m args below meth c H locs cells slots Q (F0 m pc ls (.ref (A 0) :: rest)) :=
  va_get (D := D) (ci := 7) (v := .long (r_acc st)) (C := R_R) (T := F_R) (N := 36) E.1 E.2.1 E.2.2.2.2.1 ii_R E.2.2.2.1 E.2.2.2.2.2.1 I.1 0 rfl rfl 30 (by decide) (E.2.2.2.2.1 _ lk) (fun _ h => h) rfl d kk
theorem p_r_acc {v : Int64} (E : EC own cc nL p s m args c D (tyL cs)) (I : IW D (cwR A cs st) A0 H0 H locs) (e1 : st1 = s_r_acc st v) (lk : Cond.fieldLink own idx "MutantRowsModel" "acc" "J" ∈ TB) (d : decode cc pc = .ok (.putfield idx, 3)) (kk : ∀ (H1 : Heap) (locs1 : List Loc), IW D (cwR A cs st1) A0 H0 H1 locs1 → W p l e R s m args below meth c H1 locs1 cells slots Q (F0 m (pc + 3) ls (rest))) : W p l e R s m args below meth c H locs cells slots Q (F0 m pc ls (.long v :: .ref (A 0) :: rest)) := by
  subst e1
  exact va_put (D := D) (ci := 7) (v := .long v) (ty := .long) (C := R_R) (T := F_R) (N := 36) E.1 E.2.1 E.2.2.2.2.1 ii_R tt_R tt_R_ok nn_R E.2.2.2.1 E.2.2.2.2.2.1 I.1 I.2.1 I.2.2 0 rfl rfl 30 (by decide) (E.2.2.2.2.1 _ lk) (fun _ h => h) rfl (by decide +kernel) rfl rfl (Nat.le_of_ble_eq_true rfl) d (fun H1 locs1 h1 h2 h3 => kk H1 locs1 ⟨h1, h2, h3⟩)
theorem g_r_given (E : EC own cc nL p s m args c D (tyL cs)) (I : IW D (cwR A cs st) A0 H0 H locs) (lk : Cond.fieldLink own idx "MutantRowsModel" "given" "J" ∈ TB) (d : decode cc pc = .ok (.getfield idx, 3)) (kk : W p l e R s m args below meth c H locs cells slots Q (F0 m (pc + 3) ls (.long (r_given st) :: rest))) : W p l e R s m args below meth c H locs cells slots Q (F0 m pc ls (.ref (A 0) :: rest)) :=
  va_get (D := D) (ci := 7) (v := .long (r_given st)) (C := R_R) (T := F_R) (N := 36) E.1 E.2.1 E.2.2.2.2.1 ii_R E.2.2.2.1 E.2.2.2.2.2.1 I.1 0 rfl rfl 31 (by decide) (E.2.2.2.2.1 _ lk) (fun _ h => h) rfl d kk
theorem p_r_given {v : Int64} (E : EC own cc nL p s m args c D (tyL cs)) (I : IW D (cwR A cs st) A0 H0 H locs) (e1 : st1 = s_r_given st v) (lk : Cond.fieldLink own idx "MutantRowsModel" "given" "J" ∈ TB) (d : decode cc pc = .ok (.putfield idx, 3)) (kk : ∀ (H1 : Heap) (locs1 : List Loc), IW D (cwR A cs st1) A0 H0 H1 locs1 → W p l e R s m args below meth c H1 locs1 cells slots Q (F0 m (pc + 3) ls (rest))) : W p l e R s m args below meth c H locs cells slots Q (F0 m pc ls (.long v :: .ref (A 0) :: rest)) := by
  subst e1
  exact va_put (D := D) (ci := 7) (v := .long v) (ty := .long) (C := R_R) (T := F_R) (N := 36) E.1 E.2.1 E.2.2.2.2.1 ii_R tt_R tt_R_ok nn_R E.2.2.2.1 E.2.2.2.2.2.1 I.1 I.2.1 I.2.2 0 rfl rfl 31 (by decide) (E.2.2.2.2.1 _ lk) (fun _ h => h) rfl (by decide +kernel) rfl rfl (Nat.le_of_ble_eq_true rfl) d (fun H1 locs1 h1 h2 h3 => kk H1 locs1 ⟨h1, h2, h3⟩)
theorem g_rR_far (E : EC own cc nL p s m args c D (tyL cs)) (I : IW D (cwR A cs st) A0 H0 H locs) (lk : Cond.fieldLink own idx "MutantRowsModel" "far" "[I" ∈ TB) (d : decode cc pc = .ok (.getfield idx, 3)) (kk : W p l e R s m args below meth c H locs cells slots Q (F0 m (pc + 3) ls (.ref (A 22) :: rest))) : W p l e R s m args below meth c H locs cells slots Q (F0 m pc ls (.ref (A 0) :: rest)) :=
  va_get (D := D) (ci := 7) (v := .ref (A 22)) (C := R_R) (T := F_R) (N := 36) E.1 E.2.1 E.2.2.2.2.1 ii_R E.2.2.2.1 E.2.2.2.2.2.1 I.1 0 rfl rfl 32 (by decide) (E.2.2.2.2.1 _ lk) (fun _ h => h) rfl d kk
theorem g_r_listed (E : EC own cc nL p s m args c D (tyL cs)) (I : IW D (cwR A cs st) A0 H0 H locs) (lk : Cond.fieldLink own idx "MutantRowsModel" "listed" "I" ∈ TB) (d : decode cc pc = .ok (.getfield idx, 3)) (kk : W p l e R s m args below meth c H locs cells slots Q (F0 m (pc + 3) ls (.int (r_listed st) :: rest))) : W p l e R s m args below meth c H locs cells slots Q (F0 m pc ls (.ref (A 0) :: rest)) :=
  va_get (D := D) (ci := 7) (v := .int (r_listed st)) (C := R_R) (T := F_R) (N := 36) E.1 E.2.1 E.2.2.2.2.1 ii_R E.2.2.2.1 E.2.2.2.2.2.1 I.1 0 rfl rfl 33 (by decide) (E.2.2.2.2.1 _ lk) (fun _ h => h) rfl d kk
theorem p_r_listed {v : Int32} (E : EC own cc nL p s m args c D (tyL cs)) (I : IW D (cwR A cs st) A0 H0 H locs) (e1 : st1 = s_r_listed st v) (lk : Cond.fieldLink own idx "MutantRowsModel" "listed" "I" ∈ TB) (d : decode cc pc = .ok (.putfield idx, 3)) (kk : ∀ (H1 : Heap) (locs1 : List Loc), IW D (cwR A cs st1) A0 H0 H1 locs1 → W p l e R s m args below meth c H1 locs1 cells slots Q (F0 m (pc + 3) ls (rest))) : W p l e R s m args below meth c H locs cells slots Q (F0 m pc ls (.int v :: .ref (A 0) :: rest)) := by
  subst e1
  exact va_put (D := D) (ci := 7) (v := .int v) (ty := .int) (C := R_R) (T := F_R) (N := 36) E.1 E.2.1 E.2.2.2.2.1 ii_R tt_R tt_R_ok nn_R E.2.2.2.1 E.2.2.2.2.2.1 I.1 I.2.1 I.2.2 0 rfl rfl 33 (by decide) (E.2.2.2.2.1 _ lk) (fun _ h => h) rfl (by decide +kernel) rfl rfl (Nat.le_of_ble_eq_true rfl) d (fun H1 locs1 h1 h2 h3 => kk H1 locs1 ⟨h1, h2, h3⟩)
theorem g_rR_list (E : EC own cc nL p s m args c D (tyL cs)) (I : IW D (cwR A cs st) A0 H0 H locs) (lk : Cond.fieldLink own idx "MutantRowsModel" "list" "[I" ∈ TB) (d : decode cc pc = .ok (.getfield idx, 3)) (kk : W p l e R s m args below meth c H locs cells slots Q (F0 m (pc + 3) ls (.ref (A 23) :: rest))) : W p l e R s m args below meth c H locs cells slots Q (F0 m pc ls (.ref (A 0) :: rest)) :=
  va_get (D := D) (ci := 7) (v := .ref (A 23)) (C := R_R) (T := F_R) (N := 36) E.1 E.2.1 E.2.2.2.2.1 ii_R E.2.2.2.1 E.2.2.2.2.2.1 I.1 0 rfl rfl 34 (by decide) (E.2.2.2.2.1 _ lk) (fun _ h => h) rfl d kk
theorem g_rR_alike (E : EC own cc nL p s m args c D (tyL cs)) (I : IW D (cwR A cs st) A0 H0 H locs) (lk : Cond.fieldLink own idx "MutantRowsModel" "alike" "[Z" ∈ TB) (d : decode cc pc = .ok (.getfield idx, 3)) (kk : W p l e R s m args below meth c H locs cells slots Q (F0 m (pc + 3) ls (.ref (A 24) :: rest))) : W p l e R s m args below meth c H locs cells slots Q (F0 m pc ls (.ref (A 0) :: rest)) :=
  va_get (D := D) (ci := 7) (v := .ref (A 24)) (C := R_R) (T := F_R) (N := 36) E.1 E.2.1 E.2.2.2.2.1 ii_R E.2.2.2.1 E.2.2.2.2.2.1 I.1 0 rfl rfl 35 (by decide) (E.2.2.2.2.1 _ lk) (fun _ h => h) rfl d kk
theorem l_r_kindOf (E : EC own cc nL p s m args c D (tyL cs)) (I : IW D (cwR A cs st) A0 H0 H locs) (b : vp_in i 64) (d : decode cc pc = .ok (.iaload, 1)) (kk : W p l e R s m args below meth c H locs cells slots Q (F0 m (pc + 1) ls (.int (r_kindOf st i.toNatClampNeg) :: rest))) : W p l e R s m args below meth c H locs cells slots Q (F0 m pc ls (.int i :: .ref (A 1) :: rest)) :=
  va_iald E.1 E.2.1 E.2.2.2.2.2.1 I.1 1 0 rfl rfl b d kk
theorem p_r_kindOf {v : Int32} (E : EC own cc nL p s m args c D (tyL cs)) (I : IW D (cwR A cs st) A0 H0 H locs) (b : vp_in i 64) (e1 : st1 = s_r_kindOf st i.toNatClampNeg v) (d : decode cc pc = .ok (.iastore, 1)) (kk : ∀ (H1 : Heap) (locs1 : List Loc), IW D (cwR A cs st1) A0 H0 H1 locs1 → W p l e R s m args below meth c H1 locs1 cells slots Q (F0 m (pc + 1) ls (rest))) : W p l e R s m args below meth c H locs cells slots Q (F0 m pc ls (.int v :: .int i :: .ref (A 1) :: rest)) := by
  subst e1
  exact va_iast E.1 E.2.1 E.2.2.2.2.2.1 I.1 I.2.1 I.2.2 1 0 rfl rfl b d (fun H1 locs1 h1 h2 h3 => kk H1 locs1 ⟨h1, h2, h3⟩)
theorem l_r_number (E : EC own cc nL p s m args c D (tyL cs)) (I : IW D (cwR A cs st) A0 H0 H locs) (b : vp_in i 64) (d : decode cc pc = .ok (.laload, 1)) (kk : W p l e R s m args below meth c H locs cells slots Q (F0 m (pc + 1) ls (.long (r_number st i.toNatClampNeg) :: rest))) : W p l e R s m args below meth c H locs cells slots Q (F0 m pc ls (.int i :: .ref (A 2) :: rest)) :=
  va_lald E.1 E.2.1 E.2.2.2.2.2.1 I.1 2 1 rfl rfl b d kk
theorem p_r_number {v : Int64} (E : EC own cc nL p s m args c D (tyL cs)) (I : IW D (cwR A cs st) A0 H0 H locs) (b : vp_in i 64) (e1 : st1 = s_r_number st i.toNatClampNeg v) (d : decode cc pc = .ok (.lastore, 1)) (kk : ∀ (H1 : Heap) (locs1 : List Loc), IW D (cwR A cs st1) A0 H0 H1 locs1 → W p l e R s m args below meth c H1 locs1 cells slots Q (F0 m (pc + 1) ls (rest))) : W p l e R s m args below meth c H locs cells slots Q (F0 m pc ls (.long v :: .int i :: .ref (A 2) :: rest)) := by
  subst e1
  exact va_last E.1 E.2.1 E.2.2.2.2.2.1 I.1 I.2.1 I.2.2 2 1 rfl rfl b d (fun H1 locs1 h1 h2 h3 => kk H1 locs1 ⟨h1, h2, h3⟩)
theorem l_r_partA (E : EC own cc nL p s m args c D (tyL cs)) (I : IW D (cwR A cs st) A0 H0 H locs) (b : vp_in i 64) (d : decode cc pc = .ok (.iaload, 1)) (kk : W p l e R s m args below meth c H locs cells slots Q (F0 m (pc + 1) ls (.int (r_partA st i.toNatClampNeg) :: rest))) : W p l e R s m args below meth c H locs cells slots Q (F0 m pc ls (.int i :: .ref (A 3) :: rest)) :=
  va_iald E.1 E.2.1 E.2.2.2.2.2.1 I.1 3 0 rfl rfl b d kk
theorem p_r_partA {v : Int32} (E : EC own cc nL p s m args c D (tyL cs)) (I : IW D (cwR A cs st) A0 H0 H locs) (b : vp_in i 64) (e1 : st1 = s_r_partA st i.toNatClampNeg v) (d : decode cc pc = .ok (.iastore, 1)) (kk : ∀ (H1 : Heap) (locs1 : List Loc), IW D (cwR A cs st1) A0 H0 H1 locs1 → W p l e R s m args below meth c H1 locs1 cells slots Q (F0 m (pc + 1) ls (rest))) : W p l e R s m args below meth c H locs cells slots Q (F0 m pc ls (.int v :: .int i :: .ref (A 3) :: rest)) := by
  subst e1
  exact va_iast E.1 E.2.1 E.2.2.2.2.2.1 I.1 I.2.1 I.2.2 3 0 rfl rfl b d (fun H1 locs1 h1 h2 h3 => kk H1 locs1 ⟨h1, h2, h3⟩)
theorem l_r_partB (E : EC own cc nL p s m args c D (tyL cs)) (I : IW D (cwR A cs st) A0 H0 H locs) (b : vp_in i 64) (d : decode cc pc = .ok (.iaload, 1)) (kk : W p l e R s m args below meth c H locs cells slots Q (F0 m (pc + 1) ls (.int (r_partB st i.toNatClampNeg) :: rest))) : W p l e R s m args below meth c H locs cells slots Q (F0 m pc ls (.int i :: .ref (A 4) :: rest)) :=
  va_iald E.1 E.2.1 E.2.2.2.2.2.1 I.1 4 0 rfl rfl b d kk
theorem p_r_partB {v : Int32} (E : EC own cc nL p s m args c D (tyL cs)) (I : IW D (cwR A cs st) A0 H0 H locs) (b : vp_in i 64) (e1 : st1 = s_r_partB st i.toNatClampNeg v) (d : decode cc pc = .ok (.iastore, 1)) (kk : ∀ (H1 : Heap) (locs1 : List Loc), IW D (cwR A cs st1) A0 H0 H1 locs1 → W p l e R s m args below meth c H1 locs1 cells slots Q (F0 m (pc + 1) ls (rest))) : W p l e R s m args below meth c H locs cells slots Q (F0 m pc ls (.int v :: .int i :: .ref (A 4) :: rest)) := by
  subst e1
  exact va_iast E.1 E.2.1 E.2.2.2.2.2.1 I.1 I.2.1 I.2.2 4 0 rfl rfl b d (fun H1 locs1 h1 h2 h3 => kk H1 locs1 ⟨h1, h2, h3⟩)
theorem l_r_partC (E : EC own cc nL p s m args c D (tyL cs)) (I : IW D (cwR A cs st) A0 H0 H locs) (b : vp_in i 64) (d : decode cc pc = .ok (.iaload, 1)) (kk : W p l e R s m args below meth c H locs cells slots Q (F0 m (pc + 1) ls (.int (r_partC st i.toNatClampNeg) :: rest))) : W p l e R s m args below meth c H locs cells slots Q (F0 m pc ls (.int i :: .ref (A 5) :: rest)) :=
  va_iald E.1 E.2.1 E.2.2.2.2.2.1 I.1 5 0 rfl rfl b d kk
theorem p_r_partC {v : Int32} (E : EC own cc nL p s m args c D (tyL cs)) (I : IW D (cwR A cs st) A0 H0 H locs) (b : vp_in i 64) (e1 : st1 = s_r_partC st i.toNatClampNeg v) (d : decode cc pc = .ok (.iastore, 1)) (kk : ∀ (H1 : Heap) (locs1 : List Loc), IW D (cwR A cs st1) A0 H0 H1 locs1 → W p l e R s m args below meth c H1 locs1 cells slots Q (F0 m (pc + 1) ls (rest))) : W p l e R s m args below meth c H locs cells slots Q (F0 m pc ls (.int v :: .int i :: .ref (A 5) :: rest)) := by
  subst e1
  exact va_iast E.1 E.2.1 E.2.2.2.2.2.1 I.1 I.2.1 I.2.2 5 0 rfl rfl b d (fun H1 locs1 h1 h2 h3 => kk H1 locs1 ⟨h1, h2, h3⟩)
theorem l_r_root (E : EC own cc nL p s m args c D (tyL cs)) (I : IW D (cwR A cs st) A0 H0 H locs) (b : vp_in i 24) (d : decode cc pc = .ok (.iaload, 1)) (kk : W p l e R s m args below meth c H locs cells slots Q (F0 m (pc + 1) ls (.int (r_root st i.toNatClampNeg) :: rest))) : W p l e R s m args below meth c H locs cells slots Q (F0 m pc ls (.int i :: .ref (A 6) :: rest)) :=
  va_iald E.1 E.2.1 E.2.2.2.2.2.1 I.1 6 0 rfl rfl b d kk
theorem p_r_root {v : Int32} (E : EC own cc nL p s m args c D (tyL cs)) (I : IW D (cwR A cs st) A0 H0 H locs) (b : vp_in i 24) (e1 : st1 = s_r_root st i.toNatClampNeg v) (d : decode cc pc = .ok (.iastore, 1)) (kk : ∀ (H1 : Heap) (locs1 : List Loc), IW D (cwR A cs st1) A0 H0 H1 locs1 → W p l e R s m args below meth c H1 locs1 cells slots Q (F0 m (pc + 1) ls (rest))) : W p l e R s m args below meth c H locs cells slots Q (F0 m pc ls (.int v :: .int i :: .ref (A 6) :: rest)) := by
  subst e1
  exact va_iast E.1 E.2.1 E.2.2.2.2.2.1 I.1 I.2.1 I.2.2 6 0 rfl rfl b d (fun H1 locs1 h1 h2 h3 => kk H1 locs1 ⟨h1, h2, h3⟩)
theorem l_r_input (E : EC own cc nL p s m args c D (tyL cs)) (I : IW D (cwR A cs st) A0 H0 H locs) (b : vp_in i 24) (d : decode cc pc = .ok (.laload, 1)) (kk : W p l e R s m args below meth c H locs cells slots Q (F0 m (pc + 1) ls (.long (r_input st i.toNatClampNeg) :: rest))) : W p l e R s m args below meth c H locs cells slots Q (F0 m pc ls (.int i :: .ref (A 7) :: rest)) :=
  va_lald E.1 E.2.1 E.2.2.2.2.2.1 I.1 7 1 rfl rfl b d kk
theorem p_r_input {v : Int64} (E : EC own cc nL p s m args c D (tyL cs)) (I : IW D (cwR A cs st) A0 H0 H locs) (b : vp_in i 24) (e1 : st1 = s_r_input st i.toNatClampNeg v) (d : decode cc pc = .ok (.lastore, 1)) (kk : ∀ (H1 : Heap) (locs1 : List Loc), IW D (cwR A cs st1) A0 H0 H1 locs1 → W p l e R s m args below meth c H1 locs1 cells slots Q (F0 m (pc + 1) ls (rest))) : W p l e R s m args below meth c H locs cells slots Q (F0 m pc ls (.long v :: .int i :: .ref (A 7) :: rest)) := by
  subst e1
  exact va_last E.1 E.2.1 E.2.2.2.2.2.1 I.1 I.2.1 I.2.2 7 1 rfl rfl b d (fun H1 locs1 h1 h2 h3 => kk H1 locs1 ⟨h1, h2, h3⟩)
theorem l_r_wanted (E : EC own cc nL p s m args c D (tyL cs)) (I : IW D (cwR A cs st) A0 H0 H locs) (b : vp_in i 24) (d : decode cc pc = .ok (.laload, 1)) (kk : W p l e R s m args below meth c H locs cells slots Q (F0 m (pc + 1) ls (.long (r_wanted st i.toNatClampNeg) :: rest))) : W p l e R s m args below meth c H locs cells slots Q (F0 m pc ls (.int i :: .ref (A 8) :: rest)) :=
  va_lald E.1 E.2.1 E.2.2.2.2.2.1 I.1 8 1 rfl rfl b d kk
theorem p_r_wanted {v : Int64} (E : EC own cc nL p s m args c D (tyL cs)) (I : IW D (cwR A cs st) A0 H0 H locs) (b : vp_in i 24) (e1 : st1 = s_r_wanted st i.toNatClampNeg v) (d : decode cc pc = .ok (.lastore, 1)) (kk : ∀ (H1 : Heap) (locs1 : List Loc), IW D (cwR A cs st1) A0 H0 H1 locs1 → W p l e R s m args below meth c H1 locs1 cells slots Q (F0 m (pc + 1) ls (rest))) : W p l e R s m args below meth c H locs cells slots Q (F0 m pc ls (.long v :: .int i :: .ref (A 8) :: rest)) := by
  subst e1
  exact va_last E.1 E.2.1 E.2.2.2.2.2.1 I.1 I.2.1 I.2.2 8 1 rfl rfl b d (fun H1 locs1 h1 h2 h3 => kk H1 locs1 ⟨h1, h2, h3⟩)
theorem l_r_passes (E : EC own cc nL p s m args c D (tyL cs)) (I : IW D (cwR A cs st) A0 H0 H locs) (b : vp_in i 24) (d : decode cc pc = .ok (.iaload, 1)) (kk : W p l e R s m args below meth c H locs cells slots Q (F0 m (pc + 1) ls (.int (r_passes st i.toNatClampNeg) :: rest))) : W p l e R s m args below meth c H locs cells slots Q (F0 m pc ls (.int i :: .ref (A 9) :: rest)) :=
  va_iald E.1 E.2.1 E.2.2.2.2.2.1 I.1 9 0 rfl rfl b d kk
theorem p_r_passes {v : Int32} (E : EC own cc nL p s m args c D (tyL cs)) (I : IW D (cwR A cs st) A0 H0 H locs) (b : vp_in i 24) (e1 : st1 = s_r_passes st i.toNatClampNeg v) (d : decode cc pc = .ok (.iastore, 1)) (kk : ∀ (H1 : Heap) (locs1 : List Loc), IW D (cwR A cs st1) A0 H0 H1 locs1 → W p l e R s m args below meth c H1 locs1 cells slots Q (F0 m (pc + 1) ls (rest))) : W p l e R s m args below meth c H locs cells slots Q (F0 m pc ls (.int v :: .int i :: .ref (A 9) :: rest)) := by
  subst e1
  exact va_iast E.1 E.2.1 E.2.2.2.2.2.1 I.1 I.2.1 I.2.2 9 0 rfl rfl b d (fun H1 locs1 h1 h2 h3 => kk H1 locs1 ⟨h1, h2, h3⟩)
theorem l_r_stepsOf (E : EC own cc nL p s m args c D (tyL cs)) (I : IW D (cwR A cs st) A0 H0 H locs) (b : vp_in i 24) (d : decode cc pc = .ok (.iaload, 1)) (kk : W p l e R s m args below meth c H locs cells slots Q (F0 m (pc + 1) ls (.int (r_stepsOf st i.toNatClampNeg) :: rest))) : W p l e R s m args below meth c H locs cells slots Q (F0 m pc ls (.int i :: .ref (A 10) :: rest)) :=
  va_iald E.1 E.2.1 E.2.2.2.2.2.1 I.1 10 0 rfl rfl b d kk
theorem p_r_stepsOf {v : Int32} (E : EC own cc nL p s m args c D (tyL cs)) (I : IW D (cwR A cs st) A0 H0 H locs) (b : vp_in i 24) (e1 : st1 = s_r_stepsOf st i.toNatClampNeg v) (d : decode cc pc = .ok (.iastore, 1)) (kk : ∀ (H1 : Heap) (locs1 : List Loc), IW D (cwR A cs st1) A0 H0 H1 locs1 → W p l e R s m args below meth c H1 locs1 cells slots Q (F0 m (pc + 1) ls (rest))) : W p l e R s m args below meth c H locs cells slots Q (F0 m pc ls (.int v :: .int i :: .ref (A 10) :: rest)) := by
  subst e1
  exact va_iast E.1 E.2.1 E.2.2.2.2.2.1 I.1 I.2.1 I.2.2 10 0 rfl rfl b d (fun H1 locs1 h1 h2 h3 => kk H1 locs1 ⟨h1, h2, h3⟩)
theorem l_r_covers (E : EC own cc nL p s m args c D (tyL cs)) (I : IW D (cwR A cs st) A0 H0 H locs) (b : vp_in i 1536) (d : decode cc pc = .ok (.baload, 1)) (kk : W p l e R s m args below meth c H locs cells slots Q (F0 m (pc + 1) ls (.int (r_covers st i.toNatClampNeg) :: rest))) : W p l e R s m args below meth c H locs cells slots Q (F0 m pc ls (.int i :: .ref (A 11) :: rest)) :=
  va_zald E.1 E.2.1 E.2.2.2.2.2.1 I.1 11 2 rfl rfl b d kk
theorem p_r_covers {v : Int32} (E : EC own cc nL p s m args c D (tyL cs)) (I : IW D (cwR A cs st) A0 H0 H locs) (b : vp_in i 1536) (e1 : st1 = s_r_covers st i.toNatClampNeg (vp_nar .boolean v)) (d : decode cc pc = .ok (.bastore, 1)) (kk : ∀ (H1 : Heap) (locs1 : List Loc), IW D (cwR A cs st1) A0 H0 H1 locs1 → W p l e R s m args below meth c H1 locs1 cells slots Q (F0 m (pc + 1) ls (rest))) : W p l e R s m args below meth c H locs cells slots Q (F0 m pc ls (.int v :: .int i :: .ref (A 11) :: rest)) := by
  subst e1
  exact va_zast E.1 E.2.1 E.2.2.2.2.2.1 I.1 I.2.1 I.2.2 11 2 rfl rfl b d (fun H1 locs1 h1 h2 h3 => kk H1 locs1 ⟨h1, h2, h3⟩)
theorem l_r_covered (E : EC own cc nL p s m args c D (tyL cs)) (I : IW D (cwR A cs st) A0 H0 H locs) (b : vp_in i 1536) (d : decode cc pc = .ok (.baload, 1)) (kk : W p l e R s m args below meth c H locs cells slots Q (F0 m (pc + 1) ls (.int (r_covered st i.toNatClampNeg) :: rest))) : W p l e R s m args below meth c H locs cells slots Q (F0 m pc ls (.int i :: .ref (A 12) :: rest)) :=
  va_zald E.1 E.2.1 E.2.2.2.2.2.1 I.1 12 2 rfl rfl b d kk
theorem p_r_covered {v : Int32} (E : EC own cc nL p s m args c D (tyL cs)) (I : IW D (cwR A cs st) A0 H0 H locs) (b : vp_in i 1536) (e1 : st1 = s_r_covered st i.toNatClampNeg (vp_nar .boolean v)) (d : decode cc pc = .ok (.bastore, 1)) (kk : ∀ (H1 : Heap) (locs1 : List Loc), IW D (cwR A cs st1) A0 H0 H1 locs1 → W p l e R s m args below meth c H1 locs1 cells slots Q (F0 m (pc + 1) ls (rest))) : W p l e R s m args below meth c H locs cells slots Q (F0 m pc ls (.int v :: .int i :: .ref (A 12) :: rest)) := by
  subst e1
  exact va_zast E.1 E.2.1 E.2.2.2.2.2.1 I.1 I.2.1 I.2.2 12 2 rfl rfl b d (fun H1 locs1 h1 h2 h3 => kk H1 locs1 ⟨h1, h2, h3⟩)
theorem l_r_kindM (E : EC own cc nL p s m args c D (tyL cs)) (I : IW D (cwR A cs st) A0 H0 H locs) (b : vp_in i 100) (d : decode cc pc = .ok (.iaload, 1)) (kk : W p l e R s m args below meth c H locs cells slots Q (F0 m (pc + 1) ls (.int (r_kindM st i.toNatClampNeg) :: rest))) : W p l e R s m args below meth c H locs cells slots Q (F0 m pc ls (.int i :: .ref (A 13) :: rest)) :=
  va_iald E.1 E.2.1 E.2.2.2.2.2.1 I.1 13 0 rfl rfl b d kk
theorem p_r_kindM {v : Int32} (E : EC own cc nL p s m args c D (tyL cs)) (I : IW D (cwR A cs st) A0 H0 H locs) (b : vp_in i 100) (e1 : st1 = s_r_kindM st i.toNatClampNeg v) (d : decode cc pc = .ok (.iastore, 1)) (kk : ∀ (H1 : Heap) (locs1 : List Loc), IW D (cwR A cs st1) A0 H0 H1 locs1 → W p l e R s m args below meth c H1 locs1 cells slots Q (F0 m (pc + 1) ls (rest))) : W p l e R s m args below meth c H locs cells slots Q (F0 m pc ls (.int v :: .int i :: .ref (A 13) :: rest)) := by
  subst e1
  exact va_iast E.1 E.2.1 E.2.2.2.2.2.1 I.1 I.2.1 I.2.2 13 0 rfl rfl b d (fun H1 locs1 h1 h2 h3 => kk H1 locs1 ⟨h1, h2, h3⟩)
theorem l_r_nodeM (E : EC own cc nL p s m args c D (tyL cs)) (I : IW D (cwR A cs st) A0 H0 H locs) (b : vp_in i 100) (d : decode cc pc = .ok (.iaload, 1)) (kk : W p l e R s m args below meth c H locs cells slots Q (F0 m (pc + 1) ls (.int (r_nodeM st i.toNatClampNeg) :: rest))) : W p l e R s m args below meth c H locs cells slots Q (F0 m pc ls (.int i :: .ref (A 14) :: rest)) :=
  va_iald E.1 E.2.1 E.2.2.2.2.2.1 I.1 14 0 rfl rfl b d kk
theorem p_r_nodeM {v : Int32} (E : EC own cc nL p s m args c D (tyL cs)) (I : IW D (cwR A cs st) A0 H0 H locs) (b : vp_in i 100) (e1 : st1 = s_r_nodeM st i.toNatClampNeg v) (d : decode cc pc = .ok (.iastore, 1)) (kk : ∀ (H1 : Heap) (locs1 : List Loc), IW D (cwR A cs st1) A0 H0 H1 locs1 → W p l e R s m args below meth c H1 locs1 cells slots Q (F0 m (pc + 1) ls (rest))) : W p l e R s m args below meth c H locs cells slots Q (F0 m pc ls (.int v :: .int i :: .ref (A 14) :: rest)) := by
  subst e1
  exact va_iast E.1 E.2.1 E.2.2.2.2.2.1 I.1 I.2.1 I.2.2 14 0 rfl rfl b d (fun H1 locs1 h1 h2 h3 => kk H1 locs1 ⟨h1, h2, h3⟩)
theorem l_r_outcome (E : EC own cc nL p s m args c D (tyL cs)) (I : IW D (cwR A cs st) A0 H0 H locs) (b : vp_in i 100) (d : decode cc pc = .ok (.iaload, 1)) (kk : W p l e R s m args below meth c H locs cells slots Q (F0 m (pc + 1) ls (.int (r_outcome st i.toNatClampNeg) :: rest))) : W p l e R s m args below meth c H locs cells slots Q (F0 m pc ls (.int i :: .ref (A 15) :: rest)) :=
  va_iald E.1 E.2.1 E.2.2.2.2.2.1 I.1 15 0 rfl rfl b d kk
theorem p_r_outcome {v : Int32} (E : EC own cc nL p s m args c D (tyL cs)) (I : IW D (cwR A cs st) A0 H0 H locs) (b : vp_in i 100) (e1 : st1 = s_r_outcome st i.toNatClampNeg v) (d : decode cc pc = .ok (.iastore, 1)) (kk : ∀ (H1 : Heap) (locs1 : List Loc), IW D (cwR A cs st1) A0 H0 H1 locs1 → W p l e R s m args below meth c H1 locs1 cells slots Q (F0 m (pc + 1) ls (rest))) : W p l e R s m args below meth c H locs cells slots Q (F0 m pc ls (.int v :: .int i :: .ref (A 15) :: rest)) := by
  subst e1
  exact va_iast E.1 E.2.1 E.2.2.2.2.2.1 I.1 I.2.1 I.2.2 15 0 rfl rfl b d (fun H1 locs1 h1 h2 h3 => kk H1 locs1 ⟨h1, h2, h3⟩)
theorem l_r_ender (E : EC own cc nL p s m args c D (tyL cs)) (I : IW D (cwR A cs st) A0 H0 H locs) (b : vp_in i 100) (d : decode cc pc = .ok (.iaload, 1)) (kk : W p l e R s m args below meth c H locs cells slots Q (F0 m (pc + 1) ls (.int (r_ender st i.toNatClampNeg) :: rest))) : W p l e R s m args below meth c H locs cells slots Q (F0 m pc ls (.int i :: .ref (A 16) :: rest)) :=
  va_iald E.1 E.2.1 E.2.2.2.2.2.1 I.1 16 0 rfl rfl b d kk
theorem p_r_ender {v : Int32} (E : EC own cc nL p s m args c D (tyL cs)) (I : IW D (cwR A cs st) A0 H0 H locs) (b : vp_in i 100) (e1 : st1 = s_r_ender st i.toNatClampNeg v) (d : decode cc pc = .ok (.iastore, 1)) (kk : ∀ (H1 : Heap) (locs1 : List Loc), IW D (cwR A cs st1) A0 H0 H1 locs1 → W p l e R s m args below meth c H1 locs1 cells slots Q (F0 m (pc + 1) ls (rest))) : W p l e R s m args below meth c H locs cells slots Q (F0 m pc ls (.int v :: .int i :: .ref (A 16) :: rest)) := by
  subst e1
  exact va_iast E.1 E.2.1 E.2.2.2.2.2.1 I.1 I.2.1 I.2.2 16 0 rfl rfl b d (fun H1 locs1 h1 h2 h3 => kk H1 locs1 ⟨h1, h2, h3⟩)
theorem l_r_sampleRow (E : EC own cc nL p s m args c D (tyL cs)) (I : IW D (cwR A cs st) A0 H0 H locs) (b : vp_in i 100) (d : decode cc pc = .ok (.iaload, 1)) (kk : W p l e R s m args below meth c H locs cells slots Q (F0 m (pc + 1) ls (.int (r_sampleRow st i.toNatClampNeg) :: rest))) : W p l e R s m args below meth c H locs cells slots Q (F0 m pc ls (.int i :: .ref (A 17) :: rest)) :=
  va_iald E.1 E.2.1 E.2.2.2.2.2.1 I.1 17 0 rfl rfl b d kk
theorem p_r_sampleRow {v : Int32} (E : EC own cc nL p s m args c D (tyL cs)) (I : IW D (cwR A cs st) A0 H0 H locs) (b : vp_in i 100) (e1 : st1 = s_r_sampleRow st i.toNatClampNeg v) (d : decode cc pc = .ok (.iastore, 1)) (kk : ∀ (H1 : Heap) (locs1 : List Loc), IW D (cwR A cs st1) A0 H0 H1 locs1 → W p l e R s m args below meth c H1 locs1 cells slots Q (F0 m (pc + 1) ls (rest))) : W p l e R s m args below meth c H locs cells slots Q (F0 m pc ls (.int v :: .int i :: .ref (A 17) :: rest)) := by
  subst e1
  exact va_iast E.1 E.2.1 E.2.2.2.2.2.1 I.1 I.2.1 I.2.2 17 0 rfl rfl b d (fun H1 locs1 h1 h2 h3 => kk H1 locs1 ⟨h1, h2, h3⟩)
theorem l_r_marked (E : EC own cc nL p s m args c D (tyL cs)) (I : IW D (cwR A cs st) A0 H0 H locs) (b : vp_in i 64) (d : decode cc pc = .ok (.baload, 1)) (kk : W p l e R s m args below meth c H locs cells slots Q (F0 m (pc + 1) ls (.int (r_marked st i.toNatClampNeg) :: rest))) : W p l e R s m args below meth c H locs cells slots Q (F0 m pc ls (.int i :: .ref (A 18) :: rest)) :=
  va_zald E.1 E.2.1 E.2.2.2.2.2.1 I.1 18 2 rfl rfl b d kk
theorem p_r_marked {v : Int32} (E : EC own cc nL p s m args c D (tyL cs)) (I : IW D (cwR A cs st) A0 H0 H locs) (b : vp_in i 64) (e1 : st1 = s_r_marked st i.toNatClampNeg (vp_nar .boolean v)) (d : decode cc pc = .ok (.bastore, 1)) (kk : ∀ (H1 : Heap) (locs1 : List Loc), IW D (cwR A cs st1) A0 H0 H1 locs1 → W p l e R s m args below meth c H1 locs1 cells slots Q (F0 m (pc + 1) ls (rest))) : W p l e R s m args below meth c H locs cells slots Q (F0 m pc ls (.int v :: .int i :: .ref (A 18) :: rest)) := by
  subst e1
  exact va_zast E.1 E.2.1 E.2.2.2.2.2.1 I.1 I.2.1 I.2.2 18 2 rfl rfl b d (fun H1 locs1 h1 h2 h3 => kk H1 locs1 ⟨h1, h2, h3⟩)
theorem l_r_waits (E : EC own cc nL p s m args c D (tyL cs)) (I : IW D (cwR A cs st) A0 H0 H locs) (b : vp_in i 65) (d : decode cc pc = .ok (.iaload, 1)) (kk : W p l e R s m args below meth c H locs cells slots Q (F0 m (pc + 1) ls (.int (r_waits st i.toNatClampNeg) :: rest))) : W p l e R s m args below meth c H locs cells slots Q (F0 m pc ls (.int i :: .ref (A 19) :: rest)) :=
  va_iald E.1 E.2.1 E.2.2.2.2.2.1 I.1 19 0 rfl rfl b d kk
theorem p_r_waits {v : Int32} (E : EC own cc nL p s m args c D (tyL cs)) (I : IW D (cwR A cs st) A0 H0 H locs) (b : vp_in i 65) (e1 : st1 = s_r_waits st i.toNatClampNeg v) (d : decode cc pc = .ok (.iastore, 1)) (kk : ∀ (H1 : Heap) (locs1 : List Loc), IW D (cwR A cs st1) A0 H0 H1 locs1 → W p l e R s m args below meth c H1 locs1 cells slots Q (F0 m (pc + 1) ls (rest))) : W p l e R s m args below meth c H locs cells slots Q (F0 m pc ls (.int v :: .int i :: .ref (A 19) :: rest)) := by
  subst e1
  exact va_iast E.1 E.2.1 E.2.2.2.2.2.1 I.1 I.2.1 I.2.2 19 0 rfl rfl b d (fun H1 locs1 h1 h2 h3 => kk H1 locs1 ⟨h1, h2, h3⟩)
theorem l_r_phase (E : EC own cc nL p s m args c D (tyL cs)) (I : IW D (cwR A cs st) A0 H0 H locs) (b : vp_in i 65) (d : decode cc pc = .ok (.iaload, 1)) (kk : W p l e R s m args below meth c H locs cells slots Q (F0 m (pc + 1) ls (.int (r_phase st i.toNatClampNeg) :: rest))) : W p l e R s m args below meth c H locs cells slots Q (F0 m pc ls (.int i :: .ref (A 20) :: rest)) :=
  va_iald E.1 E.2.1 E.2.2.2.2.2.1 I.1 20 0 rfl rfl b d kk
theorem p_r_phase {v : Int32} (E : EC own cc nL p s m args c D (tyL cs)) (I : IW D (cwR A cs st) A0 H0 H locs) (b : vp_in i 65) (e1 : st1 = s_r_phase st i.toNatClampNeg v) (d : decode cc pc = .ok (.iastore, 1)) (kk : ∀ (H1 : Heap) (locs1 : List Loc), IW D (cwR A cs st1) A0 H0 H1 locs1 → W p l e R s m args below meth c H1 locs1 cells slots Q (F0 m (pc + 1) ls (rest))) : W p l e R s m args below meth c H locs cells slots Q (F0 m pc ls (.int v :: .int i :: .ref (A 20) :: rest)) := by
  subst e1
  exact va_iast E.1 E.2.1 E.2.2.2.2.2.1 I.1 I.2.1 I.2.2 20 0 rfl rfl b d (fun H1 locs1 h1 h2 h3 => kk H1 locs1 ⟨h1, h2, h3⟩)
theorem l_r_first (E : EC own cc nL p s m args c D (tyL cs)) (I : IW D (cwR A cs st) A0 H0 H locs) (b : vp_in i 65) (d : decode cc pc = .ok (.laload, 1)) (kk : W p l e R s m args below meth c H locs cells slots Q (F0 m (pc + 1) ls (.long (r_first st i.toNatClampNeg) :: rest))) : W p l e R s m args below meth c H locs cells slots Q (F0 m pc ls (.int i :: .ref (A 21) :: rest)) :=
  va_lald E.1 E.2.1 E.2.2.2.2.2.1 I.1 21 1 rfl rfl b d kk
theorem p_r_first {v : Int64} (E : EC own cc nL p s m args c D (tyL cs)) (I : IW D (cwR A cs st) A0 H0 H locs) (b : vp_in i 65) (e1 : st1 = s_r_first st i.toNatClampNeg v) (d : decode cc pc = .ok (.lastore, 1)) (kk : ∀ (H1 : Heap) (locs1 : List Loc), IW D (cwR A cs st1) A0 H0 H1 locs1 → W p l e R s m args below meth c H1 locs1 cells slots Q (F0 m (pc + 1) ls (rest))) : W p l e R s m args below meth c H locs cells slots Q (F0 m pc ls (.long v :: .int i :: .ref (A 21) :: rest)) := by
  subst e1
  exact va_last E.1 E.2.1 E.2.2.2.2.2.1 I.1 I.2.1 I.2.2 21 1 rfl rfl b d (fun H1 locs1 h1 h2 h3 => kk H1 locs1 ⟨h1, h2, h3⟩)
theorem l_r_far (E : EC own cc nL p s m args c D (tyL cs)) (I : IW D (cwR A cs st) A0 H0 H locs) (b : vp_in i 64) (d : decode cc pc = .ok (.iaload, 1)) (kk : W p l e R s m args below meth c H locs cells slots Q (F0 m (pc + 1) ls (.int (r_far st i.toNatClampNeg) :: rest))) : W p l e R s m args below meth c H locs cells slots Q (F0 m pc ls (.int i :: .ref (A 22) :: rest)) :=
  va_iald E.1 E.2.1 E.2.2.2.2.2.1 I.1 22 0 rfl rfl b d kk
theorem p_r_far {v : Int32} (E : EC own cc nL p s m args c D (tyL cs)) (I : IW D (cwR A cs st) A0 H0 H locs) (b : vp_in i 64) (e1 : st1 = s_r_far st i.toNatClampNeg v) (d : decode cc pc = .ok (.iastore, 1)) (kk : ∀ (H1 : Heap) (locs1 : List Loc), IW D (cwR A cs st1) A0 H0 H1 locs1 → W p l e R s m args below meth c H1 locs1 cells slots Q (F0 m (pc + 1) ls (rest))) : W p l e R s m args below meth c H locs cells slots Q (F0 m pc ls (.int v :: .int i :: .ref (A 22) :: rest)) := by
  subst e1
  exact va_iast E.1 E.2.1 E.2.2.2.2.2.1 I.1 I.2.1 I.2.2 22 0 rfl rfl b d (fun H1 locs1 h1 h2 h3 => kk H1 locs1 ⟨h1, h2, h3⟩)
theorem l_r_list (E : EC own cc nL p s m args c D (tyL cs)) (I : IW D (cwR A cs st) A0 H0 H locs) (b : vp_in i 24) (d : decode cc pc = .ok (.iaload, 1)) (kk : W p l e R s m args below meth c H locs cells slots Q (F0 m (pc + 1) ls (.int (r_list st i.toNatClampNeg) :: rest))) : W p l e R s m args below meth c H locs cells slots Q (F0 m pc ls (.int i :: .ref (A 23) :: rest)) :=
  va_iald E.1 E.2.1 E.2.2.2.2.2.1 I.1 23 0 rfl rfl b d kk
theorem p_r_list {v : Int32} (E : EC own cc nL p s m args c D (tyL cs)) (I : IW D (cwR A cs st) A0 H0 H locs) (b : vp_in i 24) (e1 : st1 = s_r_list st i.toNatClampNeg v) (d : decode cc pc = .ok (.iastore, 1)) (kk : ∀ (H1 : Heap) (locs1 : List Loc), IW D (cwR A cs st1) A0 H0 H1 locs1 → W p l e R s m args below meth c H1 locs1 cells slots Q (F0 m (pc + 1) ls (rest))) : W p l e R s m args below meth c H locs cells slots Q (F0 m pc ls (.int v :: .int i :: .ref (A 23) :: rest)) := by
  subst e1
  exact va_iast E.1 E.2.1 E.2.2.2.2.2.1 I.1 I.2.1 I.2.2 23 0 rfl rfl b d (fun H1 locs1 h1 h2 h3 => kk H1 locs1 ⟨h1, h2, h3⟩)
theorem l_r_alike (E : EC own cc nL p s m args c D (tyL cs)) (I : IW D (cwR A cs st) A0 H0 H locs) (b : vp_in i 4096) (d : decode cc pc = .ok (.baload, 1)) (kk : W p l e R s m args below meth c H locs cells slots Q (F0 m (pc + 1) ls (.int (r_alike st i.toNatClampNeg) :: rest))) : W p l e R s m args below meth c H locs cells slots Q (F0 m pc ls (.int i :: .ref (A 24) :: rest)) :=
  va_zald E.1 E.2.1 E.2.2.2.2.2.1 I.1 24 2 rfl rfl b d kk
theorem p_r_alike {v : Int32} (E : EC own cc nL p s m args c D (tyL cs)) (I : IW D (cwR A cs st) A0 H0 H locs) (b : vp_in i 4096) (e1 : st1 = s_r_alike st i.toNatClampNeg (vp_nar .boolean v)) (d : decode cc pc = .ok (.bastore, 1)) (kk : ∀ (H1 : Heap) (locs1 : List Loc), IW D (cwR A cs st1) A0 H0 H1 locs1 → W p l e R s m args below meth c H1 locs1 cells slots Q (F0 m (pc + 1) ls (rest))) : W p l e R s m args below meth c H locs cells slots Q (F0 m pc ls (.int v :: .int i :: .ref (A 24) :: rest)) := by
  subst e1
  exact va_zast E.1 E.2.1 E.2.2.2.2.2.1 I.1 I.2.1 I.2.2 24 2 rfl rfl b d (fun H1 locs1 h1 h2 h3 => kk H1 locs1 ⟨h1, h2, h3⟩)
end WORLDR
