section Mmr3
variable {p : Program} {l : Launch} {e : Env} {s : State} {m : MethodId} {args : Array Value} {below : List Frame} {meth : Method} {c : Code} {Q : State → Prop} {D : va_G} {A0 : Nat → Prop} {H0 : Heap} {A : Nat → Nat} {cs : ClassId × ClassId × ClassId}
abbrev rm_R_isCovered : Room := { frames := 0, cells := 0, slots := 0, locals := 0 }
noncomputable def f_R_isCovered_2 : Nat → Int32 → Int32 → RS → Option (Int32 × RS)
  | 0, _, _, _ => none
  | n + 1, x1, x2, st =>
    if (r_tests st) ≤ x2 then (
      some ((0 : Int32), st)
    ) else (
      ck x2 24 <|
      if (r_passes st x2.toNatClampNeg) = (1 : Int32) then (
        ck (((64 : Int32) * x2) + x1) 1536 <|
        if (r_covers st (((64 : Int32) * x2) + x1).toNatClampNeg) = 0 then (
          nx (x2 + 1) fun x2_7 =>
          f_R_isCovered_2 n x1 x2_7 st
        ) else (
          some ((1 : Int32), st)
        )
      ) else (
        nx (x2 + 1) fun x2_4 =>
        f_R_isCovered_2 n x1 x2_4 st
      )
    )
noncomputable def f_R_isCovered (x1 : Int32) (st : RS) : Option (Int32 × RS) :=
  f_R_isCovered_2 FU x1 (0 : Int32) st
set_option maxHeartbeats 4000000 in
set_option maxRecDepth 100000 in
theorem w_R_isCovered_2  {r : Int32} {t : RS} (E : EC R_R c_R_isCovered 3 p s m args c D (tyL cs)) (hA : ∀ q, H0.size ≤ q → A0 q) (kr : ∀ (H : Heap) (locs : List Loc) (pc : Nat) (ls : Array Slot), IW D (cwR A cs t) A0 H0 H locs → narrow .boolean (.int r) = .int r → decode c_R_isCovered pc = .ok (.ireturn, 1) → W p l e rm_R_isCovered s m args below meth c H locs 0 0 Q (F0 m pc ls [.int r])) : ∀ (n : Nat), ∀ (x1 : Int32) (x2 : Int32) (st : RS) (H : Heap) (locs : List Loc) (ls : Array Slot), f_R_isCovered_2 n x1 x2 st = some (r, t) → IW D (cwR A cs st) A0 H0 H locs → lv_has ls 3 [(0, .ref (A 0)), (1, .int x1), (2, .int x2)] → W p l e rm_R_isCovered s m args below meth c H locs 0 0 Q (F0 m 2 ls []) := by
  intro n
  induction n with
  | zero => intro x1 x2 st H locs ls h I hl; cases h
  | succ n ih =>
    intro x1 x2 st H locs ls h I hl
    have hx := E.1
    have hb := E.2.1
    rw [f_R_isCovered_2] at h
    refine lv_iload_n hx hb d_R_isCovered_2 rfl (lv_at hl 2 rfl) ?_
    refine lv_aload_n hx hb d_R_isCovered_3 rfl (lv_at hl 0 rfl) ?_
    refine g_r_tests E I k_R_98 d_R_isCovered_4 ?_
    refine lv_icmp_ge (tgt := 42) hx hb d_R_isCovered_7 (by decide) (fun c1 => ?_) (fun c1 => ?_)
    · have h := ifp c1 h
      refine lv_iconst (v := 0) hx hb d_R_isCovered_42 (by decide) ?_
      cases h
      exact kr _ _ _ _ I (by decide) d_R_isCovered_43
    · have h := ifn c1 h
      refine lv_aload_n hx hb d_R_isCovered_10 rfl (lv_at hl 0 rfl) ?_
      refine g_rR_passes E I k_R_35 d_R_isCovered_11 ?_
      refine lv_iload_n hx hb d_R_isCovered_14 rfl (lv_at hl 2 rfl) ?_
      obtain ⟨b2, h⟩ := ck_some h
      refine l_r_passes E I b2 d_R_isCovered_15 ?_
      refine lv_iconst (v := 1) hx hb d_R_isCovered_16 (by decide) ?_
      refine lv_icmp_ne (tgt := 36) hx hb d_R_isCovered_17 (by decide) (fun c3 => ?_) (fun c3 => ?_)
      · have h := ifn c3 h
        obtain ⟨x2_4, ex2_4⟩ : ∃ y : Int32, y = (x2 + 1) := ⟨_, rfl⟩
        have h := nx_k ex2_4 h
        refine lv_iinc (v := x2_4) (lv' := [(2, .int x2_4), (0, .ref (A 0)), (1, .int x1)]) hx hb d_R_isCovered_36 hl (k := 2) rfl (by rw [ex2_4]; rfl) (by decide) rfl (fun ls hl => ?_)
        refine lv_goto (tgt := 2) hx hb d_R_isCovered_39 (by decide) ?_
        exact ih x1 x2_4 st _ _ _ h I (lv_sub hl [1, 2, 0] rfl)
      · have h := ifp c3 h
        refine lv_aload_n hx hb d_R_isCovered_20 rfl (lv_at hl 0 rfl) ?_
        refine g_rR_covers E I k_R_41 d_R_isCovered_21 ?_
        refine lv_bipush (v := 64) hx hb d_R_isCovered_24 (by decide) ?_
        refine lv_iload_n hx hb d_R_isCovered_26 rfl (lv_at hl 2 rfl) ?_
        refine lv_imul hx hb d_R_isCovered_27 ?_
        refine lv_iload_n hx hb d_R_isCovered_28 rfl (lv_at hl 1 rfl) ?_
        refine lv_iadd hx hb d_R_isCovered_29 ?_
        obtain ⟨b5, h⟩ := ck_some h
        refine l_r_covers E I b5 d_R_isCovered_30 ?_
        refine lv_if_eq (tgt := 36) hx hb d_R_isCovered_31 (by decide) (fun c6 => ?_) (fun c6 => ?_)
        · have h := ifp c6 h
          obtain ⟨x2_7, ex2_7⟩ : ∃ y : Int32, y = (x2 + 1) := ⟨_, rfl⟩
          have h := nx_k ex2_7 h
          refine lv_iinc (v := x2_7) (lv' := [(2, .int x2_7), (0, .ref (A 0)), (1, .int x1)]) hx hb d_R_isCovered_36 hl (k := 2) rfl (by rw [ex2_7]; rfl) (by decide) rfl (fun ls hl => ?_)
          refine lv_goto (tgt := 2) hx hb d_R_isCovered_39 (by decide) ?_
          exact ih x1 x2_7 st _ _ _ h I (lv_sub hl [1, 2, 0] rfl)
        · have h := ifn c6 h
          refine lv_iconst (v := 1) hx hb d_R_isCovered_34 (by decide) ?_
          cases h
          exact kr _ _ _ _ I (by decide) d_R_isCovered_35
set_option maxHeartbeats 4000000 in
set_option maxRecDepth 100000 in
theorem w_R_isCovered  {r : Int32} {t : RS} (E : EC R_R c_R_isCovered 3 p s m args c D (tyL cs)) (hA : ∀ q, H0.size ≤ q → A0 q) (kr : ∀ (H : Heap) (locs : List Loc) (pc : Nat) (ls : Array Slot), IW D (cwR A cs t) A0 H0 H locs → narrow .boolean (.int r) = .int r → decode c_R_isCovered pc = .ok (.ireturn, 1) → W p l e rm_R_isCovered s m args below meth c H locs 0 0 Q (F0 m pc ls [.int r])) : ∀ (x1 : Int32) (st : RS) (H : Heap) (locs : List Loc) (ls : Array Slot), f_R_isCovered x1 st = some (r, t) → IW D (cwR A cs st) A0 H0 H locs → lv_has ls 3 [(0, .ref (A 0)), (1, .int x1)] → W p l e rm_R_isCovered s m args below meth c H locs 0 0 Q (F0 m 0 ls []) := by
  intro x1 st H locs ls h I hl
  have hx := E.1
  have hb := E.2.1
  rw [f_R_isCovered] at h
  refine lv_iconst (v := 0) hx hb d_R_isCovered_0 (by decide) ?_
  refine lv_istore_n (lv' := [(2, .int (0 : Int32)), (0, .ref (A 0)), (1, .int x1)]) hx hb d_R_isCovered_1 rfl hl (by decide) rfl (fun ls hl => ?_)
  exact w_R_isCovered_2 E hA kr FU x1 (0 : Int32) st _ _ _ h I (lv_sub hl [1, 2, 0] rfl)
set_option maxHeartbeats 4000000 in
set_option maxRecDepth 100000 in
theorem k_R_isCovered {x1 : Int32} {st t : RS} {r : Int32} (h : f_R_isCovered x1 st = some (r, t)) : Cn l y_R_isCovered c_R_isCovered 3 (some .boolean) rm_R_isCovered D (tyL cs) (cwR A cs st) (cwR A cs t) [.ref (A 0), .int x1] (some (.int r)) := by
  refine cn_intro (by decide) (Nat.le_of_ble_eq_true rfl) ?_
  intro p e s m below meth c A0 Q ls E hr hlk hA hA0 hQ I hl
  exact w_R_isCovered E hA (rt_z E hr hlk hA0 hQ) x1 st _ _ _ h I (lv_sub hl [0, 1] rfl)
abbrev rm_R_isMade : Room := { frames := 0, cells := 0, slots := 0, locals := 0 }
noncomputable def f_R_isMade_2 : Nat → Int32 → Int32 → Int32 → RS → Option (Int32 × RS)
  | 0, _, _, _, _ => none
  | n + 1, x1, x2, x3, st =>
    if (r_mutants st) ≤ x3 then (
      some ((0 : Int32), st)
    ) else (
      ck x3 100 <|
      if (r_kindM st x3.toNatClampNeg) = x1 then (
        ck x3 100 <|
        if (r_nodeM st x3.toNatClampNeg) = x2 then (
          some ((1 : Int32), st)
        ) else (
          nx (x3 + 1) fun x3_7 =>
          f_R_isMade_2 n x1 x2 x3_7 st
        )
      ) else (
        nx (x3 + 1) fun x3_4 =>
        f_R_isMade_2 n x1 x2 x3_4 st
      )
    )
noncomputable def f_R_isMade (x1 : Int32) (x2 : Int32) (st : RS) : Option (Int32 × RS) :=
  f_R_isMade_2 FU x1 x2 (0 : Int32) st
set_option maxHeartbeats 4000000 in
set_option maxRecDepth 100000 in
theorem w_R_isMade_2  {r : Int32} {t : RS} (E : EC R_R c_R_isMade 4 p s m args c D (tyL cs)) (hA : ∀ q, H0.size ≤ q → A0 q) (kr : ∀ (H : Heap) (locs : List Loc) (pc : Nat) (ls : Array Slot), IW D (cwR A cs t) A0 H0 H locs → narrow .boolean (.int r) = .int r → decode c_R_isMade pc = .ok (.ireturn, 1) → W p l e rm_R_isMade s m args below meth c H locs 0 0 Q (F0 m pc ls [.int r])) : ∀ (n : Nat), ∀ (x1 : Int32) (x2 : Int32) (x3 : Int32) (st : RS) (H : Heap) (locs : List Loc) (ls : Array Slot), f_R_isMade_2 n x1 x2 x3 st = some (r, t) → IW D (cwR A cs st) A0 H0 H locs → lv_has ls 4 [(0, .ref (A 0)), (1, .int x1), (2, .int x2), (3, .int x3)] → W p l e rm_R_isMade s m args below meth c H locs 0 0 Q (F0 m 2 ls []) := by
  intro n
  induction n with
  | zero => intro x1 x2 x3 st H locs ls h I hl; cases h
  | succ n ih =>
    intro x1 x2 x3 st H locs ls h I hl
    have hx := E.1
    have hb := E.2.1
    rw [f_R_isMade_2] at h
    refine lv_iload_n hx hb d_R_isMade_2 rfl (lv_at hl 3 rfl) ?_
    refine lv_aload_n hx hb d_R_isMade_3 rfl (lv_at hl 0 rfl) ?_
    refine g_r_mutants E I k_R_101 d_R_isMade_4 ?_
    refine lv_icmp_ge (tgt := 38) hx hb d_R_isMade_7 (by decide) (fun c1 => ?_) (fun c1 => ?_)
    · have h := ifp c1 h
      refine lv_iconst (v := 0) hx hb d_R_isMade_38 (by decide) ?_
      cases h
      exact kr _ _ _ _ I (by decide) d_R_isMade_39
    · have h := ifn c1 h
      refine lv_aload_n hx hb d_R_isMade_10 rfl (lv_at hl 0 rfl) ?_
      refine g_rR_kindM E I k_R_48 d_R_isMade_11 ?_
      refine lv_iload_n hx hb d_R_isMade_14 rfl (lv_at hl 3 rfl) ?_
      obtain ⟨b2, h⟩ := ck_some h
      refine l_r_kindM E I b2 d_R_isMade_15 ?_
      refine lv_iload_n hx hb d_R_isMade_16 rfl (lv_at hl 1 rfl) ?_
      refine lv_icmp_ne (tgt := 32) hx hb d_R_isMade_17 (by decide) (fun c3 => ?_) (fun c3 => ?_)
      · have h := ifn c3 h
        obtain ⟨x3_4, ex3_4⟩ : ∃ y : Int32, y = (x3 + 1) := ⟨_, rfl⟩
        have h := nx_k ex3_4 h
        refine lv_iinc (v := x3_4) (lv' := [(3, .int x3_4), (0, .ref (A 0)), (1, .int x1), (2, .int x2)]) hx hb d_R_isMade_32 hl (k := 3) rfl (by rw [ex3_4]; rfl) (by decide) rfl (fun ls hl => ?_)
        refine lv_goto (tgt := 2) hx hb d_R_isMade_35 (by decide) ?_
        exact ih x1 x2 x3_4 st _ _ _ h I (lv_sub hl [1, 2, 3, 0] rfl)
      · have h := ifp c3 h
        refine lv_aload_n hx hb d_R_isMade_20 rfl (lv_at hl 0 rfl) ?_
        refine g_rR_nodeM E I k_R_51 d_R_isMade_21 ?_
        refine lv_iload_n hx hb d_R_isMade_24 rfl (lv_at hl 3 rfl) ?_
        obtain ⟨b5, h⟩ := ck_some h
        refine l_r_nodeM E I b5 d_R_isMade_25 ?_
        refine lv_iload_n hx hb d_R_isMade_26 rfl (lv_at hl 2 rfl) ?_
        refine lv_icmp_ne (tgt := 32) hx hb d_R_isMade_27 (by decide) (fun c6 => ?_) (fun c6 => ?_)
        · have h := ifn c6 h
          obtain ⟨x3_7, ex3_7⟩ : ∃ y : Int32, y = (x3 + 1) := ⟨_, rfl⟩
          have h := nx_k ex3_7 h
          refine lv_iinc (v := x3_7) (lv' := [(3, .int x3_7), (0, .ref (A 0)), (1, .int x1), (2, .int x2)]) hx hb d_R_isMade_32 hl (k := 3) rfl (by rw [ex3_7]; rfl) (by decide) rfl (fun ls hl => ?_)
          refine lv_goto (tgt := 2) hx hb d_R_isMade_35 (by decide) ?_
          exact ih x1 x2 x3_7 st _ _ _ h I (lv_sub hl [1, 2, 3, 0] rfl)
        · have h := ifp c6 h
          refine lv_iconst (v := 1) hx hb d_R_isMade_30 (by decide) ?_
          cases h
          exact kr _ _ _ _ I (by decide) d_R_isMade_31
set_option maxHeartbeats 4000000 in
set_option maxRecDepth 100000 in
theorem w_R_isMade  {r : Int32} {t : RS} (E : EC R_R c_R_isMade 4 p s m args c D (tyL cs)) (hA : ∀ q, H0.size ≤ q → A0 q) (kr : ∀ (H : Heap) (locs : List Loc) (pc : Nat) (ls : Array Slot), IW D (cwR A cs t) A0 H0 H locs → narrow .boolean (.int r) = .int r → decode c_R_isMade pc = .ok (.ireturn, 1) → W p l e rm_R_isMade s m args below meth c H locs 0 0 Q (F0 m pc ls [.int r])) : ∀ (x1 : Int32) (x2 : Int32) (st : RS) (H : Heap) (locs : List Loc) (ls : Array Slot), f_R_isMade x1 x2 st = some (r, t) → IW D (cwR A cs st) A0 H0 H locs → lv_has ls 4 [(0, .ref (A 0)), (1, .int x1), (2, .int x2)] → W p l e rm_R_isMade s m args below meth c H locs 0 0 Q (F0 m 0 ls []) := by
  intro x1 x2 st H locs ls h I hl
  have hx := E.1
  have hb := E.2.1
  rw [f_R_isMade] at h
  refine lv_iconst (v := 0) hx hb d_R_isMade_0 (by decide) ?_
  refine lv_istore_n (lv' := [(3, .int (0 : Int32)), (0, .ref (A 0)), (1, .int x1), (2, .int x2)]) hx hb d_R_isMade_1 rfl hl (by decide) rfl (fun ls hl => ?_)
  exact w_R_isMade_2 E hA kr FU x1 x2 (0 : Int32) st _ _ _ h I (lv_sub hl [1, 2, 3, 0] rfl)
set_option maxHeartbeats 4000000 in
set_option maxRecDepth 100000 in
theorem k_R_isMade {x1 : Int32} {x2 : Int32} {st t : RS} {r : Int32} (h : f_R_isMade x1 x2 st = some (r, t)) : Cn l y_R_isMade c_R_isMade 4 (some .boolean) rm_R_isMade D (tyL cs) (cwR A cs st) (cwR A cs t) [.ref (A 0), .int x1, .int x2] (some (.int r)) := by
  refine cn_intro (by decide) (Nat.le_of_ble_eq_true rfl) ?_
  intro p e s m below meth c A0 Q ls E hr hlk hA hA0 hQ I hl
  exact w_R_isMade E hA (rt_z E hr hlk hA0 hQ) x1 x2 st _ _ _ h I (lv_sub hl [0, 1, 2] rfl)
abbrev rm_R_make : Room := { frames := 1, cells := 0, slots := 0, locals := 25 }
noncomputable def f_R_make_18 : Nat → Int32 → Int32 → Int32 → RS → Option (Int32 × RS)
  | 0, _, _, _, _ => none
  | n + 1, x1, x2, x3, st =>
    if (r_nodes st) ≤ x3 then (
      some (x2, st)
    ) else (
      if (100 : Int32) ≤ (r_mutants st) then (
        some (x2, st)
      ) else (
        bd (f_R_isFor x1 x3 st) fun r4 st3 =>
        if r4 = 0 then (
          nx (x3 + 1) fun x3_7 =>
          f_R_make_18 n x1 x2 x3_7 st3
        ) else (
          bd (f_R_isCovered x3 st3) fun r9 st8 =>
          if r9 = 0 then (
            nx (x3 + 1) fun x3_12 =>
            f_R_make_18 n x1 x2 x3_12 st8
          ) else (
            bd (f_R_isMade x1 x3 st8) fun r14 st13 =>
            if r14 = 0 then (
              ck (r_mutants st13) 100 <|
              nx (s_r_kindM st13 (r_mutants st13).toNatClampNeg x1) fun st18 =>
              ck (r_mutants st18) 100 <|
              nx (s_r_nodeM st18 (r_mutants st18).toNatClampNeg x3) fun st20 =>
              ck (r_mutants st20) 100 <|
              nx (s_r_outcome st20 (r_mutants st20).toNatClampNeg (-1 : Int32)) fun st22 =>
              ck (r_mutants st22) 100 <|
              nx (s_r_ender st22 (r_mutants st22).toNatClampNeg (-1 : Int32)) fun st24 =>
              nx (s_r_mutants st24 ((r_mutants st24) + (1 : Int32))) fun st25 =>
              nx (x2 + 1) fun x2_26 =>
              nx (x3 + 1) fun x3_27 =>
              f_R_make_18 n x1 x2_26 x3_27 st25
            ) else (
              nx (x3 + 1) fun x3_28 =>
              f_R_make_18 n x1 x2 x3_28 st13
            )
          )
        )
      )
    )
noncomputable def f_R_make (x1 : Int32) (st : RS) : Option (Int32 × RS) :=
  bd (f_R_in (x1.toInt64) (0 : Int64) (5 : Int64) st) fun r30 st29 =>
  if r30 = 0 then (
    some ((-1 : Int32), st29)
  ) else (
    f_R_make_18 FU x1 (0 : Int32) (0 : Int32) st29
  )
set_option maxHeartbeats 4000000 in
set_option maxRecDepth 100000 in
theorem w_R_make_18  {r : Int32} {t : RS} (E : EC R_R c_R_make 4 p s m args c D (tyL cs)) (hA : ∀ q, H0.size ≤ q → A0 q) (kr : ∀ (H : Heap) (locs : List Loc) (pc : Nat) (ls : Array Slot), IW D (cwR A cs t) A0 H0 H locs → decode c_R_make pc = .ok (.ireturn, 1) → W p l e rm_R_make s m args below meth c H locs 0 0 Q (F0 m pc ls [.int r])) : ∀ (n : Nat), ∀ (x1 : Int32) (x2 : Int32) (x3 : Int32) (st : RS) (H : Heap) (locs : List Loc) (ls : Array Slot), f_R_make_18 n x1 x2 x3 st = some (r, t) → IW D (cwR A cs st) A0 H0 H locs → lv_has ls 4 [(0, .ref (A 0)), (1, .int x1), (2, .int x2), (3, .int x3)] → W p l e rm_R_make s m args below meth c H locs 0 0 Q (F0 m 18 ls []) := by
  intro n
  induction n with
  | zero => intro x1 x2 x3 st H locs ls h I hl; cases h
  | succ n ih =>
    intro x1 x2 x3 st H locs ls h I hl
    have hx := E.1
    have hb := E.2.1
    rw [f_R_make_18] at h
    refine lv_iload_n hx hb d_R_make_18 rfl (lv_at hl 3 rfl) ?_
    refine lv_aload_n hx hb d_R_make_19 rfl (lv_at hl 0 rfl) ?_
    refine g_r_nodes E I k_R_91 d_R_make_20 ?_
    refine lv_icmp_ge (tgt := 123) hx hb d_R_make_23 (by decide) (fun c1 => ?_) (fun c1 => ?_)
    · have h := ifp c1 h
      refine lv_iload_n hx hb d_R_make_123 rfl (lv_at hl 2 rfl) ?_
      cases h
      exact kr _ _ _ _ I d_R_make_124
    · have h := ifn c1 h
      refine lv_aload_n hx hb d_R_make_26 rfl (lv_at hl 0 rfl) ?_
      refine g_r_mutants E I k_R_101 d_R_make_27 ?_
      refine lv_bipush (v := 100) hx hb d_R_make_30 (by decide) ?_
      refine lv_icmp_ge (tgt := 123) hx hb d_R_make_32 (by decide) (fun c2 => ?_) (fun c2 => ?_)
      · have h := ifp c2 h
        refine lv_iload_n hx hb d_R_make_123 rfl (lv_at hl 2 rfl) ?_
        cases h
        exact kr _ _ _ _ I d_R_make_124
      · have h := ifn c2 h
        refine lv_aload_n hx hb d_R_make_35 rfl (lv_at hl 0 rfl) ?_
        refine lv_iload_n hx hb d_R_make_36 rfl (lv_at hl 1 rfl) ?_
        refine lv_iload_n hx hb d_R_make_37 rfl (lv_at hl 3 rfl) ?_
        obtain ⟨r4, st3, h5, h⟩ := bd_some h
        refine cV (As := [.int x1, .int x3]) (rest := []) E I hA (k_R_isFor h5) g_R_175 ⟨rfl, rfl⟩ 0 rfl rfl rfl hl rfl (Nat.le_of_ble_eq_true rfl) ⟨Nat.le_of_ble_eq_true rfl, Nat.le_of_ble_eq_true rfl⟩ ⟨Nat.zero_le _, Nat.zero_le _⟩ d_R_make_38 rfl (fun H locs I => ?_)
        refine lv_if_eq (tgt := 117) hx hb d_R_make_41 (by decide) (fun c6 => ?_) (fun c6 => ?_)
        · have h := ifp c6 h
          obtain ⟨x3_7, ex3_7⟩ : ∃ y : Int32, y = (x3 + 1) := ⟨_, rfl⟩
          have h := nx_k ex3_7 h
          refine lv_iinc (v := x3_7) (lv' := [(3, .int x3_7), (0, .ref (A 0)), (1, .int x1), (2, .int x2)]) hx hb d_R_make_117 hl (k := 3) rfl (by rw [ex3_7]; rfl) (by decide) rfl (fun ls hl => ?_)
          refine lv_goto (tgt := 18) hx hb d_R_make_120 (by decide) ?_
          exact ih x1 x2 x3_7 st3 _ _ _ h I (lv_sub hl [1, 2, 3, 0] rfl)
        · have h := ifn c6 h
          refine lv_aload_n hx hb d_R_make_44 rfl (lv_at hl 0 rfl) ?_
          refine lv_iload_n hx hb d_R_make_45 rfl (lv_at hl 3 rfl) ?_
          obtain ⟨r9, st8, h10, h⟩ := bd_some h
          refine cV (As := [.int x3]) (rest := []) E I hA (k_R_isCovered h10) g_R_178 ⟨rfl, rfl⟩ 0 rfl rfl rfl hl rfl (Nat.le_of_ble_eq_true rfl) ⟨Nat.le_of_ble_eq_true rfl, Nat.le_of_ble_eq_true rfl⟩ ⟨Nat.zero_le _, Nat.zero_le _⟩ d_R_make_46 rfl (fun H locs I => ?_)
          refine lv_if_eq (tgt := 117) hx hb d_R_make_49 (by decide) (fun c11 => ?_) (fun c11 => ?_)
          · have h := ifp c11 h
            obtain ⟨x3_12, ex3_12⟩ : ∃ y : Int32, y = (x3 + 1) := ⟨_, rfl⟩
            have h := nx_k ex3_12 h
            refine lv_iinc (v := x3_12) (lv' := [(3, .int x3_12), (0, .ref (A 0)), (1, .int x1), (2, .int x2)]) hx hb d_R_make_117 hl (k := 3) rfl (by rw [ex3_12]; rfl) (by decide) rfl (fun ls hl => ?_)
            refine lv_goto (tgt := 18) hx hb d_R_make_120 (by decide) ?_
            exact ih x1 x2 x3_12 st8 _ _ _ h I (lv_sub hl [1, 2, 3, 0] rfl)
          · have h := ifn c11 h
            refine lv_aload_n hx hb d_R_make_52 rfl (lv_at hl 0 rfl) ?_
            refine lv_iload_n hx hb d_R_make_53 rfl (lv_at hl 1 rfl) ?_
            refine lv_iload_n hx hb d_R_make_54 rfl (lv_at hl 3 rfl) ?_
            obtain ⟨r14, st13, h15, h⟩ := bd_some h
            refine cV (As := [.int x1, .int x3]) (rest := []) E I hA (k_R_isMade h15) g_R_181 ⟨rfl, rfl⟩ 0 rfl rfl rfl hl rfl (Nat.le_of_ble_eq_true rfl) ⟨Nat.le_of_ble_eq_true rfl, Nat.le_of_ble_eq_true rfl⟩ ⟨Nat.zero_le _, Nat.zero_le _⟩ d_R_make_55 rfl (fun H locs I => ?_)
            refine lv_if_eq (tgt := 64) hx hb d_R_make_58 (by decide) (fun c16 => ?_) (fun c16 => ?_)
            · have h := ifp c16 h
              refine lv_aload_n hx hb d_R_make_64 rfl (lv_at hl 0 rfl) ?_
              refine g_rR_kindM E I k_R_48 d_R_make_65 ?_
              refine lv_aload_n hx hb d_R_make_68 rfl (lv_at hl 0 rfl) ?_
              refine g_r_mutants E I k_R_101 d_R_make_69 ?_
              refine lv_iload_n hx hb d_R_make_72 rfl (lv_at hl 1 rfl) ?_
              obtain ⟨b17, h⟩ := ck_some h
              obtain ⟨st18, est18⟩ : ∃ y : RS, y = (s_r_kindM st13 (r_mutants st13).toNatClampNeg x1) := ⟨_, rfl⟩
              have h := nx_k est18 h
              refine p_r_kindM E I b17 est18 d_R_make_73 (fun H locs I => ?_)
              refine lv_aload_n hx hb d_R_make_74 rfl (lv_at hl 0 rfl) ?_
              refine g_rR_nodeM E I k_R_51 d_R_make_75 ?_
              refine lv_aload_n hx hb d_R_make_78 rfl (lv_at hl 0 rfl) ?_
              refine g_r_mutants E I k_R_101 d_R_make_79 ?_
              refine lv_iload_n hx hb d_R_make_82 rfl (lv_at hl 3 rfl) ?_
              obtain ⟨b19, h⟩ := ck_some h
              obtain ⟨st20, est20⟩ : ∃ y : RS, y = (s_r_nodeM st18 (r_mutants st18).toNatClampNeg x3) := ⟨_, rfl⟩
              have h := nx_k est20 h
              refine p_r_nodeM E I b19 est20 d_R_make_83 (fun H locs I => ?_)
              refine lv_aload_n hx hb d_R_make_84 rfl (lv_at hl 0 rfl) ?_
              refine g_rR_outcome E I k_R_54 d_R_make_85 ?_
              refine lv_aload_n hx hb d_R_make_88 rfl (lv_at hl 0 rfl) ?_
              refine g_r_mutants E I k_R_101 d_R_make_89 ?_
              refine lv_iconst (v := -1) hx hb d_R_make_92 (by decide) ?_
              obtain ⟨b21, h⟩ := ck_some h
              obtain ⟨st22, est22⟩ : ∃ y : RS, y = (s_r_outcome st20 (r_mutants st20).toNatClampNeg (-1 : Int32)) := ⟨_, rfl⟩
              have h := nx_k est22 h
              refine p_r_outcome E I b21 est22 d_R_make_93 (fun H locs I => ?_)
              refine lv_aload_n hx hb d_R_make_94 rfl (lv_at hl 0 rfl) ?_
              refine g_rR_ender E I k_R_57 d_R_make_95 ?_
              refine lv_aload_n hx hb d_R_make_98 rfl (lv_at hl 0 rfl) ?_
              refine g_r_mutants E I k_R_101 d_R_make_99 ?_
              refine lv_iconst (v := -1) hx hb d_R_make_102 (by decide) ?_
              obtain ⟨b23, h⟩ := ck_some h
              obtain ⟨st24, est24⟩ : ∃ y : RS, y = (s_r_ender st22 (r_mutants st22).toNatClampNeg (-1 : Int32)) := ⟨_, rfl⟩
              have h := nx_k est24 h
              refine p_r_ender E I b23 est24 d_R_make_103 (fun H locs I => ?_)
              refine lv_aload_n hx hb d_R_make_104 rfl (lv_at hl 0 rfl) ?_
              refine lv_dup hx hb d_R_make_105 rfl ?_
              refine g_r_mutants E I k_R_101 d_R_make_106 ?_
              refine lv_iconst (v := 1) hx hb d_R_make_109 (by decide) ?_
              refine lv_iadd hx hb d_R_make_110 ?_
              obtain ⟨st25, est25⟩ : ∃ y : RS, y = (s_r_mutants st24 ((r_mutants st24) + (1 : Int32))) := ⟨_, rfl⟩
              have h := nx_k est25 h
              refine p_r_mutants E I est25 k_R_101 d_R_make_111 (fun H locs I => ?_)
              obtain ⟨x2_26, ex2_26⟩ : ∃ y : Int32, y = (x2 + 1) := ⟨_, rfl⟩
              have h := nx_k ex2_26 h
              refine lv_iinc (v := x2_26) (lv' := [(2, .int x2_26), (0, .ref (A 0)), (1, .int x1), (3, .int x3)]) hx hb d_R_make_114 hl (k := 2) rfl (by rw [ex2_26]; rfl) (by decide) rfl (fun ls hl => ?_)
              obtain ⟨x3_27, ex3_27⟩ : ∃ y : Int32, y = (x3 + 1) := ⟨_, rfl⟩
              have h := nx_k ex3_27 h
              refine lv_iinc (v := x3_27) (lv' := [(3, .int x3_27), (2, .int x2_26), (0, .ref (A 0)), (1, .int x1)]) hx hb d_R_make_117 hl (k := 3) rfl (by rw [ex3_27]; rfl) (by decide) rfl (fun ls hl => ?_)
              refine lv_goto (tgt := 18) hx hb d_R_make_120 (by decide) ?_
              exact ih x1 x2_26 x3_27 st25 _ _ _ h I (lv_sub hl [2, 3, 1, 0] rfl)
            · have h := ifn c16 h
              refine lv_goto (tgt := 117) hx hb d_R_make_61 (by decide) ?_
              obtain ⟨x3_28, ex3_28⟩ : ∃ y : Int32, y = (x3 + 1) := ⟨_, rfl⟩
              have h := nx_k ex3_28 h
              refine lv_iinc (v := x3_28) (lv' := [(3, .int x3_28), (0, .ref (A 0)), (1, .int x1), (2, .int x2)]) hx hb d_R_make_117 hl (k := 3) rfl (by rw [ex3_28]; rfl) (by decide) rfl (fun ls hl => ?_)
              refine lv_goto (tgt := 18) hx hb d_R_make_120 (by decide) ?_
              exact ih x1 x2 x3_28 st13 _ _ _ h I (lv_sub hl [1, 2, 3, 0] rfl)
set_option maxHeartbeats 4000000 in
set_option maxRecDepth 100000 in
theorem w_R_make  {r : Int32} {t : RS} (E : EC R_R c_R_make 4 p s m args c D (tyL cs)) (hA : ∀ q, H0.size ≤ q → A0 q) (kr : ∀ (H : Heap) (locs : List Loc) (pc : Nat) (ls : Array Slot), IW D (cwR A cs t) A0 H0 H locs → decode c_R_make pc = .ok (.ireturn, 1) → W p l e rm_R_make s m args below meth c H locs 0 0 Q (F0 m pc ls [.int r])) : ∀ (x1 : Int32) (st : RS) (H : Heap) (locs : List Loc) (ls : Array Slot), f_R_make x1 st = some (r, t) → IW D (cwR A cs st) A0 H0 H locs → lv_has ls 4 [(0, .ref (A 0)), (1, .int x1)] → W p l e rm_R_make s m args below meth c H locs 0 0 Q (F0 m 0 ls []) := by
  intro x1 st H locs ls h I hl
  have hx := E.1
  have hb := E.2.1
  rw [f_R_make] at h
  refine lv_iload_n hx hb d_R_make_0 rfl (lv_at hl 1 rfl) ?_
  refine lv_i2l hx hb d_R_make_1 rfl ?_
  refine lv_lconst (v := 0) hx hb d_R_make_2 (by decide) ?_
  refine lv_ldc2 (v := 5) hx hb E.2.2.2.1 (E.2.2.2.2.1 _ kl_R_173) d_R_make_3 ?_
  obtain ⟨r30, st29, h31, h⟩ := bd_some h
  refine cS (As := [.long x1.toInt64, .long (0 : Int64), .long (5 : Int64)]) (rest := []) E I hA (k_R_in h31) g_R_94 ⟨rfl, rfl⟩ rfl hl rfl (Nat.le_of_ble_eq_true rfl) ⟨Nat.le_of_ble_eq_true rfl, Nat.le_of_ble_eq_true rfl⟩ ⟨Nat.zero_le _, Nat.zero_le _⟩ d_R_make_6 rfl (fun H locs I => ?_)
  refine lv_if_ne (tgt := 14) hx hb d_R_make_9 (by decide) (fun c32 => ?_) (fun c32 => ?_)
  · have h := ifn c32 h
    refine lv_iconst (v := 0) hx hb d_R_make_14 (by decide) ?_
    refine lv_istore_n (lv' := [(2, .int (0 : Int32)), (0, .ref (A 0)), (1, .int x1)]) hx hb d_R_make_15 rfl hl (by decide) rfl (fun ls hl => ?_)
    refine lv_iconst (v := 0) hx hb d_R_make_16 (by decide) ?_
    refine lv_istore_n (lv' := [(3, .int (0 : Int32)), (2, .int (0 : Int32)), (0, .ref (A 0)), (1, .int x1)]) hx hb d_R_make_17 rfl hl (by decide) rfl (fun ls hl => ?_)
    exact w_R_make_18 E hA kr FU x1 (0 : Int32) (0 : Int32) st29 _ _ _ h I (lv_sub hl [2, 3, 1, 0] rfl)
  · have h := ifp c32 h
    refine lv_iconst (v := -1) hx hb d_R_make_12 (by decide) ?_
    cases h
    exact kr _ _ _ _ I d_R_make_13
set_option maxHeartbeats 4000000 in
set_option maxRecDepth 100000 in
theorem k_R_make {x1 : Int32} {st t : RS} {r : Int32} (h : f_R_make x1 st = some (r, t)) : Cn l y_R_make c_R_make 4 (some .int) rm_R_make D (tyL cs) (cwR A cs st) (cwR A cs t) [.ref (A 0), .int x1] (some (.int r)) := by
  refine cn_intro (by decide) (Nat.le_of_ble_eq_true rfl) ?_
  intro p e s m below meth c A0 Q ls E hr hlk hA hA0 hQ I hl
  exact w_R_make E hA (rt_i E hr hlk hA0 hQ) x1 st _ _ _ h I (lv_sub hl [0, 1] rfl)
abbrev rm_R_isMutant : Room := { frames := 1, cells := 0, slots := 0, locals := 25 }
noncomputable def f_R_isMutant (x1 : Int32) (st : RS) : Option (Int32 × RS) :=
  bd (f_R_in (x1.toInt64) (0 : Int64) (((r_mutants st) - (1 : Int32)).toInt64) st) fun r2 st1 =>
  zr r2 st1
set_option maxHeartbeats 4000000 in
set_option maxRecDepth 100000 in
theorem w_R_isMutant  {r : Int32} {t : RS} (E : EC R_R c_R_isMutant 2 p s m args c D (tyL cs)) (hA : ∀ q, H0.size ≤ q → A0 q) (kr : ∀ (H : Heap) (locs : List Loc) (pc : Nat) (ls : Array Slot), IW D (cwR A cs t) A0 H0 H locs → narrow .boolean (.int r) = .int r → decode c_R_isMutant pc = .ok (.ireturn, 1) → W p l e rm_R_isMutant s m args below meth c H locs 0 0 Q (F0 m pc ls [.int r])) : ∀ (x1 : Int32) (st : RS) (H : Heap) (locs : List Loc) (ls : Array Slot), f_R_isMutant x1 st = some (r, t) → IW D (cwR A cs st) A0 H0 H locs → lv_has ls 2 [(0, .ref (A 0)), (1, .int x1)] → W p l e rm_R_isMutant s m args below meth c H locs 0 0 Q (F0 m 0 ls []) := by
  intro x1 st H locs ls h I hl
  have hx := E.1
  have hb := E.2.1
  rw [f_R_isMutant] at h
  refine lv_iload_n hx hb d_R_isMutant_0 rfl (lv_at hl 1 rfl) ?_
  refine lv_i2l hx hb d_R_isMutant_1 rfl ?_
  refine lv_lconst (v := 0) hx hb d_R_isMutant_2 (by decide) ?_
  refine lv_aload_n hx hb d_R_isMutant_3 rfl (lv_at hl 0 rfl) ?_
  refine g_r_mutants E I k_R_101 d_R_isMutant_4 ?_
  refine lv_iconst (v := 1) hx hb d_R_isMutant_7 (by decide) ?_
  refine lv_isub hx hb d_R_isMutant_8 ?_
  refine lv_i2l hx hb d_R_isMutant_9 rfl ?_
  obtain ⟨r2, st1, h3, h⟩ := bd_some h
  refine cS (As := [.long x1.toInt64, .long (0 : Int64), .long ((r_mutants st) - (1 : Int32)).toInt64]) (rest := []) E I hA (k_R_in h3) g_R_94 ⟨rfl, rfl⟩ rfl hl rfl (Nat.le_of_ble_eq_true rfl) ⟨Nat.le_of_ble_eq_true rfl, Nat.le_of_ble_eq_true rfl⟩ ⟨Nat.zero_le _, Nat.zero_le _⟩ d_R_isMutant_10 rfl (fun H locs I => ?_)
  obtain ⟨z4, h⟩ := zr_some h
  cases h
  exact kr _ _ _ _ I (zr_nar z4) d_R_isMutant_13
set_option maxHeartbeats 4000000 in
set_option maxRecDepth 100000 in
theorem k_R_isMutant {x1 : Int32} {st t : RS} {r : Int32} (h : f_R_isMutant x1 st = some (r, t)) : Cn l y_R_isMutant c_R_isMutant 2 (some .boolean) rm_R_isMutant D (tyL cs) (cwR A cs st) (cwR A cs t) [.ref (A 0), .int x1] (some (.int r)) := by
  refine cn_intro (by decide) (Nat.le_of_ble_eq_true rfl) ?_
  intro p e s m below meth c A0 Q ls E hr hlk hA hA0 hQ I hl
  exact w_R_isMutant E hA (rt_z E hr hlk hA0 hQ) x1 st _ _ _ h I (lv_sub hl [0, 1] rfl)
abbrev rm_R_isNumber : Room := { frames := 0, cells := 0, slots := 0, locals := 0 }
noncomputable def f_R_isNumber (x1 : Int32) (x2 : Int64) (st : RS) : Option (Int32 × RS) :=
  ck x1 64 <|
  if (r_kindOf st x1.toNatClampNeg) = 0 then (
    ck x1 64 <|
    if (r_number st x1.toNatClampNeg) = x2 then (
      some ((1 : Int32), st)
    ) else (
      some ((0 : Int32), st)
    )
  ) else (
    some ((0 : Int32), st)
  )
set_option maxHeartbeats 4000000 in
set_option maxRecDepth 100000 in
theorem w_R_isNumber  {r : Int32} {t : RS} (E : EC R_R c_R_isNumber 4 p s m args c D (tyL cs)) (hA : ∀ q, H0.size ≤ q → A0 q) (kr : ∀ (H : Heap) (locs : List Loc) (pc : Nat) (ls : Array Slot), IW D (cwR A cs t) A0 H0 H locs → narrow .boolean (.int r) = .int r → decode c_R_isNumber pc = .ok (.ireturn, 1) → W p l e rm_R_isNumber s m args below meth c H locs 0 0 Q (F0 m pc ls [.int r])) : ∀ (x1 : Int32) (x2 : Int64) (st : RS) (H : Heap) (locs : List Loc) (ls : Array Slot), f_R_isNumber x1 x2 st = some (r, t) → IW D (cwR A cs st) A0 H0 H locs → lv_has ls 4 [(0, .ref (A 0)), (1, .int x1), (2, .long x2)] → W p l e rm_R_isNumber s m args below meth c H locs 0 0 Q (F0 m 0 ls []) := by
  intro x1 x2 st H locs ls h I hl
  have hx := E.1
  have hb := E.2.1
  rw [f_R_isNumber] at h
  refine lv_aload_n hx hb d_R_isNumber_0 rfl (lv_at hl 0 rfl) ?_
  refine g_rR_kindOf E I k_R_7 d_R_isNumber_1 ?_
  refine lv_iload_n hx hb d_R_isNumber_4 rfl (lv_at hl 1 rfl) ?_
  obtain ⟨b1, h⟩ := ck_some h
  refine l_r_kindOf E I b1 d_R_isNumber_5 ?_
  refine lv_if_ne (tgt := 24) hx hb d_R_isNumber_6 (by decide) (fun c2 => ?_) (fun c2 => ?_)
  · have h := ifn c2 h
    refine lv_iconst (v := 0) hx hb d_R_isNumber_24 (by decide) ?_
    cases h
    exact kr _ _ _ _ I (by decide) d_R_isNumber_25
  · have h := ifp c2 h
    refine lv_aload_n hx hb d_R_isNumber_9 rfl (lv_at hl 0 rfl) ?_
    refine g_rR_number E I k_R_13 d_R_isNumber_10 ?_
    refine lv_iload_n hx hb d_R_isNumber_13 rfl (lv_at hl 1 rfl) ?_
    obtain ⟨b3, h⟩ := ck_some h
    refine l_r_number E I b3 d_R_isNumber_14 ?_
    refine lv_lload_n hx hb d_R_isNumber_15 rfl (lv_at hl 2 rfl) ?_
    refine W.lcmp hx hb d_R_isNumber_16 ?_
    refine lv_if_ne (tgt := 24) hx hb d_R_isNumber_17 (by decide) (fun c4 => ?_) (fun c4 => ?_)
    · have c4 := mt (lg_cmp_eq _ _).mpr c4
      have h := ifn c4 h
      refine lv_iconst (v := 0) hx hb d_R_isNumber_24 (by decide) ?_
      cases h
      exact kr _ _ _ _ I (by decide) d_R_isNumber_25
    · have c4 := (lg_cmp_eq _ _).mp c4
      have h := ifp c4 h
      refine lv_iconst (v := 1) hx hb d_R_isNumber_20 (by decide) ?_
      refine lv_goto (tgt := 25) hx hb d_R_isNumber_21 (by decide) ?_
      cases h
      exact kr _ _ _ _ I (by decide) d_R_isNumber_25
set_option maxHeartbeats 4000000 in
set_option maxRecDepth 100000 in
theorem k_R_isNumber {x1 : Int32} {x2 : Int64} {st t : RS} {r : Int32} (h : f_R_isNumber x1 x2 st = some (r, t)) : Cn l y_R_isNumber c_R_isNumber 4 (some .boolean) rm_R_isNumber D (tyL cs) (cwR A cs st) (cwR A cs t) [.ref (A 0), .int x1, .long x2] (some (.int r)) := by
  refine cn_intro (by decide) (Nat.le_of_ble_eq_true rfl) ?_
  intro p e s m below meth c A0 Q ls E hr hlk hA hA0 hQ I hl
  exact w_R_isNumber E hA (rt_z E hr hlk hA0 hQ) x1 x2 st _ _ _ h I (lv_sub hl [0, 1, 2] rfl)
abbrev rm_R_areParts : Room := { frames := 0, cells := 0, slots := 0, locals := 0 }
noncomputable def f_R_areParts (x1 : Int32) (x2 : Int32) (st : RS) : Option (Int32 × RS) :=
  if x1 = (-1 : Int32) then (
    some ((1 : Int32), st)
  ) else (
    ck (((64 : Int32) * x1) + x2) 4096 <|
    if (r_alike st (((64 : Int32) * x1) + x2).toNatClampNeg) = 0 then (
      some ((0 : Int32), st)
    ) else (
      some ((1 : Int32), st)
    )
  )
set_option maxHeartbeats 4000000 in
set_option maxRecDepth 100000 in
theorem w_R_areParts  {r : Int32} {t : RS} (E : EC R_R c_R_areParts 3 p s m args c D (tyL cs)) (hA : ∀ q, H0.size ≤ q → A0 q) (kr : ∀ (H : Heap) (locs : List Loc) (pc : Nat) (ls : Array Slot), IW D (cwR A cs t) A0 H0 H locs → narrow .boolean (.int r) = .int r → decode c_R_areParts pc = .ok (.ireturn, 1) → W p l e rm_R_areParts s m args below meth c H locs 0 0 Q (F0 m pc ls [.int r])) : ∀ (x1 : Int32) (x2 : Int32) (st : RS) (H : Heap) (locs : List Loc) (ls : Array Slot), f_R_areParts x1 x2 st = some (r, t) → IW D (cwR A cs st) A0 H0 H locs → lv_has ls 3 [(0, .ref (A 0)), (1, .int x1), (2, .int x2)] → W p l e rm_R_areParts s m args below meth c H locs 0 0 Q (F0 m 0 ls []) := by
  intro x1 x2 st H locs ls h I hl
  have hx := E.1
  have hb := E.2.1
  rw [f_R_areParts] at h
  refine lv_iload_n hx hb d_R_areParts_0 rfl (lv_at hl 1 rfl) ?_
  refine lv_iconst (v := -1) hx hb d_R_areParts_1 (by decide) ?_
  refine lv_icmp_eq (tgt := 19) hx hb d_R_areParts_2 (by decide) (fun c1 => ?_) (fun c1 => ?_)
  · have h := ifp c1 h
    refine lv_iconst (v := 1) hx hb d_R_areParts_19 (by decide) ?_
    refine lv_goto (tgt := 24) hx hb d_R_areParts_20 (by decide) ?_
    cases h
    exact kr _ _ _ _ I (by decide) d_R_areParts_24
  · have h := ifn c1 h
    refine lv_aload_n hx hb d_R_areParts_5 rfl (lv_at hl 0 rfl) ?_
    refine g_rR_alike E I k_R_88 d_R_areParts_6 ?_
    refine lv_bipush (v := 64) hx hb d_R_areParts_9 (by decide) ?_
    refine lv_iload_n hx hb d_R_areParts_11 rfl (lv_at hl 1 rfl) ?_
    refine lv_imul hx hb d_R_areParts_12 ?_
    refine lv_iload_n hx hb d_R_areParts_13 rfl (lv_at hl 2 rfl) ?_
    refine lv_iadd hx hb d_R_areParts_14 ?_
    obtain ⟨b2, h⟩ := ck_some h
    refine l_r_alike E I b2 d_R_areParts_15 ?_
    refine lv_if_eq (tgt := 23) hx hb d_R_areParts_16 (by decide) (fun c3 => ?_) (fun c3 => ?_)
    · have h := ifp c3 h
      refine lv_iconst (v := 0) hx hb d_R_areParts_23 (by decide) ?_
      cases h
      exact kr _ _ _ _ I (by decide) d_R_areParts_24
    · have h := ifn c3 h
      refine lv_iconst (v := 1) hx hb d_R_areParts_19 (by decide) ?_
      refine lv_goto (tgt := 24) hx hb d_R_areParts_20 (by decide) ?_
      cases h
      exact kr _ _ _ _ I (by decide) d_R_areParts_24
set_option maxHeartbeats 4000000 in
set_option maxRecDepth 100000 in
theorem k_R_areParts {x1 : Int32} {x2 : Int32} {st t : RS} {r : Int32} (h : f_R_areParts x1 x2 st = some (r, t)) : Cn l y_R_areParts c_R_areParts 3 (some .boolean) rm_R_areParts D (tyL cs) (cwR A cs st) (cwR A cs t) [.ref (A 0), .int x1, .int x2] (some (.int r)) := by
  refine cn_intro (by decide) (Nat.le_of_ble_eq_true rfl) ?_
  intro p e s m below meth c A0 Q ls E hr hlk hA hA0 hQ I hl
  exact w_R_areParts E hA (rt_z E hr hlk hA0 hQ) x1 x2 st _ _ _ h I (lv_sub hl [0, 1, 2] rfl)
abbrev rm_R_layAlike : Room := { frames := 1, cells := 0, slots := 0, locals := 22 }
noncomputable def f_R_layAlike_115 (k12 : Int32 → Int32 → RS → Option (Unit × RS)) (x1 : Int32) (x2 : Int32) (s0 : Int32) (st : RS) : Option (Unit × RS) :=
  ck (((64 : Int32) * x1) + x2) 4096 <|
  nx (s_r_alike st (((64 : Int32) * x1) + x2).toNatClampNeg (vp_nar .boolean s0)) fun st2 =>
  ck (((64 : Int32) * x2) + x1) 4096 <|
  nx (s_r_alike st2 (((64 : Int32) * x2) + x1).toNatClampNeg (vp_nar .boolean s0)) fun st4 =>
  nx (x2 + 1) fun x2_5 =>
  k12 x1 x2_5 st4
noncomputable def f_R_layAlike_12 (k2 : Int32 → RS → Option (Unit × RS)) : Nat → Int32 → Int32 → RS → Option (Unit × RS)
  | 0, _, _, _ => none
  | n + 1, x1, x2, st =>
    if x1 < x2 then (
      nx (x1 + 1) fun x1_7 =>
      k2 x1_7 st
    ) else (
      if x1 = x2 then (
        f_R_layAlike_115 (f_R_layAlike_12 k2 n) x1 x2 (1 : Int32) st
      ) else (
        ck x1 64 <|
        ck x2 64 <|
        if (r_kindOf st x1.toNatClampNeg) = (r_kindOf st x2.toNatClampNeg) then (
          ck x1 64 <|
          ck x2 64 <|
          if (r_number st x1.toNatClampNeg) = (r_number st x2.toNatClampNeg) then (
            ck x1 64 <|
            ck x2 64 <|
            bd (f_R_areParts (r_partA st x1.toNatClampNeg) (r_partA st x2.toNatClampNeg) st) fun r18 st17 =>
            if r18 = 0 then (
              f_R_layAlike_115 (f_R_layAlike_12 k2 n) x1 x2 (0 : Int32) st17
            ) else (
              ck x1 64 <|
              ck x2 64 <|
              bd (f_R_areParts (r_partB st17 x1.toNatClampNeg) (r_partB st17 x2.toNatClampNeg) st17) fun r24 st23 =>
              if r24 = 0 then (
                f_R_layAlike_115 (f_R_layAlike_12 k2 n) x1 x2 (0 : Int32) st23
              ) else (
                ck x1 64 <|
                ck x2 64 <|
                bd (f_R_areParts (r_partC st23 x1.toNatClampNeg) (r_partC st23 x2.toNatClampNeg) st23) fun r30 st29 =>
                if r30 = 0 then (
                  f_R_layAlike_115 (f_R_layAlike_12 k2 n) x1 x2 (0 : Int32) st29
                ) else (
                  f_R_layAlike_115 (f_R_layAlike_12 k2 n) x1 x2 (1 : Int32) st29
                )
              )
            )
          ) else (
            f_R_layAlike_115 (f_R_layAlike_12 k2 n) x1 x2 (0 : Int32) st
          )
        ) else (
          f_R_layAlike_115 (f_R_layAlike_12 k2 n) x1 x2 (0 : Int32) st
        )
      )
    )
noncomputable def f_R_layAlike_2 : Nat → Int32 → RS → Option (Unit × RS)
  | 0, _, _ => none
  | n + 1, x1, st =>
    if (r_nodes st) ≤ x1 then (
      some ((), st)
    ) else (
      f_R_layAlike_12 (f_R_layAlike_2 n) FU x1 (0 : Int32) st
    )
noncomputable def f_R_layAlike (st : RS) : Option (Unit × RS) :=
  f_R_layAlike_2 FU (0 : Int32) st
set_option maxHeartbeats 4000000 in
set_option maxRecDepth 100000 in
theorem w_R_layAlike_115  {r : Unit} {t : RS} (E : EC R_R c_R_layAlike 4 p s m args c D (tyL cs)) (hA : ∀ q, H0.size ≤ q → A0 q) (kr : ∀ (H : Heap) (locs : List Loc) (pc : Nat) (ls : Array Slot), IW D (cwR A cs t) A0 H0 H locs → decode c_R_layAlike pc = .ok (.return_, 1) → W p l e rm_R_layAlike s m args below meth c H locs 0 0 Q (F0 m pc ls [])) {k12 : Int32 → Int32 → RS → Option (Unit × RS)} (hk12 : ∀ (x1 : Int32) (x2 : Int32) (st : RS) (H : Heap) (locs : List Loc) (ls : Array Slot), k12 x1 x2 st = some (r, t) → IW D (cwR A cs st) A0 H0 H locs → lv_has ls 4 [(0, .ref (A 0)), (1, .int x1), (2, .int x2)] → W p l e rm_R_layAlike s m args below meth c H locs 0 0 Q (F0 m 12 ls [])) : ∀ (x1 : Int32) (x2 : Int32) (s0 : Int32) (st : RS) (H : Heap) (locs : List Loc) (ls : Array Slot), f_R_layAlike_115 k12 x1 x2 s0 st = some (r, t) → IW D (cwR A cs st) A0 H0 H locs → lv_has ls 4 [(0, .ref (A 0)), (1, .int x1), (2, .int x2)] → W p l e rm_R_layAlike s m args below meth c H locs 0 0 Q (F0 m 115 ls [.int s0]) := by
  intro x1 x2 s0 st H locs ls h I hl
  have hx := E.1
  have hb := E.2.1
  rw [f_R_layAlike_115] at h
  refine lv_istore_n (lv' := [(3, .int s0), (0, .ref (A 0)), (1, .int x1), (2, .int x2)]) hx hb d_R_layAlike_115 rfl hl (by decide) rfl (fun ls hl => ?_)
  refine lv_aload_n hx hb d_R_layAlike_116 rfl (lv_at hl 1 rfl) ?_
  refine g_rR_alike E I k_R_88 d_R_layAlike_117 ?_
  refine lv_bipush (v := 64) hx hb d_R_layAlike_120 (by decide) ?_
  refine lv_iload_n hx hb d_R_layAlike_122 rfl (lv_at hl 2 rfl) ?_
  refine lv_imul hx hb d_R_layAlike_123 ?_
  refine lv_iload_n hx hb d_R_layAlike_124 rfl (lv_at hl 3 rfl) ?_
  refine lv_iadd hx hb d_R_layAlike_125 ?_
  refine lv_iload_n hx hb d_R_layAlike_126 rfl (lv_at hl 0 rfl) ?_
  obtain ⟨b1, h⟩ := ck_some h
  obtain ⟨st2, est2⟩ : ∃ y : RS, y = (s_r_alike st (((64 : Int32) * x1) + x2).toNatClampNeg (vp_nar .boolean s0)) := ⟨_, rfl⟩
  have h := nx_k est2 h
  refine p_r_alike E I b1 est2 d_R_layAlike_127 (fun H locs I => ?_)
  refine lv_aload_n hx hb d_R_layAlike_128 rfl (lv_at hl 1 rfl) ?_
  refine g_rR_alike E I k_R_88 d_R_layAlike_129 ?_
  refine lv_bipush (v := 64) hx hb d_R_layAlike_132 (by decide) ?_
  refine lv_iload_n hx hb d_R_layAlike_134 rfl (lv_at hl 3 rfl) ?_
  refine lv_imul hx hb d_R_layAlike_135 ?_
  refine lv_iload_n hx hb d_R_layAlike_136 rfl (lv_at hl 2 rfl) ?_
  refine lv_iadd hx hb d_R_layAlike_137 ?_
  refine lv_iload_n hx hb d_R_layAlike_138 rfl (lv_at hl 0 rfl) ?_
  obtain ⟨b3, h⟩ := ck_some h
  obtain ⟨st4, est4⟩ : ∃ y : RS, y = (s_r_alike st2 (((64 : Int32) * x2) + x1).toNatClampNeg (vp_nar .boolean s0)) := ⟨_, rfl⟩
  have h := nx_k est4 h
  refine p_r_alike E I b3 est4 d_R_layAlike_139 (fun H locs I => ?_)
  obtain ⟨x2_5, ex2_5⟩ : ∃ y : Int32, y = (x2 + 1) := ⟨_, rfl⟩
  have h := nx_k ex2_5 h
  refine lv_iinc (v := x2_5) (lv' := [(2, .int x2_5), (3, .int s0), (0, .ref (A 0)), (1, .int x1)]) hx hb d_R_layAlike_140 hl (k := 3) rfl (by rw [ex2_5]; rfl) (by decide) rfl (fun ls hl => ?_)
  refine lv_goto (tgt := 12) hx hb d_R_layAlike_143 (by decide) ?_
  exact hk12 x1 x2_5 st4 _ _ _ h I (lv_sub hl [2, 3, 0] rfl)
set_option maxHeartbeats 4000000 in
set_option maxRecDepth 100000 in
theorem w_R_layAlike_12  {r : Unit} {t : RS} (E : EC R_R c_R_layAlike 4 p s m args c D (tyL cs)) (hA : ∀ q, H0.size ≤ q → A0 q) (kr : ∀ (H : Heap) (locs : List Loc) (pc : Nat) (ls : Array Slot), IW D (cwR A cs t) A0 H0 H locs → decode c_R_layAlike pc = .ok (.return_, 1) → W p l e rm_R_layAlike s m args below meth c H locs 0 0 Q (F0 m pc ls [])) {k2 : Int32 → RS → Option (Unit × RS)} (hk2 : ∀ (x1 : Int32) (st : RS) (H : Heap) (locs : List Loc) (ls : Array Slot), k2 x1 st = some (r, t) → IW D (cwR A cs st) A0 H0 H locs → lv_has ls 4 [(0, .ref (A 0)), (1, .int x1)] → W p l e rm_R_layAlike s m args below meth c H locs 0 0 Q (F0 m 2 ls [])) : ∀ (n : Nat), ∀ (x1 : Int32) (x2 : Int32) (st : RS) (H : Heap) (locs : List Loc) (ls : Array Slot), f_R_layAlike_12 k2 n x1 x2 st = some (r, t) → IW D (cwR A cs st) A0 H0 H locs → lv_has ls 4 [(0, .ref (A 0)), (1, .int x1), (2, .int x2)] → W p l e rm_R_layAlike s m args below meth c H locs 0 0 Q (F0 m 12 ls []) := by
  intro n
  induction n with
  | zero => intro x1 x2 st H locs ls h I hl; cases h
  | succ n ih =>
    intro x1 x2 st H locs ls h I hl
    have hx := E.1
    have hb := E.2.1
    rw [f_R_layAlike_12] at h
    refine lv_iload_n hx hb d_R_layAlike_12 rfl (lv_at hl 2 rfl) ?_
    refine lv_iload_n hx hb d_R_layAlike_13 rfl (lv_at hl 1 rfl) ?_
    refine lv_icmp_gt (tgt := 146) hx hb d_R_layAlike_14 (by decide) (fun c6 => ?_) (fun c6 => ?_)
    · have h := ifp c6 h
      obtain ⟨x1_7, ex1_7⟩ : ∃ y : Int32, y = (x1 + 1) := ⟨_, rfl⟩
      have h := nx_k ex1_7 h
      refine lv_iinc (v := x1_7) (lv' := [(1, .int x1_7), (0, .ref (A 0)), (2, .int x2)]) hx hb d_R_layAlike_146 hl (k := 1) rfl (by rw [ex1_7]; rfl) (by decide) rfl (fun ls hl => ?_)
      refine lv_goto (tgt := 2) hx hb d_R_layAlike_149 (by decide) ?_
      exact hk2 x1_7 st _ _ _ h I (lv_sub hl [1, 0] rfl)
    · have h := ifn c6 h
      refine lv_iload_n hx hb d_R_layAlike_17 rfl (lv_at hl 1 rfl) ?_
      refine lv_iload_n hx hb d_R_layAlike_18 rfl (lv_at hl 2 rfl) ?_
      refine lv_icmp_eq (tgt := 110) hx hb d_R_layAlike_19 (by decide) (fun c8 => ?_) (fun c8 => ?_)
      · have h := ifp c8 h
        refine lv_iconst (v := 1) hx hb d_R_layAlike_110 (by decide) ?_
        refine lv_goto (tgt := 115) hx hb d_R_layAlike_111 (by decide) ?_
        exact w_R_layAlike_115 E hA kr ih x1 x2 (1 : Int32) st _ _ _ h I (lv_sub hl [0, 1, 2] rfl)
      · have h := ifn c8 h
        refine lv_aload_n hx hb d_R_layAlike_22 rfl (lv_at hl 0 rfl) ?_
        refine g_rR_kindOf E I k_R_7 d_R_layAlike_23 ?_
        refine lv_iload_n hx hb d_R_layAlike_26 rfl (lv_at hl 1 rfl) ?_
        obtain ⟨b9, h⟩ := ck_some h
        refine l_r_kindOf E I b9 d_R_layAlike_27 ?_
        refine lv_aload_n hx hb d_R_layAlike_28 rfl (lv_at hl 0 rfl) ?_
        refine g_rR_kindOf E I k_R_7 d_R_layAlike_29 ?_
        refine lv_iload_n hx hb d_R_layAlike_32 rfl (lv_at hl 2 rfl) ?_
        obtain ⟨b10, h⟩ := ck_some h
        refine l_r_kindOf E I b10 d_R_layAlike_33 ?_
        refine lv_icmp_ne (tgt := 114) hx hb d_R_layAlike_34 (by decide) (fun c11 => ?_) (fun c11 => ?_)
        · have h := ifn c11 h
          refine lv_iconst (v := 0) hx hb d_R_layAlike_114 (by decide) ?_
          exact w_R_layAlike_115 E hA kr ih x1 x2 (0 : Int32) st _ _ _ h I (lv_sub hl [0, 1, 2] rfl)
        · have h := ifp c11 h
          refine lv_aload_n hx hb d_R_layAlike_37 rfl (lv_at hl 0 rfl) ?_
          refine g_rR_number E I k_R_13 d_R_layAlike_38 ?_
          refine lv_iload_n hx hb d_R_layAlike_41 rfl (lv_at hl 1 rfl) ?_
          obtain ⟨b12, h⟩ := ck_some h
          refine l_r_number E I b12 d_R_layAlike_42 ?_
          refine lv_aload_n hx hb d_R_layAlike_43 rfl (lv_at hl 0 rfl) ?_
          refine g_rR_number E I k_R_13 d_R_layAlike_44 ?_
          refine lv_iload_n hx hb d_R_layAlike_47 rfl (lv_at hl 2 rfl) ?_
          obtain ⟨b13, h⟩ := ck_some h
          refine l_r_number E I b13 d_R_layAlike_48 ?_
          refine W.lcmp hx hb d_R_layAlike_49 ?_
          refine lv_if_ne (tgt := 114) hx hb d_R_layAlike_50 (by decide) (fun c14 => ?_) (fun c14 => ?_)
          · have c14 := mt (lg_cmp_eq _ _).mpr c14
            have h := ifn c14 h
            refine lv_iconst (v := 0) hx hb d_R_layAlike_114 (by decide) ?_
            exact w_R_layAlike_115 E hA kr ih x1 x2 (0 : Int32) st _ _ _ h I (lv_sub hl [0, 1, 2] rfl)
          · have c14 := (lg_cmp_eq _ _).mp c14
            have h := ifp c14 h
            refine lv_aload_n hx hb d_R_layAlike_53 rfl (lv_at hl 0 rfl) ?_
            refine lv_aload_n hx hb d_R_layAlike_54 rfl (lv_at hl 0 rfl) ?_
            refine g_rR_partA E I k_R_17 d_R_layAlike_55 ?_
            refine lv_iload_n hx hb d_R_layAlike_58 rfl (lv_at hl 1 rfl) ?_
            obtain ⟨b15, h⟩ := ck_some h
            refine l_r_partA E I b15 d_R_layAlike_59 ?_
            refine lv_aload_n hx hb d_R_layAlike_60 rfl (lv_at hl 0 rfl) ?_
            refine g_rR_partA E I k_R_17 d_R_layAlike_61 ?_
            refine lv_iload_n hx hb d_R_layAlike_64 rfl (lv_at hl 2 rfl) ?_
            obtain ⟨b16, h⟩ := ck_some h
            refine l_r_partA E I b16 d_R_layAlike_65 ?_
            obtain ⟨r18, st17, h19, h⟩ := bd_some h
            refine cV (As := [.int (r_partA st x1.toNatClampNeg), .int (r_partA st x2.toNatClampNeg)]) (rest := []) E I hA (k_R_areParts h19) g_R_184 ⟨rfl, rfl⟩ 0 rfl rfl rfl hl rfl (Nat.le_of_ble_eq_true rfl) ⟨Nat.le_of_ble_eq_true rfl, Nat.le_of_ble_eq_true rfl⟩ ⟨Nat.zero_le _, Nat.zero_le _⟩ d_R_layAlike_66 rfl (fun H locs I => ?_)
            refine lv_if_eq (tgt := 114) hx hb d_R_layAlike_69 (by decide) (fun c20 => ?_) (fun c20 => ?_)
            · have h := ifp c20 h
              refine lv_iconst (v := 0) hx hb d_R_layAlike_114 (by decide) ?_
              exact w_R_layAlike_115 E hA kr ih x1 x2 (0 : Int32) st17 _ _ _ h I (lv_sub hl [0, 1, 2] rfl)
            · have h := ifn c20 h
              refine lv_aload_n hx hb d_R_layAlike_72 rfl (lv_at hl 0 rfl) ?_
              refine lv_aload_n hx hb d_R_layAlike_73 rfl (lv_at hl 0 rfl) ?_
              refine g_rR_partB E I k_R_20 d_R_layAlike_74 ?_
              refine lv_iload_n hx hb d_R_layAlike_77 rfl (lv_at hl 1 rfl) ?_
              obtain ⟨b21, h⟩ := ck_some h
              refine l_r_partB E I b21 d_R_layAlike_78 ?_
              refine lv_aload_n hx hb d_R_layAlike_79 rfl (lv_at hl 0 rfl) ?_
              refine g_rR_partB E I k_R_20 d_R_layAlike_80 ?_
              refine lv_iload_n hx hb d_R_layAlike_83 rfl (lv_at hl 2 rfl) ?_
              obtain ⟨b22, h⟩ := ck_some h
              refine l_r_partB E I b22 d_R_layAlike_84 ?_
              obtain ⟨r24, st23, h25, h⟩ := bd_some h
              refine cV (As := [.int (r_partB st17 x1.toNatClampNeg), .int (r_partB st17 x2.toNatClampNeg)]) (rest := []) E I hA (k_R_areParts h25) g_R_184 ⟨rfl, rfl⟩ 0 rfl rfl rfl hl rfl (Nat.le_of_ble_eq_true rfl) ⟨Nat.le_of_ble_eq_true rfl, Nat.le_of_ble_eq_true rfl⟩ ⟨Nat.zero_le _, Nat.zero_le _⟩ d_R_layAlike_85 rfl (fun H locs I => ?_)
              refine lv_if_eq (tgt := 114) hx hb d_R_layAlike_88 (by decide) (fun c26 => ?_) (fun c26 => ?_)
              · have h := ifp c26 h
                refine lv_iconst (v := 0) hx hb d_R_layAlike_114 (by decide) ?_
                exact w_R_layAlike_115 E hA kr ih x1 x2 (0 : Int32) st23 _ _ _ h I (lv_sub hl [0, 1, 2] rfl)
              · have h := ifn c26 h
                refine lv_aload_n hx hb d_R_layAlike_91 rfl (lv_at hl 0 rfl) ?_
                refine lv_aload_n hx hb d_R_layAlike_92 rfl (lv_at hl 0 rfl) ?_
                refine g_rR_partC E I k_R_23 d_R_layAlike_93 ?_
                refine lv_iload_n hx hb d_R_layAlike_96 rfl (lv_at hl 1 rfl) ?_
                obtain ⟨b27, h⟩ := ck_some h
                refine l_r_partC E I b27 d_R_layAlike_97 ?_
                refine lv_aload_n hx hb d_R_layAlike_98 rfl (lv_at hl 0 rfl) ?_
                refine g_rR_partC E I k_R_23 d_R_layAlike_99 ?_
                refine lv_iload_n hx hb d_R_layAlike_102 rfl (lv_at hl 2 rfl) ?_
                obtain ⟨b28, h⟩ := ck_some h
                refine l_r_partC E I b28 d_R_layAlike_103 ?_
                obtain ⟨r30, st29, h31, h⟩ := bd_some h
                refine cV (As := [.int (r_partC st23 x1.toNatClampNeg), .int (r_partC st23 x2.toNatClampNeg)]) (rest := []) E I hA (k_R_areParts h31) g_R_184 ⟨rfl, rfl⟩ 0 rfl rfl rfl hl rfl (Nat.le_of_ble_eq_true rfl) ⟨Nat.le_of_ble_eq_true rfl, Nat.le_of_ble_eq_true rfl⟩ ⟨Nat.zero_le _, Nat.zero_le _⟩ d_R_layAlike_104 rfl (fun H locs I => ?_)
                refine lv_if_eq (tgt := 114) hx hb d_R_layAlike_107 (by decide) (fun c32 => ?_) (fun c32 => ?_)
                · have h := ifp c32 h
                  refine lv_iconst (v := 0) hx hb d_R_layAlike_114 (by decide) ?_
                  exact w_R_layAlike_115 E hA kr ih x1 x2 (0 : Int32) st29 _ _ _ h I (lv_sub hl [0, 1, 2] rfl)
                · have h := ifn c32 h
                  refine lv_iconst (v := 1) hx hb d_R_layAlike_110 (by decide) ?_
                  refine lv_goto (tgt := 115) hx hb d_R_layAlike_111 (by decide) ?_
                  exact w_R_layAlike_115 E hA kr ih x1 x2 (1 : Int32) st29 _ _ _ h I (lv_sub hl [0, 1, 2] rfl)
set_option maxHeartbeats 4000000 in
set_option maxRecDepth 100000 in
theorem w_R_layAlike_2  {r : Unit} {t : RS} (E : EC R_R c_R_layAlike 4 p s m args c D (tyL cs)) (hA : ∀ q, H0.size ≤ q → A0 q) (kr : ∀ (H : Heap) (locs : List Loc) (pc : Nat) (ls : Array Slot), IW D (cwR A cs t) A0 H0 H locs → decode c_R_layAlike pc = .ok (.return_, 1) → W p l e rm_R_layAlike s m args below meth c H locs 0 0 Q (F0 m pc ls [])) : ∀ (n : Nat), ∀ (x1 : Int32) (st : RS) (H : Heap) (locs : List Loc) (ls : Array Slot), f_R_layAlike_2 n x1 st = some (r, t) → IW D (cwR A cs st) A0 H0 H locs → lv_has ls 4 [(0, .ref (A 0)), (1, .int x1)] → W p l e rm_R_layAlike s m args below meth c H locs 0 0 Q (F0 m 2 ls []) := by
  intro n
  induction n with
  | zero => intro x1 st H locs ls h I hl; cases h
  | succ n ih =>
    intro x1 st H locs ls h I hl
    have hx := E.1
    have hb := E.2.1
    rw [f_R_layAlike_2] at h
    refine lv_iload_n hx hb d_R_layAlike_2 rfl (lv_at hl 1 rfl) ?_
    refine lv_aload_n hx hb d_R_layAlike_3 rfl (lv_at hl 0 rfl) ?_
    refine g_r_nodes E I k_R_91 d_R_layAlike_4 ?_
    refine lv_icmp_ge (tgt := 152) hx hb d_R_layAlike_7 (by decide) (fun c33 => ?_) (fun c33 => ?_)
    · have h := ifp c33 h
      cases h
      exact kr _ _ _ _ I d_R_layAlike_152
    · have h := ifn c33 h
      refine lv_iconst (v := 0) hx hb d_R_layAlike_10 (by decide) ?_
      refine lv_istore_n (lv' := [(2, .int (0 : Int32)), (0, .ref (A 0)), (1, .int x1)]) hx hb d_R_layAlike_11 rfl hl (by decide) rfl (fun ls hl => ?_)
      exact w_R_layAlike_12 E hA kr ih FU x1 (0 : Int32) st _ _ _ h I (lv_sub hl [1, 2, 0] rfl)
set_option maxHeartbeats 4000000 in
set_option maxRecDepth 100000 in
theorem w_R_layAlike  {r : Unit} {t : RS} (E : EC R_R c_R_layAlike 4 p s m args c D (tyL cs)) (hA : ∀ q, H0.size ≤ q → A0 q) (kr : ∀ (H : Heap) (locs : List Loc) (pc : Nat) (ls : Array Slot), IW D (cwR A cs t) A0 H0 H locs → decode c_R_layAlike pc = .ok (.return_, 1) → W p l e rm_R_layAlike s m args below meth c H locs 0 0 Q (F0 m pc ls [])) : ∀ (st : RS) (H : Heap) (locs : List Loc) (ls : Array Slot), f_R_layAlike st = some (r, t) → IW D (cwR A cs st) A0 H0 H locs → lv_has ls 4 [(0, .ref (A 0))] → W p l e rm_R_layAlike s m args below meth c H locs 0 0 Q (F0 m 0 ls []) := by
  intro st H locs ls h I hl
  have hx := E.1
  have hb := E.2.1
  rw [f_R_layAlike] at h
  refine lv_iconst (v := 0) hx hb d_R_layAlike_0 (by decide) ?_
  refine lv_istore_n (lv' := [(1, .int (0 : Int32)), (0, .ref (A 0))]) hx hb d_R_layAlike_1 rfl hl (by decide) rfl (fun ls hl => ?_)
  exact w_R_layAlike_2 E hA kr FU (0 : Int32) st _ _ _ h I (lv_sub hl [1, 0] rfl)
set_option maxHeartbeats 4000000 in
set_option maxRecDepth 100000 in
theorem k_R_layAlike {st t : RS} {r : Unit} (h : f_R_layAlike st = some (r, t)) : Cn l y_R_layAlike c_R_layAlike 4 none rm_R_layAlike D (tyL cs) (cwR A cs st) (cwR A cs t) [.ref (A 0)] (none) := by
  refine cn_intro (by decide) (Nat.le_of_ble_eq_true rfl) ?_
  intro p e s m below meth c A0 Q ls E hr hlk hA hA0 hQ I hl
  exact w_R_layAlike E hA (rt_v E hr hlk hA0 hQ) st _ _ _ h I (lv_sub hl [0] rfl)
abbrev rm_R_isProved : Room := { frames := 2, cells := 0, slots := 0, locals := 45 }
noncomputable def f_R_isProved (x1 : Int32) (st : RS) : Option (Int32 × RS) :=
  ck x1 100 <|
  nx (r_nodeM st x1.toNatClampNeg) fun x2_2 =>
  ck x2_2 64 <|
  nx (r_partA st x2_2.toNatClampNeg) fun x3_4 =>
  ck x2_2 64 <|
  nx (r_partB st x2_2.toNatClampNeg) fun x4_6 =>
  ck x1 100 <|
  if (r_kindM st x1.toNatClampNeg) = 1 then (
    ck x3_4 64 <|
    if (r_kindOf st x3_4.toNatClampNeg) = 0 then (
      ck x4_6 64 <|
      if (r_kindOf st x4_6.toNatClampNeg) = 0 then (
        ck x3_4 64 <|
        ck x4_6 64 <|
        if (r_number st x3_4.toNatClampNeg) = (r_number st x4_6.toNatClampNeg) then (
          some ((0 : Int32), st)
        ) else (
          some ((1 : Int32), st)
        )
      ) else (
        some ((0 : Int32), st)
      )
    ) else (
      some ((0 : Int32), st)
    )
  ) else (
    if (r_kindM st x1.toNatClampNeg) = 2 then (
      bd (f_R_isNumber x4_6 (0 : Int64) st) fun r18 st17 =>
      zr r18 st17
    ) else (
      if (r_kindM st x1.toNatClampNeg) = 3 then (
        bd (f_R_layAlike st) fun _ st22 =>
        ck x2_2 64 <|
        ck (((64 : Int32) * x4_6) + (r_partC st22 x2_2.toNatClampNeg)) 4096 <|
        zr (r_alike st22 (((64 : Int32) * x4_6) + (r_partC st22 x2_2.toNatClampNeg)).toNatClampNeg) st22
      ) else (
        if (r_kindM st x1.toNatClampNeg) = 4 then (
          ck x2_2 64 <|
          if (r_kindOf st x2_2.toNatClampNeg) = (5 : Int32) then (
            bd (f_R_isNumber x4_6 (1 : Int64) st) fun r36 st35 =>
            zr r36 st35
          ) else (
            bd (f_R_isNumber x4_6 (0 : Int64) st) fun r32 st31 =>
            zr r32 st31
          )
        ) else (
          some ((0 : Int32), st)
        )
      )
    )
  )
set_option maxHeartbeats 4000000 in
set_option maxRecDepth 100000 in
theorem w_R_isProved  {r : Int32} {t : RS} (E : EC R_R c_R_isProved 5 p s m args c D (tyL cs)) (hA : ∀ q, H0.size ≤ q → A0 q) (kr : ∀ (H : Heap) (locs : List Loc) (pc : Nat) (ls : Array Slot), IW D (cwR A cs t) A0 H0 H locs → narrow .boolean (.int r) = .int r → decode c_R_isProved pc = .ok (.ireturn, 1) → W p l e rm_R_isProved s m args below meth c H locs 0 0 Q (F0 m pc ls [.int r])) : ∀ (x1 : Int32) (st : RS) (H : Heap) (locs : List Loc) (ls : Array Slot), f_R_isProved x1 st = some (r, t) → IW D (cwR A cs st) A0 H0 H locs → lv_has ls 5 [(0, .ref (A 0)), (1, .int x1)] → W p l e rm_R_isProved s m args below meth c H locs 0 0 Q (F0 m 0 ls []) := by
  intro x1 st H locs ls h I hl
  have hx := E.1
  have hb := E.2.1
  rw [f_R_isProved] at h
  refine lv_aload_n hx hb d_R_isProved_0 rfl (lv_at hl 0 rfl) ?_
  refine g_rR_nodeM E I k_R_51 d_R_isProved_1 ?_
  refine lv_iload_n hx hb d_R_isProved_4 rfl (lv_at hl 1 rfl) ?_
  obtain ⟨b1, h⟩ := ck_some h
  refine l_r_nodeM E I b1 d_R_isProved_5 ?_
  refine lv_topi (fun x2_2 ex2_2 => ?_)
  have h := nx_k ex2_2 h
  refine lv_istore_n (lv' := [(2, .int x2_2), (0, .ref (A 0)), (1, .int x1)]) hx hb d_R_isProved_6 rfl hl (by decide) rfl (fun ls hl => ?_)
  refine lv_aload_n hx hb d_R_isProved_7 rfl (lv_at hl 1 rfl) ?_
  refine g_rR_partA E I k_R_17 d_R_isProved_8 ?_
  refine lv_iload_n hx hb d_R_isProved_11 rfl (lv_at hl 0 rfl) ?_
  obtain ⟨b3, h⟩ := ck_some h
  refine l_r_partA E I b3 d_R_isProved_12 ?_
  refine lv_topi (fun x3_4 ex3_4 => ?_)
  have h := nx_k ex3_4 h
  refine lv_istore_n (lv' := [(3, .int x3_4), (2, .int x2_2), (0, .ref (A 0)), (1, .int x1)]) hx hb d_R_isProved_13 rfl hl (by decide) rfl (fun ls hl => ?_)
  refine lv_aload_n hx hb d_R_isProved_14 rfl (lv_at hl 2 rfl) ?_
  refine g_rR_partB E I k_R_20 d_R_isProved_15 ?_
  refine lv_iload_n hx hb d_R_isProved_18 rfl (lv_at hl 1 rfl) ?_
  obtain ⟨b5, h⟩ := ck_some h
  refine l_r_partB E I b5 d_R_isProved_19 ?_
  refine lv_topi (fun x4_6 ex4_6 => ?_)
  have h := nx_k ex4_6 h
  refine lv_istore (lv' := [(4, .int x4_6), (3, .int x3_4), (2, .int x2_2), (0, .ref (A 0)), (1, .int x1)]) hx hb d_R_isProved_20 hl (by decide) rfl (fun ls hl => ?_)
  refine lv_aload_n hx hb d_R_isProved_22 rfl (lv_at hl 3 rfl) ?_
  refine g_rR_kindM E I k_R_48 d_R_isProved_23 ?_
  refine lv_iload_n hx hb d_R_isProved_26 rfl (lv_at hl 4 rfl) ?_
  obtain ⟨b7, h⟩ := ck_some h
  refine l_r_kindM E I b7 d_R_isProved_27 ?_
  by_cases c8 : (r_kindM st x1.toNatClampNeg) = 1
  · have h := ifp c8 h
    refine lv_tableIn (off := 32) (tgt := 60) hx hb d_R_isProved_28 (by rw [c8]; decide) (by rw [c8]; decide) (by rw [c8]; rfl) (by decide) ?_
    refine lv_aload_n hx hb d_R_isProved_60 rfl (lv_at hl 3 rfl) ?_
    refine g_rR_kindOf E I k_R_7 d_R_isProved_61 ?_
    refine lv_iload_n hx hb d_R_isProved_64 rfl (lv_at hl 1 rfl) ?_
    obtain ⟨b9, h⟩ := ck_some h
    refine l_r_kindOf E I b9 d_R_isProved_65 ?_
    refine lv_if_ne (tgt := 100) hx hb d_R_isProved_66 (by decide) (fun c10 => ?_) (fun c10 => ?_)
    · have h := ifn c10 h
      refine lv_iconst (v := 0) hx hb d_R_isProved_100 (by decide) ?_
      cases h
      exact kr _ _ _ _ I (by decide) d_R_isProved_101
    · have h := ifp c10 h
      refine lv_aload_n hx hb d_R_isProved_69 rfl (lv_at hl 3 rfl) ?_
      refine g_rR_kindOf E I k_R_7 d_R_isProved_70 ?_
      refine lv_iload hx hb d_R_isProved_73 (lv_at hl 0 rfl) ?_
      obtain ⟨b11, h⟩ := ck_some h
      refine l_r_kindOf E I b11 d_R_isProved_75 ?_
      refine lv_if_ne (tgt := 100) hx hb d_R_isProved_76 (by decide) (fun c12 => ?_) (fun c12 => ?_)
      · have h := ifn c12 h
        refine lv_iconst (v := 0) hx hb d_R_isProved_100 (by decide) ?_
        cases h
        exact kr _ _ _ _ I (by decide) d_R_isProved_101
      · have h := ifp c12 h
        refine lv_aload_n hx hb d_R_isProved_79 rfl (lv_at hl 3 rfl) ?_
        refine g_rR_number E I k_R_13 d_R_isProved_80 ?_
        refine lv_iload_n hx hb d_R_isProved_83 rfl (lv_at hl 1 rfl) ?_
        obtain ⟨b13, h⟩ := ck_some h
        refine l_r_number E I b13 d_R_isProved_84 ?_
        refine lv_aload_n hx hb d_R_isProved_85 rfl (lv_at hl 3 rfl) ?_
        refine g_rR_number E I k_R_13 d_R_isProved_86 ?_
        refine lv_iload hx hb d_R_isProved_89 (lv_at hl 0 rfl) ?_
        obtain ⟨b14, h⟩ := ck_some h
        refine l_r_number E I b14 d_R_isProved_91 ?_
        refine W.lcmp hx hb d_R_isProved_92 ?_
        refine lv_if_eq (tgt := 100) hx hb d_R_isProved_93 (by decide) (fun c15 => ?_) (fun c15 => ?_)
        · have c15 := (lg_cmp_eq _ _).mp c15
          have h := ifp c15 h
          refine lv_iconst (v := 0) hx hb d_R_isProved_100 (by decide) ?_
          cases h
          exact kr _ _ _ _ I (by decide) d_R_isProved_101
        · have c15 := mt (lg_cmp_eq _ _).mpr c15
          have h := ifn c15 h
          refine lv_iconst (v := 1) hx hb d_R_isProved_96 (by decide) ?_
          refine lv_goto (tgt := 101) hx hb d_R_isProved_97 (by decide) ?_
          cases h
          exact kr _ _ _ _ I (by decide) d_R_isProved_101
  · have h := ifn c8 h
    by_cases c16 : (r_kindM st x1.toNatClampNeg) = 2
    · have h := ifp c16 h
      refine lv_tableIn (off := 74) (tgt := 102) hx hb d_R_isProved_28 (by rw [c16]; decide) (by rw [c16]; decide) (by rw [c16]; rfl) (by decide) ?_
      refine lv_aload_n hx hb d_R_isProved_102 rfl (lv_at hl 3 rfl) ?_
      refine lv_iload hx hb d_R_isProved_103 (lv_at hl 0 rfl) ?_
      refine lv_lconst (v := 0) hx hb d_R_isProved_105 (by decide) ?_
      obtain ⟨r18, st17, h19, h⟩ := bd_some h
      refine cV (As := [.int x4_6, .long (0 : Int64)]) (rest := []) E I hA (k_R_isNumber h19) g_R_187 ⟨rfl, rfl⟩ 0 rfl rfl rfl hl rfl (Nat.le_of_ble_eq_true rfl) ⟨Nat.le_of_ble_eq_true rfl, Nat.le_of_ble_eq_true rfl⟩ ⟨Nat.zero_le _, Nat.zero_le _⟩ d_R_isProved_106 rfl (fun H locs I => ?_)
      obtain ⟨z20, h⟩ := zr_some h
      cases h
      exact kr _ _ _ _ I (zr_nar z20) d_R_isProved_109
    · have h := ifn c16 h
      by_cases c21 : (r_kindM st x1.toNatClampNeg) = 3
      · have h := ifp c21 h
        refine lv_tableIn (off := 82) (tgt := 110) hx hb d_R_isProved_28 (by rw [c21]; decide) (by rw [c21]; decide) (by rw [c21]; rfl) (by decide) ?_
        refine lv_aload_n hx hb d_R_isProved_110 rfl (lv_at hl 3 rfl) ?_
        obtain ⟨u24, st22, h23, h⟩ := bd_some h
        refine cV (As := []) (rest := []) E I hA (k_R_layAlike h23) g_R_191 ⟨rfl, rfl⟩ 0 rfl rfl rfl hl rfl (Nat.le_of_ble_eq_true rfl) ⟨Nat.le_of_ble_eq_true rfl, Nat.le_of_ble_eq_true rfl⟩ ⟨Nat.zero_le _, Nat.zero_le _⟩ d_R_isProved_111 rfl (fun H locs I => ?_)
        refine lv_aload_n hx hb d_R_isProved_114 rfl (lv_at hl 3 rfl) ?_
        refine g_rR_alike E I k_R_88 d_R_isProved_115 ?_
        refine lv_bipush (v := 64) hx hb d_R_isProved_118 (by decide) ?_
        refine lv_iload hx hb d_R_isProved_120 (lv_at hl 0 rfl) ?_
        refine lv_imul hx hb d_R_isProved_122 ?_
        refine lv_aload_n hx hb d_R_isProved_123 rfl (lv_at hl 3 rfl) ?_
        refine g_rR_partC E I k_R_23 d_R_isProved_124 ?_
        refine lv_iload_n hx hb d_R_isProved_127 rfl (lv_at hl 2 rfl) ?_
        obtain ⟨b25, h⟩ := ck_some h
        refine l_r_partC E I b25 d_R_isProved_128 ?_
        refine lv_iadd hx hb d_R_isProved_129 ?_
        obtain ⟨b26, h⟩ := ck_some h
        refine l_r_alike E I b26 d_R_isProved_130 ?_
        obtain ⟨z27, h⟩ := zr_some h
        cases h
        exact kr _ _ _ _ I (zr_nar z27) d_R_isProved_131
      · have h := ifn c21 h
        by_cases c28 : (r_kindM st x1.toNatClampNeg) = 4
        · have h := ifp c28 h
          refine lv_tableIn (off := 104) (tgt := 132) hx hb d_R_isProved_28 (by rw [c28]; decide) (by rw [c28]; decide) (by rw [c28]; rfl) (by decide) ?_
          refine lv_aload_n hx hb d_R_isProved_132 rfl (lv_at hl 3 rfl) ?_
          refine lv_iload hx hb d_R_isProved_133 (lv_at hl 0 rfl) ?_
          refine lv_aload_n hx hb d_R_isProved_135 rfl (lv_at hl 3 rfl) ?_
          refine g_rR_kindOf E I k_R_7 d_R_isProved_136 ?_
          refine lv_iload_n hx hb d_R_isProved_139 rfl (lv_at hl 2 rfl) ?_
          obtain ⟨b29, h⟩ := ck_some h
          refine l_r_kindOf E I b29 d_R_isProved_140 ?_
          refine lv_iconst (v := 5) hx hb d_R_isProved_141 (by decide) ?_
          refine lv_icmp_ne (tgt := 149) hx hb d_R_isProved_142 (by decide) (fun c30 => ?_) (fun c30 => ?_)
          · have h := ifn c30 h
            refine lv_lconst (v := 0) hx hb d_R_isProved_149 (by decide) ?_
            obtain ⟨r32, st31, h33, h⟩ := bd_some h
            refine cV (As := [.int x4_6, .long (0 : Int64)]) (rest := []) E I hA (k_R_isNumber h33) g_R_187 ⟨rfl, rfl⟩ 0 rfl rfl rfl hl rfl (Nat.le_of_ble_eq_true rfl) ⟨Nat.le_of_ble_eq_true rfl, Nat.le_of_ble_eq_true rfl⟩ ⟨Nat.zero_le _, Nat.zero_le _⟩ d_R_isProved_150 rfl (fun H locs I => ?_)
            obtain ⟨z34, h⟩ := zr_some h
            cases h
            exact kr _ _ _ _ I (zr_nar z34) d_R_isProved_153
          · have h := ifp c30 h
            refine lv_lconst (v := 1) hx hb d_R_isProved_145 (by decide) ?_
            refine lv_goto (tgt := 150) hx hb d_R_isProved_146 (by decide) ?_
            obtain ⟨r36, st35, h37, h⟩ := bd_some h
            refine cV (As := [.int x4_6, .long (1 : Int64)]) (rest := []) E I hA (k_R_isNumber h37) g_R_187 ⟨rfl, rfl⟩ 0 rfl rfl rfl hl rfl (Nat.le_of_ble_eq_true rfl) ⟨Nat.le_of_ble_eq_true rfl, Nat.le_of_ble_eq_true rfl⟩ ⟨Nat.zero_le _, Nat.zero_le _⟩ d_R_isProved_150 rfl (fun H locs I => ?_)
            obtain ⟨z38, h⟩ := zr_some h
            cases h
            exact kr _ _ _ _ I (zr_nar z38) d_R_isProved_153
        · have h := ifn c28 h
          have tc8 := ne_ti (z := 1) (by decide) c8
          have tc16 := ne_ti (z := 2) (by decide) c16
          have tc21 := ne_ti (z := 3) (by decide) c21
          have tc28 := ne_ti (z := 4) (by decide) c28
          refine lv_tableOut (tgt := 154) hx hb d_R_isProved_28 (by omega) (by decide) ?_
          refine lv_iconst (v := 0) hx hb d_R_isProved_154 (by decide) ?_
          cases h
          exact kr _ _ _ _ I (by decide) d_R_isProved_155
set_option maxHeartbeats 4000000 in
set_option maxRecDepth 100000 in
theorem k_R_isProved {x1 : Int32} {st t : RS} {r : Int32} (h : f_R_isProved x1 st = some (r, t)) : Cn l y_R_isProved c_R_isProved 5 (some .boolean) rm_R_isProved D (tyL cs) (cwR A cs st) (cwR A cs t) [.ref (A 0), .int x1] (some (.int r)) := by
  refine cn_intro (by decide) (Nat.le_of_ble_eq_true rfl) ?_
  intro p e s m below meth c A0 Q ls E hr hlk hA hA0 hQ I hl
  exact w_R_isProved E hA (rt_z E hr hlk hA0 hQ) x1 st _ _ _ h I (lv_sub hl [0, 1] rfl)
abbrev rm_R_mutant : Room := { frames := 3, cells := 0, slots := 0, locals := 69 }
noncomputable def f_R_mutant (x1 : Int32) (x2 : Int32) (st : RS) : Option (Int32 × RS) :=
  bd (f_R_isMutant x1 st) fun r2 st1 =>
  if r2 = 0 then (
    some ((-1 : Int32), st1)
  ) else (
    if x2 = 0 then (
      ck x1 100 <|
      some ((r_kindM st1 x1.toNatClampNeg), st1)
    ) else (
      if x2 = 1 then (
        ck x1 100 <|
        some ((r_nodeM st1 x1.toNatClampNeg), st1)
      ) else (
        if x2 = 2 then (
          ck x1 100 <|
          some ((r_outcome st1 x1.toNatClampNeg), st1)
        ) else (
          if x2 = 3 then (
            ck x1 100 <|
            some ((r_ender st1 x1.toNatClampNeg), st1)
          ) else (
            if x2 = 4 then (
              bd (f_R_isProved x1 st1) fun r15 st14 =>
              if r15 = 0 then (
                some ((0 : Int32), st14)
              ) else (
                some ((1 : Int32), st14)
              )
            ) else (
              some ((-1 : Int32), st1)
            )
          )
        )
      )
    )
  )
set_option maxHeartbeats 4000000 in
set_option maxRecDepth 100000 in
theorem w_R_mutant  {r : Int32} {t : RS} (E : EC R_R c_R_mutant 3 p s m args c D (tyL cs)) (hA : ∀ q, H0.size ≤ q → A0 q) (kr : ∀ (H : Heap) (locs : List Loc) (pc : Nat) (ls : Array Slot), IW D (cwR A cs t) A0 H0 H locs → decode c_R_mutant pc = .ok (.ireturn, 1) → W p l e rm_R_mutant s m args below meth c H locs 0 0 Q (F0 m pc ls [.int r])) : ∀ (x1 : Int32) (x2 : Int32) (st : RS) (H : Heap) (locs : List Loc) (ls : Array Slot), f_R_mutant x1 x2 st = some (r, t) → IW D (cwR A cs st) A0 H0 H locs → lv_has ls 3 [(0, .ref (A 0)), (1, .int x1), (2, .int x2)] → W p l e rm_R_mutant s m args below meth c H locs 0 0 Q (F0 m 0 ls []) := by
  intro x1 x2 st H locs ls h I hl
  have hx := E.1
  have hb := E.2.1
  rw [f_R_mutant] at h
  refine lv_aload_n hx hb d_R_mutant_0 rfl (lv_at hl 0 rfl) ?_
  refine lv_iload_n hx hb d_R_mutant_1 rfl (lv_at hl 1 rfl) ?_
  obtain ⟨r2, st1, h3, h⟩ := bd_some h
  refine cV (As := [.int x1]) (rest := []) E I hA (k_R_isMutant h3) g_R_194 ⟨rfl, rfl⟩ 0 rfl rfl rfl hl rfl (Nat.le_of_ble_eq_true rfl) ⟨Nat.le_of_ble_eq_true rfl, Nat.le_of_ble_eq_true rfl⟩ ⟨Nat.zero_le _, Nat.zero_le _⟩ d_R_mutant_2 rfl (fun H locs I => ?_)
  refine lv_if_ne (tgt := 10) hx hb d_R_mutant_5 (by decide) (fun c4 => ?_) (fun c4 => ?_)
  · have h := ifn c4 h
    refine lv_iload_n hx hb d_R_mutant_10 rfl (lv_at hl 2 rfl) ?_
    by_cases c5 : x2 = 0
    · have h := ifp c5 h
      refine lv_tableIn (off := 33) (tgt := 44) hx hb d_R_mutant_11 (by rw [c5]; decide) (by rw [c5]; decide) (by rw [c5]; rfl) (by decide) ?_
      refine lv_aload_n hx hb d_R_mutant_44 rfl (lv_at hl 0 rfl) ?_
      refine g_rR_kindM E I k_R_48 d_R_mutant_45 ?_
      refine lv_iload_n hx hb d_R_mutant_48 rfl (lv_at hl 1 rfl) ?_
      obtain ⟨b6, h⟩ := ck_some h
      refine l_r_kindM E I b6 d_R_mutant_49 ?_
      cases h
      exact kr _ _ _ _ I d_R_mutant_50
    · have h := ifn c5 h
      by_cases c7 : x2 = 1
      · have h := ifp c7 h
        refine lv_tableIn (off := 40) (tgt := 51) hx hb d_R_mutant_11 (by rw [c7]; decide) (by rw [c7]; decide) (by rw [c7]; rfl) (by decide) ?_
        refine lv_aload_n hx hb d_R_mutant_51 rfl (lv_at hl 0 rfl) ?_
        refine g_rR_nodeM E I k_R_51 d_R_mutant_52 ?_
        refine lv_iload_n hx hb d_R_mutant_55 rfl (lv_at hl 1 rfl) ?_
        obtain ⟨b8, h⟩ := ck_some h
        refine l_r_nodeM E I b8 d_R_mutant_56 ?_
        cases h
        exact kr _ _ _ _ I d_R_mutant_57
      · have h := ifn c7 h
        by_cases c9 : x2 = 2
        · have h := ifp c9 h
          refine lv_tableIn (off := 47) (tgt := 58) hx hb d_R_mutant_11 (by rw [c9]; decide) (by rw [c9]; decide) (by rw [c9]; rfl) (by decide) ?_
          refine lv_aload_n hx hb d_R_mutant_58 rfl (lv_at hl 0 rfl) ?_
          refine g_rR_outcome E I k_R_54 d_R_mutant_59 ?_
          refine lv_iload_n hx hb d_R_mutant_62 rfl (lv_at hl 1 rfl) ?_
          obtain ⟨b10, h⟩ := ck_some h
          refine l_r_outcome E I b10 d_R_mutant_63 ?_
          cases h
          exact kr _ _ _ _ I d_R_mutant_64
        · have h := ifn c9 h
          by_cases c11 : x2 = 3
          · have h := ifp c11 h
            refine lv_tableIn (off := 54) (tgt := 65) hx hb d_R_mutant_11 (by rw [c11]; decide) (by rw [c11]; decide) (by rw [c11]; rfl) (by decide) ?_
            refine lv_aload_n hx hb d_R_mutant_65 rfl (lv_at hl 0 rfl) ?_
            refine g_rR_ender E I k_R_57 d_R_mutant_66 ?_
            refine lv_iload_n hx hb d_R_mutant_69 rfl (lv_at hl 1 rfl) ?_
            obtain ⟨b12, h⟩ := ck_some h
            refine l_r_ender E I b12 d_R_mutant_70 ?_
            cases h
            exact kr _ _ _ _ I d_R_mutant_71
          · have h := ifn c11 h
            by_cases c13 : x2 = 4
            · have h := ifp c13 h
              refine lv_tableIn (off := 61) (tgt := 72) hx hb d_R_mutant_11 (by rw [c13]; decide) (by rw [c13]; decide) (by rw [c13]; rfl) (by decide) ?_
              refine lv_aload_n hx hb d_R_mutant_72 rfl (lv_at hl 0 rfl) ?_
              refine lv_iload_n hx hb d_R_mutant_73 rfl (lv_at hl 1 rfl) ?_
              obtain ⟨r15, st14, h16, h⟩ := bd_some h
              refine cV (As := [.int x1]) (rest := []) E I hA (k_R_isProved h16) g_R_197 ⟨rfl, rfl⟩ 0 rfl rfl rfl hl rfl (Nat.le_of_ble_eq_true rfl) ⟨Nat.le_of_ble_eq_true rfl, Nat.le_of_ble_eq_true rfl⟩ ⟨Nat.zero_le _, Nat.zero_le _⟩ d_R_mutant_74 rfl (fun H locs I => ?_)
              refine lv_if_eq (tgt := 84) hx hb d_R_mutant_77 (by decide) (fun c17 => ?_) (fun c17 => ?_)
              · have h := ifp c17 h
                refine lv_iconst (v := 0) hx hb d_R_mutant_84 (by decide) ?_
                cases h
                exact kr _ _ _ _ I d_R_mutant_85
              · have h := ifn c17 h
                refine lv_iconst (v := 1) hx hb d_R_mutant_80 (by decide) ?_
                refine lv_goto (tgt := 85) hx hb d_R_mutant_81 (by decide) ?_
                cases h
                exact kr _ _ _ _ I d_R_mutant_85
            · have h := ifn c13 h
              have tc5 := ne_ti (z := 0) (by decide) c5
              have tc7 := ne_ti (z := 1) (by decide) c7
              have tc9 := ne_ti (z := 2) (by decide) c9
              have tc11 := ne_ti (z := 3) (by decide) c11
              have tc13 := ne_ti (z := 4) (by decide) c13
              refine lv_tableOut (tgt := 86) hx hb d_R_mutant_11 (by omega) (by decide) ?_
              refine lv_iconst (v := -1) hx hb d_R_mutant_86 (by decide) ?_
              cases h
              exact kr _ _ _ _ I d_R_mutant_87
  · have h := ifp c4 h
    refine lv_iconst (v := -1) hx hb d_R_mutant_8 (by decide) ?_
    cases h
    exact kr _ _ _ _ I d_R_mutant_9
set_option maxHeartbeats 4000000 in
set_option maxRecDepth 100000 in
theorem k_R_mutant {x1 : Int32} {x2 : Int32} {st t : RS} {r : Int32} (h : f_R_mutant x1 x2 st = some (r, t)) : Cn l y_R_mutant c_R_mutant 3 (some .int) rm_R_mutant D (tyL cs) (cwR A cs st) (cwR A cs t) [.ref (A 0), .int x1, .int x2] (some (.int r)) := by
  refine cn_intro (by decide) (Nat.le_of_ble_eq_true rfl) ?_
  intro p e s m below meth c A0 Q ls E hr hlk hA hA0 hQ I hl
  exact w_R_mutant E hA (rt_i E hr hlk hA0 hQ) x1 x2 st _ _ _ h I (lv_sub hl [0, 1, 2] rfl)
end Mmr3
