section Mmc1
variable {p : Program} {l : Launch} {e : Env} {s : State} {m : MethodId} {args : Array Value} {below : List Frame} {meth : Method} {c : Code} {Q : State → Prop} {D : va_G} {A0 : Nat → Prop} {H0 : Heap} {A : Nat → Nat} {cs : ClassId × ClassId × ClassId}
abbrev rm_K_worth (d : Nat) : Room := { frames := 2 * d + 1, cells := 0, slots := 0, locals := 80 * d + 40 }
abbrev rm_K_worthOfChoice (d : Nat) : Room := { frames := 2 * d + 2, cells := 0, slots := 0, locals := 80 * d + 80 }
abbrev rm_K_worthOfLoop (d : Nat) : Room := { frames := 2 * d + 2, cells := 0, slots := 0, locals := 80 * d + 80 }
abbrev rm_K_worthOfTwo (d : Nat) : Room := { frames := 2 * d + 2, cells := 0, slots := 0, locals := 80 * d + 80 }
abbrev rm_T_partCount : Room := { frames := 0, cells := 0, slots := 0, locals := 0 }
noncomputable def f_T_partCount (x0 : Int32) (st : CS) : Option (Int32 × CS) :=
  if (2 : Int32) < x0 then (
    if x0 = (8 : Int32) then (
      some ((3 : Int32), st)
    ) else (
      some ((2 : Int32), st)
    )
  ) else (
    some ((0 : Int32), st)
  )
set_option maxHeartbeats 4000000 in
set_option maxRecDepth 100000 in
theorem w_T_partCount  {r : Int32} {t : CS} (E : EC R_T c_T_partCount 1 p s m args c D (tyL cs)) (hA : ∀ q, H0.size ≤ q → A0 q) (kr : ∀ (H : Heap) (locs : List Loc) (pc : Nat) (ls : Array Slot), IW D (cwC A cs t) A0 H0 H locs → decode c_T_partCount pc = .ok (.ireturn, 1) → W p l e rm_T_partCount s m args below meth c H locs 0 0 Q (F0 m pc ls [.int r])) : ∀ (x0 : Int32) (st : CS) (H : Heap) (locs : List Loc) (ls : Array Slot), f_T_partCount x0 st = some (r, t) → IW D (cwC A cs st) A0 H0 H locs → lv_has ls 1 [(0, .int x0)] → W p l e rm_T_partCount s m args below meth c H locs 0 0 Q (F0 m 0 ls []) := by
  intro x0 st H locs ls h I hl
  have hx := E.1
  have hb := E.2.1
  rw [f_T_partCount] at h
  refine lv_iload_n hx hb d_T_partCount_0 rfl (lv_at hl 0 rfl) ?_
  refine lv_iconst (v := 2) hx hb d_T_partCount_1 (by decide) ?_
  refine lv_icmp_gt (tgt := 7) hx hb d_T_partCount_2 (by decide) (fun c1 => ?_) (fun c1 => ?_)
  · have h := ifp c1 h
    refine lv_iload_n hx hb d_T_partCount_7 rfl (lv_at hl 0 rfl) ?_
    refine lv_bipush (v := 8) hx hb d_T_partCount_8 (by decide) ?_
    refine lv_icmp_ne (tgt := 17) hx hb d_T_partCount_10 (by decide) (fun c2 => ?_) (fun c2 => ?_)
    · have h := ifn c2 h
      refine lv_iconst (v := 2) hx hb d_T_partCount_17 (by decide) ?_
      cases h
      exact kr _ _ _ _ I d_T_partCount_18
    · have h := ifp c2 h
      refine lv_iconst (v := 3) hx hb d_T_partCount_13 (by decide) ?_
      refine lv_goto (tgt := 18) hx hb d_T_partCount_14 (by decide) ?_
      cases h
      exact kr _ _ _ _ I d_T_partCount_18
  · have h := ifn c1 h
    refine lv_iconst (v := 0) hx hb d_T_partCount_5 (by decide) ?_
    cases h
    exact kr _ _ _ _ I d_T_partCount_6
set_option maxHeartbeats 4000000 in
set_option maxRecDepth 100000 in
theorem k_T_partCount {x0 : Int32} {st t : CS} {r : Int32} (h : f_T_partCount x0 st = some (r, t)) : Cn l y_T_partCount c_T_partCount 1 (some .int) rm_T_partCount D (tyL cs) (cwC A cs st) (cwC A cs t) [.int x0] (some (.int r)) := by
  refine cn_intro (by decide) (Nat.le_of_ble_eq_true rfl) ?_
  intro p e s m below meth c A0 Q ls E hr hlk hA hA0 hQ I hl
  exact w_T_partCount E hA (rt_i E hr hlk hA0 hQ) x0 st _ _ _ h I (lv_sub hl [0] rfl)
abbrev rm_T_has : Room := { frames := 0, cells := 0, slots := 0, locals := 0 }
noncomputable def f_T_has (x1 : Int32) (st : CS) : Option (Int32 × CS) :=
  if x1 < 0 then (
    some ((0 : Int32), st)
  ) else (
    if (cT_size st) ≤ x1 then (
      some ((0 : Int32), st)
    ) else (
      some ((1 : Int32), st)
    )
  )
set_option maxHeartbeats 4000000 in
set_option maxRecDepth 100000 in
theorem w_T_has  {r : Int32} {t : CS} (E : EC R_T c_T_has 2 p s m args c D (tyL cs)) (hA : ∀ q, H0.size ≤ q → A0 q) (kr : ∀ (H : Heap) (locs : List Loc) (pc : Nat) (ls : Array Slot), IW D (cwC A cs t) A0 H0 H locs → narrow .boolean (.int r) = .int r → decode c_T_has pc = .ok (.ireturn, 1) → W p l e rm_T_has s m args below meth c H locs 0 0 Q (F0 m pc ls [.int r])) : ∀ (x1 : Int32) (st : CS) (H : Heap) (locs : List Loc) (ls : Array Slot), f_T_has x1 st = some (r, t) → IW D (cwC A cs st) A0 H0 H locs → lv_has ls 2 [(0, .ref (A 1)), (1, .int x1)] → W p l e rm_T_has s m args below meth c H locs 0 0 Q (F0 m 0 ls []) := by
  intro x1 st H locs ls h I hl
  have hx := E.1
  have hb := E.2.1
  rw [f_T_has] at h
  refine lv_iload_n hx hb d_T_has_0 rfl (lv_at hl 1 rfl) ?_
  refine lv_if_lt (tgt := 16) hx hb d_T_has_1 (by decide) (fun c1 => ?_) (fun c1 => ?_)
  · have h := ifp c1 h
    refine lv_iconst (v := 0) hx hb d_T_has_16 (by decide) ?_
    cases h
    exact kr _ _ _ _ I (by decide) d_T_has_17
  · have h := ifn c1 h
    refine lv_iload_n hx hb d_T_has_4 rfl (lv_at hl 1 rfl) ?_
    refine lv_aload_n hx hb d_T_has_5 rfl (lv_at hl 0 rfl) ?_
    refine g_cT_size E I k_T_34 d_T_has_6 ?_
    refine lv_icmp_ge (tgt := 16) hx hb d_T_has_9 (by decide) (fun c2 => ?_) (fun c2 => ?_)
    · have h := ifp c2 h
      refine lv_iconst (v := 0) hx hb d_T_has_16 (by decide) ?_
      cases h
      exact kr _ _ _ _ I (by decide) d_T_has_17
    · have h := ifn c2 h
      refine lv_iconst (v := 1) hx hb d_T_has_12 (by decide) ?_
      refine lv_goto (tgt := 17) hx hb d_T_has_13 (by decide) ?_
      cases h
      exact kr _ _ _ _ I (by decide) d_T_has_17
set_option maxHeartbeats 4000000 in
set_option maxRecDepth 100000 in
theorem k_T_has {x1 : Int32} {st t : CS} {r : Int32} (h : f_T_has x1 st = some (r, t)) : Cn l y_T_has c_T_has 2 (some .boolean) rm_T_has D (tyL cs) (cwC A cs st) (cwC A cs t) [.ref (A 1), .int x1] (some (.int r)) := by
  refine cn_intro (by decide) (Nat.le_of_ble_eq_true rfl) ?_
  intro p e s m below meth c A0 Q ls E hr hlk hA hA0 hQ I hl
  exact w_T_has E hA (rt_z E hr hlk hA0 hQ) x1 st _ _ _ h I (lv_sub hl [0, 1] rfl)
abbrev rm_T_areEarlier : Room := { frames := 1, cells := 0, slots := 0, locals := 21 }
noncomputable def f_T_areEarlier (x1 : Int32) (x2 : Int64) (x4 : Int32) (x5 : Int32) (st : CS) : Option (Int32 × CS) :=
  if x2 < (0 : Int64) then (
    some ((0 : Int32), st)
  ) else (
    if (cT_size st).toInt64 ≤ x2 then (
      some ((0 : Int32), st)
    ) else (
      bd (f_T_has x4 st) fun r4 st3 =>
      if r4 = 0 then (
        some ((0 : Int32), st3)
      ) else (
        if x1 < (3 : Int32) then (
          some ((1 : Int32), st3)
        ) else (
          bd (f_T_has x5 st3) fun r9 st8 =>
          if r9 = 0 then (
            some ((0 : Int32), st8)
          ) else (
            some ((1 : Int32), st8)
          )
        )
      )
    )
  )
set_option maxHeartbeats 4000000 in
set_option maxRecDepth 100000 in
theorem w_T_areEarlier  {r : Int32} {t : CS} (E : EC R_T c_T_areEarlier 6 p s m args c D (tyL cs)) (hA : ∀ q, H0.size ≤ q → A0 q) (kr : ∀ (H : Heap) (locs : List Loc) (pc : Nat) (ls : Array Slot), IW D (cwC A cs t) A0 H0 H locs → narrow .boolean (.int r) = .int r → decode c_T_areEarlier pc = .ok (.ireturn, 1) → W p l e rm_T_areEarlier s m args below meth c H locs 0 0 Q (F0 m pc ls [.int r])) : ∀ (x1 : Int32) (x2 : Int64) (x4 : Int32) (x5 : Int32) (st : CS) (H : Heap) (locs : List Loc) (ls : Array Slot), f_T_areEarlier x1 x2 x4 x5 st = some (r, t) → IW D (cwC A cs st) A0 H0 H locs → lv_has ls 6 [(0, .ref (A 1)), (1, .int x1), (2, .long x2), (4, .int x4), (5, .int x5)] → W p l e rm_T_areEarlier s m args below meth c H locs 0 0 Q (F0 m 0 ls []) := by
  intro x1 x2 x4 x5 st H locs ls h I hl
  have hx := E.1
  have hb := E.2.1
  rw [f_T_areEarlier] at h
  refine lv_lload_n hx hb d_T_areEarlier_0 rfl (lv_at hl 2 rfl) ?_
  refine lv_lconst (v := 0) hx hb d_T_areEarlier_1 (by decide) ?_
  refine W.lcmp hx hb d_T_areEarlier_2 ?_
  refine lv_if_lt (tgt := 43) hx hb d_T_areEarlier_3 (by decide) (fun c1 => ?_) (fun c1 => ?_)
  · have c1 := (lg_cmp_lt _ _).mp c1
    have h := ifp c1 h
    refine lv_iconst (v := 0) hx hb d_T_areEarlier_43 (by decide) ?_
    cases h
    exact kr _ _ _ _ I (by decide) d_T_areEarlier_44
  · have c1 := mt (lg_cmp_lt _ _).mpr c1
    have h := ifn c1 h
    refine lv_lload_n hx hb d_T_areEarlier_6 rfl (lv_at hl 2 rfl) ?_
    refine lv_aload_n hx hb d_T_areEarlier_7 rfl (lv_at hl 0 rfl) ?_
    refine g_cT_size E I k_T_34 d_T_areEarlier_8 ?_
    refine lv_i2l hx hb d_T_areEarlier_11 rfl ?_
    refine W.lcmp hx hb d_T_areEarlier_12 ?_
    refine lv_if_ge (tgt := 43) hx hb d_T_areEarlier_13 (by decide) (fun c2 => ?_) (fun c2 => ?_)
    · have c2 := (lg_cmp_ge _ _).mp c2
      have h := ifp c2 h
      refine lv_iconst (v := 0) hx hb d_T_areEarlier_43 (by decide) ?_
      cases h
      exact kr _ _ _ _ I (by decide) d_T_areEarlier_44
    · have c2 := mt (lg_cmp_ge _ _).mpr c2
      have h := ifn c2 h
      refine lv_aload_n hx hb d_T_areEarlier_16 rfl (lv_at hl 0 rfl) ?_
      refine lv_iload hx hb d_T_areEarlier_17 (lv_at hl 3 rfl) ?_
      obtain ⟨r4, st3, h5, h⟩ := bd_some h
      refine cV (As := [.int x4]) (rest := []) E I hA (k_T_has h5) g_T_57 ⟨rfl, rfl⟩ 1 rfl rfl rfl hl rfl (Nat.le_of_ble_eq_true rfl) ⟨Nat.le_of_ble_eq_true rfl, Nat.le_of_ble_eq_true rfl⟩ ⟨Nat.zero_le _, Nat.zero_le _⟩ d_T_areEarlier_19 rfl (fun H locs I => ?_)
      refine lv_if_eq (tgt := 43) hx hb d_T_areEarlier_22 (by decide) (fun c6 => ?_) (fun c6 => ?_)
      · have h := ifp c6 h
        refine lv_iconst (v := 0) hx hb d_T_areEarlier_43 (by decide) ?_
        cases h
        exact kr _ _ _ _ I (by decide) d_T_areEarlier_44
      · have h := ifn c6 h
        refine lv_iload_n hx hb d_T_areEarlier_25 rfl (lv_at hl 1 rfl) ?_
        refine lv_iconst (v := 3) hx hb d_T_areEarlier_26 (by decide) ?_
        refine lv_icmp_lt (tgt := 39) hx hb d_T_areEarlier_27 (by decide) (fun c7 => ?_) (fun c7 => ?_)
        · have h := ifp c7 h
          refine lv_iconst (v := 1) hx hb d_T_areEarlier_39 (by decide) ?_
          refine lv_goto (tgt := 44) hx hb d_T_areEarlier_40 (by decide) ?_
          cases h
          exact kr _ _ _ _ I (by decide) d_T_areEarlier_44
        · have h := ifn c7 h
          refine lv_aload_n hx hb d_T_areEarlier_30 rfl (lv_at hl 0 rfl) ?_
          refine lv_iload hx hb d_T_areEarlier_31 (lv_at hl 4 rfl) ?_
          obtain ⟨r9, st8, h10, h⟩ := bd_some h
          refine cV (As := [.int x5]) (rest := []) E I hA (k_T_has h10) g_T_57 ⟨rfl, rfl⟩ 1 rfl rfl rfl hl rfl (Nat.le_of_ble_eq_true rfl) ⟨Nat.le_of_ble_eq_true rfl, Nat.le_of_ble_eq_true rfl⟩ ⟨Nat.zero_le _, Nat.zero_le _⟩ d_T_areEarlier_33 rfl (fun H locs I => ?_)
          refine lv_if_eq (tgt := 43) hx hb d_T_areEarlier_36 (by decide) (fun c11 => ?_) (fun c11 => ?_)
          · have h := ifp c11 h
            refine lv_iconst (v := 0) hx hb d_T_areEarlier_43 (by decide) ?_
            cases h
            exact kr _ _ _ _ I (by decide) d_T_areEarlier_44
          · have h := ifn c11 h
            refine lv_iconst (v := 1) hx hb d_T_areEarlier_39 (by decide) ?_
            refine lv_goto (tgt := 44) hx hb d_T_areEarlier_40 (by decide) ?_
            cases h
            exact kr _ _ _ _ I (by decide) d_T_areEarlier_44
set_option maxHeartbeats 4000000 in
set_option maxRecDepth 100000 in
theorem k_T_areEarlier {x1 : Int32} {x2 : Int64} {x4 : Int32} {x5 : Int32} {st t : CS} {r : Int32} (h : f_T_areEarlier x1 x2 x4 x5 st = some (r, t)) : Cn l y_T_areEarlier c_T_areEarlier 6 (some .boolean) rm_T_areEarlier D (tyL cs) (cwC A cs st) (cwC A cs t) [.ref (A 1), .int x1, .long x2, .int x4, .int x5] (some (.int r)) := by
  refine cn_intro (by decide) (Nat.le_of_ble_eq_true rfl) ?_
  intro p e s m below meth c A0 Q ls E hr hlk hA hA0 hQ I hl
  exact w_T_areEarlier E hA (rt_z E hr hlk hA0 hQ) x1 x2 x4 x5 st _ _ _ h I (lv_sub hl [0, 1, 2, 3, 4] rfl)
abbrev rm_T_areAlike : Room := { frames := 0, cells := 0, slots := 0, locals := 0 }
noncomputable def f_T_areAlike (x1 : Int32) (x2 : Int32) (st : CS) : Option (Int32 × CS) :=
  ck x1 64 <|
  ck x2 64 <|
  if (cT_shapes st x1.toNatClampNeg) = (cT_shapes st x2.toNatClampNeg) then (
    some ((1 : Int32), st)
  ) else (
    some ((0 : Int32), st)
  )
set_option maxHeartbeats 4000000 in
set_option maxRecDepth 100000 in
theorem w_T_areAlike  {r : Int32} {t : CS} (E : EC R_T c_T_areAlike 3 p s m args c D (tyL cs)) (hA : ∀ q, H0.size ≤ q → A0 q) (kr : ∀ (H : Heap) (locs : List Loc) (pc : Nat) (ls : Array Slot), IW D (cwC A cs t) A0 H0 H locs → narrow .boolean (.int r) = .int r → decode c_T_areAlike pc = .ok (.ireturn, 1) → W p l e rm_T_areAlike s m args below meth c H locs 0 0 Q (F0 m pc ls [.int r])) : ∀ (x1 : Int32) (x2 : Int32) (st : CS) (H : Heap) (locs : List Loc) (ls : Array Slot), f_T_areAlike x1 x2 st = some (r, t) → IW D (cwC A cs st) A0 H0 H locs → lv_has ls 3 [(0, .ref (A 1)), (1, .int x1), (2, .int x2)] → W p l e rm_T_areAlike s m args below meth c H locs 0 0 Q (F0 m 0 ls []) := by
  intro x1 x2 st H locs ls h I hl
  have hx := E.1
  have hb := E.2.1
  rw [f_T_areAlike] at h
  refine lv_aload_n hx hb d_T_areAlike_0 rfl (lv_at hl 0 rfl) ?_
  refine g_cT_shapes E I k_T_28 d_T_areAlike_1 ?_
  refine lv_iload_n hx hb d_T_areAlike_4 rfl (lv_at hl 1 rfl) ?_
  obtain ⟨b1, h⟩ := ck_some h
  refine l_cT_shapes E I b1 d_T_areAlike_5 ?_
  refine lv_aload_n hx hb d_T_areAlike_6 rfl (lv_at hl 0 rfl) ?_
  refine g_cT_shapes E I k_T_28 d_T_areAlike_7 ?_
  refine lv_iload_n hx hb d_T_areAlike_10 rfl (lv_at hl 2 rfl) ?_
  obtain ⟨b2, h⟩ := ck_some h
  refine l_cT_shapes E I b2 d_T_areAlike_11 ?_
  refine lv_icmp_ne (tgt := 19) hx hb d_T_areAlike_12 (by decide) (fun c3 => ?_) (fun c3 => ?_)
  · have h := ifn c3 h
    refine lv_iconst (v := 0) hx hb d_T_areAlike_19 (by decide) ?_
    cases h
    exact kr _ _ _ _ I (by decide) d_T_areAlike_20
  · have h := ifp c3 h
    refine lv_iconst (v := 1) hx hb d_T_areAlike_15 (by decide) ?_
    refine lv_goto (tgt := 20) hx hb d_T_areAlike_16 (by decide) ?_
    cases h
    exact kr _ _ _ _ I (by decide) d_T_areAlike_20
set_option maxHeartbeats 4000000 in
set_option maxRecDepth 100000 in
theorem k_T_areAlike {x1 : Int32} {x2 : Int32} {st t : CS} {r : Int32} (h : f_T_areAlike x1 x2 st = some (r, t)) : Cn l y_T_areAlike c_T_areAlike 3 (some .boolean) rm_T_areAlike D (tyL cs) (cwC A cs st) (cwC A cs t) [.ref (A 1), .int x1, .int x2] (some (.int r)) := by
  refine cn_intro (by decide) (Nat.le_of_ble_eq_true rfl) ?_
  intro p e s m below meth c A0 Q ls E hr hlk hA hA0 hQ I hl
  exact w_T_areAlike E hA (rt_z E hr hlk hA0 hQ) x1 x2 st _ _ _ h I (lv_sub hl [0, 1, 2] rfl)
abbrev rm_T_haveAlikeParts : Room := { frames := 1, cells := 0, slots := 0, locals := 22 }
noncomputable def f_T_haveAlikeParts (x1 : Int32) (x2 : Int32) (st : CS) : Option (Int32 × CS) :=
  ck x1 64 <|
  bd (f_T_partCount (cT_kinds st x1.toNatClampNeg) st) fun r3 st2 =>
  if r3 = 0 then (
    some ((1 : Int32), st2)
  ) else (
    ck x1 64 <|
    ck x2 64 <|
    bd (f_T_areAlike (cT_firsts st2 x1.toNatClampNeg) (cT_firsts st2 x2.toNatClampNeg) st2) fun r9 st8 =>
    if r9 = 0 then (
      some ((0 : Int32), st8)
    ) else (
      ck x1 64 <|
      ck x2 64 <|
      bd (f_T_areAlike (cT_seconds st8 x1.toNatClampNeg) (cT_seconds st8 x2.toNatClampNeg) st8) fun r15 st14 =>
      if r15 = 0 then (
        some ((0 : Int32), st14)
      ) else (
        if r3 < (3 : Int32) then (
          some ((1 : Int32), st14)
        ) else (
          ck x1 64 <|
          ck x2 64 <|
          bd (f_T_areAlike (cT_thirds st14 x1.toNatClampNeg) (cT_thirds st14 x2.toNatClampNeg) st14) fun r22 st21 =>
          if r22 = 0 then (
            some ((0 : Int32), st21)
          ) else (
            some ((1 : Int32), st21)
          )
        )
      )
    )
  )
set_option maxHeartbeats 4000000 in
set_option maxRecDepth 100000 in
theorem w_T_haveAlikeParts  {r : Int32} {t : CS} (E : EC R_T c_T_haveAlikeParts 4 p s m args c D (tyL cs)) (hA : ∀ q, H0.size ≤ q → A0 q) (kr : ∀ (H : Heap) (locs : List Loc) (pc : Nat) (ls : Array Slot), IW D (cwC A cs t) A0 H0 H locs → narrow .boolean (.int r) = .int r → decode c_T_haveAlikeParts pc = .ok (.ireturn, 1) → W p l e rm_T_haveAlikeParts s m args below meth c H locs 0 0 Q (F0 m pc ls [.int r])) : ∀ (x1 : Int32) (x2 : Int32) (st : CS) (H : Heap) (locs : List Loc) (ls : Array Slot), f_T_haveAlikeParts x1 x2 st = some (r, t) → IW D (cwC A cs st) A0 H0 H locs → lv_has ls 4 [(0, .ref (A 1)), (1, .int x1), (2, .int x2)] → W p l e rm_T_haveAlikeParts s m args below meth c H locs 0 0 Q (F0 m 0 ls []) := by
  intro x1 x2 st H locs ls h I hl
  have hx := E.1
  have hb := E.2.1
  rw [f_T_haveAlikeParts] at h
  refine lv_aload_n hx hb d_T_haveAlikeParts_0 rfl (lv_at hl 0 rfl) ?_
  refine g_cT_kinds E I k_T_9 d_T_haveAlikeParts_1 ?_
  refine lv_iload_n hx hb d_T_haveAlikeParts_4 rfl (lv_at hl 1 rfl) ?_
  obtain ⟨b1, h⟩ := ck_some h
  refine l_cT_kinds E I b1 d_T_haveAlikeParts_5 ?_
  obtain ⟨r3, st2, h4, h⟩ := bd_some h
  refine cS (As := [.int (cT_kinds st x1.toNatClampNeg)]) (rest := []) E I hA (k_T_partCount h4) g_T_38 ⟨rfl, rfl⟩ rfl hl rfl (Nat.le_of_ble_eq_true rfl) ⟨Nat.le_of_ble_eq_true rfl, Nat.le_of_ble_eq_true rfl⟩ ⟨Nat.zero_le _, Nat.zero_le _⟩ d_T_haveAlikeParts_6 rfl (fun H locs I => ?_)
  refine lv_istore_n (lv' := [(3, .int r3), (0, .ref (A 1)), (1, .int x1), (2, .int x2)]) hx hb d_T_haveAlikeParts_9 rfl hl (by decide) rfl (fun ls hl => ?_)
  refine lv_iload_n hx hb d_T_haveAlikeParts_10 rfl (lv_at hl 0 rfl) ?_
  refine lv_if_ne (tgt := 16) hx hb d_T_haveAlikeParts_11 (by decide) (fun c5 => ?_) (fun c5 => ?_)
  · have h := ifn c5 h
    refine lv_aload_n hx hb d_T_haveAlikeParts_16 rfl (lv_at hl 1 rfl) ?_
    refine lv_aload_n hx hb d_T_haveAlikeParts_17 rfl (lv_at hl 1 rfl) ?_
    refine g_cT_firsts E I k_T_19 d_T_haveAlikeParts_18 ?_
    refine lv_iload_n hx hb d_T_haveAlikeParts_21 rfl (lv_at hl 2 rfl) ?_
    obtain ⟨b6, h⟩ := ck_some h
    refine l_cT_firsts E I b6 d_T_haveAlikeParts_22 ?_
    refine lv_aload_n hx hb d_T_haveAlikeParts_23 rfl (lv_at hl 1 rfl) ?_
    refine g_cT_firsts E I k_T_19 d_T_haveAlikeParts_24 ?_
    refine lv_iload_n hx hb d_T_haveAlikeParts_27 rfl (lv_at hl 3 rfl) ?_
    obtain ⟨b7, h⟩ := ck_some h
    refine l_cT_firsts E I b7 d_T_haveAlikeParts_28 ?_
    obtain ⟨r9, st8, h10, h⟩ := bd_some h
    refine cV (As := [.int (cT_firsts st2 x1.toNatClampNeg), .int (cT_firsts st2 x2.toNatClampNeg)]) (rest := []) E I hA (k_T_areAlike h10) g_T_65 ⟨rfl, rfl⟩ 1 rfl rfl rfl hl rfl (Nat.le_of_ble_eq_true rfl) ⟨Nat.le_of_ble_eq_true rfl, Nat.le_of_ble_eq_true rfl⟩ ⟨Nat.zero_le _, Nat.zero_le _⟩ d_T_haveAlikeParts_29 rfl (fun H locs I => ?_)
    refine lv_if_eq (tgt := 82) hx hb d_T_haveAlikeParts_32 (by decide) (fun c11 => ?_) (fun c11 => ?_)
    · have h := ifp c11 h
      refine lv_iconst (v := 0) hx hb d_T_haveAlikeParts_82 (by decide) ?_
      cases h
      exact kr _ _ _ _ I (by decide) d_T_haveAlikeParts_83
    · have h := ifn c11 h
      refine lv_aload_n hx hb d_T_haveAlikeParts_35 rfl (lv_at hl 1 rfl) ?_
      refine lv_aload_n hx hb d_T_haveAlikeParts_36 rfl (lv_at hl 1 rfl) ?_
      refine g_cT_seconds E I k_T_22 d_T_haveAlikeParts_37 ?_
      refine lv_iload_n hx hb d_T_haveAlikeParts_40 rfl (lv_at hl 2 rfl) ?_
      obtain ⟨b12, h⟩ := ck_some h
      refine l_cT_seconds E I b12 d_T_haveAlikeParts_41 ?_
      refine lv_aload_n hx hb d_T_haveAlikeParts_42 rfl (lv_at hl 1 rfl) ?_
      refine g_cT_seconds E I k_T_22 d_T_haveAlikeParts_43 ?_
      refine lv_iload_n hx hb d_T_haveAlikeParts_46 rfl (lv_at hl 3 rfl) ?_
      obtain ⟨b13, h⟩ := ck_some h
      refine l_cT_seconds E I b13 d_T_haveAlikeParts_47 ?_
      obtain ⟨r15, st14, h16, h⟩ := bd_some h
      refine cV (As := [.int (cT_seconds st8 x1.toNatClampNeg), .int (cT_seconds st8 x2.toNatClampNeg)]) (rest := []) E I hA (k_T_areAlike h16) g_T_65 ⟨rfl, rfl⟩ 1 rfl rfl rfl hl rfl (Nat.le_of_ble_eq_true rfl) ⟨Nat.le_of_ble_eq_true rfl, Nat.le_of_ble_eq_true rfl⟩ ⟨Nat.zero_le _, Nat.zero_le _⟩ d_T_haveAlikeParts_48 rfl (fun H locs I => ?_)
      refine lv_if_eq (tgt := 82) hx hb d_T_haveAlikeParts_51 (by decide) (fun c17 => ?_) (fun c17 => ?_)
      · have h := ifp c17 h
        refine lv_iconst (v := 0) hx hb d_T_haveAlikeParts_82 (by decide) ?_
        cases h
        exact kr _ _ _ _ I (by decide) d_T_haveAlikeParts_83
      · have h := ifn c17 h
        refine lv_iload_n hx hb d_T_haveAlikeParts_54 rfl (lv_at hl 0 rfl) ?_
        refine lv_iconst (v := 3) hx hb d_T_haveAlikeParts_55 (by decide) ?_
        refine lv_icmp_lt (tgt := 78) hx hb d_T_haveAlikeParts_56 (by decide) (fun c18 => ?_) (fun c18 => ?_)
        · have h := ifp c18 h
          refine lv_iconst (v := 1) hx hb d_T_haveAlikeParts_78 (by decide) ?_
          refine lv_goto (tgt := 83) hx hb d_T_haveAlikeParts_79 (by decide) ?_
          cases h
          exact kr _ _ _ _ I (by decide) d_T_haveAlikeParts_83
        · have h := ifn c18 h
          refine lv_aload_n hx hb d_T_haveAlikeParts_59 rfl (lv_at hl 1 rfl) ?_
          refine lv_aload_n hx hb d_T_haveAlikeParts_60 rfl (lv_at hl 1 rfl) ?_
          refine g_cT_thirds E I k_T_25 d_T_haveAlikeParts_61 ?_
          refine lv_iload_n hx hb d_T_haveAlikeParts_64 rfl (lv_at hl 2 rfl) ?_
          obtain ⟨b19, h⟩ := ck_some h
          refine l_cT_thirds E I b19 d_T_haveAlikeParts_65 ?_
          refine lv_aload_n hx hb d_T_haveAlikeParts_66 rfl (lv_at hl 1 rfl) ?_
          refine g_cT_thirds E I k_T_25 d_T_haveAlikeParts_67 ?_
          refine lv_iload_n hx hb d_T_haveAlikeParts_70 rfl (lv_at hl 3 rfl) ?_
          obtain ⟨b20, h⟩ := ck_some h
          refine l_cT_thirds E I b20 d_T_haveAlikeParts_71 ?_
          obtain ⟨r22, st21, h23, h⟩ := bd_some h
          refine cV (As := [.int (cT_thirds st14 x1.toNatClampNeg), .int (cT_thirds st14 x2.toNatClampNeg)]) (rest := []) E I hA (k_T_areAlike h23) g_T_65 ⟨rfl, rfl⟩ 1 rfl rfl rfl hl rfl (Nat.le_of_ble_eq_true rfl) ⟨Nat.le_of_ble_eq_true rfl, Nat.le_of_ble_eq_true rfl⟩ ⟨Nat.zero_le _, Nat.zero_le _⟩ d_T_haveAlikeParts_72 rfl (fun H locs I => ?_)
          refine lv_if_eq (tgt := 82) hx hb d_T_haveAlikeParts_75 (by decide) (fun c24 => ?_) (fun c24 => ?_)
          · have h := ifp c24 h
            refine lv_iconst (v := 0) hx hb d_T_haveAlikeParts_82 (by decide) ?_
            cases h
            exact kr _ _ _ _ I (by decide) d_T_haveAlikeParts_83
          · have h := ifn c24 h
            refine lv_iconst (v := 1) hx hb d_T_haveAlikeParts_78 (by decide) ?_
            refine lv_goto (tgt := 83) hx hb d_T_haveAlikeParts_79 (by decide) ?_
            cases h
            exact kr _ _ _ _ I (by decide) d_T_haveAlikeParts_83
  · have h := ifp c5 h
    refine lv_iconst (v := 1) hx hb d_T_haveAlikeParts_14 (by decide) ?_
    cases h
    exact kr _ _ _ _ I (by decide) d_T_haveAlikeParts_15
set_option maxHeartbeats 4000000 in
set_option maxRecDepth 100000 in
theorem k_T_haveAlikeParts {x1 : Int32} {x2 : Int32} {st t : CS} {r : Int32} (h : f_T_haveAlikeParts x1 x2 st = some (r, t)) : Cn l y_T_haveAlikeParts c_T_haveAlikeParts 4 (some .boolean) rm_T_haveAlikeParts D (tyL cs) (cwC A cs st) (cwC A cs t) [.ref (A 1), .int x1, .int x2] (some (.int r)) := by
  refine cn_intro (by decide) (Nat.le_of_ble_eq_true rfl) ?_
  intro p e s m below meth c A0 Q ls E hr hlk hA hA0 hQ I hl
  exact w_T_haveAlikeParts E hA (rt_z E hr hlk hA0 hQ) x1 x2 st _ _ _ h I (lv_sub hl [0, 1, 2] rfl)
abbrev rm_T_shapeFor : Room := { frames := 2, cells := 0, slots := 0, locals := 45 }
noncomputable def f_T_shapeFor_2 : Nat → Int32 → Int32 → CS → Option (Int32 × CS)
  | 0, _, _, _ => none
  | n + 1, x1, x2, st =>
    if x1 ≤ x2 then (
      some (x1, st)
    ) else (
      ck x2 64 <|
      ck x1 64 <|
      if (cT_kinds st x2.toNatClampNeg) = (cT_kinds st x1.toNatClampNeg) then (
        ck x2 64 <|
        ck x1 64 <|
        if (cT_numbers st x2.toNatClampNeg) = (cT_numbers st x1.toNatClampNeg) then (
          bd (f_T_haveAlikeParts x2 x1 st) fun r11 st10 =>
          if r11 = 0 then (
            nx (x2 + 1) fun x2_14 =>
            f_T_shapeFor_2 n x1 x2_14 st10
          ) else (
            some (x2, st10)
          )
        ) else (
          nx (x2 + 1) fun x2_9 =>
          f_T_shapeFor_2 n x1 x2_9 st
        )
      ) else (
        nx (x2 + 1) fun x2_5 =>
        f_T_shapeFor_2 n x1 x2_5 st
      )
    )
noncomputable def f_T_shapeFor (x1 : Int32) (st : CS) : Option (Int32 × CS) :=
  f_T_shapeFor_2 FU x1 (0 : Int32) st
set_option maxHeartbeats 4000000 in
set_option maxRecDepth 100000 in
theorem w_T_shapeFor_2  {r : Int32} {t : CS} (E : EC R_T c_T_shapeFor 3 p s m args c D (tyL cs)) (hA : ∀ q, H0.size ≤ q → A0 q) (kr : ∀ (H : Heap) (locs : List Loc) (pc : Nat) (ls : Array Slot), IW D (cwC A cs t) A0 H0 H locs → decode c_T_shapeFor pc = .ok (.ireturn, 1) → W p l e rm_T_shapeFor s m args below meth c H locs 0 0 Q (F0 m pc ls [.int r])) : ∀ (n : Nat), ∀ (x1 : Int32) (x2 : Int32) (st : CS) (H : Heap) (locs : List Loc) (ls : Array Slot), f_T_shapeFor_2 n x1 x2 st = some (r, t) → IW D (cwC A cs st) A0 H0 H locs → lv_has ls 3 [(0, .ref (A 1)), (1, .int x1), (2, .int x2)] → W p l e rm_T_shapeFor s m args below meth c H locs 0 0 Q (F0 m 2 ls []) := by
  intro n
  induction n with
  | zero => intro x1 x2 st H locs ls h I hl; cases h
  | succ n ih =>
    intro x1 x2 st H locs ls h I hl
    have hx := E.1
    have hb := E.2.1
    rw [f_T_shapeFor_2] at h
    refine lv_iload_n hx hb d_T_shapeFor_2 rfl (lv_at hl 2 rfl) ?_
    refine lv_iload_n hx hb d_T_shapeFor_3 rfl (lv_at hl 1 rfl) ?_
    refine lv_icmp_ge (tgt := 55) hx hb d_T_shapeFor_4 (by decide) (fun c1 => ?_) (fun c1 => ?_)
    · have h := ifp c1 h
      refine lv_iload_n hx hb d_T_shapeFor_55 rfl (lv_at hl 1 rfl) ?_
      cases h
      exact kr _ _ _ _ I d_T_shapeFor_56
    · have h := ifn c1 h
      refine lv_aload_n hx hb d_T_shapeFor_7 rfl (lv_at hl 0 rfl) ?_
      refine g_cT_kinds E I k_T_9 d_T_shapeFor_8 ?_
      refine lv_iload_n hx hb d_T_shapeFor_11 rfl (lv_at hl 2 rfl) ?_
      obtain ⟨b2, h⟩ := ck_some h
      refine l_cT_kinds E I b2 d_T_shapeFor_12 ?_
      refine lv_aload_n hx hb d_T_shapeFor_13 rfl (lv_at hl 0 rfl) ?_
      refine g_cT_kinds E I k_T_9 d_T_shapeFor_14 ?_
      refine lv_iload_n hx hb d_T_shapeFor_17 rfl (lv_at hl 1 rfl) ?_
      obtain ⟨b3, h⟩ := ck_some h
      refine l_cT_kinds E I b3 d_T_shapeFor_18 ?_
      refine lv_icmp_ne (tgt := 49) hx hb d_T_shapeFor_19 (by decide) (fun c4 => ?_) (fun c4 => ?_)
      · have h := ifn c4 h
        obtain ⟨x2_5, ex2_5⟩ : ∃ y : Int32, y = (x2 + 1) := ⟨_, rfl⟩
        have h := nx_k ex2_5 h
        refine lv_iinc (v := x2_5) (lv' := [(2, .int x2_5), (0, .ref (A 1)), (1, .int x1)]) hx hb d_T_shapeFor_49 hl (k := 2) rfl (by rw [ex2_5]; rfl) (by decide) rfl (fun ls hl => ?_)
        refine lv_goto (tgt := 2) hx hb d_T_shapeFor_52 (by decide) ?_
        exact ih x1 x2_5 st _ _ _ h I (lv_sub hl [1, 2, 0] rfl)
      · have h := ifp c4 h
        refine lv_aload_n hx hb d_T_shapeFor_22 rfl (lv_at hl 0 rfl) ?_
        refine g_cT_numbers E I k_T_15 d_T_shapeFor_23 ?_
        refine lv_iload_n hx hb d_T_shapeFor_26 rfl (lv_at hl 2 rfl) ?_
        obtain ⟨b6, h⟩ := ck_some h
        refine l_cT_numbers E I b6 d_T_shapeFor_27 ?_
        refine lv_aload_n hx hb d_T_shapeFor_28 rfl (lv_at hl 0 rfl) ?_
        refine g_cT_numbers E I k_T_15 d_T_shapeFor_29 ?_
        refine lv_iload_n hx hb d_T_shapeFor_32 rfl (lv_at hl 1 rfl) ?_
        obtain ⟨b7, h⟩ := ck_some h
        refine l_cT_numbers E I b7 d_T_shapeFor_33 ?_
        refine W.lcmp hx hb d_T_shapeFor_34 ?_
        refine lv_if_ne (tgt := 49) hx hb d_T_shapeFor_35 (by decide) (fun c8 => ?_) (fun c8 => ?_)
        · have c8 := mt (lg_cmp_eq _ _).mpr c8
          have h := ifn c8 h
          obtain ⟨x2_9, ex2_9⟩ : ∃ y : Int32, y = (x2 + 1) := ⟨_, rfl⟩
          have h := nx_k ex2_9 h
          refine lv_iinc (v := x2_9) (lv' := [(2, .int x2_9), (0, .ref (A 1)), (1, .int x1)]) hx hb d_T_shapeFor_49 hl (k := 2) rfl (by rw [ex2_9]; rfl) (by decide) rfl (fun ls hl => ?_)
          refine lv_goto (tgt := 2) hx hb d_T_shapeFor_52 (by decide) ?_
          exact ih x1 x2_9 st _ _ _ h I (lv_sub hl [1, 2, 0] rfl)
        · have c8 := (lg_cmp_eq _ _).mp c8
          have h := ifp c8 h
          refine lv_aload_n hx hb d_T_shapeFor_38 rfl (lv_at hl 0 rfl) ?_
          refine lv_iload_n hx hb d_T_shapeFor_39 rfl (lv_at hl 2 rfl) ?_
          refine lv_iload_n hx hb d_T_shapeFor_40 rfl (lv_at hl 1 rfl) ?_
          obtain ⟨r11, st10, h12, h⟩ := bd_some h
          refine cV (As := [.int x2, .int x1]) (rest := []) E I hA (k_T_haveAlikeParts h12) g_T_61 ⟨rfl, rfl⟩ 1 rfl rfl rfl hl rfl (Nat.le_of_ble_eq_true rfl) ⟨Nat.le_of_ble_eq_true rfl, Nat.le_of_ble_eq_true rfl⟩ ⟨Nat.zero_le _, Nat.zero_le _⟩ d_T_shapeFor_41 rfl (fun H locs I => ?_)
          refine lv_if_eq (tgt := 49) hx hb d_T_shapeFor_44 (by decide) (fun c13 => ?_) (fun c13 => ?_)
          · have h := ifp c13 h
            obtain ⟨x2_14, ex2_14⟩ : ∃ y : Int32, y = (x2 + 1) := ⟨_, rfl⟩
            have h := nx_k ex2_14 h
            refine lv_iinc (v := x2_14) (lv' := [(2, .int x2_14), (0, .ref (A 1)), (1, .int x1)]) hx hb d_T_shapeFor_49 hl (k := 2) rfl (by rw [ex2_14]; rfl) (by decide) rfl (fun ls hl => ?_)
            refine lv_goto (tgt := 2) hx hb d_T_shapeFor_52 (by decide) ?_
            exact ih x1 x2_14 st10 _ _ _ h I (lv_sub hl [1, 2, 0] rfl)
          · have h := ifn c13 h
            refine lv_iload_n hx hb d_T_shapeFor_47 rfl (lv_at hl 2 rfl) ?_
            cases h
            exact kr _ _ _ _ I d_T_shapeFor_48
set_option maxHeartbeats 4000000 in
set_option maxRecDepth 100000 in
theorem w_T_shapeFor  {r : Int32} {t : CS} (E : EC R_T c_T_shapeFor 3 p s m args c D (tyL cs)) (hA : ∀ q, H0.size ≤ q → A0 q) (kr : ∀ (H : Heap) (locs : List Loc) (pc : Nat) (ls : Array Slot), IW D (cwC A cs t) A0 H0 H locs → decode c_T_shapeFor pc = .ok (.ireturn, 1) → W p l e rm_T_shapeFor s m args below meth c H locs 0 0 Q (F0 m pc ls [.int r])) : ∀ (x1 : Int32) (st : CS) (H : Heap) (locs : List Loc) (ls : Array Slot), f_T_shapeFor x1 st = some (r, t) → IW D (cwC A cs st) A0 H0 H locs → lv_has ls 3 [(0, .ref (A 1)), (1, .int x1)] → W p l e rm_T_shapeFor s m args below meth c H locs 0 0 Q (F0 m 0 ls []) := by
  intro x1 st H locs ls h I hl
  have hx := E.1
  have hb := E.2.1
  rw [f_T_shapeFor] at h
  refine lv_iconst (v := 0) hx hb d_T_shapeFor_0 (by decide) ?_
  refine lv_istore_n (lv' := [(2, .int (0 : Int32)), (0, .ref (A 1)), (1, .int x1)]) hx hb d_T_shapeFor_1 rfl hl (by decide) rfl (fun ls hl => ?_)
  exact w_T_shapeFor_2 E hA kr FU x1 (0 : Int32) st _ _ _ h I (lv_sub hl [1, 2, 0] rfl)
set_option maxHeartbeats 4000000 in
set_option maxRecDepth 100000 in
theorem k_T_shapeFor {x1 : Int32} {st t : CS} {r : Int32} (h : f_T_shapeFor x1 st = some (r, t)) : Cn l y_T_shapeFor c_T_shapeFor 3 (some .int) rm_T_shapeFor D (tyL cs) (cwC A cs st) (cwC A cs t) [.ref (A 1), .int x1] (some (.int r)) := by
  refine cn_intro (by decide) (Nat.le_of_ble_eq_true rfl) ?_
  intro p e s m below meth c A0 Q ls E hr hlk hA hA0 hQ I hl
  exact w_T_shapeFor E hA (rt_i E hr hlk hA0 hQ) x1 st _ _ _ h I (lv_sub hl [0, 1] rfl)
abbrev rm_T_grow : Room := { frames := 3, cells := 0, slots := 0, locals := 67 }
noncomputable def f_T_grow_142 (x7 : Int32) (s1 : Int32) (s2 : Int32) (st : CS) : Option (Int32 × CS) :=
  ck s1 64 <|
  nx (s_cT_thirds st s1.toNatClampNeg s2) fun st2 =>
  bd (f_T_shapeFor x7 st2) fun r4 st3 =>
  ck x7 64 <|
  nx (s_cT_shapes st3 x7.toNatClampNeg r4) fun st7 =>
  some (x7, st7)
noncomputable def f_T_grow_123 (x5 : Int32) (x6 : Int32) (x7 : Int32) (s1 : Int32) (s2 : Int32) (st : CS) : Option (Int32 × CS) :=
  ck s1 64 <|
  nx (s_cT_seconds st s1.toNatClampNeg s2) fun st9 =>
  if x6 ≤ (2 : Int32) then (
    f_T_grow_142 x7 x7 (-1 : Int32) st9
  ) else (
    f_T_grow_142 x7 x7 x5 st9
  )
noncomputable def f_T_grow_105 (x4 : Int32) (x5 : Int32) (x6 : Int32) (x7 : Int32) (s1 : Int32) (s2 : Int32) (st : CS) : Option (Int32 × CS) :=
  ck s1 64 <|
  nx (s_cT_firsts st s1.toNatClampNeg s2) fun st12 =>
  if x6 ≤ 0 then (
    f_T_grow_123 x5 x6 x7 x7 (-1 : Int32) st12
  ) else (
    f_T_grow_123 x5 x6 x7 x7 x4 st12
  )
noncomputable def f_T_grow_87 (x2 : Int64) (x4 : Int32) (x5 : Int32) (x6 : Int32) (x7 : Int32) (s1 : Int32) (s2 : Int64) (st : CS) : Option (Int32 × CS) :=
  ck s1 64 <|
  nx (s_cT_numbers st s1.toNatClampNeg s2) fun st15 =>
  if x6 ≤ 0 then (
    f_T_grow_105 x4 x5 x6 x7 x7 (-1 : Int32) st15
  ) else (
    f_T_grow_105 x4 x5 x6 x7 x7 (x2.toInt32) st15
  )
noncomputable def f_T_grow_48 (x1 : Int32) (x2 : Int64) (x4 : Int32) (x5 : Int32) (x6 : Int32) (st : CS) : Option (Int32 × CS) :=
  nx (cT_size st) fun x7_17 =>
  nx (s_cT_size st ((cT_size st) + (1 : Int32))) fun st18 =>
  ck x7_17 64 <|
  nx (s_cT_kinds st18 x7_17.toNatClampNeg x1) fun st20 =>
  if x1 = 0 then (
    f_T_grow_87 x2 x4 x5 x6 x7_17 x7_17 x2 st20
  ) else (
    f_T_grow_87 x2 x4 x5 x6 x7_17 x7_17 (0 : Int64) st20
  )
noncomputable def f_T_grow (x1 : Int32) (x2 : Int64) (x4 : Int32) (x5 : Int32) (st : CS) : Option (Int32 × CS) :=
  if (64 : Int32) ≤ (cT_size st) then (
    some ((-1 : Int32), st)
  ) else (
    if x1 < 0 then (
      some ((-1 : Int32), st)
    ) else (
      if x1 ≤ (9 : Int32) then (
        bd (f_T_partCount x1 st) fun r26 st25 =>
        if r26 ≤ 0 then (
          f_T_grow_48 x1 x2 x4 x5 r26 st25
        ) else (
          bd (f_T_areEarlier r26 x2 x4 x5 st25) fun r30 st29 =>
          if r30 = 0 then (
            some ((-1 : Int32), st29)
          ) else (
            f_T_grow_48 x1 x2 x4 x5 r26 st29
          )
        )
      ) else (
        some ((-1 : Int32), st)
      )
    )
  )
set_option maxHeartbeats 4000000 in
set_option maxRecDepth 100000 in
theorem w_T_grow_142  {r : Int32} {t : CS} (E : EC R_T c_T_grow 8 p s m args c D (tyL cs)) (hA : ∀ q, H0.size ≤ q → A0 q) (kr : ∀ (H : Heap) (locs : List Loc) (pc : Nat) (ls : Array Slot), IW D (cwC A cs t) A0 H0 H locs → decode c_T_grow pc = .ok (.ireturn, 1) → W p l e rm_T_grow s m args below meth c H locs 0 0 Q (F0 m pc ls [.int r])) : ∀ (x7 : Int32) (s1 : Int32) (s2 : Int32) (st : CS) (H : Heap) (locs : List Loc) (ls : Array Slot), f_T_grow_142 x7 s1 s2 st = some (r, t) → IW D (cwC A cs st) A0 H0 H locs → lv_has ls 8 [(0, .ref (A 1)), (7, .int x7)] → W p l e rm_T_grow s m args below meth c H locs 0 0 Q (F0 m 142 ls [.int s2, .int s1, .ref (A 11)]) := by
  intro x7 s1 s2 st H locs ls h I hl
  have hx := E.1
  have hb := E.2.1
  rw [f_T_grow_142] at h
  obtain ⟨b1, h⟩ := ck_some h
  obtain ⟨st2, est2⟩ : ∃ y : CS, y = (s_cT_thirds st s1.toNatClampNeg s2) := ⟨_, rfl⟩
  have h := nx_k est2 h
  refine p_cT_thirds E I b1 est2 d_T_grow_142 (fun H locs I => ?_)
  refine lv_aload_n hx hb d_T_grow_143 rfl (lv_at hl 0 rfl) ?_
  refine g_cT_shapes E I k_T_28 d_T_grow_144 ?_
  refine lv_iload hx hb d_T_grow_147 (lv_at hl 1 rfl) ?_
  refine lv_aload_n hx hb d_T_grow_149 rfl (lv_at hl 0 rfl) ?_
  refine lv_iload hx hb d_T_grow_150 (lv_at hl 1 rfl) ?_
  obtain ⟨r4, st3, h5, h⟩ := bd_some h
  refine cV (As := [.int x7]) (rest := [.int x7, .ref (A 12)]) E I hA (k_T_shapeFor h5) g_T_46 ⟨rfl, rfl⟩ 1 rfl rfl rfl hl rfl (Nat.le_of_ble_eq_true rfl) ⟨Nat.le_of_ble_eq_true rfl, Nat.le_of_ble_eq_true rfl⟩ ⟨Nat.zero_le _, Nat.zero_le _⟩ d_T_grow_152 rfl (fun H locs I => ?_)
  obtain ⟨b6, h⟩ := ck_some h
  obtain ⟨st7, est7⟩ : ∃ y : CS, y = (s_cT_shapes st3 x7.toNatClampNeg r4) := ⟨_, rfl⟩
  have h := nx_k est7 h
  refine p_cT_shapes E I b6 est7 d_T_grow_155 (fun H locs I => ?_)
  refine lv_iload hx hb d_T_grow_156 (lv_at hl 1 rfl) ?_
  cases h
  exact kr _ _ _ _ I d_T_grow_158
set_option maxHeartbeats 4000000 in
set_option maxRecDepth 100000 in
theorem w_T_grow_123  {r : Int32} {t : CS} (E : EC R_T c_T_grow 8 p s m args c D (tyL cs)) (hA : ∀ q, H0.size ≤ q → A0 q) (kr : ∀ (H : Heap) (locs : List Loc) (pc : Nat) (ls : Array Slot), IW D (cwC A cs t) A0 H0 H locs → decode c_T_grow pc = .ok (.ireturn, 1) → W p l e rm_T_grow s m args below meth c H locs 0 0 Q (F0 m pc ls [.int r])) : ∀ (x5 : Int32) (x6 : Int32) (x7 : Int32) (s1 : Int32) (s2 : Int32) (st : CS) (H : Heap) (locs : List Loc) (ls : Array Slot), f_T_grow_123 x5 x6 x7 s1 s2 st = some (r, t) → IW D (cwC A cs st) A0 H0 H locs → lv_has ls 8 [(0, .ref (A 1)), (5, .int x5), (6, .int x6), (7, .int x7)] → W p l e rm_T_grow s m args below meth c H locs 0 0 Q (F0 m 123 ls [.int s2, .int s1, .ref (A 10)]) := by
  intro x5 x6 x7 s1 s2 st H locs ls h I hl
  have hx := E.1
  have hb := E.2.1
  rw [f_T_grow_123] at h
  obtain ⟨b8, h⟩ := ck_some h
  obtain ⟨st9, est9⟩ : ∃ y : CS, y = (s_cT_seconds st s1.toNatClampNeg s2) := ⟨_, rfl⟩
  have h := nx_k est9 h
  refine p_cT_seconds E I b8 est9 d_T_grow_123 (fun H locs I => ?_)
  refine lv_aload_n hx hb d_T_grow_124 rfl (lv_at hl 0 rfl) ?_
  refine g_cT_thirds E I k_T_25 d_T_grow_125 ?_
  refine lv_iload hx hb d_T_grow_128 (lv_at hl 3 rfl) ?_
  refine lv_iload hx hb d_T_grow_130 (lv_at hl 2 rfl) ?_
  refine lv_iconst (v := 2) hx hb d_T_grow_132 (by decide) ?_
  refine lv_icmp_le (tgt := 141) hx hb d_T_grow_133 (by decide) (fun c10 => ?_) (fun c10 => ?_)
  · have h := ifp c10 h
    refine lv_iconst (v := -1) hx hb d_T_grow_141 (by decide) ?_
    exact w_T_grow_142 E hA kr x7 x7 (-1 : Int32) st9 _ _ _ h I (lv_sub hl [0, 3] rfl)
  · have h := ifn c10 h
    refine lv_iload hx hb d_T_grow_136 (lv_at hl 1 rfl) ?_
    refine lv_goto (tgt := 142) hx hb d_T_grow_138 (by decide) ?_
    exact w_T_grow_142 E hA kr x7 x7 x5 st9 _ _ _ h I (lv_sub hl [0, 3] rfl)
set_option maxHeartbeats 4000000 in
set_option maxRecDepth 100000 in
theorem w_T_grow_105  {r : Int32} {t : CS} (E : EC R_T c_T_grow 8 p s m args c D (tyL cs)) (hA : ∀ q, H0.size ≤ q → A0 q) (kr : ∀ (H : Heap) (locs : List Loc) (pc : Nat) (ls : Array Slot), IW D (cwC A cs t) A0 H0 H locs → decode c_T_grow pc = .ok (.ireturn, 1) → W p l e rm_T_grow s m args below meth c H locs 0 0 Q (F0 m pc ls [.int r])) : ∀ (x4 : Int32) (x5 : Int32) (x6 : Int32) (x7 : Int32) (s1 : Int32) (s2 : Int32) (st : CS) (H : Heap) (locs : List Loc) (ls : Array Slot), f_T_grow_105 x4 x5 x6 x7 s1 s2 st = some (r, t) → IW D (cwC A cs st) A0 H0 H locs → lv_has ls 8 [(0, .ref (A 1)), (4, .int x4), (5, .int x5), (6, .int x6), (7, .int x7)] → W p l e rm_T_grow s m args below meth c H locs 0 0 Q (F0 m 105 ls [.int s2, .int s1, .ref (A 9)]) := by
  intro x4 x5 x6 x7 s1 s2 st H locs ls h I hl
  have hx := E.1
  have hb := E.2.1
  rw [f_T_grow_105] at h
  obtain ⟨b11, h⟩ := ck_some h
  obtain ⟨st12, est12⟩ : ∃ y : CS, y = (s_cT_firsts st s1.toNatClampNeg s2) := ⟨_, rfl⟩
  have h := nx_k est12 h
  refine p_cT_firsts E I b11 est12 d_T_grow_105 (fun H locs I => ?_)
  refine lv_aload_n hx hb d_T_grow_106 rfl (lv_at hl 0 rfl) ?_
  refine g_cT_seconds E I k_T_22 d_T_grow_107 ?_
  refine lv_iload hx hb d_T_grow_110 (lv_at hl 4 rfl) ?_
  refine lv_iload hx hb d_T_grow_112 (lv_at hl 3 rfl) ?_
  refine lv_if_le (tgt := 122) hx hb d_T_grow_114 (by decide) (fun c13 => ?_) (fun c13 => ?_)
  · have h := ifp c13 h
    refine lv_iconst (v := -1) hx hb d_T_grow_122 (by decide) ?_
    exact w_T_grow_123 E hA kr x5 x6 x7 x7 (-1 : Int32) st12 _ _ _ h I (lv_sub hl [0, 2, 3, 4] rfl)
  · have h := ifn c13 h
    refine lv_iload hx hb d_T_grow_117 (lv_at hl 1 rfl) ?_
    refine lv_goto (tgt := 123) hx hb d_T_grow_119 (by decide) ?_
    exact w_T_grow_123 E hA kr x5 x6 x7 x7 x4 st12 _ _ _ h I (lv_sub hl [0, 2, 3, 4] rfl)
set_option maxHeartbeats 4000000 in
set_option maxRecDepth 100000 in
theorem w_T_grow_87  {r : Int32} {t : CS} (E : EC R_T c_T_grow 8 p s m args c D (tyL cs)) (hA : ∀ q, H0.size ≤ q → A0 q) (kr : ∀ (H : Heap) (locs : List Loc) (pc : Nat) (ls : Array Slot), IW D (cwC A cs t) A0 H0 H locs → decode c_T_grow pc = .ok (.ireturn, 1) → W p l e rm_T_grow s m args below meth c H locs 0 0 Q (F0 m pc ls [.int r])) : ∀ (x2 : Int64) (x4 : Int32) (x5 : Int32) (x6 : Int32) (x7 : Int32) (s1 : Int32) (s2 : Int64) (st : CS) (H : Heap) (locs : List Loc) (ls : Array Slot), f_T_grow_87 x2 x4 x5 x6 x7 s1 s2 st = some (r, t) → IW D (cwC A cs st) A0 H0 H locs → lv_has ls 8 [(0, .ref (A 1)), (2, .long x2), (4, .int x4), (5, .int x5), (6, .int x6), (7, .int x7)] → W p l e rm_T_grow s m args below meth c H locs 0 0 Q (F0 m 87 ls [.long s2, .int s1, .ref (A 8)]) := by
  intro x2 x4 x5 x6 x7 s1 s2 st H locs ls h I hl
  have hx := E.1
  have hb := E.2.1
  rw [f_T_grow_87] at h
  obtain ⟨b14, h⟩ := ck_some h
  obtain ⟨st15, est15⟩ : ∃ y : CS, y = (s_cT_numbers st s1.toNatClampNeg s2) := ⟨_, rfl⟩
  have h := nx_k est15 h
  refine p_cT_numbers E I b14 est15 d_T_grow_87 (fun H locs I => ?_)
  refine lv_aload_n hx hb d_T_grow_88 rfl (lv_at hl 0 rfl) ?_
  refine g_cT_firsts E I k_T_19 d_T_grow_89 ?_
  refine lv_iload hx hb d_T_grow_92 (lv_at hl 5 rfl) ?_
  refine lv_iload hx hb d_T_grow_94 (lv_at hl 4 rfl) ?_
  refine lv_if_le (tgt := 104) hx hb d_T_grow_96 (by decide) (fun c16 => ?_) (fun c16 => ?_)
  · have h := ifp c16 h
    refine lv_iconst (v := -1) hx hb d_T_grow_104 (by decide) ?_
    exact w_T_grow_105 E hA kr x4 x5 x6 x7 x7 (-1 : Int32) st15 _ _ _ h I (lv_sub hl [0, 2, 3, 4, 5] rfl)
  · have h := ifn c16 h
    refine lv_lload_n hx hb d_T_grow_99 rfl (lv_at hl 1 rfl) ?_
    refine lv_l2i hx hb d_T_grow_100 rfl ?_
    refine lv_goto (tgt := 105) hx hb d_T_grow_101 (by decide) ?_
    exact w_T_grow_105 E hA kr x4 x5 x6 x7 x7 (x2.toInt32) st15 _ _ _ h I (lv_sub hl [0, 2, 3, 4, 5] rfl)
set_option maxHeartbeats 4000000 in
set_option maxRecDepth 100000 in
theorem w_T_grow_48  {r : Int32} {t : CS} (E : EC R_T c_T_grow 8 p s m args c D (tyL cs)) (hA : ∀ q, H0.size ≤ q → A0 q) (kr : ∀ (H : Heap) (locs : List Loc) (pc : Nat) (ls : Array Slot), IW D (cwC A cs t) A0 H0 H locs → decode c_T_grow pc = .ok (.ireturn, 1) → W p l e rm_T_grow s m args below meth c H locs 0 0 Q (F0 m pc ls [.int r])) : ∀ (x1 : Int32) (x2 : Int64) (x4 : Int32) (x5 : Int32) (x6 : Int32) (st : CS) (H : Heap) (locs : List Loc) (ls : Array Slot), f_T_grow_48 x1 x2 x4 x5 x6 st = some (r, t) → IW D (cwC A cs st) A0 H0 H locs → lv_has ls 8 [(0, .ref (A 1)), (1, .int x1), (2, .long x2), (4, .int x4), (5, .int x5), (6, .int x6)] → W p l e rm_T_grow s m args below meth c H locs 0 0 Q (F0 m 48 ls []) := by
  intro x1 x2 x4 x5 x6 st H locs ls h I hl
  have hx := E.1
  have hb := E.2.1
  rw [f_T_grow_48] at h
  refine lv_aload_n hx hb d_T_grow_48 rfl (lv_at hl 0 rfl) ?_
  refine g_cT_size E I k_T_34 d_T_grow_49 ?_
  refine lv_topi (fun x7_17 ex7_17 => ?_)
  have h := nx_k ex7_17 h
  refine lv_istore (lv' := [(7, .int x7_17), (0, .ref (A 1)), (1, .int x1), (2, .long x2), (4, .int x4), (5, .int x5), (6, .int x6)]) hx hb d_T_grow_52 hl (by decide) rfl (fun ls hl => ?_)
  refine lv_aload_n hx hb d_T_grow_54 rfl (lv_at hl 1 rfl) ?_
  refine lv_dup hx hb d_T_grow_55 rfl ?_
  refine g_cT_size E I k_T_34 d_T_grow_56 ?_
  refine lv_iconst (v := 1) hx hb d_T_grow_59 (by decide) ?_
  refine lv_iadd hx hb d_T_grow_60 ?_
  obtain ⟨st18, est18⟩ : ∃ y : CS, y = (s_cT_size st ((cT_size st) + (1 : Int32))) := ⟨_, rfl⟩
  have h := nx_k est18 h
  refine p_cT_size E I est18 k_T_34 d_T_grow_61 (fun H locs I => ?_)
  refine lv_aload_n hx hb d_T_grow_64 rfl (lv_at hl 1 rfl) ?_
  refine g_cT_kinds E I k_T_9 d_T_grow_65 ?_
  refine lv_iload hx hb d_T_grow_68 (lv_at hl 0 rfl) ?_
  refine lv_iload_n hx hb d_T_grow_70 rfl (lv_at hl 2 rfl) ?_
  obtain ⟨b19, h⟩ := ck_some h
  obtain ⟨st20, est20⟩ : ∃ y : CS, y = (s_cT_kinds st18 x7_17.toNatClampNeg x1) := ⟨_, rfl⟩
  have h := nx_k est20 h
  refine p_cT_kinds E I b19 est20 d_T_grow_71 (fun H locs I => ?_)
  refine lv_aload_n hx hb d_T_grow_72 rfl (lv_at hl 1 rfl) ?_
  refine g_cT_numbers E I k_T_15 d_T_grow_73 ?_
  refine lv_iload hx hb d_T_grow_76 (lv_at hl 0 rfl) ?_
  refine lv_iload_n hx hb d_T_grow_78 rfl (lv_at hl 2 rfl) ?_
  refine lv_if_ne (tgt := 86) hx hb d_T_grow_79 (by decide) (fun c21 => ?_) (fun c21 => ?_)
  · have h := ifn c21 h
    refine lv_lconst (v := 0) hx hb d_T_grow_86 (by decide) ?_
    exact w_T_grow_87 E hA kr x2 x4 x5 x6 x7_17 x7_17 (0 : Int64) st20 _ _ _ h I (lv_sub hl [1, 3, 4, 5, 6, 0] rfl)
  · have h := ifp c21 h
    refine lv_lload_n hx hb d_T_grow_82 rfl (lv_at hl 3 rfl) ?_
    refine lv_goto (tgt := 87) hx hb d_T_grow_83 (by decide) ?_
    exact w_T_grow_87 E hA kr x2 x4 x5 x6 x7_17 x7_17 x2 st20 _ _ _ h I (lv_sub hl [1, 3, 4, 5, 6, 0] rfl)
set_option maxHeartbeats 4000000 in
set_option maxRecDepth 100000 in
theorem w_T_grow  {r : Int32} {t : CS} (E : EC R_T c_T_grow 8 p s m args c D (tyL cs)) (hA : ∀ q, H0.size ≤ q → A0 q) (kr : ∀ (H : Heap) (locs : List Loc) (pc : Nat) (ls : Array Slot), IW D (cwC A cs t) A0 H0 H locs → decode c_T_grow pc = .ok (.ireturn, 1) → W p l e rm_T_grow s m args below meth c H locs 0 0 Q (F0 m pc ls [.int r])) : ∀ (x1 : Int32) (x2 : Int64) (x4 : Int32) (x5 : Int32) (st : CS) (H : Heap) (locs : List Loc) (ls : Array Slot), f_T_grow x1 x2 x4 x5 st = some (r, t) → IW D (cwC A cs st) A0 H0 H locs → lv_has ls 8 [(0, .ref (A 1)), (1, .int x1), (2, .long x2), (4, .int x4), (5, .int x5)] → W p l e rm_T_grow s m args below meth c H locs 0 0 Q (F0 m 0 ls []) := by
  intro x1 x2 x4 x5 st H locs ls h I hl
  have hx := E.1
  have hb := E.2.1
  rw [f_T_grow] at h
  refine lv_aload_n hx hb d_T_grow_0 rfl (lv_at hl 0 rfl) ?_
  refine g_cT_size E I k_T_34 d_T_grow_1 ?_
  refine lv_bipush (v := 64) hx hb d_T_grow_4 (by decide) ?_
  refine lv_icmp_ge (tgt := 19) hx hb d_T_grow_6 (by decide) (fun c22 => ?_) (fun c22 => ?_)
  · have h := ifp c22 h
    refine lv_iconst (v := -1) hx hb d_T_grow_19 (by decide) ?_
    cases h
    exact kr _ _ _ _ I d_T_grow_20
  · have h := ifn c22 h
    refine lv_iload_n hx hb d_T_grow_9 rfl (lv_at hl 1 rfl) ?_
    refine lv_if_lt (tgt := 19) hx hb d_T_grow_10 (by decide) (fun c23 => ?_) (fun c23 => ?_)
    · have h := ifp c23 h
      refine lv_iconst (v := -1) hx hb d_T_grow_19 (by decide) ?_
      cases h
      exact kr _ _ _ _ I d_T_grow_20
    · have h := ifn c23 h
      refine lv_iload_n hx hb d_T_grow_13 rfl (lv_at hl 1 rfl) ?_
      refine lv_bipush (v := 9) hx hb d_T_grow_14 (by decide) ?_
      refine lv_icmp_le (tgt := 21) hx hb d_T_grow_16 (by decide) (fun c24 => ?_) (fun c24 => ?_)
      · have h := ifp c24 h
        refine lv_iload_n hx hb d_T_grow_21 rfl (lv_at hl 1 rfl) ?_
        obtain ⟨r26, st25, h27, h⟩ := bd_some h
        refine cS (As := [.int x1]) (rest := []) E I hA (k_T_partCount h27) g_T_38 ⟨rfl, rfl⟩ rfl hl rfl (Nat.le_of_ble_eq_true rfl) ⟨Nat.le_of_ble_eq_true rfl, Nat.le_of_ble_eq_true rfl⟩ ⟨Nat.zero_le _, Nat.zero_le _⟩ d_T_grow_22 rfl (fun H locs I => ?_)
        refine lv_istore (lv' := [(6, .int r26), (0, .ref (A 1)), (1, .int x1), (2, .long x2), (4, .int x4), (5, .int x5)]) hx hb d_T_grow_25 hl (by decide) rfl (fun ls hl => ?_)
        refine lv_iload hx hb d_T_grow_27 (lv_at hl 0 rfl) ?_
        refine lv_if_le (tgt := 48) hx hb d_T_grow_29 (by decide) (fun c28 => ?_) (fun c28 => ?_)
        · have h := ifp c28 h
          exact w_T_grow_48 E hA kr x1 x2 x4 x5 r26 st25 _ _ _ h I (lv_sub hl [1, 2, 3, 4, 5, 0] rfl)
        · have h := ifn c28 h
          refine lv_aload_n hx hb d_T_grow_32 rfl (lv_at hl 1 rfl) ?_
          refine lv_iload hx hb d_T_grow_33 (lv_at hl 0 rfl) ?_
          refine lv_lload_n hx hb d_T_grow_35 rfl (lv_at hl 3 rfl) ?_
          refine lv_iload hx hb d_T_grow_36 (lv_at hl 4 rfl) ?_
          refine lv_iload hx hb d_T_grow_38 (lv_at hl 5 rfl) ?_
          obtain ⟨r30, st29, h31, h⟩ := bd_some h
          refine cV (As := [.int r26, .long x2, .int x4, .int x5]) (rest := []) E I hA (k_T_areEarlier h31) g_T_42 ⟨rfl, rfl⟩ 1 rfl rfl rfl hl rfl (Nat.le_of_ble_eq_true rfl) ⟨Nat.le_of_ble_eq_true rfl, Nat.le_of_ble_eq_true rfl⟩ ⟨Nat.zero_le _, Nat.zero_le _⟩ d_T_grow_40 rfl (fun H locs I => ?_)
          refine lv_if_ne (tgt := 48) hx hb d_T_grow_43 (by decide) (fun c32 => ?_) (fun c32 => ?_)
          · have h := ifn c32 h
            exact w_T_grow_48 E hA kr x1 x2 x4 x5 r26 st29 _ _ _ h I (lv_sub hl [1, 2, 3, 4, 5, 0] rfl)
          · have h := ifp c32 h
            refine lv_iconst (v := -1) hx hb d_T_grow_46 (by decide) ?_
            cases h
            exact kr _ _ _ _ I d_T_grow_47
      · have h := ifn c24 h
        refine lv_iconst (v := -1) hx hb d_T_grow_19 (by decide) ?_
        cases h
        exact kr _ _ _ _ I d_T_grow_20
set_option maxHeartbeats 4000000 in
set_option maxRecDepth 100000 in
theorem k_T_grow {x1 : Int32} {x2 : Int64} {x4 : Int32} {x5 : Int32} {st t : CS} {r : Int32} (h : f_T_grow x1 x2 x4 x5 st = some (r, t)) : Cn l y_T_grow c_T_grow 8 (some .int) rm_T_grow D (tyL cs) (cwC A cs st) (cwC A cs t) [.ref (A 1), .int x1, .long x2, .int x4, .int x5] (some (.int r)) := by
  refine cn_intro (by decide) (Nat.le_of_ble_eq_true rfl) ?_
  intro p e s m below meth c A0 Q ls E hr hlk hA hA0 hQ I hl
  exact w_T_grow E hA (rt_i E hr hlk hA0 hQ) x1 x2 x4 x5 st _ _ _ h I (lv_sub hl [0, 1, 2, 3, 4] rfl)
abbrev rm_M_node : Room := { frames := 4, cells := 0, slots := 0, locals := 94 }
noncomputable def f_M_node (x1 : Int32) (x2 : Int64) (x4 : Int32) (x5 : Int32) (st : CS) : Option (Int32 × CS) :=
  bd (f_T_grow x1 x2 x4 x5 st) fun r2 st1 =>
  some (r2, st1)
set_option maxHeartbeats 4000000 in
set_option maxRecDepth 100000 in
theorem w_M_node  {r : Int32} {t : CS} (E : EC R_M c_M_node 6 p s m args c D (tyL cs)) (hA : ∀ q, H0.size ≤ q → A0 q) (kr : ∀ (H : Heap) (locs : List Loc) (pc : Nat) (ls : Array Slot), IW D (cwC A cs t) A0 H0 H locs → decode c_M_node pc = .ok (.ireturn, 1) → W p l e rm_M_node s m args below meth c H locs 0 0 Q (F0 m pc ls [.int r])) : ∀ (x1 : Int32) (x2 : Int64) (x4 : Int32) (x5 : Int32) (st : CS) (H : Heap) (locs : List Loc) (ls : Array Slot), f_M_node x1 x2 x4 x5 st = some (r, t) → IW D (cwC A cs st) A0 H0 H locs → lv_has ls 6 [(0, .ref (A 0)), (1, .int x1), (2, .long x2), (4, .int x4), (5, .int x5)] → W p l e rm_M_node s m args below meth c H locs 0 0 Q (F0 m 0 ls []) := by
  intro x1 x2 x4 x5 st H locs ls h I hl
  have hx := E.1
  have hb := E.2.1
  rw [f_M_node] at h
  refine lv_aload_n hx hb d_M_node_0 rfl (lv_at hl 0 rfl) ?_
  refine g_cM_trees E I k_M_10 d_M_node_1 ?_
  refine lv_iload_n hx hb d_M_node_4 rfl (lv_at hl 1 rfl) ?_
  refine lv_lload_n hx hb d_M_node_5 rfl (lv_at hl 2 rfl) ?_
  refine lv_iload hx hb d_M_node_6 (lv_at hl 3 rfl) ?_
  refine lv_iload hx hb d_M_node_8 (lv_at hl 4 rfl) ?_
  obtain ⟨r2, st1, h3, h⟩ := bd_some h
  refine cV (As := [.int x1, .long x2, .int x4, .int x5]) (rest := []) E I hA (k_T_grow h3) g_M_48 ⟨rfl, rfl⟩ 1 rfl rfl rfl hl rfl (Nat.le_of_ble_eq_true rfl) ⟨Nat.le_of_ble_eq_true rfl, Nat.le_of_ble_eq_true rfl⟩ ⟨Nat.zero_le _, Nat.zero_le _⟩ d_M_node_10 rfl (fun H locs I => ?_)
  cases h
  exact kr _ _ _ _ I d_M_node_13
set_option maxHeartbeats 4000000 in
set_option maxRecDepth 100000 in
theorem k_M_node {x1 : Int32} {x2 : Int64} {x4 : Int32} {x5 : Int32} {st t : CS} {r : Int32} (h : f_M_node x1 x2 x4 x5 st = some (r, t)) : Cn l y_M_node c_M_node 6 (some .int) rm_M_node D (tyL cs) (cwC A cs st) (cwC A cs t) [.ref (A 0), .int x1, .long x2, .int x4, .int x5] (some (.int r)) := by
  refine cn_intro (by decide) (Nat.le_of_ble_eq_true rfl) ?_
  intro p e s m below meth c A0 Q ls E hr hlk hA hA0 hQ I hl
  exact w_M_node E hA (rt_i E hr hlk hA0 hQ) x1 x2 x4 x5 st _ _ _ h I (lv_sub hl [0, 1, 2, 3, 4] rfl)
abbrev rm_M_bit : Room := { frames := 0, cells := 0, slots := 0, locals := 0 }
noncomputable def f_M_bit (x0 : Int32) (st : CS) : Option (Int64 × CS) :=
  some (((1 : Int64) <<< (x0.toInt64 &&& 63)), st)
set_option maxHeartbeats 4000000 in
set_option maxRecDepth 100000 in
theorem w_M_bit  {r : Int64} {t : CS} (E : EC R_M c_M_bit 1 p s m args c D (tyL cs)) (hA : ∀ q, H0.size ≤ q → A0 q) (kr : ∀ (H : Heap) (locs : List Loc) (pc : Nat) (ls : Array Slot), IW D (cwC A cs t) A0 H0 H locs → decode c_M_bit pc = .ok (.lreturn, 1) → W p l e rm_M_bit s m args below meth c H locs 0 0 Q (F0 m pc ls [.long r])) : ∀ (x0 : Int32) (st : CS) (H : Heap) (locs : List Loc) (ls : Array Slot), f_M_bit x0 st = some (r, t) → IW D (cwC A cs st) A0 H0 H locs → lv_has ls 1 [(0, .int x0)] → W p l e rm_M_bit s m args below meth c H locs 0 0 Q (F0 m 0 ls []) := by
  intro x0 st H locs ls h I hl
  have hx := E.1
  have hb := E.2.1
  rw [f_M_bit] at h
  refine lv_lconst (v := 1) hx hb d_M_bit_0 (by decide) ?_
  refine lv_iload_n hx hb d_M_bit_1 rfl (lv_at hl 0 rfl) ?_
  refine lv_lshl hx hb d_M_bit_2 rfl ?_
  cases h
  exact kr _ _ _ _ I d_M_bit_3
set_option maxHeartbeats 4000000 in
set_option maxRecDepth 100000 in
theorem k_M_bit {x0 : Int32} {st t : CS} {r : Int64} (h : f_M_bit x0 st = some (r, t)) : Cn l y_M_bit c_M_bit 1 (some .long) rm_M_bit D (tyL cs) (cwC A cs st) (cwC A cs t) [.int x0] (some (.long r)) := by
  refine cn_intro (by decide) (Nat.le_of_ble_eq_true rfl) ?_
  intro p e s m below meth c A0 Q ls E hr hlk hA hA0 hQ I hl
  exact w_M_bit E hA (rt_l E hr hlk hA0 hQ) x0 st _ _ _ h I (lv_sub hl [0] rfl)
abbrev rm_T_kindOf : Room := { frames := 0, cells := 0, slots := 0, locals := 0 }
noncomputable def f_T_kindOf (x1 : Int32) (st : CS) : Option (Int32 × CS) :=
  ck x1 64 <|
  some ((cT_kinds st x1.toNatClampNeg), st)
set_option maxHeartbeats 4000000 in
set_option maxRecDepth 100000 in
theorem w_T_kindOf  {r : Int32} {t : CS} (E : EC R_T c_T_kindOf 2 p s m args c D (tyL cs)) (hA : ∀ q, H0.size ≤ q → A0 q) (kr : ∀ (H : Heap) (locs : List Loc) (pc : Nat) (ls : Array Slot), IW D (cwC A cs t) A0 H0 H locs → decode c_T_kindOf pc = .ok (.ireturn, 1) → W p l e rm_T_kindOf s m args below meth c H locs 0 0 Q (F0 m pc ls [.int r])) : ∀ (x1 : Int32) (st : CS) (H : Heap) (locs : List Loc) (ls : Array Slot), f_T_kindOf x1 st = some (r, t) → IW D (cwC A cs st) A0 H0 H locs → lv_has ls 2 [(0, .ref (A 1)), (1, .int x1)] → W p l e rm_T_kindOf s m args below meth c H locs 0 0 Q (F0 m 0 ls []) := by
  intro x1 st H locs ls h I hl
  have hx := E.1
  have hb := E.2.1
  rw [f_T_kindOf] at h
  refine lv_aload_n hx hb d_T_kindOf_0 rfl (lv_at hl 0 rfl) ?_
  refine g_cT_kinds E I k_T_9 d_T_kindOf_1 ?_
  refine lv_iload_n hx hb d_T_kindOf_4 rfl (lv_at hl 1 rfl) ?_
  obtain ⟨b1, h⟩ := ck_some h
  refine l_cT_kinds E I b1 d_T_kindOf_5 ?_
  cases h
  exact kr _ _ _ _ I d_T_kindOf_6
set_option maxHeartbeats 4000000 in
set_option maxRecDepth 100000 in
theorem k_T_kindOf {x1 : Int32} {st t : CS} {r : Int32} (h : f_T_kindOf x1 st = some (r, t)) : Cn l y_T_kindOf c_T_kindOf 2 (some .int) rm_T_kindOf D (tyL cs) (cwC A cs st) (cwC A cs t) [.ref (A 1), .int x1] (some (.int r)) := by
  refine cn_intro (by decide) (Nat.le_of_ble_eq_true rfl) ?_
  intro p e s m below meth c A0 Q ls E hr hlk hA hA0 hQ I hl
  exact w_T_kindOf E hA (rt_i E hr hlk hA0 hQ) x1 st _ _ _ h I (lv_sub hl [0, 1] rfl)
abbrev rm_T_numberOf : Room := { frames := 0, cells := 0, slots := 0, locals := 0 }
noncomputable def f_T_numberOf (x1 : Int32) (st : CS) : Option (Int64 × CS) :=
  ck x1 64 <|
  some ((cT_numbers st x1.toNatClampNeg), st)
set_option maxHeartbeats 4000000 in
set_option maxRecDepth 100000 in
theorem w_T_numberOf  {r : Int64} {t : CS} (E : EC R_T c_T_numberOf 2 p s m args c D (tyL cs)) (hA : ∀ q, H0.size ≤ q → A0 q) (kr : ∀ (H : Heap) (locs : List Loc) (pc : Nat) (ls : Array Slot), IW D (cwC A cs t) A0 H0 H locs → decode c_T_numberOf pc = .ok (.lreturn, 1) → W p l e rm_T_numberOf s m args below meth c H locs 0 0 Q (F0 m pc ls [.long r])) : ∀ (x1 : Int32) (st : CS) (H : Heap) (locs : List Loc) (ls : Array Slot), f_T_numberOf x1 st = some (r, t) → IW D (cwC A cs st) A0 H0 H locs → lv_has ls 2 [(0, .ref (A 1)), (1, .int x1)] → W p l e rm_T_numberOf s m args below meth c H locs 0 0 Q (F0 m 0 ls []) := by
  intro x1 st H locs ls h I hl
  have hx := E.1
  have hb := E.2.1
  rw [f_T_numberOf] at h
  refine lv_aload_n hx hb d_T_numberOf_0 rfl (lv_at hl 0 rfl) ?_
  refine g_cT_numbers E I k_T_15 d_T_numberOf_1 ?_
  refine lv_iload_n hx hb d_T_numberOf_4 rfl (lv_at hl 1 rfl) ?_
  obtain ⟨b1, h⟩ := ck_some h
  refine l_cT_numbers E I b1 d_T_numberOf_5 ?_
  cases h
  exact kr _ _ _ _ I d_T_numberOf_6
set_option maxHeartbeats 4000000 in
set_option maxRecDepth 100000 in
theorem k_T_numberOf {x1 : Int32} {st t : CS} {r : Int64} (h : f_T_numberOf x1 st = some (r, t)) : Cn l y_T_numberOf c_T_numberOf 2 (some .long) rm_T_numberOf D (tyL cs) (cwC A cs st) (cwC A cs t) [.ref (A 1), .int x1] (some (.long r)) := by
  refine cn_intro (by decide) (Nat.le_of_ble_eq_true rfl) ?_
  intro p e s m below meth c A0 Q ls E hr hlk hA hA0 hQ I hl
  exact w_T_numberOf E hA (rt_l E hr hlk hA0 hQ) x1 st _ _ _ h I (lv_sub hl [0, 1] rfl)
abbrev rm_T_firstOf : Room := { frames := 0, cells := 0, slots := 0, locals := 0 }
noncomputable def f_T_firstOf (x1 : Int32) (st : CS) : Option (Int32 × CS) :=
  ck x1 64 <|
  some ((cT_firsts st x1.toNatClampNeg), st)
set_option maxHeartbeats 4000000 in
set_option maxRecDepth 100000 in
theorem w_T_firstOf  {r : Int32} {t : CS} (E : EC R_T c_T_firstOf 2 p s m args c D (tyL cs)) (hA : ∀ q, H0.size ≤ q → A0 q) (kr : ∀ (H : Heap) (locs : List Loc) (pc : Nat) (ls : Array Slot), IW D (cwC A cs t) A0 H0 H locs → decode c_T_firstOf pc = .ok (.ireturn, 1) → W p l e rm_T_firstOf s m args below meth c H locs 0 0 Q (F0 m pc ls [.int r])) : ∀ (x1 : Int32) (st : CS) (H : Heap) (locs : List Loc) (ls : Array Slot), f_T_firstOf x1 st = some (r, t) → IW D (cwC A cs st) A0 H0 H locs → lv_has ls 2 [(0, .ref (A 1)), (1, .int x1)] → W p l e rm_T_firstOf s m args below meth c H locs 0 0 Q (F0 m 0 ls []) := by
  intro x1 st H locs ls h I hl
  have hx := E.1
  have hb := E.2.1
  rw [f_T_firstOf] at h
  refine lv_aload_n hx hb d_T_firstOf_0 rfl (lv_at hl 0 rfl) ?_
  refine g_cT_firsts E I k_T_19 d_T_firstOf_1 ?_
  refine lv_iload_n hx hb d_T_firstOf_4 rfl (lv_at hl 1 rfl) ?_
  obtain ⟨b1, h⟩ := ck_some h
  refine l_cT_firsts E I b1 d_T_firstOf_5 ?_
  cases h
  exact kr _ _ _ _ I d_T_firstOf_6
set_option maxHeartbeats 4000000 in
set_option maxRecDepth 100000 in
theorem k_T_firstOf {x1 : Int32} {st t : CS} {r : Int32} (h : f_T_firstOf x1 st = some (r, t)) : Cn l y_T_firstOf c_T_firstOf 2 (some .int) rm_T_firstOf D (tyL cs) (cwC A cs st) (cwC A cs t) [.ref (A 1), .int x1] (some (.int r)) := by
  refine cn_intro (by decide) (Nat.le_of_ble_eq_true rfl) ?_
  intro p e s m below meth c A0 Q ls E hr hlk hA hA0 hQ I hl
  exact w_T_firstOf E hA (rt_i E hr hlk hA0 hQ) x1 st _ _ _ h I (lv_sub hl [0, 1] rfl)
abbrev rm_T_secondOf : Room := { frames := 0, cells := 0, slots := 0, locals := 0 }
noncomputable def f_T_secondOf (x1 : Int32) (st : CS) : Option (Int32 × CS) :=
  ck x1 64 <|
  some ((cT_seconds st x1.toNatClampNeg), st)
set_option maxHeartbeats 4000000 in
set_option maxRecDepth 100000 in
theorem w_T_secondOf  {r : Int32} {t : CS} (E : EC R_T c_T_secondOf 2 p s m args c D (tyL cs)) (hA : ∀ q, H0.size ≤ q → A0 q) (kr : ∀ (H : Heap) (locs : List Loc) (pc : Nat) (ls : Array Slot), IW D (cwC A cs t) A0 H0 H locs → decode c_T_secondOf pc = .ok (.ireturn, 1) → W p l e rm_T_secondOf s m args below meth c H locs 0 0 Q (F0 m pc ls [.int r])) : ∀ (x1 : Int32) (st : CS) (H : Heap) (locs : List Loc) (ls : Array Slot), f_T_secondOf x1 st = some (r, t) → IW D (cwC A cs st) A0 H0 H locs → lv_has ls 2 [(0, .ref (A 1)), (1, .int x1)] → W p l e rm_T_secondOf s m args below meth c H locs 0 0 Q (F0 m 0 ls []) := by
  intro x1 st H locs ls h I hl
  have hx := E.1
  have hb := E.2.1
  rw [f_T_secondOf] at h
  refine lv_aload_n hx hb d_T_secondOf_0 rfl (lv_at hl 0 rfl) ?_
  refine g_cT_seconds E I k_T_22 d_T_secondOf_1 ?_
  refine lv_iload_n hx hb d_T_secondOf_4 rfl (lv_at hl 1 rfl) ?_
  obtain ⟨b1, h⟩ := ck_some h
  refine l_cT_seconds E I b1 d_T_secondOf_5 ?_
  cases h
  exact kr _ _ _ _ I d_T_secondOf_6
set_option maxHeartbeats 4000000 in
set_option maxRecDepth 100000 in
theorem k_T_secondOf {x1 : Int32} {st t : CS} {r : Int32} (h : f_T_secondOf x1 st = some (r, t)) : Cn l y_T_secondOf c_T_secondOf 2 (some .int) rm_T_secondOf D (tyL cs) (cwC A cs st) (cwC A cs t) [.ref (A 1), .int x1] (some (.int r)) := by
  refine cn_intro (by decide) (Nat.le_of_ble_eq_true rfl) ?_
  intro p e s m below meth c A0 Q ls E hr hlk hA hA0 hQ I hl
  exact w_T_secondOf E hA (rt_i E hr hlk hA0 hQ) x1 st _ _ _ h I (lv_sub hl [0, 1] rfl)
abbrev rm_T_thirdOf : Room := { frames := 0, cells := 0, slots := 0, locals := 0 }
noncomputable def f_T_thirdOf (x1 : Int32) (st : CS) : Option (Int32 × CS) :=
  ck x1 64 <|
  some ((cT_thirds st x1.toNatClampNeg), st)
set_option maxHeartbeats 4000000 in
set_option maxRecDepth 100000 in
theorem w_T_thirdOf  {r : Int32} {t : CS} (E : EC R_T c_T_thirdOf 2 p s m args c D (tyL cs)) (hA : ∀ q, H0.size ≤ q → A0 q) (kr : ∀ (H : Heap) (locs : List Loc) (pc : Nat) (ls : Array Slot), IW D (cwC A cs t) A0 H0 H locs → decode c_T_thirdOf pc = .ok (.ireturn, 1) → W p l e rm_T_thirdOf s m args below meth c H locs 0 0 Q (F0 m pc ls [.int r])) : ∀ (x1 : Int32) (st : CS) (H : Heap) (locs : List Loc) (ls : Array Slot), f_T_thirdOf x1 st = some (r, t) → IW D (cwC A cs st) A0 H0 H locs → lv_has ls 2 [(0, .ref (A 1)), (1, .int x1)] → W p l e rm_T_thirdOf s m args below meth c H locs 0 0 Q (F0 m 0 ls []) := by
  intro x1 st H locs ls h I hl
  have hx := E.1
  have hb := E.2.1
  rw [f_T_thirdOf] at h
  refine lv_aload_n hx hb d_T_thirdOf_0 rfl (lv_at hl 0 rfl) ?_
  refine g_cT_thirds E I k_T_25 d_T_thirdOf_1 ?_
  refine lv_iload_n hx hb d_T_thirdOf_4 rfl (lv_at hl 1 rfl) ?_
  obtain ⟨b1, h⟩ := ck_some h
  refine l_cT_thirds E I b1 d_T_thirdOf_5 ?_
  cases h
  exact kr _ _ _ _ I d_T_thirdOf_6
set_option maxHeartbeats 4000000 in
set_option maxRecDepth 100000 in
theorem k_T_thirdOf {x1 : Int32} {st t : CS} {r : Int32} (h : f_T_thirdOf x1 st = some (r, t)) : Cn l y_T_thirdOf c_T_thirdOf 2 (some .int) rm_T_thirdOf D (tyL cs) (cwC A cs st) (cwC A cs t) [.ref (A 1), .int x1] (some (.int r)) := by
  refine cn_intro (by decide) (Nat.le_of_ble_eq_true rfl) ?_
  intro p e s m below meth c A0 Q ls E hr hlk hA hA0 hQ I hl
  exact w_T_thirdOf E hA (rt_i E hr hlk hA0 hQ) x1 st _ _ _ h I (lv_sub hl [0, 1] rfl)
noncomputable def f_K_worthOfChoice_42 (fw : Int32 → CS → Option (Int64 × CS)) (x1 : Int32) (s0 : Int32) (st : CS) : Option (Int64 × CS) :=
  if s0 = 0 then (
    bd (f_T_thirdOf x1 st) fun r3 st2 =>
    bd (fw r3 st2) fun r6 st5 =>
    some (r6, st5)
  ) else (
    bd (f_T_secondOf x1 st) fun r9 st8 =>
    bd (fw r9 st8) fun r12 st11 =>
    some (r12, st11)
  )
noncomputable def f_K_worthOfChoice_22 (fw : Int32 → CS → Option (Int64 × CS)) (x1 : Int32) (x2 : Int32) (s0 : Int32) (st : CS) : Option (Int64 × CS) :=
  if x2 = (3 : Int32) then (
    if s0 = (1 : Int32) then (
      f_K_worthOfChoice_42 fw x1 (0 : Int32) st
    ) else (
      f_K_worthOfChoice_42 fw x1 (1 : Int32) st
    )
  ) else (
    if s0 = (0 : Int32) then (
      f_K_worthOfChoice_42 fw x1 (0 : Int32) st
    ) else (
      f_K_worthOfChoice_42 fw x1 (1 : Int32) st
    )
  )
noncomputable def f_K_worthOfChoice (fw : Int32 → CS → Option (Int64 × CS)) (x1 : Int32) (x2 : Int32) (st : CS) : Option (Int64 × CS) :=
  bd (f_T_firstOf x1 st) fun r18 st17 =>
  bd (fw r18 st17) fun r21 st20 =>
  if r21 = (0 : Int64) then (
    f_K_worthOfChoice_22 fw x1 x2 (0 : Int32) st20
  ) else (
    f_K_worthOfChoice_22 fw x1 x2 (1 : Int32) st20
  )
set_option maxHeartbeats 4000000 in
set_option maxRecDepth 100000 in
theorem w_K_worthOfChoice_42  {d : Nat} {fw : Int32 → CS → Option (Int64 × CS)} (hfw : ∀ (x1 : Int32) (st : CS) (r : Int64) (t : CS), fw x1 st = some (r, t) → Cn l y_K_worth c_K_worth 4 (some .long) (rm_K_worth d) D (tyL cs) (cwC A cs st) (cwC A cs t) [.ref (A 3), .int x1] (some (.long r))) {r : Int64} {t : CS} (E : EC R_K c_K_worthOfChoice 5 p s m args c D (tyL cs)) (hA : ∀ q, H0.size ≤ q → A0 q) (kr : ∀ (H : Heap) (locs : List Loc) (pc : Nat) (ls : Array Slot), IW D (cwC A cs t) A0 H0 H locs → decode c_K_worthOfChoice pc = .ok (.lreturn, 1) → W p l e (rm_K_worthOfChoice d) s m args below meth c H locs 0 0 Q (F0 m pc ls [.long r])) : ∀ (x1 : Int32) (s0 : Int32) (st : CS) (H : Heap) (locs : List Loc) (ls : Array Slot), f_K_worthOfChoice_42 fw x1 s0 st = some (r, t) → IW D (cwC A cs st) A0 H0 H locs → lv_has ls 5 [(0, .ref (A 3)), (1, .int x1)] → W p l e (rm_K_worthOfChoice d) s m args below meth c H locs 0 0 Q (F0 m 42 ls [.int s0]) := by
  intro x1 s0 st H locs ls h I hl
  have hx := E.1
  have hb := E.2.1
  rw [f_K_worthOfChoice_42] at h
  refine lv_istore (lv' := [(4, .int s0), (0, .ref (A 3)), (1, .int x1)]) hx hb d_K_worthOfChoice_42 hl (by decide) rfl (fun ls hl => ?_)
  refine lv_aload_n hx hb d_K_worthOfChoice_44 rfl (lv_at hl 1 rfl) ?_
  refine lv_iload hx hb d_K_worthOfChoice_45 (lv_at hl 0 rfl) ?_
  refine lv_if_eq (tgt := 61) hx hb d_K_worthOfChoice_47 (by decide) (fun c1 => ?_) (fun c1 => ?_)
  · have h := ifp c1 h
    refine lv_aload_n hx hb d_K_worthOfChoice_61 rfl (lv_at hl 1 rfl) ?_
    refine g_cK_trees E I k_K_9 d_K_worthOfChoice_62 ?_
    refine lv_iload_n hx hb d_K_worthOfChoice_65 rfl (lv_at hl 2 rfl) ?_
    obtain ⟨r3, st2, h4, h⟩ := bd_some h
    refine cV (As := [.int x1]) (rest := [.ref (A 3)]) E I hA (k_T_thirdOf h4) g_K_75 ⟨rfl, rfl⟩ 1 rfl rfl rfl hl rfl (Nat.le_of_ble_eq_true rfl) ⟨by dsimp only [rm_K_worth, rm_K_worthOfChoice, rm_K_worthOfLoop, rm_K_worthOfTwo]; omega, by dsimp only [rm_K_worth, rm_K_worthOfChoice, rm_K_worthOfLoop, rm_K_worthOfTwo]; omega⟩ ⟨Nat.zero_le _, Nat.zero_le _⟩ d_K_worthOfChoice_66 rfl (fun H locs I => ?_)
    obtain ⟨r6, st5, h7, h⟩ := bd_some h
    refine cV (As := [.int r3]) (rest := []) E I hA (hfw _ _ _ _ h7) g_K_42 ⟨rfl, rfl⟩ 3 rfl rfl rfl hl rfl (Nat.le_of_ble_eq_true rfl) ⟨by dsimp only [rm_K_worth, rm_K_worthOfChoice, rm_K_worthOfLoop, rm_K_worthOfTwo]; omega, by dsimp only [rm_K_worth, rm_K_worthOfChoice, rm_K_worthOfLoop, rm_K_worthOfTwo]; omega⟩ ⟨Nat.zero_le _, Nat.zero_le _⟩ d_K_worthOfChoice_69 rfl (fun H locs I => ?_)
    cases h
    exact kr _ _ _ _ I d_K_worthOfChoice_72
  · have h := ifn c1 h
    refine lv_aload_n hx hb d_K_worthOfChoice_50 rfl (lv_at hl 1 rfl) ?_
    refine g_cK_trees E I k_K_9 d_K_worthOfChoice_51 ?_
    refine lv_iload_n hx hb d_K_worthOfChoice_54 rfl (lv_at hl 2 rfl) ?_
    obtain ⟨r9, st8, h10, h⟩ := bd_some h
    refine cV (As := [.int x1]) (rest := [.ref (A 3)]) E I hA (k_T_secondOf h10) g_K_72 ⟨rfl, rfl⟩ 1 rfl rfl rfl hl rfl (Nat.le_of_ble_eq_true rfl) ⟨by dsimp only [rm_K_worth, rm_K_worthOfChoice, rm_K_worthOfLoop, rm_K_worthOfTwo]; omega, by dsimp only [rm_K_worth, rm_K_worthOfChoice, rm_K_worthOfLoop, rm_K_worthOfTwo]; omega⟩ ⟨Nat.zero_le _, Nat.zero_le _⟩ d_K_worthOfChoice_55 rfl (fun H locs I => ?_)
    refine lv_goto (tgt := 69) hx hb d_K_worthOfChoice_58 (by decide) ?_
    obtain ⟨r12, st11, h13, h⟩ := bd_some h
    refine cV (As := [.int r9]) (rest := []) E I hA (hfw _ _ _ _ h13) g_K_42 ⟨rfl, rfl⟩ 3 rfl rfl rfl hl rfl (Nat.le_of_ble_eq_true rfl) ⟨by dsimp only [rm_K_worth, rm_K_worthOfChoice, rm_K_worthOfLoop, rm_K_worthOfTwo]; omega, by dsimp only [rm_K_worth, rm_K_worthOfChoice, rm_K_worthOfLoop, rm_K_worthOfTwo]; omega⟩ ⟨Nat.zero_le _, Nat.zero_le _⟩ d_K_worthOfChoice_69 rfl (fun H locs I => ?_)
    cases h
    exact kr _ _ _ _ I d_K_worthOfChoice_72
set_option maxHeartbeats 4000000 in
set_option maxRecDepth 100000 in
theorem w_K_worthOfChoice_22  {d : Nat} {fw : Int32 → CS → Option (Int64 × CS)} (hfw : ∀ (x1 : Int32) (st : CS) (r : Int64) (t : CS), fw x1 st = some (r, t) → Cn l y_K_worth c_K_worth 4 (some .long) (rm_K_worth d) D (tyL cs) (cwC A cs st) (cwC A cs t) [.ref (A 3), .int x1] (some (.long r))) {r : Int64} {t : CS} (E : EC R_K c_K_worthOfChoice 5 p s m args c D (tyL cs)) (hA : ∀ q, H0.size ≤ q → A0 q) (kr : ∀ (H : Heap) (locs : List Loc) (pc : Nat) (ls : Array Slot), IW D (cwC A cs t) A0 H0 H locs → decode c_K_worthOfChoice pc = .ok (.lreturn, 1) → W p l e (rm_K_worthOfChoice d) s m args below meth c H locs 0 0 Q (F0 m pc ls [.long r])) : ∀ (x1 : Int32) (x2 : Int32) (s0 : Int32) (st : CS) (H : Heap) (locs : List Loc) (ls : Array Slot), f_K_worthOfChoice_22 fw x1 x2 s0 st = some (r, t) → IW D (cwC A cs st) A0 H0 H locs → lv_has ls 5 [(0, .ref (A 3)), (1, .int x1), (2, .int x2)] → W p l e (rm_K_worthOfChoice d) s m args below meth c H locs 0 0 Q (F0 m 22 ls [.int s0]) := by
  intro x1 x2 s0 st H locs ls h I hl
  have hx := E.1
  have hb := E.2.1
  rw [f_K_worthOfChoice_22] at h
  refine lv_istore_n (lv' := [(3, .int s0), (0, .ref (A 3)), (1, .int x1), (2, .int x2)]) hx hb d_K_worthOfChoice_22 rfl hl (by decide) rfl (fun ls hl => ?_)
  refine lv_iload_n hx hb d_K_worthOfChoice_23 rfl (lv_at hl 0 rfl) ?_
  refine lv_iload_n hx hb d_K_worthOfChoice_24 rfl (lv_at hl 3 rfl) ?_
  refine lv_iconst (v := 3) hx hb d_K_worthOfChoice_25 (by decide) ?_
  refine lv_icmp_ne (tgt := 33) hx hb d_K_worthOfChoice_26 (by decide) (fun c14 => ?_) (fun c14 => ?_)
  · have h := ifn c14 h
    refine lv_iconst (v := 0) hx hb d_K_worthOfChoice_33 (by decide) ?_
    refine lv_icmp_eq (tgt := 41) hx hb d_K_worthOfChoice_34 (by decide) (fun c15 => ?_) (fun c15 => ?_)
    · have h := ifp c15 h
      refine lv_iconst (v := 0) hx hb d_K_worthOfChoice_41 (by decide) ?_
      exact w_K_worthOfChoice_42 hfw E hA kr x1 (0 : Int32) st _ _ _ h I (lv_sub hl [1, 2] rfl)
    · have h := ifn c15 h
      refine lv_iconst (v := 1) hx hb d_K_worthOfChoice_37 (by decide) ?_
      refine lv_goto (tgt := 42) hx hb d_K_worthOfChoice_38 (by decide) ?_
      exact w_K_worthOfChoice_42 hfw E hA kr x1 (1 : Int32) st _ _ _ h I (lv_sub hl [1, 2] rfl)
  · have h := ifp c14 h
    refine lv_iconst (v := 1) hx hb d_K_worthOfChoice_29 (by decide) ?_
    refine lv_goto (tgt := 34) hx hb d_K_worthOfChoice_30 (by decide) ?_
    refine lv_icmp_eq (tgt := 41) hx hb d_K_worthOfChoice_34 (by decide) (fun c16 => ?_) (fun c16 => ?_)
    · have h := ifp c16 h
      refine lv_iconst (v := 0) hx hb d_K_worthOfChoice_41 (by decide) ?_
      exact w_K_worthOfChoice_42 hfw E hA kr x1 (0 : Int32) st _ _ _ h I (lv_sub hl [1, 2] rfl)
    · have h := ifn c16 h
      refine lv_iconst (v := 1) hx hb d_K_worthOfChoice_37 (by decide) ?_
      refine lv_goto (tgt := 42) hx hb d_K_worthOfChoice_38 (by decide) ?_
      exact w_K_worthOfChoice_42 hfw E hA kr x1 (1 : Int32) st _ _ _ h I (lv_sub hl [1, 2] rfl)
set_option maxHeartbeats 4000000 in
set_option maxRecDepth 100000 in
theorem w_K_worthOfChoice  {d : Nat} {fw : Int32 → CS → Option (Int64 × CS)} (hfw : ∀ (x1 : Int32) (st : CS) (r : Int64) (t : CS), fw x1 st = some (r, t) → Cn l y_K_worth c_K_worth 4 (some .long) (rm_K_worth d) D (tyL cs) (cwC A cs st) (cwC A cs t) [.ref (A 3), .int x1] (some (.long r))) {r : Int64} {t : CS} (E : EC R_K c_K_worthOfChoice 5 p s m args c D (tyL cs)) (hA : ∀ q, H0.size ≤ q → A0 q) (kr : ∀ (H : Heap) (locs : List Loc) (pc : Nat) (ls : Array Slot), IW D (cwC A cs t) A0 H0 H locs → decode c_K_worthOfChoice pc = .ok (.lreturn, 1) → W p l e (rm_K_worthOfChoice d) s m args below meth c H locs 0 0 Q (F0 m pc ls [.long r])) : ∀ (x1 : Int32) (x2 : Int32) (st : CS) (H : Heap) (locs : List Loc) (ls : Array Slot), f_K_worthOfChoice fw x1 x2 st = some (r, t) → IW D (cwC A cs st) A0 H0 H locs → lv_has ls 5 [(0, .ref (A 3)), (1, .int x1), (2, .int x2)] → W p l e (rm_K_worthOfChoice d) s m args below meth c H locs 0 0 Q (F0 m 0 ls []) := by
  intro x1 x2 st H locs ls h I hl
  have hx := E.1
  have hb := E.2.1
  rw [f_K_worthOfChoice] at h
  refine lv_aload_n hx hb d_K_worthOfChoice_0 rfl (lv_at hl 0 rfl) ?_
  refine lv_aload_n hx hb d_K_worthOfChoice_1 rfl (lv_at hl 0 rfl) ?_
  refine g_cK_trees E I k_K_9 d_K_worthOfChoice_2 ?_
  refine lv_iload_n hx hb d_K_worthOfChoice_5 rfl (lv_at hl 1 rfl) ?_
  obtain ⟨r18, st17, h19, h⟩ := bd_some h
  refine cV (As := [.int x1]) (rest := [.ref (A 3)]) E I hA (k_T_firstOf h19) g_K_69 ⟨rfl, rfl⟩ 1 rfl rfl rfl hl rfl (Nat.le_of_ble_eq_true rfl) ⟨by dsimp only [rm_K_worth, rm_K_worthOfChoice, rm_K_worthOfLoop, rm_K_worthOfTwo]; omega, by dsimp only [rm_K_worth, rm_K_worthOfChoice, rm_K_worthOfLoop, rm_K_worthOfTwo]; omega⟩ ⟨Nat.zero_le _, Nat.zero_le _⟩ d_K_worthOfChoice_6 rfl (fun H locs I => ?_)
  obtain ⟨r21, st20, h22, h⟩ := bd_some h
  refine cV (As := [.int r18]) (rest := []) E I hA (hfw _ _ _ _ h22) g_K_42 ⟨rfl, rfl⟩ 3 rfl rfl rfl hl rfl (Nat.le_of_ble_eq_true rfl) ⟨by dsimp only [rm_K_worth, rm_K_worthOfChoice, rm_K_worthOfLoop, rm_K_worthOfTwo]; omega, by dsimp only [rm_K_worth, rm_K_worthOfChoice, rm_K_worthOfLoop, rm_K_worthOfTwo]; omega⟩ ⟨Nat.zero_le _, Nat.zero_le _⟩ d_K_worthOfChoice_9 rfl (fun H locs I => ?_)
  refine lv_lconst (v := 0) hx hb d_K_worthOfChoice_12 (by decide) ?_
  refine W.lcmp hx hb d_K_worthOfChoice_13 ?_
  refine lv_if_eq (tgt := 21) hx hb d_K_worthOfChoice_14 (by decide) (fun c23 => ?_) (fun c23 => ?_)
  · have c23 := (lg_cmp_eq _ _).mp c23
    have h := ifp c23 h
    refine lv_iconst (v := 0) hx hb d_K_worthOfChoice_21 (by decide) ?_
    exact w_K_worthOfChoice_22 hfw E hA kr x1 x2 (0 : Int32) st20 _ _ _ h I (lv_sub hl [0, 1, 2] rfl)
  · have c23 := mt (lg_cmp_eq _ _).mpr c23
    have h := ifn c23 h
    refine lv_iconst (v := 1) hx hb d_K_worthOfChoice_17 (by decide) ?_
    refine lv_goto (tgt := 22) hx hb d_K_worthOfChoice_18 (by decide) ?_
    exact w_K_worthOfChoice_22 hfw E hA kr x1 x2 (1 : Int32) st20 _ _ _ h I (lv_sub hl [0, 1, 2] rfl)
set_option maxHeartbeats 4000000 in
set_option maxRecDepth 100000 in
theorem k_K_worthOfChoice {d : Nat} {fw : Int32 → CS → Option (Int64 × CS)} (hfw : ∀ (x1 : Int32) (st : CS) (r : Int64) (t : CS), fw x1 st = some (r, t) → Cn l y_K_worth c_K_worth 4 (some .long) (rm_K_worth d) D (tyL cs) (cwC A cs st) (cwC A cs t) [.ref (A 3), .int x1] (some (.long r))) {x1 : Int32} {x2 : Int32} {st t : CS} {r : Int64} (h : f_K_worthOfChoice fw x1 x2 st = some (r, t)) : Cn l y_K_worthOfChoice c_K_worthOfChoice 5 (some .long) (rm_K_worthOfChoice d) D (tyL cs) (cwC A cs st) (cwC A cs t) [.ref (A 3), .int x1, .int x2] (some (.long r)) := by
  refine cn_intro (by decide) (Nat.le_of_ble_eq_true rfl) ?_
  intro p e s m below meth c A0 Q ls E hr hlk hA hA0 hQ I hl
  exact w_K_worthOfChoice hfw E hA (rt_l E hr hlk hA0 hQ) x1 x2 st _ _ _ h I (lv_sub hl [0, 1, 2] rfl)
noncomputable def f_K_worthOfLoop_27 (fw : Int32 → CS → Option (Int64 × CS)) : Nat → Int32 → Int64 → Int64 → Int32 → CS → Option (Int64 × CS)
  | 0, _, _, _, _, _ => none
  | n + 1, x1, x2, x4, x6, st =>
    if (cK_bound st) ≤ x6 then (
      nx (cK_acc st) fun x6_2 =>
      nx (s_cK_acc st x2) fun st3 =>
      some (x6_2, st3)
    ) else (
      if (cK_cut st) = 0 then (
        if x4 ≤ (cK_acc st) then (
          nx (cK_acc st) fun x6_8 =>
          nx (s_cK_acc st x2) fun st9 =>
          some (x6_8, st9)
        ) else (
          bd (f_T_secondOf x1 st) fun r11 st10 =>
          bd (fw r11 st10) fun r14 st13 =>
          nx (s_cK_acc st13 r14) fun st16 =>
          bd (f_T_firstOf x1 st16) fun r18 st17 =>
          bd (fw r18 st17) fun r21 st20 =>
          nx (x6 + 1) fun x6_23 =>
          f_K_worthOfLoop_27 fw n x1 x2 r21 x6_23 st20
        )
      ) else (
        nx (cK_acc st) fun x6_5 =>
        nx (s_cK_acc st x2) fun st6 =>
        some (x6_5, st6)
      )
    )
noncomputable def f_K_worthOfLoop (fw : Int32 → CS → Option (Int64 × CS)) (x1 : Int32) (st : CS) : Option (Int64 × CS) :=
  nx (cK_acc st) fun x2_24 =>
  nx (s_cK_acc st (0 : Int64)) fun st25 =>
  bd (f_T_firstOf x1 st25) fun r27 st26 =>
  bd (fw r27 st26) fun r30 st29 =>
  f_K_worthOfLoop_27 fw FU x1 x2_24 r30 (0 : Int32) st29
set_option maxHeartbeats 4000000 in
set_option maxRecDepth 100000 in
theorem w_K_worthOfLoop_27  {d : Nat} {fw : Int32 → CS → Option (Int64 × CS)} (hfw : ∀ (x1 : Int32) (st : CS) (r : Int64) (t : CS), fw x1 st = some (r, t) → Cn l y_K_worth c_K_worth 4 (some .long) (rm_K_worth d) D (tyL cs) (cwC A cs st) (cwC A cs t) [.ref (A 3), .int x1] (some (.long r))) {r : Int64} {t : CS} (E : EC R_K c_K_worthOfLoop 8 p s m args c D (tyL cs)) (hA : ∀ q, H0.size ≤ q → A0 q) (kr : ∀ (H : Heap) (locs : List Loc) (pc : Nat) (ls : Array Slot), IW D (cwC A cs t) A0 H0 H locs → decode c_K_worthOfLoop pc = .ok (.lreturn, 1) → W p l e (rm_K_worthOfLoop d) s m args below meth c H locs 0 0 Q (F0 m pc ls [.long r])) : ∀ (n : Nat), ∀ (x1 : Int32) (x2 : Int64) (x4 : Int64) (x6 : Int32) (st : CS) (H : Heap) (locs : List Loc) (ls : Array Slot), f_K_worthOfLoop_27 fw n x1 x2 x4 x6 st = some (r, t) → IW D (cwC A cs st) A0 H0 H locs → lv_has ls 8 [(0, .ref (A 3)), (1, .int x1), (2, .long x2), (4, .long x4), (6, .int x6)] → W p l e (rm_K_worthOfLoop d) s m args below meth c H locs 0 0 Q (F0 m 27 ls []) := by
  intro n
  induction n with
  | zero => intro x1 x2 x4 x6 st H locs ls h I hl; cases h
  | succ n ih =>
    intro x1 x2 x4 x6 st H locs ls h I hl
    have hx := E.1
    have hb := E.2.1
    rw [f_K_worthOfLoop_27] at h
    refine lv_iload hx hb d_K_worthOfLoop_27 (lv_at hl 4 rfl) ?_
    refine lv_aload_n hx hb d_K_worthOfLoop_29 rfl (lv_at hl 0 rfl) ?_
    refine g_cK_bound E I k_K_36 d_K_worthOfLoop_30 ?_
    refine lv_icmp_ge (tgt := 89) hx hb d_K_worthOfLoop_33 (by decide) (fun c1 => ?_) (fun c1 => ?_)
    · have h := ifp c1 h
      refine lv_aload_n hx hb d_K_worthOfLoop_89 rfl (lv_at hl 0 rfl) ?_
      refine g_cK_acc E I k_K_39 d_K_worthOfLoop_90 ?_
      refine lv_topl (fun x6_2 ex6_2 => ?_)
      have h := nx_k ex6_2 h
      refine lv_lstore (lv' := [(6, .long x6_2), (0, .ref (A 3)), (1, .int x1), (2, .long x2), (4, .long x4)]) hx hb d_K_worthOfLoop_93 hl (by decide) rfl (fun ls hl => ?_)
      refine lv_aload_n hx hb d_K_worthOfLoop_95 rfl (lv_at hl 1 rfl) ?_
      refine lv_lload_n hx hb d_K_worthOfLoop_96 rfl (lv_at hl 3 rfl) ?_
      obtain ⟨st3, est3⟩ : ∃ y : CS, y = (s_cK_acc st x2) := ⟨_, rfl⟩
      have h := nx_k est3 h
      refine p_cK_acc E I est3 k_K_39 d_K_worthOfLoop_97 (fun H locs I => ?_)
      refine lv_lload hx hb d_K_worthOfLoop_100 (lv_at hl 0 rfl) ?_
      cases h
      exact kr _ _ _ _ I d_K_worthOfLoop_102
    · have h := ifn c1 h
      refine lv_aload_n hx hb d_K_worthOfLoop_36 rfl (lv_at hl 0 rfl) ?_
      refine g_cK_cut E I k_K_25 d_K_worthOfLoop_37 ?_
      refine lv_if_ne (tgt := 89) hx hb d_K_worthOfLoop_40 (by decide) (fun c4 => ?_) (fun c4 => ?_)
      · have h := ifn c4 h
        refine lv_aload_n hx hb d_K_worthOfLoop_89 rfl (lv_at hl 0 rfl) ?_
        refine g_cK_acc E I k_K_39 d_K_worthOfLoop_90 ?_
        refine lv_topl (fun x6_5 ex6_5 => ?_)
        have h := nx_k ex6_5 h
        refine lv_lstore (lv' := [(6, .long x6_5), (0, .ref (A 3)), (1, .int x1), (2, .long x2), (4, .long x4)]) hx hb d_K_worthOfLoop_93 hl (by decide) rfl (fun ls hl => ?_)
        refine lv_aload_n hx hb d_K_worthOfLoop_95 rfl (lv_at hl 1 rfl) ?_
        refine lv_lload_n hx hb d_K_worthOfLoop_96 rfl (lv_at hl 3 rfl) ?_
        obtain ⟨st6, est6⟩ : ∃ y : CS, y = (s_cK_acc st x2) := ⟨_, rfl⟩
        have h := nx_k est6 h
        refine p_cK_acc E I est6 k_K_39 d_K_worthOfLoop_97 (fun H locs I => ?_)
        refine lv_lload hx hb d_K_worthOfLoop_100 (lv_at hl 0 rfl) ?_
        cases h
        exact kr _ _ _ _ I d_K_worthOfLoop_102
      · have h := ifp c4 h
        refine lv_aload_n hx hb d_K_worthOfLoop_43 rfl (lv_at hl 0 rfl) ?_
        refine g_cK_acc E I k_K_39 d_K_worthOfLoop_44 ?_
        refine lv_lload hx hb d_K_worthOfLoop_47 (lv_at hl 3 rfl) ?_
        refine W.lcmp hx hb d_K_worthOfLoop_49 ?_
        refine lv_if_ge (tgt := 89) hx hb d_K_worthOfLoop_50 (by decide) (fun c7 => ?_) (fun c7 => ?_)
        · have c7 := (lg_cmp_ge _ _).mp c7
          have h := ifp c7 h
          refine lv_aload_n hx hb d_K_worthOfLoop_89 rfl (lv_at hl 0 rfl) ?_
          refine g_cK_acc E I k_K_39 d_K_worthOfLoop_90 ?_
          refine lv_topl (fun x6_8 ex6_8 => ?_)
          have h := nx_k ex6_8 h
          refine lv_lstore (lv' := [(6, .long x6_8), (0, .ref (A 3)), (1, .int x1), (2, .long x2), (4, .long x4)]) hx hb d_K_worthOfLoop_93 hl (by decide) rfl (fun ls hl => ?_)
          refine lv_aload_n hx hb d_K_worthOfLoop_95 rfl (lv_at hl 1 rfl) ?_
          refine lv_lload_n hx hb d_K_worthOfLoop_96 rfl (lv_at hl 3 rfl) ?_
          obtain ⟨st9, est9⟩ : ∃ y : CS, y = (s_cK_acc st x2) := ⟨_, rfl⟩
          have h := nx_k est9 h
          refine p_cK_acc E I est9 k_K_39 d_K_worthOfLoop_97 (fun H locs I => ?_)
          refine lv_lload hx hb d_K_worthOfLoop_100 (lv_at hl 0 rfl) ?_
          cases h
          exact kr _ _ _ _ I d_K_worthOfLoop_102
        · have c7 := mt (lg_cmp_ge _ _).mpr c7
          have h := ifn c7 h
          refine lv_aload_n hx hb d_K_worthOfLoop_53 rfl (lv_at hl 0 rfl) ?_
          refine lv_aload_n hx hb d_K_worthOfLoop_54 rfl (lv_at hl 0 rfl) ?_
          refine lv_aload_n hx hb d_K_worthOfLoop_55 rfl (lv_at hl 0 rfl) ?_
          refine g_cK_trees E I k_K_9 d_K_worthOfLoop_56 ?_
          refine lv_iload_n hx hb d_K_worthOfLoop_59 rfl (lv_at hl 1 rfl) ?_
          obtain ⟨r11, st10, h12, h⟩ := bd_some h
          refine cV (As := [.int x1]) (rest := [.ref (A 3), .ref (A 3)]) E I hA (k_T_secondOf h12) g_K_72 ⟨rfl, rfl⟩ 1 rfl rfl rfl hl rfl (Nat.le_of_ble_eq_true rfl) ⟨by dsimp only [rm_K_worth, rm_K_worthOfChoice, rm_K_worthOfLoop, rm_K_worthOfTwo]; omega, by dsimp only [rm_K_worth, rm_K_worthOfChoice, rm_K_worthOfLoop, rm_K_worthOfTwo]; omega⟩ ⟨Nat.zero_le _, Nat.zero_le _⟩ d_K_worthOfLoop_60 rfl (fun H locs I => ?_)
          obtain ⟨r14, st13, h15, h⟩ := bd_some h
          refine cV (As := [.int r11]) (rest := [.ref (A 3)]) E I hA (hfw _ _ _ _ h15) g_K_42 ⟨rfl, rfl⟩ 3 rfl rfl rfl hl rfl (Nat.le_of_ble_eq_true rfl) ⟨by dsimp only [rm_K_worth, rm_K_worthOfChoice, rm_K_worthOfLoop, rm_K_worthOfTwo]; omega, by dsimp only [rm_K_worth, rm_K_worthOfChoice, rm_K_worthOfLoop, rm_K_worthOfTwo]; omega⟩ ⟨Nat.zero_le _, Nat.zero_le _⟩ d_K_worthOfLoop_63 rfl (fun H locs I => ?_)
          obtain ⟨st16, est16⟩ : ∃ y : CS, y = (s_cK_acc st13 r14) := ⟨_, rfl⟩
          have h := nx_k est16 h
          refine p_cK_acc E I est16 k_K_39 d_K_worthOfLoop_66 (fun H locs I => ?_)
          refine lv_aload_n hx hb d_K_worthOfLoop_69 rfl (lv_at hl 0 rfl) ?_
          refine lv_aload_n hx hb d_K_worthOfLoop_70 rfl (lv_at hl 0 rfl) ?_
          refine g_cK_trees E I k_K_9 d_K_worthOfLoop_71 ?_
          refine lv_iload_n hx hb d_K_worthOfLoop_74 rfl (lv_at hl 1 rfl) ?_
          obtain ⟨r18, st17, h19, h⟩ := bd_some h
          refine cV (As := [.int x1]) (rest := [.ref (A 3)]) E I hA (k_T_firstOf h19) g_K_69 ⟨rfl, rfl⟩ 1 rfl rfl rfl hl rfl (Nat.le_of_ble_eq_true rfl) ⟨by dsimp only [rm_K_worth, rm_K_worthOfChoice, rm_K_worthOfLoop, rm_K_worthOfTwo]; omega, by dsimp only [rm_K_worth, rm_K_worthOfChoice, rm_K_worthOfLoop, rm_K_worthOfTwo]; omega⟩ ⟨Nat.zero_le _, Nat.zero_le _⟩ d_K_worthOfLoop_75 rfl (fun H locs I => ?_)
          obtain ⟨r21, st20, h22, h⟩ := bd_some h
          refine cV (As := [.int r18]) (rest := []) E I hA (hfw _ _ _ _ h22) g_K_42 ⟨rfl, rfl⟩ 3 rfl rfl rfl hl rfl (Nat.le_of_ble_eq_true rfl) ⟨by dsimp only [rm_K_worth, rm_K_worthOfChoice, rm_K_worthOfLoop, rm_K_worthOfTwo]; omega, by dsimp only [rm_K_worth, rm_K_worthOfChoice, rm_K_worthOfLoop, rm_K_worthOfTwo]; omega⟩ ⟨Nat.zero_le _, Nat.zero_le _⟩ d_K_worthOfLoop_78 rfl (fun H locs I => ?_)
          refine lv_lstore (lv' := [(4, .long r21), (0, .ref (A 3)), (1, .int x1), (2, .long x2), (6, .int x6)]) hx hb d_K_worthOfLoop_81 hl (by decide) rfl (fun ls hl => ?_)
          obtain ⟨x6_23, ex6_23⟩ : ∃ y : Int32, y = (x6 + 1) := ⟨_, rfl⟩
          have h := nx_k ex6_23 h
          refine lv_iinc (v := x6_23) (lv' := [(6, .int x6_23), (4, .long r21), (0, .ref (A 3)), (1, .int x1), (2, .long x2)]) hx hb d_K_worthOfLoop_83 hl (k := 4) rfl (by rw [ex6_23]; rfl) (by decide) rfl (fun ls hl => ?_)
          refine lv_goto (tgt := 27) hx hb d_K_worthOfLoop_86 (by decide) ?_
          exact ih x1 x2 r21 x6_23 st20 _ _ _ h I (lv_sub hl [2, 3, 4, 1, 0] rfl)
set_option maxHeartbeats 4000000 in
set_option maxRecDepth 100000 in
theorem w_K_worthOfLoop  {d : Nat} {fw : Int32 → CS → Option (Int64 × CS)} (hfw : ∀ (x1 : Int32) (st : CS) (r : Int64) (t : CS), fw x1 st = some (r, t) → Cn l y_K_worth c_K_worth 4 (some .long) (rm_K_worth d) D (tyL cs) (cwC A cs st) (cwC A cs t) [.ref (A 3), .int x1] (some (.long r))) {r : Int64} {t : CS} (E : EC R_K c_K_worthOfLoop 8 p s m args c D (tyL cs)) (hA : ∀ q, H0.size ≤ q → A0 q) (kr : ∀ (H : Heap) (locs : List Loc) (pc : Nat) (ls : Array Slot), IW D (cwC A cs t) A0 H0 H locs → decode c_K_worthOfLoop pc = .ok (.lreturn, 1) → W p l e (rm_K_worthOfLoop d) s m args below meth c H locs 0 0 Q (F0 m pc ls [.long r])) : ∀ (x1 : Int32) (st : CS) (H : Heap) (locs : List Loc) (ls : Array Slot), f_K_worthOfLoop fw x1 st = some (r, t) → IW D (cwC A cs st) A0 H0 H locs → lv_has ls 8 [(0, .ref (A 3)), (1, .int x1)] → W p l e (rm_K_worthOfLoop d) s m args below meth c H locs 0 0 Q (F0 m 0 ls []) := by
  intro x1 st H locs ls h I hl
  have hx := E.1
  have hb := E.2.1
  rw [f_K_worthOfLoop] at h
  refine lv_aload_n hx hb d_K_worthOfLoop_0 rfl (lv_at hl 0 rfl) ?_
  refine g_cK_acc E I k_K_39 d_K_worthOfLoop_1 ?_
  refine lv_topl (fun x2_24 ex2_24 => ?_)
  have h := nx_k ex2_24 h
  refine lv_lstore_n (lv' := [(2, .long x2_24), (0, .ref (A 3)), (1, .int x1)]) hx hb d_K_worthOfLoop_4 rfl hl (by decide) rfl (fun ls hl => ?_)
  refine lv_aload_n hx hb d_K_worthOfLoop_5 rfl (lv_at hl 1 rfl) ?_
  refine lv_lconst (v := 0) hx hb d_K_worthOfLoop_6 (by decide) ?_
  obtain ⟨st25, est25⟩ : ∃ y : CS, y = (s_cK_acc st (0 : Int64)) := ⟨_, rfl⟩
  have h := nx_k est25 h
  refine p_cK_acc E I est25 k_K_39 d_K_worthOfLoop_7 (fun H locs I => ?_)
  refine lv_aload_n hx hb d_K_worthOfLoop_10 rfl (lv_at hl 1 rfl) ?_
  refine lv_aload_n hx hb d_K_worthOfLoop_11 rfl (lv_at hl 1 rfl) ?_
  refine g_cK_trees E I k_K_9 d_K_worthOfLoop_12 ?_
  refine lv_iload_n hx hb d_K_worthOfLoop_15 rfl (lv_at hl 2 rfl) ?_
  obtain ⟨r27, st26, h28, h⟩ := bd_some h
  refine cV (As := [.int x1]) (rest := [.ref (A 3)]) E I hA (k_T_firstOf h28) g_K_69 ⟨rfl, rfl⟩ 1 rfl rfl rfl hl rfl (Nat.le_of_ble_eq_true rfl) ⟨by dsimp only [rm_K_worth, rm_K_worthOfChoice, rm_K_worthOfLoop, rm_K_worthOfTwo]; omega, by dsimp only [rm_K_worth, rm_K_worthOfChoice, rm_K_worthOfLoop, rm_K_worthOfTwo]; omega⟩ ⟨Nat.zero_le _, Nat.zero_le _⟩ d_K_worthOfLoop_16 rfl (fun H locs I => ?_)
  obtain ⟨r30, st29, h31, h⟩ := bd_some h
  refine cV (As := [.int r27]) (rest := []) E I hA (hfw _ _ _ _ h31) g_K_42 ⟨rfl, rfl⟩ 3 rfl rfl rfl hl rfl (Nat.le_of_ble_eq_true rfl) ⟨by dsimp only [rm_K_worth, rm_K_worthOfChoice, rm_K_worthOfLoop, rm_K_worthOfTwo]; omega, by dsimp only [rm_K_worth, rm_K_worthOfChoice, rm_K_worthOfLoop, rm_K_worthOfTwo]; omega⟩ ⟨Nat.zero_le _, Nat.zero_le _⟩ d_K_worthOfLoop_19 rfl (fun H locs I => ?_)
  refine lv_lstore (lv' := [(4, .long r30), (2, .long x2_24), (0, .ref (A 3)), (1, .int x1)]) hx hb d_K_worthOfLoop_22 hl (by decide) rfl (fun ls hl => ?_)
  refine lv_iconst (v := 0) hx hb d_K_worthOfLoop_24 (by decide) ?_
  refine lv_istore (lv' := [(6, .int (0 : Int32)), (4, .long r30), (2, .long x2_24), (0, .ref (A 3)), (1, .int x1)]) hx hb d_K_worthOfLoop_25 hl (by decide) rfl (fun ls hl => ?_)
  exact w_K_worthOfLoop_27 hfw E hA kr FU x1 x2_24 r30 (0 : Int32) st29 _ _ _ h I (lv_sub hl [3, 4, 2, 1, 0] rfl)
set_option maxHeartbeats 4000000 in
set_option maxRecDepth 100000 in
theorem k_K_worthOfLoop {d : Nat} {fw : Int32 → CS → Option (Int64 × CS)} (hfw : ∀ (x1 : Int32) (st : CS) (r : Int64) (t : CS), fw x1 st = some (r, t) → Cn l y_K_worth c_K_worth 4 (some .long) (rm_K_worth d) D (tyL cs) (cwC A cs st) (cwC A cs t) [.ref (A 3), .int x1] (some (.long r))) {x1 : Int32} {st t : CS} {r : Int64} (h : f_K_worthOfLoop fw x1 st = some (r, t)) : Cn l y_K_worthOfLoop c_K_worthOfLoop 8 (some .long) (rm_K_worthOfLoop d) D (tyL cs) (cwC A cs st) (cwC A cs t) [.ref (A 3), .int x1] (some (.long r)) := by
  refine cn_intro (by decide) (Nat.le_of_ble_eq_true rfl) ?_
  intro p e s m below meth c A0 Q ls E hr hlk hA hA0 hQ I hl
  exact w_K_worthOfLoop hfw E hA (rt_l E hr hlk hA0 hQ) x1 st _ _ _ h I (lv_sub hl [0, 1] rfl)
end Mmc1
