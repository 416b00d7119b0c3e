section Mmr1
variable {p : Program} {l : Launch} {e : Env} {s : State} {m : MethodId} {args : Array Value} {below : List Frame} {meth : Method} {c : Code} {Q : State → Prop} {D : va_G} {A0 : Nat → Prop} {H0 : Heap} {A : Nat → Nat} {cs : ClassId × ClassId × ClassId}
abbrev rm_R_in : Room := { frames := 0, cells := 0, slots := 0, locals := 0 }
noncomputable def f_R_in (x0 : Int64) (x2 : Int64) (x4 : Int64) (st : RS) : Option (Int32 × RS) :=
  if x0 < x2 then (
    some ((0 : Int32), st)
  ) else (
    if x4 < x0 then (
      some ((0 : Int32), st)
    ) else (
      some ((1 : Int32), st)
    )
  )
set_option maxHeartbeats 4000000 in
set_option maxRecDepth 100000 in
theorem w_R_in  {r : Int32} {t : RS} (E : EC R_R c_R_in 6 p s m args c D (tyL cs)) (hA : ∀ q, H0.size ≤ q → A0 q) (kr : ∀ (H : Heap) (locs : List Loc) (pc : Nat) (ls : Array Slot), IW D (cwR A cs t) A0 H0 H locs → narrow .boolean (.int r) = .int r → decode c_R_in pc = .ok (.ireturn, 1) → W p l e rm_R_in s m args below meth c H locs 0 0 Q (F0 m pc ls [.int r])) : ∀ (x0 : Int64) (x2 : Int64) (x4 : Int64) (st : RS) (H : Heap) (locs : List Loc) (ls : Array Slot), f_R_in x0 x2 x4 st = some (r, t) → IW D (cwR A cs st) A0 H0 H locs → lv_has ls 6 [(0, .long x0), (2, .long x2), (4, .long x4)] → W p l e rm_R_in s m args below meth c H locs 0 0 Q (F0 m 0 ls []) := by
  intro x0 x2 x4 st H locs ls h I hl
  have hx := E.1
  have hb := E.2.1
  rw [f_R_in] at h
  refine lv_lload_n hx hb d_R_in_0 rfl (lv_at hl 0 rfl) ?_
  refine lv_lload_n hx hb d_R_in_1 rfl (lv_at hl 1 rfl) ?_
  refine W.lcmp hx hb d_R_in_2 ?_
  refine lv_if_lt (tgt := 17) hx hb d_R_in_3 (by decide) (fun c1 => ?_) (fun c1 => ?_)
  · have c1 := (lg_cmp_lt _ _).mp c1
    have h := ifp c1 h
    refine lv_iconst (v := 0) hx hb d_R_in_17 (by decide) ?_
    cases h
    exact kr _ _ _ _ I (by decide) d_R_in_18
  · have c1 := mt (lg_cmp_lt _ _).mpr c1
    have h := ifn c1 h
    refine lv_lload_n hx hb d_R_in_6 rfl (lv_at hl 0 rfl) ?_
    refine lv_lload hx hb d_R_in_7 (lv_at hl 2 rfl) ?_
    refine W.lcmp hx hb d_R_in_9 ?_
    refine lv_if_gt (tgt := 17) hx hb d_R_in_10 (by decide) (fun c2 => ?_) (fun c2 => ?_)
    · have c2 := (lg_cmp_gt _ _).mp c2
      have h := ifp c2 h
      refine lv_iconst (v := 0) hx hb d_R_in_17 (by decide) ?_
      cases h
      exact kr _ _ _ _ I (by decide) d_R_in_18
    · have c2 := mt (lg_cmp_gt _ _).mpr c2
      have h := ifn c2 h
      refine lv_iconst (v := 1) hx hb d_R_in_13 (by decide) ?_
      refine lv_goto (tgt := 18) hx hb d_R_in_14 (by decide) ?_
      cases h
      exact kr _ _ _ _ I (by decide) d_R_in_18
set_option maxHeartbeats 4000000 in
set_option maxRecDepth 100000 in
theorem k_R_in {x0 : Int64} {x2 : Int64} {x4 : Int64} {st t : RS} {r : Int32} (h : f_R_in x0 x2 x4 st = some (r, t)) : Cn l y_R_in c_R_in 6 (some .boolean) rm_R_in D (tyL cs) (cwR A cs st) (cwR A cs t) [.long x0, .long x2, .long x4] (some (.int r)) := by
  refine cn_intro (by decide) (Nat.le_of_ble_eq_true rfl) ?_
  intro p e s m below meth c A0 Q ls E hr hlk hA hA0 hQ I hl
  exact w_R_in E hA (rt_z E hr hlk hA0 hQ) x0 x2 x4 st _ _ _ h I (lv_sub hl [0, 1, 2] rfl)
abbrev rm_R_parts : Room := { frames := 0, cells := 0, slots := 0, locals := 0 }
noncomputable def f_R_parts (x0 : Int32) (st : RS) : Option (Int32 × RS) :=
  if (3 : Int32) ≤ x0 then (
    if x0 = (8 : Int32) then (
      some ((3 : Int32), st)
    ) else (
      some ((2 : Int32), st)
    )
  ) else (
    some ((0 : Int32), st)
  )
set_option maxHeartbeats 4000000 in
set_option maxRecDepth 100000 in
theorem w_R_parts  {r : Int32} {t : RS} (E : EC R_R c_R_parts 1 p s m args c D (tyL cs)) (hA : ∀ q, H0.size ≤ q → A0 q) (kr : ∀ (H : Heap) (locs : List Loc) (pc : Nat) (ls : Array Slot), IW D (cwR A cs t) A0 H0 H locs → decode c_R_parts pc = .ok (.ireturn, 1) → W p l e rm_R_parts s m args below meth c H locs 0 0 Q (F0 m pc ls [.int r])) : ∀ (x0 : Int32) (st : RS) (H : Heap) (locs : List Loc) (ls : Array Slot), f_R_parts x0 st = some (r, t) → IW D (cwR A cs st) A0 H0 H locs → lv_has ls 1 [(0, .int x0)] → W p l e rm_R_parts s m args below meth c H locs 0 0 Q (F0 m 0 ls []) := by
  intro x0 st H locs ls h I hl
  have hx := E.1
  have hb := E.2.1
  rw [f_R_parts] at h
  refine lv_iload_n hx hb d_R_parts_0 rfl (lv_at hl 0 rfl) ?_
  refine lv_iconst (v := 3) hx hb d_R_parts_1 (by decide) ?_
  refine lv_icmp_ge (tgt := 9) hx hb d_R_parts_2 (by decide) (fun c1 => ?_) (fun c1 => ?_)
  · have h := ifp c1 h
    refine lv_iload_n hx hb d_R_parts_9 rfl (lv_at hl 0 rfl) ?_
    refine lv_bipush (v := 8) hx hb d_R_parts_10 (by decide) ?_
    refine lv_icmp_ne (tgt := 19) hx hb d_R_parts_12 (by decide) (fun c2 => ?_) (fun c2 => ?_)
    · have h := ifn c2 h
      refine lv_iconst (v := 2) hx hb d_R_parts_19 (by decide) ?_
      cases h
      exact kr _ _ _ _ I d_R_parts_20
    · have h := ifp c2 h
      refine lv_iconst (v := 3) hx hb d_R_parts_15 (by decide) ?_
      refine lv_goto (tgt := 20) hx hb d_R_parts_16 (by decide) ?_
      cases h
      exact kr _ _ _ _ I d_R_parts_20
  · have h := ifn c1 h
    refine lv_iconst (v := 0) hx hb d_R_parts_5 (by decide) ?_
    refine lv_goto (tgt := 20) hx hb d_R_parts_6 (by decide) ?_
    cases h
    exact kr _ _ _ _ I d_R_parts_20
set_option maxHeartbeats 4000000 in
set_option maxRecDepth 100000 in
theorem k_R_parts {x0 : Int32} {st t : RS} {r : Int32} (h : f_R_parts x0 st = some (r, t)) : Cn l y_R_parts c_R_parts 1 (some .int) rm_R_parts D (tyL cs) (cwR A cs st) (cwR A cs t) [.int x0] (some (.int r)) := by
  refine cn_intro (by decide) (Nat.le_of_ble_eq_true rfl) ?_
  intro p e s m below meth c A0 Q ls E hr hlk hA hA0 hQ I hl
  exact w_R_parts E hA (rt_i E hr hlk hA0 hQ) x0 st _ _ _ h I (lv_sub hl [0] rfl)
abbrev rm_R_isNode : Room := { frames := 1, cells := 0, slots := 0, locals := 25 }
noncomputable def f_R_isNode (x1 : Int64) (st : RS) : Option (Int32 × RS) :=
  bd (f_R_in x1 (0 : Int64) (((r_nodes st) - (1 : Int32)).toInt64) st) fun r2 st1 =>
  zr r2 st1
set_option maxHeartbeats 4000000 in
set_option maxRecDepth 100000 in
theorem w_R_isNode  {r : Int32} {t : RS} (E : EC R_R c_R_isNode 3 p s m args c D (tyL cs)) (hA : ∀ q, H0.size ≤ q → A0 q) (kr : ∀ (H : Heap) (locs : List Loc) (pc : Nat) (ls : Array Slot), IW D (cwR A cs t) A0 H0 H locs → narrow .boolean (.int r) = .int r → decode c_R_isNode pc = .ok (.ireturn, 1) → W p l e rm_R_isNode s m args below meth c H locs 0 0 Q (F0 m pc ls [.int r])) : ∀ (x1 : Int64) (st : RS) (H : Heap) (locs : List Loc) (ls : Array Slot), f_R_isNode x1 st = some (r, t) → IW D (cwR A cs st) A0 H0 H locs → lv_has ls 3 [(0, .ref (A 0)), (1, .long x1)] → W p l e rm_R_isNode s m args below meth c H locs 0 0 Q (F0 m 0 ls []) := by
  intro x1 st H locs ls h I hl
  have hx := E.1
  have hb := E.2.1
  rw [f_R_isNode] at h
  refine lv_lload_n hx hb d_R_isNode_0 rfl (lv_at hl 1 rfl) ?_
  refine lv_lconst (v := 0) hx hb d_R_isNode_1 (by decide) ?_
  refine lv_aload_n hx hb d_R_isNode_2 rfl (lv_at hl 0 rfl) ?_
  refine g_r_nodes E I k_R_91 d_R_isNode_3 ?_
  refine lv_iconst (v := 1) hx hb d_R_isNode_6 (by decide) ?_
  refine lv_isub hx hb d_R_isNode_7 ?_
  refine lv_i2l hx hb d_R_isNode_8 rfl ?_
  obtain ⟨r2, st1, h3, h⟩ := bd_some h
  refine cS (As := [.long x1, .long (0 : Int64), .long ((r_nodes st) - (1 : Int32)).toInt64]) (rest := []) E I hA (k_R_in h3) g_R_94 ⟨rfl, rfl⟩ rfl hl rfl (Nat.le_of_ble_eq_true rfl) ⟨Nat.le_of_ble_eq_true rfl, Nat.le_of_ble_eq_true rfl⟩ ⟨Nat.zero_le _, Nat.zero_le _⟩ d_R_isNode_9 rfl (fun H locs I => ?_)
  obtain ⟨z4, h⟩ := zr_some h
  cases h
  exact kr _ _ _ _ I (zr_nar z4) d_R_isNode_12
set_option maxHeartbeats 4000000 in
set_option maxRecDepth 100000 in
theorem k_R_isNode {x1 : Int64} {st t : RS} {r : Int32} (h : f_R_isNode x1 st = some (r, t)) : Cn l y_R_isNode c_R_isNode 3 (some .boolean) rm_R_isNode D (tyL cs) (cwR A cs st) (cwR A cs t) [.ref (A 0), .long x1] (some (.int r)) := by
  refine cn_intro (by decide) (Nat.le_of_ble_eq_true rfl) ?_
  intro p e s m below meth c A0 Q ls E hr hlk hA hA0 hQ I hl
  exact w_R_isNode E hA (rt_z E hr hlk hA0 hQ) x1 st _ _ _ h I (lv_sub hl [0, 1] rfl)
abbrev rm_R_node : Room := { frames := 2, cells := 0, slots := 0, locals := 47 }
noncomputable def f_R_node_165 (s1 : Int32) (s2 : Int32) (st : RS) : Option (Int32 × RS) :=
  ck s1 64 <|
  nx (s_r_partC st s1.toNatClampNeg s2) fun st2 =>
  nx (s_r_nodes st2 ((r_nodes st2) + (1 : Int32))) fun st3 =>
  some (((r_nodes st3) - (1 : Int32)), st3)
noncomputable def f_R_node_144 (x5 : Int32) (x6 : Int32) (s1 : Int32) (s2 : Int32) (st : RS) : Option (Int32 × RS) :=
  ck s1 64 <|
  nx (s_r_partB st s1.toNatClampNeg s2) fun st5 =>
  if x6 ≤ (2 : Int32) then (
    f_R_node_165 (r_nodes st5) (-1 : Int32) st5
  ) else (
    f_R_node_165 (r_nodes st5) x5 st5
  )
noncomputable def f_R_node_123 (x4 : Int32) (x5 : Int32) (x6 : Int32) (s1 : Int32) (s2 : Int32) (st : RS) : Option (Int32 × RS) :=
  ck s1 64 <|
  nx (s_r_partA st s1.toNatClampNeg s2) fun st8 =>
  if x6 ≤ (1 : Int32) then (
    f_R_node_144 x5 x6 (r_nodes st8) (-1 : Int32) st8
  ) else (
    f_R_node_144 x5 x6 (r_nodes st8) x4 st8
  )
noncomputable def f_R_node_103 (x2 : Int64) (x4 : Int32) (x5 : Int32) (x6 : Int32) (s1 : Int32) (s2 : Int64) (st : RS) : Option (Int32 × RS) :=
  ck s1 64 <|
  nx (s_r_number st s1.toNatClampNeg s2) fun st11 =>
  if x6 ≤ 0 then (
    f_R_node_123 x4 x5 x6 (r_nodes st11) (-1 : Int32) st11
  ) else (
    f_R_node_123 x4 x5 x6 (r_nodes st11) (x2.toInt32) st11
  )
noncomputable def f_R_node_76 (x1 : Int32) (x2 : Int64) (x4 : Int32) (x5 : Int32) (x6 : Int32) (st : RS) : Option (Int32 × RS) :=
  ck (r_nodes st) 64 <|
  nx (s_r_kindOf st (r_nodes st).toNatClampNeg x1) fun st14 =>
  if x1 = 0 then (
    f_R_node_103 x2 x4 x5 x6 (r_nodes st14) x2 st14
  ) else (
    f_R_node_103 x2 x4 x5 x6 (r_nodes st14) (0 : Int64) st14
  )
noncomputable def f_R_node_58 (x1 : Int32) (x2 : Int64) (x4 : Int32) (x5 : Int32) (x6 : Int32) (st : RS) : Option (Int32 × RS) :=
  if x6 ≤ (2 : Int32) then (
    f_R_node_76 x1 x2 x4 x5 x6 st
  ) else (
    bd (f_R_isNode (x5.toInt64) st) fun r18 st17 =>
    if r18 = 0 then (
      some ((-1 : Int32), st17)
    ) else (
      f_R_node_76 x1 x2 x4 x5 x6 st17
    )
  )
noncomputable def f_R_node_42 (x1 : Int32) (x2 : Int64) (x4 : Int32) (x5 : Int32) (x6 : Int32) (st : RS) : Option (Int32 × RS) :=
  if x6 ≤ (1 : Int32) then (
    f_R_node_58 x1 x2 x4 x5 x6 st
  ) else (
    bd (f_R_isNode (x4.toInt64) st) fun r23 st22 =>
    if r23 = 0 then (
      some ((-1 : Int32), st22)
    ) else (
      f_R_node_58 x1 x2 x4 x5 x6 st22
    )
  )
noncomputable def f_R_node (x1 : Int32) (x2 : Int64) (x4 : Int32) (x5 : Int32) (st : RS) : Option (Int32 × RS) :=
  if (r_nodes st) = (64 : Int32) then (
    some ((-1 : Int32), st)
  ) else (
    bd (f_R_in (x1.toInt64) (0 : Int64) (9 : Int64) st) fun r28 st27 =>
    if r28 = 0 then (
      some ((-1 : Int32), st27)
    ) else (
      bd (f_R_parts x1 st27) fun r32 st31 =>
      if r32 ≤ 0 then (
        f_R_node_42 x1 x2 x4 x5 r32 st31
      ) else (
        bd (f_R_isNode x2 st31) fun r36 st35 =>
        if r36 = 0 then (
          some ((-1 : Int32), st35)
        ) else (
          f_R_node_42 x1 x2 x4 x5 r32 st35
        )
      )
    )
  )
set_option maxHeartbeats 4000000 in
set_option maxRecDepth 100000 in
theorem w_R_node_165  {r : Int32} {t : RS} (E : EC R_R c_R_node 7 p s m args c D (tyL cs)) (hA : ∀ q, H0.size ≤ q → A0 q) (kr : ∀ (H : Heap) (locs : List Loc) (pc : Nat) (ls : Array Slot), IW D (cwR A cs t) A0 H0 H locs → decode c_R_node pc = .ok (.ireturn, 1) → W p l e rm_R_node s m args below meth c H locs 0 0 Q (F0 m pc ls [.int r])) : ∀ (s1 : Int32) (s2 : Int32) (st : RS) (H : Heap) (locs : List Loc) (ls : Array Slot), f_R_node_165 s1 s2 st = some (r, t) → IW D (cwR A cs st) A0 H0 H locs → lv_has ls 7 [(0, .ref (A 0))] → W p l e rm_R_node s m args below meth c H locs 0 0 Q (F0 m 165 ls [.int s2, .int s1, .ref (A 5)]) := by
  intro s1 s2 st H locs ls h I hl
  have hx := E.1
  have hb := E.2.1
  rw [f_R_node_165] at h
  obtain ⟨b1, h⟩ := ck_some h
  obtain ⟨st2, est2⟩ : ∃ y : RS, y = (s_r_partC st s1.toNatClampNeg s2) := ⟨_, rfl⟩
  have h := nx_k est2 h
  refine p_r_partC E I b1 est2 d_R_node_165 (fun H locs I => ?_)
  refine lv_aload_n hx hb d_R_node_166 rfl (lv_at hl 0 rfl) ?_
  refine lv_dup hx hb d_R_node_167 rfl ?_
  refine g_r_nodes E I k_R_91 d_R_node_168 ?_
  refine lv_iconst (v := 1) hx hb d_R_node_171 (by decide) ?_
  refine lv_iadd hx hb d_R_node_172 ?_
  obtain ⟨st3, est3⟩ : ∃ y : RS, y = (s_r_nodes st2 ((r_nodes st2) + (1 : Int32))) := ⟨_, rfl⟩
  have h := nx_k est3 h
  refine p_r_nodes E I est3 k_R_91 d_R_node_173 (fun H locs I => ?_)
  refine lv_aload_n hx hb d_R_node_176 rfl (lv_at hl 0 rfl) ?_
  refine g_r_nodes E I k_R_91 d_R_node_177 ?_
  refine lv_iconst (v := 1) hx hb d_R_node_180 (by decide) ?_
  refine lv_isub hx hb d_R_node_181 ?_
  cases h
  exact kr _ _ _ _ I d_R_node_182
set_option maxHeartbeats 4000000 in
set_option maxRecDepth 100000 in
theorem w_R_node_144  {r : Int32} {t : RS} (E : EC R_R c_R_node 7 p s m args c D (tyL cs)) (hA : ∀ q, H0.size ≤ q → A0 q) (kr : ∀ (H : Heap) (locs : List Loc) (pc : Nat) (ls : Array Slot), IW D (cwR A cs t) A0 H0 H locs → decode c_R_node pc = .ok (.ireturn, 1) → W p l e rm_R_node s m args below meth c H locs 0 0 Q (F0 m pc ls [.int r])) : ∀ (x5 : Int32) (x6 : Int32) (s1 : Int32) (s2 : Int32) (st : RS) (H : Heap) (locs : List Loc) (ls : Array Slot), f_R_node_144 x5 x6 s1 s2 st = some (r, t) → IW D (cwR A cs st) A0 H0 H locs → lv_has ls 7 [(0, .ref (A 0)), (5, .int x5), (6, .int x6)] → W p l e rm_R_node s m args below meth c H locs 0 0 Q (F0 m 144 ls [.int s2, .int s1, .ref (A 4)]) := by
  intro x5 x6 s1 s2 st H locs ls h I hl
  have hx := E.1
  have hb := E.2.1
  rw [f_R_node_144] at h
  obtain ⟨b4, h⟩ := ck_some h
  obtain ⟨st5, est5⟩ : ∃ y : RS, y = (s_r_partB st s1.toNatClampNeg s2) := ⟨_, rfl⟩
  have h := nx_k est5 h
  refine p_r_partB E I b4 est5 d_R_node_144 (fun H locs I => ?_)
  refine lv_aload_n hx hb d_R_node_145 rfl (lv_at hl 0 rfl) ?_
  refine g_rR_partC E I k_R_23 d_R_node_146 ?_
  refine lv_aload_n hx hb d_R_node_149 rfl (lv_at hl 0 rfl) ?_
  refine g_r_nodes E I k_R_91 d_R_node_150 ?_
  refine lv_iload hx hb d_R_node_153 (lv_at hl 2 rfl) ?_
  refine lv_iconst (v := 2) hx hb d_R_node_155 (by decide) ?_
  refine lv_icmp_le (tgt := 164) hx hb d_R_node_156 (by decide) (fun c6 => ?_) (fun c6 => ?_)
  · have h := ifp c6 h
    refine lv_iconst (v := -1) hx hb d_R_node_164 (by decide) ?_
    exact w_R_node_165 E hA kr (r_nodes st5) (-1 : Int32) st5 _ _ _ h I (lv_sub hl [0] rfl)
  · have h := ifn c6 h
    refine lv_iload hx hb d_R_node_159 (lv_at hl 1 rfl) ?_
    refine lv_goto (tgt := 165) hx hb d_R_node_161 (by decide) ?_
    exact w_R_node_165 E hA kr (r_nodes st5) x5 st5 _ _ _ h I (lv_sub hl [0] rfl)
set_option maxHeartbeats 4000000 in
set_option maxRecDepth 100000 in
theorem w_R_node_123  {r : Int32} {t : RS} (E : EC R_R c_R_node 7 p s m args c D (tyL cs)) (hA : ∀ q, H0.size ≤ q → A0 q) (kr : ∀ (H : Heap) (locs : List Loc) (pc : Nat) (ls : Array Slot), IW D (cwR A cs t) A0 H0 H locs → decode c_R_node pc = .ok (.ireturn, 1) → W p l e rm_R_node s m args below meth c H locs 0 0 Q (F0 m pc ls [.int r])) : ∀ (x4 : Int32) (x5 : Int32) (x6 : Int32) (s1 : Int32) (s2 : Int32) (st : RS) (H : Heap) (locs : List Loc) (ls : Array Slot), f_R_node_123 x4 x5 x6 s1 s2 st = some (r, t) → IW D (cwR A cs st) A0 H0 H locs → lv_has ls 7 [(0, .ref (A 0)), (4, .int x4), (5, .int x5), (6, .int x6)] → W p l e rm_R_node s m args below meth c H locs 0 0 Q (F0 m 123 ls [.int s2, .int s1, .ref (A 3)]) := by
  intro x4 x5 x6 s1 s2 st H locs ls h I hl
  have hx := E.1
  have hb := E.2.1
  rw [f_R_node_123] at h
  obtain ⟨b7, h⟩ := ck_some h
  obtain ⟨st8, est8⟩ : ∃ y : RS, y = (s_r_partA st s1.toNatClampNeg s2) := ⟨_, rfl⟩
  have h := nx_k est8 h
  refine p_r_partA E I b7 est8 d_R_node_123 (fun H locs I => ?_)
  refine lv_aload_n hx hb d_R_node_124 rfl (lv_at hl 0 rfl) ?_
  refine g_rR_partB E I k_R_20 d_R_node_125 ?_
  refine lv_aload_n hx hb d_R_node_128 rfl (lv_at hl 0 rfl) ?_
  refine g_r_nodes E I k_R_91 d_R_node_129 ?_
  refine lv_iload hx hb d_R_node_132 (lv_at hl 3 rfl) ?_
  refine lv_iconst (v := 1) hx hb d_R_node_134 (by decide) ?_
  refine lv_icmp_le (tgt := 143) hx hb d_R_node_135 (by decide) (fun c9 => ?_) (fun c9 => ?_)
  · have h := ifp c9 h
    refine lv_iconst (v := -1) hx hb d_R_node_143 (by decide) ?_
    exact w_R_node_144 E hA kr x5 x6 (r_nodes st8) (-1 : Int32) st8 _ _ _ h I (lv_sub hl [0, 2, 3] rfl)
  · have h := ifn c9 h
    refine lv_iload hx hb d_R_node_138 (lv_at hl 1 rfl) ?_
    refine lv_goto (tgt := 144) hx hb d_R_node_140 (by decide) ?_
    exact w_R_node_144 E hA kr x5 x6 (r_nodes st8) x4 st8 _ _ _ h I (lv_sub hl [0, 2, 3] rfl)
set_option maxHeartbeats 4000000 in
set_option maxRecDepth 100000 in
theorem w_R_node_103  {r : Int32} {t : RS} (E : EC R_R c_R_node 7 p s m args c D (tyL cs)) (hA : ∀ q, H0.size ≤ q → A0 q) (kr : ∀ (H : Heap) (locs : List Loc) (pc : Nat) (ls : Array Slot), IW D (cwR A cs t) A0 H0 H locs → decode c_R_node pc = .ok (.ireturn, 1) → W p l e rm_R_node s m args below meth c H locs 0 0 Q (F0 m pc ls [.int r])) : ∀ (x2 : Int64) (x4 : Int32) (x5 : Int32) (x6 : Int32) (s1 : Int32) (s2 : Int64) (st : RS) (H : Heap) (locs : List Loc) (ls : Array Slot), f_R_node_103 x2 x4 x5 x6 s1 s2 st = some (r, t) → IW D (cwR A cs st) A0 H0 H locs → lv_has ls 7 [(0, .ref (A 0)), (2, .long x2), (4, .int x4), (5, .int x5), (6, .int x6)] → W p l e rm_R_node s m args below meth c H locs 0 0 Q (F0 m 103 ls [.long s2, .int s1, .ref (A 2)]) := by
  intro x2 x4 x5 x6 s1 s2 st H locs ls h I hl
  have hx := E.1
  have hb := E.2.1
  rw [f_R_node_103] at h
  obtain ⟨b10, h⟩ := ck_some h
  obtain ⟨st11, est11⟩ : ∃ y : RS, y = (s_r_number st s1.toNatClampNeg s2) := ⟨_, rfl⟩
  have h := nx_k est11 h
  refine p_r_number E I b10 est11 d_R_node_103 (fun H locs I => ?_)
  refine lv_aload_n hx hb d_R_node_104 rfl (lv_at hl 0 rfl) ?_
  refine g_rR_partA E I k_R_17 d_R_node_105 ?_
  refine lv_aload_n hx hb d_R_node_108 rfl (lv_at hl 0 rfl) ?_
  refine g_r_nodes E I k_R_91 d_R_node_109 ?_
  refine lv_iload hx hb d_R_node_112 (lv_at hl 4 rfl) ?_
  refine lv_if_le (tgt := 122) hx hb d_R_node_114 (by decide) (fun c12 => ?_) (fun c12 => ?_)
  · have h := ifp c12 h
    refine lv_iconst (v := -1) hx hb d_R_node_122 (by decide) ?_
    exact w_R_node_123 E hA kr x4 x5 x6 (r_nodes st11) (-1 : Int32) st11 _ _ _ h I (lv_sub hl [0, 2, 3, 4] rfl)
  · have h := ifn c12 h
    refine lv_lload_n hx hb d_R_node_117 rfl (lv_at hl 1 rfl) ?_
    refine lv_l2i hx hb d_R_node_118 rfl ?_
    refine lv_goto (tgt := 123) hx hb d_R_node_119 (by decide) ?_
    exact w_R_node_123 E hA kr x4 x5 x6 (r_nodes st11) (x2.toInt32) st11 _ _ _ h I (lv_sub hl [0, 2, 3, 4] rfl)
set_option maxHeartbeats 4000000 in
set_option maxRecDepth 100000 in
theorem w_R_node_76  {r : Int32} {t : RS} (E : EC R_R c_R_node 7 p s m args c D (tyL cs)) (hA : ∀ q, H0.size ≤ q → A0 q) (kr : ∀ (H : Heap) (locs : List Loc) (pc : Nat) (ls : Array Slot), IW D (cwR A cs t) A0 H0 H locs → decode c_R_node pc = .ok (.ireturn, 1) → W p l e rm_R_node s m args below meth c H locs 0 0 Q (F0 m pc ls [.int r])) : ∀ (x1 : Int32) (x2 : Int64) (x4 : Int32) (x5 : Int32) (x6 : Int32) (st : RS) (H : Heap) (locs : List Loc) (ls : Array Slot), f_R_node_76 x1 x2 x4 x5 x6 st = some (r, t) → IW D (cwR A cs st) A0 H0 H locs → lv_has ls 7 [(0, .ref (A 0)), (1, .int x1), (2, .long x2), (4, .int x4), (5, .int x5), (6, .int x6)] → W p l e rm_R_node s m args below meth c H locs 0 0 Q (F0 m 76 ls []) := by
  intro x1 x2 x4 x5 x6 st H locs ls h I hl
  have hx := E.1
  have hb := E.2.1
  rw [f_R_node_76] at h
  refine lv_aload_n hx hb d_R_node_76 rfl (lv_at hl 0 rfl) ?_
  refine g_rR_kindOf E I k_R_7 d_R_node_77 ?_
  refine lv_aload_n hx hb d_R_node_80 rfl (lv_at hl 0 rfl) ?_
  refine g_r_nodes E I k_R_91 d_R_node_81 ?_
  refine lv_iload_n hx hb d_R_node_84 rfl (lv_at hl 1 rfl) ?_
  obtain ⟨b13, h⟩ := ck_some h
  obtain ⟨st14, est14⟩ : ∃ y : RS, y = (s_r_kindOf st (r_nodes st).toNatClampNeg x1) := ⟨_, rfl⟩
  have h := nx_k est14 h
  refine p_r_kindOf E I b13 est14 d_R_node_85 (fun H locs I => ?_)
  refine lv_aload_n hx hb d_R_node_86 rfl (lv_at hl 0 rfl) ?_
  refine g_rR_number E I k_R_13 d_R_node_87 ?_
  refine lv_aload_n hx hb d_R_node_90 rfl (lv_at hl 0 rfl) ?_
  refine g_r_nodes E I k_R_91 d_R_node_91 ?_
  refine lv_iload_n hx hb d_R_node_94 rfl (lv_at hl 1 rfl) ?_
  refine lv_if_ne (tgt := 102) hx hb d_R_node_95 (by decide) (fun c15 => ?_) (fun c15 => ?_)
  · have h := ifn c15 h
    refine lv_lconst (v := 0) hx hb d_R_node_102 (by decide) ?_
    exact w_R_node_103 E hA kr x2 x4 x5 x6 (r_nodes st14) (0 : Int64) st14 _ _ _ h I (lv_sub hl [0, 2, 3, 4, 5] rfl)
  · have h := ifp c15 h
    refine lv_lload_n hx hb d_R_node_98 rfl (lv_at hl 2 rfl) ?_
    refine lv_goto (tgt := 103) hx hb d_R_node_99 (by decide) ?_
    exact w_R_node_103 E hA kr x2 x4 x5 x6 (r_nodes st14) x2 st14 _ _ _ h I (lv_sub hl [0, 2, 3, 4, 5] rfl)
set_option maxHeartbeats 4000000 in
set_option maxRecDepth 100000 in
theorem w_R_node_58  {r : Int32} {t : RS} (E : EC R_R c_R_node 7 p s m args c D (tyL cs)) (hA : ∀ q, H0.size ≤ q → A0 q) (kr : ∀ (H : Heap) (locs : List Loc) (pc : Nat) (ls : Array Slot), IW D (cwR A cs t) A0 H0 H locs → decode c_R_node pc = .ok (.ireturn, 1) → W p l e rm_R_node s m args below meth c H locs 0 0 Q (F0 m pc ls [.int r])) : ∀ (x1 : Int32) (x2 : Int64) (x4 : Int32) (x5 : Int32) (x6 : Int32) (st : RS) (H : Heap) (locs : List Loc) (ls : Array Slot), f_R_node_58 x1 x2 x4 x5 x6 st = some (r, t) → IW D (cwR A cs st) A0 H0 H locs → lv_has ls 7 [(0, .ref (A 0)), (1, .int x1), (2, .long x2), (4, .int x4), (5, .int x5), (6, .int x6)] → W p l e rm_R_node s m args below meth c H locs 0 0 Q (F0 m 58 ls []) := by
  intro x1 x2 x4 x5 x6 st H locs ls h I hl
  have hx := E.1
  have hb := E.2.1
  rw [f_R_node_58] at h
  refine lv_iload hx hb d_R_node_58 (lv_at hl 5 rfl) ?_
  refine lv_iconst (v := 2) hx hb d_R_node_60 (by decide) ?_
  refine lv_icmp_le (tgt := 76) hx hb d_R_node_61 (by decide) (fun c16 => ?_) (fun c16 => ?_)
  · have h := ifp c16 h
    exact w_R_node_76 E hA kr x1 x2 x4 x5 x6 st _ _ _ h I (lv_sub hl [0, 1, 2, 3, 4, 5] rfl)
  · have h := ifn c16 h
    refine lv_aload_n hx hb d_R_node_64 rfl (lv_at hl 0 rfl) ?_
    refine lv_iload hx hb d_R_node_65 (lv_at hl 4 rfl) ?_
    refine lv_i2l hx hb d_R_node_67 rfl ?_
    obtain ⟨r18, st17, h19, h⟩ := bd_some h
    refine cV (As := [.long x5.toInt64]) (rest := []) E I hA (k_R_isNode h19) g_R_110 ⟨rfl, rfl⟩ 0 rfl rfl rfl hl rfl (Nat.le_of_ble_eq_true rfl) ⟨Nat.le_of_ble_eq_true rfl, Nat.le_of_ble_eq_true rfl⟩ ⟨Nat.zero_le _, Nat.zero_le _⟩ d_R_node_68 rfl (fun H locs I => ?_)
    refine lv_if_ne (tgt := 76) hx hb d_R_node_71 (by decide) (fun c20 => ?_) (fun c20 => ?_)
    · have h := ifn c20 h
      exact w_R_node_76 E hA kr x1 x2 x4 x5 x6 st17 _ _ _ h I (lv_sub hl [0, 1, 2, 3, 4, 5] rfl)
    · have h := ifp c20 h
      refine lv_iconst (v := -1) hx hb d_R_node_74 (by decide) ?_
      cases h
      exact kr _ _ _ _ I d_R_node_75
set_option maxHeartbeats 4000000 in
set_option maxRecDepth 100000 in
theorem w_R_node_42  {r : Int32} {t : RS} (E : EC R_R c_R_node 7 p s m args c D (tyL cs)) (hA : ∀ q, H0.size ≤ q → A0 q) (kr : ∀ (H : Heap) (locs : List Loc) (pc : Nat) (ls : Array Slot), IW D (cwR A cs t) A0 H0 H locs → decode c_R_node pc = .ok (.ireturn, 1) → W p l e rm_R_node s m args below meth c H locs 0 0 Q (F0 m pc ls [.int r])) : ∀ (x1 : Int32) (x2 : Int64) (x4 : Int32) (x5 : Int32) (x6 : Int32) (st : RS) (H : Heap) (locs : List Loc) (ls : Array Slot), f_R_node_42 x1 x2 x4 x5 x6 st = some (r, t) → IW D (cwR A cs st) A0 H0 H locs → lv_has ls 7 [(0, .ref (A 0)), (1, .int x1), (2, .long x2), (4, .int x4), (5, .int x5), (6, .int x6)] → W p l e rm_R_node s m args below meth c H locs 0 0 Q (F0 m 42 ls []) := by
  intro x1 x2 x4 x5 x6 st H locs ls h I hl
  have hx := E.1
  have hb := E.2.1
  rw [f_R_node_42] at h
  refine lv_iload hx hb d_R_node_42 (lv_at hl 5 rfl) ?_
  refine lv_iconst (v := 1) hx hb d_R_node_44 (by decide) ?_
  refine lv_icmp_le (tgt := 58) hx hb d_R_node_45 (by decide) (fun c21 => ?_) (fun c21 => ?_)
  · have h := ifp c21 h
    exact w_R_node_58 E hA kr x1 x2 x4 x5 x6 st _ _ _ h I (lv_sub hl [0, 1, 2, 3, 4, 5] rfl)
  · have h := ifn c21 h
    refine lv_aload_n hx hb d_R_node_48 rfl (lv_at hl 0 rfl) ?_
    refine lv_iload hx hb d_R_node_49 (lv_at hl 3 rfl) ?_
    refine lv_i2l hx hb d_R_node_51 rfl ?_
    obtain ⟨r23, st22, h24, h⟩ := bd_some h
    refine cV (As := [.long x4.toInt64]) (rest := []) E I hA (k_R_isNode h24) g_R_110 ⟨rfl, rfl⟩ 0 rfl rfl rfl hl rfl (Nat.le_of_ble_eq_true rfl) ⟨Nat.le_of_ble_eq_true rfl, Nat.le_of_ble_eq_true rfl⟩ ⟨Nat.zero_le _, Nat.zero_le _⟩ d_R_node_52 rfl (fun H locs I => ?_)
    refine lv_if_eq (tgt := 74) hx hb d_R_node_55 (by decide) (fun c25 => ?_) (fun c25 => ?_)
    · have h := ifp c25 h
      refine lv_iconst (v := -1) hx hb d_R_node_74 (by decide) ?_
      cases h
      exact kr _ _ _ _ I d_R_node_75
    · have h := ifn c25 h
      exact w_R_node_58 E hA kr x1 x2 x4 x5 x6 st22 _ _ _ h I (lv_sub hl [0, 1, 2, 3, 4, 5] rfl)
set_option maxHeartbeats 4000000 in
set_option maxRecDepth 100000 in
theorem w_R_node  {r : Int32} {t : RS} (E : EC R_R c_R_node 7 p s m args c D (tyL cs)) (hA : ∀ q, H0.size ≤ q → A0 q) (kr : ∀ (H : Heap) (locs : List Loc) (pc : Nat) (ls : Array Slot), IW D (cwR A cs t) A0 H0 H locs → decode c_R_node pc = .ok (.ireturn, 1) → W p l e rm_R_node s m args below meth c H locs 0 0 Q (F0 m pc ls [.int r])) : ∀ (x1 : Int32) (x2 : Int64) (x4 : Int32) (x5 : Int32) (st : RS) (H : Heap) (locs : List Loc) (ls : Array Slot), f_R_node x1 x2 x4 x5 st = some (r, t) → IW D (cwR A cs st) A0 H0 H locs → lv_has ls 7 [(0, .ref (A 0)), (1, .int x1), (2, .long x2), (4, .int x4), (5, .int x5)] → W p l e rm_R_node s m args below meth c H locs 0 0 Q (F0 m 0 ls []) := by
  intro x1 x2 x4 x5 st H locs ls h I hl
  have hx := E.1
  have hb := E.2.1
  rw [f_R_node] at h
  refine lv_aload_n hx hb d_R_node_0 rfl (lv_at hl 0 rfl) ?_
  refine g_r_nodes E I k_R_91 d_R_node_1 ?_
  refine lv_bipush (v := 64) hx hb d_R_node_4 (by decide) ?_
  refine lv_icmp_eq (tgt := 21) hx hb d_R_node_6 (by decide) (fun c26 => ?_) (fun c26 => ?_)
  · have h := ifp c26 h
    refine lv_iconst (v := -1) hx hb d_R_node_21 (by decide) ?_
    cases h
    exact kr _ _ _ _ I d_R_node_22
  · have h := ifn c26 h
    refine lv_iload_n hx hb d_R_node_9 rfl (lv_at hl 1 rfl) ?_
    refine lv_i2l hx hb d_R_node_10 rfl ?_
    refine lv_lconst (v := 0) hx hb d_R_node_11 (by decide) ?_
    refine lv_ldc2 (v := 9) hx hb E.2.2.2.1 (E.2.2.2.2.1 _ kl_R_104) d_R_node_12 ?_
    obtain ⟨r28, st27, h29, h⟩ := bd_some h
    refine cS (As := [.long x1.toInt64, .long (0 : Int64), .long (9 : Int64)]) (rest := []) E I hA (k_R_in h29) g_R_94 ⟨rfl, rfl⟩ rfl hl rfl (Nat.le_of_ble_eq_true rfl) ⟨Nat.le_of_ble_eq_true rfl, Nat.le_of_ble_eq_true rfl⟩ ⟨Nat.zero_le _, Nat.zero_le _⟩ d_R_node_15 rfl (fun H locs I => ?_)
    refine lv_if_ne (tgt := 23) hx hb d_R_node_18 (by decide) (fun c30 => ?_) (fun c30 => ?_)
    · have h := ifn c30 h
      refine lv_iload_n hx hb d_R_node_23 rfl (lv_at hl 1 rfl) ?_
      obtain ⟨r32, st31, h33, h⟩ := bd_some h
      refine cS (As := [.int x1]) (rest := []) E I hA (k_R_parts h33) g_R_106 ⟨rfl, rfl⟩ rfl hl rfl (Nat.le_of_ble_eq_true rfl) ⟨Nat.le_of_ble_eq_true rfl, Nat.le_of_ble_eq_true rfl⟩ ⟨Nat.zero_le _, Nat.zero_le _⟩ d_R_node_24 rfl (fun H locs I => ?_)
      refine lv_istore (lv' := [(6, .int r32), (0, .ref (A 0)), (1, .int x1), (2, .long x2), (4, .int x4), (5, .int x5)]) hx hb d_R_node_27 hl (by decide) rfl (fun ls hl => ?_)
      refine lv_iload hx hb d_R_node_29 (lv_at hl 0 rfl) ?_
      refine lv_if_le (tgt := 42) hx hb d_R_node_31 (by decide) (fun c34 => ?_) (fun c34 => ?_)
      · have h := ifp c34 h
        exact w_R_node_42 E hA kr x1 x2 x4 x5 r32 st31 _ _ _ h I (lv_sub hl [1, 2, 3, 4, 5, 0] rfl)
      · have h := ifn c34 h
        refine lv_aload_n hx hb d_R_node_34 rfl (lv_at hl 1 rfl) ?_
        refine lv_lload_n hx hb d_R_node_35 rfl (lv_at hl 3 rfl) ?_
        obtain ⟨r36, st35, h37, h⟩ := bd_some h
        refine cV (As := [.long x2]) (rest := []) E I hA (k_R_isNode h37) g_R_110 ⟨rfl, rfl⟩ 0 rfl rfl rfl hl rfl (Nat.le_of_ble_eq_true rfl) ⟨Nat.le_of_ble_eq_true rfl, Nat.le_of_ble_eq_true rfl⟩ ⟨Nat.zero_le _, Nat.zero_le _⟩ d_R_node_36 rfl (fun H locs I => ?_)
        refine lv_if_eq (tgt := 74) hx hb d_R_node_39 (by decide) (fun c38 => ?_) (fun c38 => ?_)
        · have h := ifp c38 h
          refine lv_iconst (v := -1) hx hb d_R_node_74 (by decide) ?_
          cases h
          exact kr _ _ _ _ I d_R_node_75
        · have h := ifn c38 h
          exact w_R_node_42 E hA kr x1 x2 x4 x5 r32 st35 _ _ _ h I (lv_sub hl [1, 2, 3, 4, 5, 0] rfl)
    · have h := ifp c30 h
      refine lv_iconst (v := -1) hx hb d_R_node_21 (by decide) ?_
      cases h
      exact kr _ _ _ _ I d_R_node_22
set_option maxHeartbeats 4000000 in
set_option maxRecDepth 100000 in
theorem k_R_node {x1 : Int32} {x2 : Int64} {x4 : Int32} {x5 : Int32} {st t : RS} {r : Int32} (h : f_R_node x1 x2 x4 x5 st = some (r, t)) : Cn l y_R_node c_R_node 7 (some .int) rm_R_node D (tyL cs) (cwR A cs st) (cwR A cs t) [.ref (A 0), .int x1, .long x2, .int x4, .int x5] (some (.int r)) := by
  refine cn_intro (by decide) (Nat.le_of_ble_eq_true rfl) ?_
  intro p e s m below meth c A0 Q ls E hr hlk hA hA0 hQ I hl
  exact w_R_node E hA (rt_i E hr hlk hA0 hQ) x1 x2 x4 x5 st _ _ _ h I (lv_sub hl [0, 1, 2, 3, 4] rfl)
abbrev rm_R_enter : Room := { frames := 0, cells := 0, slots := 0, locals := 0 }
noncomputable def f_R_enter (x1 : Int32) (x2 : Int32) (st : RS) : Option (Unit × RS) :=
  if (r_steps st) = x2 then (
    nx (s_r_isCut st (1 : Int32)) fun st10 =>
    some ((), st10)
  ) else (
    nx (s_r_steps st ((r_steps st) + (1 : Int32))) fun st2 =>
    ck x1 64 <|
    nx (s_r_marked st2 x1.toNatClampNeg (vp_nar .boolean (1 : Int32))) fun st4 =>
    ck (r_high st4) 65 <|
    nx (s_r_waits st4 (r_high st4).toNatClampNeg x1) fun st6 =>
    ck (r_high st6) 65 <|
    nx (s_r_phase st6 (r_high st6).toNatClampNeg (0 : Int32)) fun st8 =>
    nx (s_r_high st8 ((r_high st8) + (1 : Int32))) fun st9 =>
    some ((), st9)
  )
set_option maxHeartbeats 4000000 in
set_option maxRecDepth 100000 in
theorem w_R_enter  {r : Unit} {t : RS} (E : EC R_R c_R_enter 3 p s m args c D (tyL cs)) (hA : ∀ q, H0.size ≤ q → A0 q) (kr : ∀ (H : Heap) (locs : List Loc) (pc : Nat) (ls : Array Slot), IW D (cwR A cs t) A0 H0 H locs → decode c_R_enter pc = .ok (.return_, 1) → W p l e rm_R_enter s m args below meth c H locs 0 0 Q (F0 m pc ls [])) : ∀ (x1 : Int32) (x2 : Int32) (st : RS) (H : Heap) (locs : List Loc) (ls : Array Slot), f_R_enter x1 x2 st = some (r, t) → IW D (cwR A cs st) A0 H0 H locs → lv_has ls 3 [(0, .ref (A 0)), (1, .int x1), (2, .int x2)] → W p l e rm_R_enter s m args below meth c H locs 0 0 Q (F0 m 0 ls []) := by
  intro x1 x2 st H locs ls h I hl
  have hx := E.1
  have hb := E.2.1
  rw [f_R_enter] at h
  refine lv_aload_n hx hb d_R_enter_0 rfl (lv_at hl 0 rfl) ?_
  refine g_r_steps E I k_R_114 d_R_enter_1 ?_
  refine lv_iload_n hx hb d_R_enter_4 rfl (lv_at hl 2 rfl) ?_
  refine lv_icmp_ne (tgt := 14) hx hb d_R_enter_5 (by decide) (fun c1 => ?_) (fun c1 => ?_)
  · have h := ifn c1 h
    refine lv_aload_n hx hb d_R_enter_14 rfl (lv_at hl 0 rfl) ?_
    refine lv_dup hx hb d_R_enter_15 rfl ?_
    refine g_r_steps E I k_R_114 d_R_enter_16 ?_
    refine lv_iconst (v := 1) hx hb d_R_enter_19 (by decide) ?_
    refine lv_iadd hx hb d_R_enter_20 ?_
    obtain ⟨st2, est2⟩ : ∃ y : RS, y = (s_r_steps st ((r_steps st) + (1 : Int32))) := ⟨_, rfl⟩
    have h := nx_k est2 h
    refine p_r_steps E I est2 k_R_114 d_R_enter_21 (fun H locs I => ?_)
    refine lv_aload_n hx hb d_R_enter_24 rfl (lv_at hl 0 rfl) ?_
    refine g_rR_marked E I k_R_70 d_R_enter_25 ?_
    refine lv_iload_n hx hb d_R_enter_28 rfl (lv_at hl 1 rfl) ?_
    refine lv_iconst (v := 1) hx hb d_R_enter_29 (by decide) ?_
    obtain ⟨b3, h⟩ := ck_some h
    obtain ⟨st4, est4⟩ : ∃ y : RS, y = (s_r_marked st2 x1.toNatClampNeg (vp_nar .boolean (1 : Int32))) := ⟨_, rfl⟩
    have h := nx_k est4 h
    refine p_r_marked E I b3 est4 d_R_enter_30 (fun H locs I => ?_)
    refine lv_aload_n hx hb d_R_enter_31 rfl (lv_at hl 0 rfl) ?_
    refine g_rR_waits E I k_R_73 d_R_enter_32 ?_
    refine lv_aload_n hx hb d_R_enter_35 rfl (lv_at hl 0 rfl) ?_
    refine g_r_high E I k_R_121 d_R_enter_36 ?_
    refine lv_iload_n hx hb d_R_enter_39 rfl (lv_at hl 1 rfl) ?_
    obtain ⟨b5, h⟩ := ck_some h
    obtain ⟨st6, est6⟩ : ∃ y : RS, y = (s_r_waits st4 (r_high st4).toNatClampNeg x1) := ⟨_, rfl⟩
    have h := nx_k est6 h
    refine p_r_waits E I b5 est6 d_R_enter_40 (fun H locs I => ?_)
    refine lv_aload_n hx hb d_R_enter_41 rfl (lv_at hl 0 rfl) ?_
    refine g_rR_phase E I k_R_76 d_R_enter_42 ?_
    refine lv_aload_n hx hb d_R_enter_45 rfl (lv_at hl 0 rfl) ?_
    refine g_r_high E I k_R_121 d_R_enter_46 ?_
    refine lv_iconst (v := 0) hx hb d_R_enter_49 (by decide) ?_
    obtain ⟨b7, h⟩ := ck_some h
    obtain ⟨st8, est8⟩ : ∃ y : RS, y = (s_r_phase st6 (r_high st6).toNatClampNeg (0 : Int32)) := ⟨_, rfl⟩
    have h := nx_k est8 h
    refine p_r_phase E I b7 est8 d_R_enter_50 (fun H locs I => ?_)
    refine lv_aload_n hx hb d_R_enter_51 rfl (lv_at hl 0 rfl) ?_
    refine lv_dup hx hb d_R_enter_52 rfl ?_
    refine g_r_high E I k_R_121 d_R_enter_53 ?_
    refine lv_iconst (v := 1) hx hb d_R_enter_56 (by decide) ?_
    refine lv_iadd hx hb d_R_enter_57 ?_
    obtain ⟨st9, est9⟩ : ∃ y : RS, y = (s_r_high st8 ((r_high st8) + (1 : Int32))) := ⟨_, rfl⟩
    have h := nx_k est9 h
    refine p_r_high E I est9 k_R_121 d_R_enter_58 (fun H locs I => ?_)
    cases h
    exact kr _ _ _ _ I d_R_enter_61
  · have h := ifp c1 h
    refine lv_aload_n hx hb d_R_enter_8 rfl (lv_at hl 0 rfl) ?_
    refine lv_iconst (v := 1) hx hb d_R_enter_9 (by decide) ?_
    obtain ⟨st10, est10⟩ : ∃ y : RS, y = (s_r_isCut st (1 : Int32)) := ⟨_, rfl⟩
    have h := nx_k est10 h
    refine p_r_isCut E I est10 k_R_117 (by decide) d_R_enter_10 (fun H locs I => ?_)
    cases h
    exact kr _ _ _ _ I d_R_enter_13
set_option maxHeartbeats 4000000 in
set_option maxRecDepth 100000 in
theorem k_R_enter {x1 : Int32} {x2 : Int32} {st t : RS} {r : Unit} (h : f_R_enter x1 x2 st = some (r, t)) : Cn l y_R_enter c_R_enter 3 none rm_R_enter D (tyL cs) (cwR A cs st) (cwR A cs t) [.ref (A 0), .int x1, .int x2] (none) := by
  refine cn_intro (by decide) (Nat.le_of_ble_eq_true rfl) ?_
  intro p e s m below meth c A0 Q ls E hr hlk hA hA0 hQ I hl
  exact w_R_enter E hA (rt_v E hr hlk hA0 hQ) x1 x2 st _ _ _ h I (lv_sub hl [0, 1, 2] rfl)
abbrev rm_R_is : Room := { frames := 0, cells := 0, slots := 0, locals := 0 }
noncomputable def f_R_is (x1 : Int32) (x2 : Int32) (st : RS) : Option (Int32 × RS) :=
  if (r_changedKind st) = x1 then (
    if (r_changedNode st) = x2 then (
      some ((1 : Int32), st)
    ) else (
      some ((0 : Int32), st)
    )
  ) else (
    some ((0 : Int32), st)
  )
set_option maxHeartbeats 4000000 in
set_option maxRecDepth 100000 in
theorem w_R_is  {r : Int32} {t : RS} (E : EC R_R c_R_is 3 p s m args c D (tyL cs)) (hA : ∀ q, H0.size ≤ q → A0 q) (kr : ∀ (H : Heap) (locs : List Loc) (pc : Nat) (ls : Array Slot), IW D (cwR A cs t) A0 H0 H locs → narrow .boolean (.int r) = .int r → decode c_R_is pc = .ok (.ireturn, 1) → W p l e rm_R_is s m args below meth c H locs 0 0 Q (F0 m pc ls [.int r])) : ∀ (x1 : Int32) (x2 : Int32) (st : RS) (H : Heap) (locs : List Loc) (ls : Array Slot), f_R_is x1 x2 st = some (r, t) → IW D (cwR A cs st) A0 H0 H locs → lv_has ls 3 [(0, .ref (A 0)), (1, .int x1), (2, .int x2)] → W p l e rm_R_is s m args below meth c H locs 0 0 Q (F0 m 0 ls []) := by
  intro x1 x2 st H locs ls h I hl
  have hx := E.1
  have hb := E.2.1
  rw [f_R_is] at h
  refine lv_aload_n hx hb d_R_is_0 rfl (lv_at hl 0 rfl) ?_
  refine g_r_changedKind E I k_R_63 d_R_is_1 ?_
  refine lv_iload_n hx hb d_R_is_4 rfl (lv_at hl 1 rfl) ?_
  refine lv_icmp_ne (tgt := 20) hx hb d_R_is_5 (by decide) (fun c1 => ?_) (fun c1 => ?_)
  · have h := ifn c1 h
    refine lv_iconst (v := 0) hx hb d_R_is_20 (by decide) ?_
    cases h
    exact kr _ _ _ _ I (by decide) d_R_is_21
  · have h := ifp c1 h
    refine lv_aload_n hx hb d_R_is_8 rfl (lv_at hl 0 rfl) ?_
    refine g_r_changedNode E I k_R_67 d_R_is_9 ?_
    refine lv_iload_n hx hb d_R_is_12 rfl (lv_at hl 2 rfl) ?_
    refine lv_icmp_ne (tgt := 20) hx hb d_R_is_13 (by decide) (fun c2 => ?_) (fun c2 => ?_)
    · have h := ifn c2 h
      refine lv_iconst (v := 0) hx hb d_R_is_20 (by decide) ?_
      cases h
      exact kr _ _ _ _ I (by decide) d_R_is_21
    · have h := ifp c2 h
      refine lv_iconst (v := 1) hx hb d_R_is_16 (by decide) ?_
      refine lv_goto (tgt := 21) hx hb d_R_is_17 (by decide) ?_
      cases h
      exact kr _ _ _ _ I (by decide) d_R_is_21
set_option maxHeartbeats 4000000 in
set_option maxRecDepth 100000 in
theorem k_R_is {x1 : Int32} {x2 : Int32} {st t : RS} {r : Int32} (h : f_R_is x1 x2 st = some (r, t)) : Cn l y_R_is c_R_is 3 (some .boolean) rm_R_is D (tyL cs) (cwR A cs st) (cwR A cs t) [.ref (A 0), .int x1, .int x2] (some (.int r)) := by
  refine cn_intro (by decide) (Nat.le_of_ble_eq_true rfl) ?_
  intro p e s m below meth c A0 Q ls E hr hlk hA hA0 hQ I hl
  exact w_R_is E hA (rt_z E hr hlk hA0 hQ) x1 x2 st _ _ _ h I (lv_sub hl [0, 1, 2] rfl)
abbrev rm_R_leave : Room := { frames := 0, cells := 0, slots := 0, locals := 0 }
noncomputable def f_R_leave (x1 : Int64) (st : RS) : Option (Unit × RS) :=
  nx (s_r_high st ((r_high st) - (1 : Int32))) fun st1 =>
  nx (s_r_given st1 x1) fun st2 =>
  some ((), st2)
set_option maxHeartbeats 4000000 in
set_option maxRecDepth 100000 in
theorem w_R_leave  {r : Unit} {t : RS} (E : EC R_R c_R_leave 3 p s m args c D (tyL cs)) (hA : ∀ q, H0.size ≤ q → A0 q) (kr : ∀ (H : Heap) (locs : List Loc) (pc : Nat) (ls : Array Slot), IW D (cwR A cs t) A0 H0 H locs → decode c_R_leave pc = .ok (.return_, 1) → W p l e rm_R_leave s m args below meth c H locs 0 0 Q (F0 m pc ls [])) : ∀ (x1 : Int64) (st : RS) (H : Heap) (locs : List Loc) (ls : Array Slot), f_R_leave x1 st = some (r, t) → IW D (cwR A cs st) A0 H0 H locs → lv_has ls 3 [(0, .ref (A 0)), (1, .long x1)] → W p l e rm_R_leave s m args below meth c H locs 0 0 Q (F0 m 0 ls []) := by
  intro x1 st H locs ls h I hl
  have hx := E.1
  have hb := E.2.1
  rw [f_R_leave] at h
  refine lv_aload_n hx hb d_R_leave_0 rfl (lv_at hl 0 rfl) ?_
  refine lv_dup hx hb d_R_leave_1 rfl ?_
  refine g_r_high E I k_R_121 d_R_leave_2 ?_
  refine lv_iconst (v := 1) hx hb d_R_leave_5 (by decide) ?_
  refine lv_isub hx hb d_R_leave_6 ?_
  obtain ⟨st1, est1⟩ : ∃ y : RS, y = (s_r_high st ((r_high st) - (1 : Int32))) := ⟨_, rfl⟩
  have h := nx_k est1 h
  refine p_r_high E I est1 k_R_121 d_R_leave_7 (fun H locs I => ?_)
  refine lv_aload_n hx hb d_R_leave_10 rfl (lv_at hl 0 rfl) ?_
  refine lv_lload_n hx hb d_R_leave_11 rfl (lv_at hl 1 rfl) ?_
  obtain ⟨st2, est2⟩ : ∃ y : RS, y = (s_r_given st1 x1) := ⟨_, rfl⟩
  have h := nx_k est2 h
  refine p_r_given E I est2 k_R_124 d_R_leave_12 (fun H locs I => ?_)
  cases h
  exact kr _ _ _ _ I d_R_leave_15
set_option maxHeartbeats 4000000 in
set_option maxRecDepth 100000 in
theorem k_R_leave {x1 : Int64} {st t : RS} {r : Unit} (h : f_R_leave x1 st = some (r, t)) : Cn l y_R_leave c_R_leave 3 none rm_R_leave D (tyL cs) (cwR A cs st) (cwR A cs t) [.ref (A 0), .long x1] (none) := by
  refine cn_intro (by decide) (Nat.le_of_ble_eq_true rfl) ?_
  intro p e s m below meth c A0 Q ls E hr hlk hA hA0 hQ I hl
  exact w_R_leave E hA (rt_v E hr hlk hA0 hQ) x1 st _ _ _ h I (lv_sub hl [0, 1] rfl)
abbrev rm_R_choose : Room := { frames := 1, cells := 0, slots := 0, locals := 22 }
noncomputable def f_R_choose_59 (x2 : Int32) (x3 : Int32) (s1 : Int32) (st : RS) : Option (Unit × RS) :=
  bd (f_R_is (3 : Int32) x2 st) fun r2 st1 =>
  if s1 = r2 then (
    ck x2 64 <|
    bd (f_R_enter (r_partC st1 x2.toNatClampNeg) x3 st1) fun _ st6 =>
    some ((), st6)
  ) else (
    ck x2 64 <|
    bd (f_R_enter (r_partB st1 x2.toNatClampNeg) x3 st1) fun _ st10 =>
    some ((), st10)
  )
noncomputable def f_R_choose (x1 : Int32) (x2 : Int32) (x3 : Int32) (st : RS) : Option (Unit × RS) :=
  ck x1 65 <|
  ck x1 65 <|
  nx (s_r_phase st x1.toNatClampNeg ((r_phase st x1.toNatClampNeg) + (1 : Int32))) fun st15 =>
  ck x1 65 <|
  if (r_phase st15 x1.toNatClampNeg) = (1 : Int32) then (
    ck x2 64 <|
    bd (f_R_enter (r_partA st15 x2.toNatClampNeg) x3 st15) fun _ st25 =>
    some ((), st25)
  ) else (
    ck x1 65 <|
    if (r_phase st15 x1.toNatClampNeg) = (2 : Int32) then (
      if (r_given st15) = (0 : Int64) then (
        f_R_choose_59 x2 x3 (0 : Int32) st15
      ) else (
        f_R_choose_59 x2 x3 (1 : Int32) st15
      )
    ) else (
      bd (f_R_leave (r_given st15) st15) fun _ st20 =>
      some ((), st20)
    )
  )
set_option maxHeartbeats 4000000 in
set_option maxRecDepth 100000 in
theorem w_R_choose_59  {r : Unit} {t : RS} (E : EC R_R c_R_choose 4 p s m args c D (tyL cs)) (hA : ∀ q, H0.size ≤ q → A0 q) (kr : ∀ (H : Heap) (locs : List Loc) (pc : Nat) (ls : Array Slot), IW D (cwR A cs t) A0 H0 H locs → decode c_R_choose pc = .ok (.return_, 1) → W p l e rm_R_choose s m args below meth c H locs 0 0 Q (F0 m pc ls [])) : ∀ (x2 : Int32) (x3 : Int32) (s1 : Int32) (st : RS) (H : Heap) (locs : List Loc) (ls : Array Slot), f_R_choose_59 x2 x3 s1 st = some (r, t) → IW D (cwR A cs st) A0 H0 H locs → lv_has ls 4 [(0, .ref (A 0)), (2, .int x2), (3, .int x3)] → W p l e rm_R_choose s m args below meth c H locs 0 0 Q (F0 m 59 ls [.int s1, .ref (A 0)]) := by
  intro x2 x3 s1 st H locs ls h I hl
  have hx := E.1
  have hb := E.2.1
  rw [f_R_choose_59] at h
  refine lv_aload_n hx hb d_R_choose_59 rfl (lv_at hl 0 rfl) ?_
  refine lv_iconst (v := 3) hx hb d_R_choose_60 (by decide) ?_
  refine lv_iload_n hx hb d_R_choose_61 rfl (lv_at hl 1 rfl) ?_
  obtain ⟨r2, st1, h3, h⟩ := bd_some h
  refine cV (As := [.int (3 : Int32), .int x2]) (rest := [.int s1, .ref (A 0)]) E I hA (k_R_is h3) g_R_139 ⟨rfl, rfl⟩ 0 rfl rfl rfl hl rfl (Nat.le_of_ble_eq_true rfl) ⟨Nat.le_of_ble_eq_true rfl, Nat.le_of_ble_eq_true rfl⟩ ⟨Nat.zero_le _, Nat.zero_le _⟩ d_R_choose_62 rfl (fun H locs I => ?_)
  refine lv_icmp_eq (tgt := 77) hx hb d_R_choose_65 (by decide) (fun c4 => ?_) (fun c4 => ?_)
  · have h := ifp c4 h
    refine lv_aload_n hx hb d_R_choose_77 rfl (lv_at hl 0 rfl) ?_
    refine g_rR_partC E I k_R_23 d_R_choose_78 ?_
    refine lv_iload_n hx hb d_R_choose_81 rfl (lv_at hl 1 rfl) ?_
    obtain ⟨b5, h⟩ := ck_some h
    refine l_r_partC E I b5 d_R_choose_82 ?_
    refine lv_iload_n hx hb d_R_choose_83 rfl (lv_at hl 2 rfl) ?_
    obtain ⟨u8, st6, h7, h⟩ := bd_some h
    refine cV (As := [.int (r_partC st1 x2.toNatClampNeg), .int x3]) (rest := []) E I hA (k_R_enter h7) g_R_131 ⟨rfl, rfl⟩ 0 rfl rfl rfl hl rfl (Nat.le_of_ble_eq_true rfl) ⟨Nat.le_of_ble_eq_true rfl, Nat.le_of_ble_eq_true rfl⟩ ⟨Nat.zero_le _, Nat.zero_le _⟩ d_R_choose_84 rfl (fun H locs I => ?_)
    refine lv_goto (tgt := 98) hx hb d_R_choose_87 (by decide) ?_
    cases h
    exact kr _ _ _ _ I d_R_choose_98
  · have h := ifn c4 h
    refine lv_aload_n hx hb d_R_choose_68 rfl (lv_at hl 0 rfl) ?_
    refine g_rR_partB E I k_R_20 d_R_choose_69 ?_
    refine lv_iload_n hx hb d_R_choose_72 rfl (lv_at hl 1 rfl) ?_
    obtain ⟨b9, h⟩ := ck_some h
    refine l_r_partB E I b9 d_R_choose_73 ?_
    refine lv_goto (tgt := 83) hx hb d_R_choose_74 (by decide) ?_
    refine lv_iload_n hx hb d_R_choose_83 rfl (lv_at hl 2 rfl) ?_
    obtain ⟨u12, st10, h11, h⟩ := bd_some h
    refine cV (As := [.int (r_partB st1 x2.toNatClampNeg), .int x3]) (rest := []) E I hA (k_R_enter h11) g_R_131 ⟨rfl, rfl⟩ 0 rfl rfl rfl hl rfl (Nat.le_of_ble_eq_true rfl) ⟨Nat.le_of_ble_eq_true rfl, Nat.le_of_ble_eq_true rfl⟩ ⟨Nat.zero_le _, Nat.zero_le _⟩ d_R_choose_84 rfl (fun H locs I => ?_)
    refine lv_goto (tgt := 98) hx hb d_R_choose_87 (by decide) ?_
    cases h
    exact kr _ _ _ _ I d_R_choose_98
set_option maxHeartbeats 4000000 in
set_option maxRecDepth 100000 in
theorem w_R_choose  {r : Unit} {t : RS} (E : EC R_R c_R_choose 4 p s m args c D (tyL cs)) (hA : ∀ q, H0.size ≤ q → A0 q) (kr : ∀ (H : Heap) (locs : List Loc) (pc : Nat) (ls : Array Slot), IW D (cwR A cs t) A0 H0 H locs → decode c_R_choose pc = .ok (.return_, 1) → W p l e rm_R_choose s m args below meth c H locs 0 0 Q (F0 m pc ls [])) : ∀ (x1 : Int32) (x2 : Int32) (x3 : Int32) (st : RS) (H : Heap) (locs : List Loc) (ls : Array Slot), f_R_choose x1 x2 x3 st = some (r, t) → IW D (cwR A cs st) A0 H0 H locs → lv_has ls 4 [(0, .ref (A 0)), (1, .int x1), (2, .int x2), (3, .int x3)] → W p l e rm_R_choose s m args below meth c H locs 0 0 Q (F0 m 0 ls []) := by
  intro x1 x2 x3 st H locs ls h I hl
  have hx := E.1
  have hb := E.2.1
  rw [f_R_choose] at h
  refine lv_aload_n hx hb d_R_choose_0 rfl (lv_at hl 0 rfl) ?_
  refine g_rR_phase E I k_R_76 d_R_choose_1 ?_
  refine lv_iload_n hx hb d_R_choose_4 rfl (lv_at hl 1 rfl) ?_
  refine lv_dup2_11 hx hb d_R_choose_5 rfl rfl ?_
  obtain ⟨b13, h⟩ := ck_some h
  refine l_r_phase E I b13 d_R_choose_6 ?_
  refine lv_iconst (v := 1) hx hb d_R_choose_7 (by decide) ?_
  refine lv_iadd hx hb d_R_choose_8 ?_
  obtain ⟨b14, h⟩ := ck_some h
  obtain ⟨st15, est15⟩ : ∃ y : RS, y = (s_r_phase st x1.toNatClampNeg ((r_phase st x1.toNatClampNeg) + (1 : Int32))) := ⟨_, rfl⟩
  have h := nx_k est15 h
  refine p_r_phase E I b14 est15 d_R_choose_9 (fun H locs I => ?_)
  refine lv_aload_n hx hb d_R_choose_10 rfl (lv_at hl 0 rfl) ?_
  refine g_rR_phase E I k_R_76 d_R_choose_11 ?_
  refine lv_iload_n hx hb d_R_choose_14 rfl (lv_at hl 1 rfl) ?_
  obtain ⟨b16, h⟩ := ck_some h
  refine l_r_phase E I b16 d_R_choose_15 ?_
  refine lv_iconst (v := 1) hx hb d_R_choose_16 (by decide) ?_
  refine lv_icmp_ne (tgt := 34) hx hb d_R_choose_17 (by decide) (fun c17 => ?_) (fun c17 => ?_)
  · have h := ifn c17 h
    refine lv_aload_n hx hb d_R_choose_34 rfl (lv_at hl 0 rfl) ?_
    refine g_rR_phase E I k_R_76 d_R_choose_35 ?_
    refine lv_iload_n hx hb d_R_choose_38 rfl (lv_at hl 1 rfl) ?_
    obtain ⟨b18, h⟩ := ck_some h
    refine l_r_phase E I b18 d_R_choose_39 ?_
    refine lv_iconst (v := 2) hx hb d_R_choose_40 (by decide) ?_
    refine lv_icmp_ne (tgt := 90) hx hb d_R_choose_41 (by decide) (fun c19 => ?_) (fun c19 => ?_)
    · have h := ifn c19 h
      refine lv_aload_n hx hb d_R_choose_90 rfl (lv_at hl 0 rfl) ?_
      refine lv_aload_n hx hb d_R_choose_91 rfl (lv_at hl 0 rfl) ?_
      refine g_r_given E I k_R_124 d_R_choose_92 ?_
      obtain ⟨u22, st20, h21, h⟩ := bd_some h
      refine cV (As := [.long (r_given st15)]) (rest := []) E I hA (k_R_leave h21) g_R_143 ⟨rfl, rfl⟩ 0 rfl rfl rfl hl rfl (Nat.le_of_ble_eq_true rfl) ⟨Nat.le_of_ble_eq_true rfl, Nat.le_of_ble_eq_true rfl⟩ ⟨Nat.zero_le _, Nat.zero_le _⟩ d_R_choose_95 rfl (fun H locs I => ?_)
      cases h
      exact kr _ _ _ _ I d_R_choose_98
    · have h := ifp c19 h
      refine lv_aload_n hx hb d_R_choose_44 rfl (lv_at hl 0 rfl) ?_
      refine lv_aload_n hx hb d_R_choose_45 rfl (lv_at hl 0 rfl) ?_
      refine g_r_given E I k_R_124 d_R_choose_46 ?_
      refine lv_lconst (v := 0) hx hb d_R_choose_49 (by decide) ?_
      refine W.lcmp hx hb d_R_choose_50 ?_
      refine lv_if_eq (tgt := 58) hx hb d_R_choose_51 (by decide) (fun c23 => ?_) (fun c23 => ?_)
      · have c23 := (lg_cmp_eq _ _).mp c23
        have h := ifp c23 h
        refine lv_iconst (v := 0) hx hb d_R_choose_58 (by decide) ?_
        exact w_R_choose_59 E hA kr x2 x3 (0 : Int32) st15 _ _ _ h I (lv_sub hl [0, 2, 3] rfl)
      · have c23 := mt (lg_cmp_eq _ _).mpr c23
        have h := ifn c23 h
        refine lv_iconst (v := 1) hx hb d_R_choose_54 (by decide) ?_
        refine lv_goto (tgt := 59) hx hb d_R_choose_55 (by decide) ?_
        exact w_R_choose_59 E hA kr x2 x3 (1 : Int32) st15 _ _ _ h I (lv_sub hl [0, 2, 3] rfl)
  · have h := ifp c17 h
    refine lv_aload_n hx hb d_R_choose_20 rfl (lv_at hl 0 rfl) ?_
    refine lv_aload_n hx hb d_R_choose_21 rfl (lv_at hl 0 rfl) ?_
    refine g_rR_partA E I k_R_17 d_R_choose_22 ?_
    refine lv_iload_n hx hb d_R_choose_25 rfl (lv_at hl 2 rfl) ?_
    obtain ⟨b24, h⟩ := ck_some h
    refine l_r_partA E I b24 d_R_choose_26 ?_
    refine lv_iload_n hx hb d_R_choose_27 rfl (lv_at hl 3 rfl) ?_
    obtain ⟨u27, st25, h26, h⟩ := bd_some h
    refine cV (As := [.int (r_partA st15 x2.toNatClampNeg), .int x3]) (rest := []) E I hA (k_R_enter h26) g_R_131 ⟨rfl, rfl⟩ 0 rfl rfl rfl hl rfl (Nat.le_of_ble_eq_true rfl) ⟨Nat.le_of_ble_eq_true rfl, Nat.le_of_ble_eq_true rfl⟩ ⟨Nat.zero_le _, Nat.zero_le _⟩ d_R_choose_28 rfl (fun H locs I => ?_)
    refine lv_goto (tgt := 98) hx hb d_R_choose_31 (by decide) ?_
    cases h
    exact kr _ _ _ _ I d_R_choose_98
set_option maxHeartbeats 4000000 in
set_option maxRecDepth 100000 in
theorem k_R_choose {x1 : Int32} {x2 : Int32} {x3 : Int32} {st t : RS} {r : Unit} (h : f_R_choose x1 x2 x3 st = some (r, t)) : Cn l y_R_choose c_R_choose 4 none rm_R_choose D (tyL cs) (cwR A cs st) (cwR A cs t) [.ref (A 0), .int x1, .int x2, .int x3] (none) := by
  refine cn_intro (by decide) (Nat.le_of_ble_eq_true rfl) ?_
  intro p e s m below meth c A0 Q ls E hr hlk hA hA0 hQ I hl
  exact w_R_choose E hA (rt_v E hr hlk hA0 hQ) x1 x2 x3 st _ _ _ h I (lv_sub hl [0, 1, 2, 3] rfl)
abbrev rm_R_loop : Room := { frames := 1, cells := 0, slots := 0, locals := 22 }
noncomputable def f_R_loop (x1 : Int32) (x2 : Int32) (x3 : Int32) (st : RS) : Option (Unit × RS) :=
  ck x1 65 <|
  if (r_phase st x1.toNatClampNeg) = 0 then (
    ck x1 65 <|
    nx (s_r_first st x1.toNatClampNeg (r_acc st)) fun st26 =>
    nx (s_r_acc st26 (0 : Int64)) fun st27 =>
    ck x1 65 <|
    nx (s_r_phase st27 x1.toNatClampNeg (1 : Int32)) fun st29 =>
    ck x2 64 <|
    bd (f_R_enter (r_partA st29 x2.toNatClampNeg) x3 st29) fun _ st31 =>
    some ((), st31)
  ) else (
    ck x1 65 <|
    if (r_phase st x1.toNatClampNeg) = (2 : Int32) then (
      nx (s_r_acc st (r_given st)) fun st18 =>
      ck x1 65 <|
      nx (s_r_phase st18 x1.toNatClampNeg (1 : Int32)) fun st20 =>
      ck x2 64 <|
      bd (f_R_enter (r_partA st20 x2.toNatClampNeg) x3 st20) fun _ st22 =>
      some ((), st22)
    ) else (
      if (r_given st) ≤ (r_acc st) then (
        nx (r_acc st) fun x4_6 =>
        ck x1 65 <|
        nx (s_r_acc st (r_first st x1.toNatClampNeg)) fun st8 =>
        bd (f_R_leave x4_6 st8) fun _ st9 =>
        some ((), st9)
      ) else (
        ck x1 65 <|
        nx (s_r_phase st x1.toNatClampNeg (2 : Int32)) fun st13 =>
        ck x2 64 <|
        bd (f_R_enter (r_partB st13 x2.toNatClampNeg) x3 st13) fun _ st15 =>
        some ((), st15)
      )
    )
  )
set_option maxHeartbeats 4000000 in
set_option maxRecDepth 100000 in
theorem w_R_loop  {r : Unit} {t : RS} (E : EC R_R c_R_loop 6 p s m args c D (tyL cs)) (hA : ∀ q, H0.size ≤ q → A0 q) (kr : ∀ (H : Heap) (locs : List Loc) (pc : Nat) (ls : Array Slot), IW D (cwR A cs t) A0 H0 H locs → decode c_R_loop pc = .ok (.return_, 1) → W p l e rm_R_loop s m args below meth c H locs 0 0 Q (F0 m pc ls [])) : ∀ (x1 : Int32) (x2 : Int32) (x3 : Int32) (st : RS) (H : Heap) (locs : List Loc) (ls : Array Slot), f_R_loop x1 x2 x3 st = some (r, t) → IW D (cwR A cs st) A0 H0 H locs → lv_has ls 6 [(0, .ref (A 0)), (1, .int x1), (2, .int x2), (3, .int x3)] → W p l e rm_R_loop s m args below meth c H locs 0 0 Q (F0 m 0 ls []) := by
  intro x1 x2 x3 st H locs ls h I hl
  have hx := E.1
  have hb := E.2.1
  rw [f_R_loop] at h
  refine lv_aload_n hx hb d_R_loop_0 rfl (lv_at hl 0 rfl) ?_
  refine g_rR_phase E I k_R_76 d_R_loop_1 ?_
  refine lv_iload_n hx hb d_R_loop_4 rfl (lv_at hl 1 rfl) ?_
  obtain ⟨b1, h⟩ := ck_some h
  refine l_r_phase E I b1 d_R_loop_5 ?_
  refine lv_if_ne (tgt := 45) hx hb d_R_loop_6 (by decide) (fun c2 => ?_) (fun c2 => ?_)
  · have h := ifn c2 h
    refine lv_aload_n hx hb d_R_loop_45 rfl (lv_at hl 0 rfl) ?_
    refine g_rR_phase E I k_R_76 d_R_loop_46 ?_
    refine lv_iload_n hx hb d_R_loop_49 rfl (lv_at hl 1 rfl) ?_
    obtain ⟨b3, h⟩ := ck_some h
    refine l_r_phase E I b3 d_R_loop_50 ?_
    refine lv_iconst (v := 2) hx hb d_R_loop_51 (by decide) ?_
    refine lv_icmp_ne (tgt := 84) hx hb d_R_loop_52 (by decide) (fun c4 => ?_) (fun c4 => ?_)
    · have h := ifn c4 h
      refine lv_aload_n hx hb d_R_loop_84 rfl (lv_at hl 0 rfl) ?_
      refine g_r_acc E I k_R_128 d_R_loop_85 ?_
      refine lv_aload_n hx hb d_R_loop_88 rfl (lv_at hl 0 rfl) ?_
      refine g_r_given E I k_R_124 d_R_loop_89 ?_
      refine W.lcmp hx hb d_R_loop_92 ?_
      refine lv_if_ge (tgt := 117) hx hb d_R_loop_93 (by decide) (fun c5 => ?_) (fun c5 => ?_)
      · have c5 := (lg_cmp_ge _ _).mp c5
        have h := ifp c5 h
        refine lv_aload_n hx hb d_R_loop_117 rfl (lv_at hl 0 rfl) ?_
        refine g_r_acc E I k_R_128 d_R_loop_118 ?_
        refine lv_topl (fun x4_6 ex4_6 => ?_)
        have h := nx_k ex4_6 h
        refine lv_lstore (lv' := [(4, .long x4_6), (0, .ref (A 0)), (1, .int x1), (2, .int x2), (3, .int x3)]) hx hb d_R_loop_121 hl (by decide) rfl (fun ls hl => ?_)
        refine lv_aload_n hx hb d_R_loop_123 rfl (lv_at hl 1 rfl) ?_
        refine lv_aload_n hx hb d_R_loop_124 rfl (lv_at hl 1 rfl) ?_
        refine g_rR_first E I k_R_79 d_R_loop_125 ?_
        refine lv_iload_n hx hb d_R_loop_128 rfl (lv_at hl 2 rfl) ?_
        obtain ⟨b7, h⟩ := ck_some h
        refine l_r_first E I b7 d_R_loop_129 ?_
        obtain ⟨st8, est8⟩ : ∃ y : RS, y = (s_r_acc st (r_first st x1.toNatClampNeg)) := ⟨_, rfl⟩
        have h := nx_k est8 h
        refine p_r_acc E I est8 k_R_128 d_R_loop_130 (fun H locs I => ?_)
        refine lv_aload_n hx hb d_R_loop_133 rfl (lv_at hl 1 rfl) ?_
        refine lv_lload hx hb d_R_loop_134 (lv_at hl 0 rfl) ?_
        obtain ⟨u11, st9, h10, h⟩ := bd_some h
        refine cV (As := [.long x4_6]) (rest := []) E I hA (k_R_leave h10) g_R_143 ⟨rfl, rfl⟩ 0 rfl rfl rfl hl rfl (Nat.le_of_ble_eq_true rfl) ⟨Nat.le_of_ble_eq_true rfl, Nat.le_of_ble_eq_true rfl⟩ ⟨Nat.zero_le _, Nat.zero_le _⟩ d_R_loop_136 rfl (fun H locs I => ?_)
        cases h
        exact kr _ _ _ _ I d_R_loop_139
      · have c5 := mt (lg_cmp_ge _ _).mpr c5
        have h := ifn c5 h
        refine lv_aload_n hx hb d_R_loop_96 rfl (lv_at hl 0 rfl) ?_
        refine g_rR_phase E I k_R_76 d_R_loop_97 ?_
        refine lv_iload_n hx hb d_R_loop_100 rfl (lv_at hl 1 rfl) ?_
        refine lv_iconst (v := 2) hx hb d_R_loop_101 (by decide) ?_
        obtain ⟨b12, h⟩ := ck_some h
        obtain ⟨st13, est13⟩ : ∃ y : RS, y = (s_r_phase st x1.toNatClampNeg (2 : Int32)) := ⟨_, rfl⟩
        have h := nx_k est13 h
        refine p_r_phase E I b12 est13 d_R_loop_102 (fun H locs I => ?_)
        refine lv_aload_n hx hb d_R_loop_103 rfl (lv_at hl 0 rfl) ?_
        refine lv_aload_n hx hb d_R_loop_104 rfl (lv_at hl 0 rfl) ?_
        refine g_rR_partB E I k_R_20 d_R_loop_105 ?_
        refine lv_iload_n hx hb d_R_loop_108 rfl (lv_at hl 2 rfl) ?_
        obtain ⟨b14, h⟩ := ck_some h
        refine l_r_partB E I b14 d_R_loop_109 ?_
        refine lv_iload_n hx hb d_R_loop_110 rfl (lv_at hl 3 rfl) ?_
        obtain ⟨u17, st15, h16, h⟩ := bd_some h
        refine cV (As := [.int (r_partB st13 x2.toNatClampNeg), .int x3]) (rest := []) E I hA (k_R_enter h16) g_R_131 ⟨rfl, rfl⟩ 0 rfl rfl rfl hl rfl (Nat.le_of_ble_eq_true rfl) ⟨Nat.le_of_ble_eq_true rfl, Nat.le_of_ble_eq_true rfl⟩ ⟨Nat.zero_le _, Nat.zero_le _⟩ d_R_loop_111 rfl (fun H locs I => ?_)
        refine lv_goto (tgt := 139) hx hb d_R_loop_114 (by decide) ?_
        cases h
        exact kr _ _ _ _ I d_R_loop_139
    · have h := ifp c4 h
      refine lv_aload_n hx hb d_R_loop_55 rfl (lv_at hl 0 rfl) ?_
      refine lv_aload_n hx hb d_R_loop_56 rfl (lv_at hl 0 rfl) ?_
      refine g_r_given E I k_R_124 d_R_loop_57 ?_
      obtain ⟨st18, est18⟩ : ∃ y : RS, y = (s_r_acc st (r_given st)) := ⟨_, rfl⟩
      have h := nx_k est18 h
      refine p_r_acc E I est18 k_R_128 d_R_loop_60 (fun H locs I => ?_)
      refine lv_aload_n hx hb d_R_loop_63 rfl (lv_at hl 0 rfl) ?_
      refine g_rR_phase E I k_R_76 d_R_loop_64 ?_
      refine lv_iload_n hx hb d_R_loop_67 rfl (lv_at hl 1 rfl) ?_
      refine lv_iconst (v := 1) hx hb d_R_loop_68 (by decide) ?_
      obtain ⟨b19, h⟩ := ck_some h
      obtain ⟨st20, est20⟩ : ∃ y : RS, y = (s_r_phase st18 x1.toNatClampNeg (1 : Int32)) := ⟨_, rfl⟩
      have h := nx_k est20 h
      refine p_r_phase E I b19 est20 d_R_loop_69 (fun H locs I => ?_)
      refine lv_aload_n hx hb d_R_loop_70 rfl (lv_at hl 0 rfl) ?_
      refine lv_aload_n hx hb d_R_loop_71 rfl (lv_at hl 0 rfl) ?_
      refine g_rR_partA E I k_R_17 d_R_loop_72 ?_
      refine lv_iload_n hx hb d_R_loop_75 rfl (lv_at hl 2 rfl) ?_
      obtain ⟨b21, h⟩ := ck_some h
      refine l_r_partA E I b21 d_R_loop_76 ?_
      refine lv_iload_n hx hb d_R_loop_77 rfl (lv_at hl 3 rfl) ?_
      obtain ⟨u24, st22, h23, h⟩ := bd_some h
      refine cV (As := [.int (r_partA st20 x2.toNatClampNeg), .int x3]) (rest := []) E I hA (k_R_enter h23) g_R_131 ⟨rfl, rfl⟩ 0 rfl rfl rfl hl rfl (Nat.le_of_ble_eq_true rfl) ⟨Nat.le_of_ble_eq_true rfl, Nat.le_of_ble_eq_true rfl⟩ ⟨Nat.zero_le _, Nat.zero_le _⟩ d_R_loop_78 rfl (fun H locs I => ?_)
      refine lv_goto (tgt := 139) hx hb d_R_loop_81 (by decide) ?_
      cases h
      exact kr _ _ _ _ I d_R_loop_139
  · have h := ifp c2 h
    refine lv_aload_n hx hb d_R_loop_9 rfl (lv_at hl 0 rfl) ?_
    refine g_rR_first E I k_R_79 d_R_loop_10 ?_
    refine lv_iload_n hx hb d_R_loop_13 rfl (lv_at hl 1 rfl) ?_
    refine lv_aload_n hx hb d_R_loop_14 rfl (lv_at hl 0 rfl) ?_
    refine g_r_acc E I k_R_128 d_R_loop_15 ?_
    obtain ⟨b25, h⟩ := ck_some h
    obtain ⟨st26, est26⟩ : ∃ y : RS, y = (s_r_first st x1.toNatClampNeg (r_acc st)) := ⟨_, rfl⟩
    have h := nx_k est26 h
    refine p_r_first E I b25 est26 d_R_loop_18 (fun H locs I => ?_)
    refine lv_aload_n hx hb d_R_loop_19 rfl (lv_at hl 0 rfl) ?_
    refine lv_lconst (v := 0) hx hb d_R_loop_20 (by decide) ?_
    obtain ⟨st27, est27⟩ : ∃ y : RS, y = (s_r_acc st26 (0 : Int64)) := ⟨_, rfl⟩
    have h := nx_k est27 h
    refine p_r_acc E I est27 k_R_128 d_R_loop_21 (fun H locs I => ?_)
    refine lv_aload_n hx hb d_R_loop_24 rfl (lv_at hl 0 rfl) ?_
    refine g_rR_phase E I k_R_76 d_R_loop_25 ?_
    refine lv_iload_n hx hb d_R_loop_28 rfl (lv_at hl 1 rfl) ?_
    refine lv_iconst (v := 1) hx hb d_R_loop_29 (by decide) ?_
    obtain ⟨b28, h⟩ := ck_some h
    obtain ⟨st29, est29⟩ : ∃ y : RS, y = (s_r_phase st27 x1.toNatClampNeg (1 : Int32)) := ⟨_, rfl⟩
    have h := nx_k est29 h
    refine p_r_phase E I b28 est29 d_R_loop_30 (fun H locs I => ?_)
    refine lv_aload_n hx hb d_R_loop_31 rfl (lv_at hl 0 rfl) ?_
    refine lv_aload_n hx hb d_R_loop_32 rfl (lv_at hl 0 rfl) ?_
    refine g_rR_partA E I k_R_17 d_R_loop_33 ?_
    refine lv_iload_n hx hb d_R_loop_36 rfl (lv_at hl 2 rfl) ?_
    obtain ⟨b30, h⟩ := ck_some h
    refine l_r_partA E I b30 d_R_loop_37 ?_
    refine lv_iload_n hx hb d_R_loop_38 rfl (lv_at hl 3 rfl) ?_
    obtain ⟨u33, st31, h32, h⟩ := bd_some h
    refine cV (As := [.int (r_partA st29 x2.toNatClampNeg), .int x3]) (rest := []) E I hA (k_R_enter h32) g_R_131 ⟨rfl, rfl⟩ 0 rfl rfl rfl hl rfl (Nat.le_of_ble_eq_true rfl) ⟨Nat.le_of_ble_eq_true rfl, Nat.le_of_ble_eq_true rfl⟩ ⟨Nat.zero_le _, Nat.zero_le _⟩ d_R_loop_39 rfl (fun H locs I => ?_)
    refine lv_goto (tgt := 139) hx hb d_R_loop_42 (by decide) ?_
    cases h
    exact kr _ _ _ _ I d_R_loop_139
set_option maxHeartbeats 4000000 in
set_option maxRecDepth 100000 in
theorem k_R_loop {x1 : Int32} {x2 : Int32} {x3 : Int32} {st t : RS} {r : Unit} (h : f_R_loop x1 x2 x3 st = some (r, t)) : Cn l y_R_loop c_R_loop 6 none rm_R_loop D (tyL cs) (cwR A cs st) (cwR A cs t) [.ref (A 0), .int x1, .int x2, .int x3] (none) := by
  refine cn_intro (by decide) (Nat.le_of_ble_eq_true rfl) ?_
  intro p e s m below meth c A0 Q ls E hr hlk hA hA0 hQ I hl
  exact w_R_loop E hA (rt_v E hr hlk hA0 hQ) x1 x2 x3 st _ _ _ h I (lv_sub hl [0, 1, 2, 3] rfl)
abbrev rm_R_made : Room := { frames := 1, cells := 0, slots := 0, locals := 22 }
noncomputable def f_R_made_124 (x1 : Int32) (s0 : Int32) (st : RS) : Option (Int64 × RS) :=
  bd (f_R_is (5 : Int32) x1 st) fun r2 st1 =>
  if s0 = r2 then (
    some ((0 : Int64), st1)
  ) else (
    some ((1 : Int64), st1)
  )
noncomputable def f_R_made (x1 : Int32) (x2 : Int64) (x4 : Int64) (st : RS) : Option (Int64 × RS) :=
  ck x1 64 <|
  if (r_kindOf st x1.toNatClampNeg) = 3 then (
    bd (f_R_is (2 : Int32) x1 st) fun r8 st7 =>
    if r8 = 0 then (
      some ((x2 + x4), st7)
    ) else (
      some ((x2 - x4), st7)
    )
  ) else (
    if (r_kindOf st x1.toNatClampNeg) = 4 then (
      bd (f_R_is (2 : Int32) x1 st) fun r13 st12 =>
      if r13 = 0 then (
        some ((x2 - x4), st12)
      ) else (
        some ((x2 + x4), st12)
      )
    ) else (
      if (r_kindOf st x1.toNatClampNeg) = 5 then (
        some ((x2 * x4), st)
      ) else (
        if (r_kindOf st x1.toNatClampNeg) = 6 then (
          if x2 < x4 then (
            some ((1 : Int64), st)
          ) else (
            if x2 = x4 then (
              bd (f_R_is (1 : Int32) x1 st) fun r21 st20 =>
              if r21 = 0 then (
                some ((0 : Int64), st20)
              ) else (
                some ((1 : Int64), st20)
              )
            ) else (
              some ((0 : Int64), st)
            )
          )
        ) else (
          if x2 = x4 then (
            f_R_made_124 x1 (1 : Int32) st
          ) else (
            f_R_made_124 x1 (0 : Int32) st
          )
        )
      )
    )
  )
set_option maxHeartbeats 4000000 in
set_option maxRecDepth 100000 in
theorem w_R_made_124  {r : Int64} {t : RS} (E : EC R_R c_R_made 6 p s m args c D (tyL cs)) (hA : ∀ q, H0.size ≤ q → A0 q) (kr : ∀ (H : Heap) (locs : List Loc) (pc : Nat) (ls : Array Slot), IW D (cwR A cs t) A0 H0 H locs → decode c_R_made pc = .ok (.lreturn, 1) → W p l e rm_R_made s m args below meth c H locs 0 0 Q (F0 m pc ls [.long r])) : ∀ (x1 : Int32) (s0 : Int32) (st : RS) (H : Heap) (locs : List Loc) (ls : Array Slot), f_R_made_124 x1 s0 st = some (r, t) → IW D (cwR A cs st) A0 H0 H locs → lv_has ls 6 [(0, .ref (A 0)), (1, .int x1)] → W p l e rm_R_made s m args below meth c H locs 0 0 Q (F0 m 124 ls [.int s0]) := by
  intro x1 s0 st H locs ls h I hl
  have hx := E.1
  have hb := E.2.1
  rw [f_R_made_124] at h
  refine lv_aload_n hx hb d_R_made_124 rfl (lv_at hl 0 rfl) ?_
  refine lv_iconst (v := 5) hx hb d_R_made_125 (by decide) ?_
  refine lv_iload_n hx hb d_R_made_126 rfl (lv_at hl 1 rfl) ?_
  obtain ⟨r2, st1, h3, h⟩ := bd_some h
  refine cV (As := [.int (5 : Int32), .int x1]) (rest := [.int s0]) E I hA (k_R_is h3) g_R_139 ⟨rfl, rfl⟩ 0 rfl rfl rfl hl rfl (Nat.le_of_ble_eq_true rfl) ⟨Nat.le_of_ble_eq_true rfl, Nat.le_of_ble_eq_true rfl⟩ ⟨Nat.zero_le _, Nat.zero_le _⟩ d_R_made_127 rfl (fun H locs I => ?_)
  refine lv_icmp_eq (tgt := 137) hx hb d_R_made_130 (by decide) (fun c4 => ?_) (fun c4 => ?_)
  · have h := ifp c4 h
    refine lv_lconst (v := 0) hx hb d_R_made_137 (by decide) ?_
    cases h
    exact kr _ _ _ _ I d_R_made_138
  · have h := ifn c4 h
    refine lv_lconst (v := 1) hx hb d_R_made_133 (by decide) ?_
    refine lv_goto (tgt := 138) hx hb d_R_made_134 (by decide) ?_
    cases h
    exact kr _ _ _ _ I d_R_made_138
set_option maxHeartbeats 4000000 in
set_option maxRecDepth 100000 in
theorem w_R_made  {r : Int64} {t : RS} (E : EC R_R c_R_made 6 p s m args c D (tyL cs)) (hA : ∀ q, H0.size ≤ q → A0 q) (kr : ∀ (H : Heap) (locs : List Loc) (pc : Nat) (ls : Array Slot), IW D (cwR A cs t) A0 H0 H locs → decode c_R_made pc = .ok (.lreturn, 1) → W p l e rm_R_made s m args below meth c H locs 0 0 Q (F0 m pc ls [.long r])) : ∀ (x1 : Int32) (x2 : Int64) (x4 : Int64) (st : RS) (H : Heap) (locs : List Loc) (ls : Array Slot), f_R_made x1 x2 x4 st = some (r, t) → IW D (cwR A cs st) A0 H0 H locs → lv_has ls 6 [(0, .ref (A 0)), (1, .int x1), (2, .long x2), (4, .long x4)] → W p l e rm_R_made s m args below meth c H locs 0 0 Q (F0 m 0 ls []) := by
  intro x1 x2 x4 st H locs ls h I hl
  have hx := E.1
  have hb := E.2.1
  rw [f_R_made] at h
  refine lv_aload_n hx hb d_R_made_0 rfl (lv_at hl 0 rfl) ?_
  refine g_rR_kindOf E I k_R_7 d_R_made_1 ?_
  refine lv_iload_n hx hb d_R_made_4 rfl (lv_at hl 1 rfl) ?_
  obtain ⟨b5, h⟩ := ck_some h
  refine l_r_kindOf E I b5 d_R_made_5 ?_
  by_cases c6 : (r_kindOf st x1.toNatClampNeg) = 3
  · have h := ifp c6 h
    refine lv_tableIn (off := 30) (tgt := 36) hx hb d_R_made_6 (by rw [c6]; decide) (by rw [c6]; decide) (by rw [c6]; rfl) (by decide) ?_
    refine lv_aload_n hx hb d_R_made_36 rfl (lv_at hl 0 rfl) ?_
    refine lv_iconst (v := 2) hx hb d_R_made_37 (by decide) ?_
    refine lv_iload_n hx hb d_R_made_38 rfl (lv_at hl 1 rfl) ?_
    obtain ⟨r8, st7, h9, h⟩ := bd_some h
    refine cV (As := [.int (2 : Int32), .int x1]) (rest := []) E I hA (k_R_is h9) g_R_139 ⟨rfl, rfl⟩ 0 rfl rfl rfl hl rfl (Nat.le_of_ble_eq_true rfl) ⟨Nat.le_of_ble_eq_true rfl, Nat.le_of_ble_eq_true rfl⟩ ⟨Nat.zero_le _, Nat.zero_le _⟩ d_R_made_39 rfl (fun H locs I => ?_)
    refine lv_if_eq (tgt := 52) hx hb d_R_made_42 (by decide) (fun c10 => ?_) (fun c10 => ?_)
    · have h := ifp c10 h
      refine lv_lload_n hx hb d_R_made_52 rfl (lv_at hl 2 rfl) ?_
      refine lv_lload hx hb d_R_made_53 (lv_at hl 3 rfl) ?_
      refine lv_ladd hx hb d_R_made_55 ?_
      cases h
      exact kr _ _ _ _ I d_R_made_56
    · have h := ifn c10 h
      refine lv_lload_n hx hb d_R_made_45 rfl (lv_at hl 2 rfl) ?_
      refine lv_lload hx hb d_R_made_46 (lv_at hl 3 rfl) ?_
      refine lv_lsub hx hb d_R_made_48 ?_
      refine lv_goto (tgt := 56) hx hb d_R_made_49 (by decide) ?_
      cases h
      exact kr _ _ _ _ I d_R_made_56
  · have h := ifn c6 h
    by_cases c11 : (r_kindOf st x1.toNatClampNeg) = 4
    · have h := ifp c11 h
      refine lv_tableIn (off := 51) (tgt := 57) hx hb d_R_made_6 (by rw [c11]; decide) (by rw [c11]; decide) (by rw [c11]; rfl) (by decide) ?_
      refine lv_aload_n hx hb d_R_made_57 rfl (lv_at hl 0 rfl) ?_
      refine lv_iconst (v := 2) hx hb d_R_made_58 (by decide) ?_
      refine lv_iload_n hx hb d_R_made_59 rfl (lv_at hl 1 rfl) ?_
      obtain ⟨r13, st12, h14, h⟩ := bd_some h
      refine cV (As := [.int (2 : Int32), .int x1]) (rest := []) E I hA (k_R_is h14) g_R_139 ⟨rfl, rfl⟩ 0 rfl rfl rfl hl rfl (Nat.le_of_ble_eq_true rfl) ⟨Nat.le_of_ble_eq_true rfl, Nat.le_of_ble_eq_true rfl⟩ ⟨Nat.zero_le _, Nat.zero_le _⟩ d_R_made_60 rfl (fun H locs I => ?_)
      refine lv_if_eq (tgt := 73) hx hb d_R_made_63 (by decide) (fun c15 => ?_) (fun c15 => ?_)
      · have h := ifp c15 h
        refine lv_lload_n hx hb d_R_made_73 rfl (lv_at hl 2 rfl) ?_
        refine lv_lload hx hb d_R_made_74 (lv_at hl 3 rfl) ?_
        refine lv_lsub hx hb d_R_made_76 ?_
        cases h
        exact kr _ _ _ _ I d_R_made_77
      · have h := ifn c15 h
        refine lv_lload_n hx hb d_R_made_66 rfl (lv_at hl 2 rfl) ?_
        refine lv_lload hx hb d_R_made_67 (lv_at hl 3 rfl) ?_
        refine lv_ladd hx hb d_R_made_69 ?_
        refine lv_goto (tgt := 77) hx hb d_R_made_70 (by decide) ?_
        cases h
        exact kr _ _ _ _ I d_R_made_77
    · have h := ifn c11 h
      by_cases c16 : (r_kindOf st x1.toNatClampNeg) = 5
      · have h := ifp c16 h
        refine lv_tableIn (off := 72) (tgt := 78) hx hb d_R_made_6 (by rw [c16]; decide) (by rw [c16]; decide) (by rw [c16]; rfl) (by decide) ?_
        refine lv_lload_n hx hb d_R_made_78 rfl (lv_at hl 2 rfl) ?_
        refine lv_lload hx hb d_R_made_79 (lv_at hl 3 rfl) ?_
        refine lv_lmul hx hb d_R_made_81 ?_
        cases h
        exact kr _ _ _ _ I d_R_made_82
      · have h := ifn c16 h
        by_cases c17 : (r_kindOf st x1.toNatClampNeg) = 6
        · have h := ifp c17 h
          refine lv_tableIn (off := 77) (tgt := 83) hx hb d_R_made_6 (by rw [c17]; decide) (by rw [c17]; decide) (by rw [c17]; rfl) (by decide) ?_
          refine lv_lload_n hx hb d_R_made_83 rfl (lv_at hl 2 rfl) ?_
          refine lv_lload hx hb d_R_made_84 (lv_at hl 3 rfl) ?_
          refine W.lcmp hx hb d_R_made_86 ?_
          refine lv_if_lt (tgt := 106) hx hb d_R_made_87 (by decide) (fun c18 => ?_) (fun c18 => ?_)
          · have c18 := (lg_cmp_lt _ _).mp c18
            have h := ifp c18 h
            refine lv_lconst (v := 1) hx hb d_R_made_106 (by decide) ?_
            refine lv_goto (tgt := 111) hx hb d_R_made_107 (by decide) ?_
            cases h
            exact kr _ _ _ _ I d_R_made_111
          · have c18 := mt (lg_cmp_lt _ _).mpr c18
            have h := ifn c18 h
            refine lv_lload_n hx hb d_R_made_90 rfl (lv_at hl 2 rfl) ?_
            refine lv_lload hx hb d_R_made_91 (lv_at hl 3 rfl) ?_
            refine W.lcmp hx hb d_R_made_93 ?_
            refine lv_if_ne (tgt := 110) hx hb d_R_made_94 (by decide) (fun c19 => ?_) (fun c19 => ?_)
            · have c19 := mt (lg_cmp_eq _ _).mpr c19
              have h := ifn c19 h
              refine lv_lconst (v := 0) hx hb d_R_made_110 (by decide) ?_
              cases h
              exact kr _ _ _ _ I d_R_made_111
            · have c19 := (lg_cmp_eq _ _).mp c19
              have h := ifp c19 h
              refine lv_aload_n hx hb d_R_made_97 rfl (lv_at hl 0 rfl) ?_
              refine lv_iconst (v := 1) hx hb d_R_made_98 (by decide) ?_
              refine lv_iload_n hx hb d_R_made_99 rfl (lv_at hl 1 rfl) ?_
              obtain ⟨r21, st20, h22, h⟩ := bd_some h
              refine cV (As := [.int (1 : Int32), .int x1]) (rest := []) E I hA (k_R_is h22) g_R_139 ⟨rfl, rfl⟩ 0 rfl rfl rfl hl rfl (Nat.le_of_ble_eq_true rfl) ⟨Nat.le_of_ble_eq_true rfl, Nat.le_of_ble_eq_true rfl⟩ ⟨Nat.zero_le _, Nat.zero_le _⟩ d_R_made_100 rfl (fun H locs I => ?_)
              refine lv_if_eq (tgt := 110) hx hb d_R_made_103 (by decide) (fun c23 => ?_) (fun c23 => ?_)
              · have h := ifp c23 h
                refine lv_lconst (v := 0) hx hb d_R_made_110 (by decide) ?_
                cases h
                exact kr _ _ _ _ I d_R_made_111
              · have h := ifn c23 h
                refine lv_lconst (v := 1) hx hb d_R_made_106 (by decide) ?_
                refine lv_goto (tgt := 111) hx hb d_R_made_107 (by decide) ?_
                cases h
                exact kr _ _ _ _ I d_R_made_111
        · have h := ifn c17 h
          have tc6 := ne_ti (z := 3) (by decide) c6
          have tc11 := ne_ti (z := 4) (by decide) c11
          have tc16 := ne_ti (z := 5) (by decide) c16
          have tc17 := ne_ti (z := 6) (by decide) c17
          refine lv_tableOut (tgt := 112) hx hb d_R_made_6 (by omega) (by decide) ?_
          refine lv_lload_n hx hb d_R_made_112 rfl (lv_at hl 2 rfl) ?_
          refine lv_lload hx hb d_R_made_113 (lv_at hl 3 rfl) ?_
          refine W.lcmp hx hb d_R_made_115 ?_
          refine lv_if_ne (tgt := 123) hx hb d_R_made_116 (by decide) (fun c24 => ?_) (fun c24 => ?_)
          · have c24 := mt (lg_cmp_eq _ _).mpr c24
            have h := ifn c24 h
            refine lv_iconst (v := 0) hx hb d_R_made_123 (by decide) ?_
            exact w_R_made_124 E hA kr x1 (0 : Int32) st _ _ _ h I (lv_sub hl [0, 1] rfl)
          · have c24 := (lg_cmp_eq _ _).mp c24
            have h := ifp c24 h
            refine lv_iconst (v := 1) hx hb d_R_made_119 (by decide) ?_
            refine lv_goto (tgt := 124) hx hb d_R_made_120 (by decide) ?_
            exact w_R_made_124 E hA kr x1 (1 : Int32) st _ _ _ h I (lv_sub hl [0, 1] rfl)
set_option maxHeartbeats 4000000 in
set_option maxRecDepth 100000 in
theorem k_R_made {x1 : Int32} {x2 : Int64} {x4 : Int64} {st t : RS} {r : Int64} (h : f_R_made x1 x2 x4 st = some (r, t)) : Cn l y_R_made c_R_made 6 (some .long) rm_R_made D (tyL cs) (cwR A cs st) (cwR A cs t) [.ref (A 0), .int x1, .long x2, .long x4] (some (.long r)) := by
  refine cn_intro (by decide) (Nat.le_of_ble_eq_true rfl) ?_
  intro p e s m below meth c A0 Q ls E hr hlk hA hA0 hQ I hl
  exact w_R_made E hA (rt_l E hr hlk hA0 hQ) x1 x2 x4 st _ _ _ h I (lv_sub hl [0, 1, 2, 3] rfl)
end Mmr1
