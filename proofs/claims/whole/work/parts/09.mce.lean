section Mmc5
variable {p : Program} {l : Launch} {e : Env} {s : State} {m : MethodId} {args : Array Value} {below : List Frame} {meth : Method} {c : Code} {Q : State → Prop} {D : va_G} {A0 : Nat → Prop} {H0 : Heap} {A : Nat → Nat} {cs : ClassId × ClassId × ClassId}
abbrev rm_M_order : Room := { frames := 4, cells := 0, slots := 0, locals := 90 }
noncomputable def f_M_order (x1 : Int32) (x2 : Int32) (st : CS) : Option (Int32 × CS) :=
  bd (f_N_has x1 st) fun r2 st1 =>
  if r2 = 0 then (
    some ((-1 : Int32), st1)
  ) else (
    bd (f_N_nodeOf x1 st1) fun r6 st5 =>
    bd (f_G_gather r6 st5) fun _ st8 =>
    bd (f_G_at x2 st8) fun r12 st11 =>
    some (r12, st11)
  )
set_option maxHeartbeats 4000000 in
set_option maxRecDepth 100000 in
theorem w_M_order  {r : Int32} {t : CS} (E : EC R_M c_M_order 3 p s m args c D (tyL cs)) (hA : ∀ q, H0.size ≤ q → A0 q) (kr : ∀ (H : Heap) (locs : List Loc) (pc : Nat) (ls : Array Slot), IW D (cwC A cs t) A0 H0 H locs → decode c_M_order pc = .ok (.ireturn, 1) → W p l e rm_M_order s m args below meth c H locs 0 0 Q (F0 m pc ls [.int r])) : ∀ (x1 : Int32) (x2 : Int32) (st : CS) (H : Heap) (locs : List Loc) (ls : Array Slot), f_M_order x1 x2 st = some (r, t) → IW D (cwC A cs st) A0 H0 H locs → lv_has ls 3 [(0, .ref (A 0)), (1, .int x1), (2, .int x2)] → W p l e rm_M_order s m args below meth c H locs 0 0 Q (F0 m 0 ls []) := by
  intro x1 x2 st H locs ls h I hl
  have hx := E.1
  have hb := E.2.1
  rw [f_M_order] at h
  refine lv_aload_n hx hb d_M_order_0 rfl (lv_at hl 0 rfl) ?_
  refine g_cM_mutants E I k_M_28 d_M_order_1 ?_
  refine lv_iload_n hx hb d_M_order_4 rfl (lv_at hl 1 rfl) ?_
  obtain ⟨r2, st1, h3, h⟩ := bd_some h
  refine cV (As := [.int x1]) (rest := []) E I hA (k_N_has h3) g_M_103 ⟨rfl, rfl⟩ 4 rfl rfl rfl hl rfl (Nat.le_of_ble_eq_true rfl) ⟨Nat.le_of_ble_eq_true rfl, Nat.le_of_ble_eq_true rfl⟩ ⟨Nat.zero_le _, Nat.zero_le _⟩ d_M_order_5 rfl (fun H locs I => ?_)
  refine lv_if_ne (tgt := 13) hx hb d_M_order_8 (by decide) (fun c4 => ?_) (fun c4 => ?_)
  · have h := ifn c4 h
    refine lv_aload_n hx hb d_M_order_13 rfl (lv_at hl 0 rfl) ?_
    refine g_cM_lineup E I k_M_37 d_M_order_14 ?_
    refine lv_aload_n hx hb d_M_order_17 rfl (lv_at hl 0 rfl) ?_
    refine g_cM_mutants E I k_M_28 d_M_order_18 ?_
    refine lv_iload_n hx hb d_M_order_21 rfl (lv_at hl 1 rfl) ?_
    obtain ⟨r6, st5, h7, h⟩ := bd_some h
    refine cV (As := [.int x1]) (rest := [.ref (A 5)]) E I hA (k_N_nodeOf h7) g_M_105 ⟨rfl, rfl⟩ 4 rfl rfl rfl hl rfl (Nat.le_of_ble_eq_true rfl) ⟨Nat.le_of_ble_eq_true rfl, Nat.le_of_ble_eq_true rfl⟩ ⟨Nat.zero_le _, Nat.zero_le _⟩ d_M_order_22 rfl (fun H locs I => ?_)
    obtain ⟨u10, st8, h9, h⟩ := bd_some h
    refine cV (As := [.int r6]) (rest := []) E I hA (k_G_gather h9) g_M_117 ⟨rfl, rfl⟩ 5 rfl rfl rfl hl rfl (Nat.le_of_ble_eq_true rfl) ⟨Nat.le_of_ble_eq_true rfl, Nat.le_of_ble_eq_true rfl⟩ ⟨Nat.zero_le _, Nat.zero_le _⟩ d_M_order_25 rfl (fun H locs I => ?_)
    refine lv_aload_n hx hb d_M_order_28 rfl (lv_at hl 0 rfl) ?_
    refine g_cM_lineup E I k_M_37 d_M_order_29 ?_
    refine lv_iload_n hx hb d_M_order_32 rfl (lv_at hl 2 rfl) ?_
    obtain ⟨r12, st11, h13, h⟩ := bd_some h
    refine cV (As := [.int x2]) (rest := []) E I hA (k_G_at h13) g_M_122 ⟨rfl, rfl⟩ 5 rfl rfl rfl hl rfl (Nat.le_of_ble_eq_true rfl) ⟨Nat.le_of_ble_eq_true rfl, Nat.le_of_ble_eq_true rfl⟩ ⟨Nat.zero_le _, Nat.zero_le _⟩ d_M_order_33 rfl (fun H locs I => ?_)
    cases h
    exact kr _ _ _ _ I d_M_order_36
  · have h := ifp c4 h
    refine lv_iconst (v := -1) hx hb d_M_order_11 (by decide) ?_
    cases h
    exact kr _ _ _ _ I d_M_order_12
set_option maxHeartbeats 4000000 in
set_option maxRecDepth 100000 in
theorem k_M_order {x1 : Int32} {x2 : Int32} {st t : CS} {r : Int32} (h : f_M_order x1 x2 st = some (r, t)) : Cn l y_M_order c_M_order 3 (some .int) rm_M_order D (tyL cs) (cwC A cs st) (cwC A cs t) [.ref (A 0), .int x1, .int x2] (some (.int r)) := by
  refine cn_intro (by decide) (Nat.le_of_ble_eq_true rfl) ?_
  intro p e s m below meth c A0 Q ls E hr hlk hA hA0 hQ I hl
  exact w_M_order E hA (rt_i E hr hlk hA0 hQ) x1 x2 st _ _ _ h I (lv_sub hl [0, 1, 2] rfl)
abbrev rm_M_distance : Room := { frames := 3, cells := 0, slots := 0, locals := 68 }
noncomputable def f_M_distance (x1 : Int32) (x2 : Int32) (st : CS) : Option (Int32 × CS) :=
  bd (f_U_has x1 st) fun r2 st1 =>
  if r2 = 0 then (
    some ((-1 : Int32), st1)
  ) else (
    bd (f_T_has x2 st1) fun r6 st5 =>
    if r6 = 0 then (
      some ((-1 : Int32), st5)
    ) else (
      bd (f_U_rootOf x1 st5) fun r10 st9 =>
      bd (f_T_wayBetween r10 x2 st9) fun r13 st12 =>
      some (r13, st12)
    )
  )
set_option maxHeartbeats 4000000 in
set_option maxRecDepth 100000 in
theorem w_M_distance  {r : Int32} {t : CS} (E : EC R_M c_M_distance 3 p s m args c D (tyL cs)) (hA : ∀ q, H0.size ≤ q → A0 q) (kr : ∀ (H : Heap) (locs : List Loc) (pc : Nat) (ls : Array Slot), IW D (cwC A cs t) A0 H0 H locs → decode c_M_distance pc = .ok (.ireturn, 1) → W p l e rm_M_distance s m args below meth c H locs 0 0 Q (F0 m pc ls [.int r])) : ∀ (x1 : Int32) (x2 : Int32) (st : CS) (H : Heap) (locs : List Loc) (ls : Array Slot), f_M_distance x1 x2 st = some (r, t) → IW D (cwC A cs st) A0 H0 H locs → lv_has ls 3 [(0, .ref (A 0)), (1, .int x1), (2, .int x2)] → W p l e rm_M_distance s m args below meth c H locs 0 0 Q (F0 m 0 ls []) := by
  intro x1 x2 st H locs ls h I hl
  have hx := E.1
  have hb := E.2.1
  rw [f_M_distance] at h
  refine lv_aload_n hx hb d_M_distance_0 rfl (lv_at hl 0 rfl) ?_
  refine g_cM_trials E I k_M_21 d_M_distance_1 ?_
  refine lv_iload_n hx hb d_M_distance_4 rfl (lv_at hl 1 rfl) ?_
  obtain ⟨r2, st1, h3, h⟩ := bd_some h
  refine cV (As := [.int x1]) (rest := []) E I hA (k_U_has h3) g_M_60 ⟨rfl, rfl⟩ 2 rfl rfl rfl hl rfl (Nat.le_of_ble_eq_true rfl) ⟨Nat.le_of_ble_eq_true rfl, Nat.le_of_ble_eq_true rfl⟩ ⟨Nat.zero_le _, Nat.zero_le _⟩ d_M_distance_5 rfl (fun H locs I => ?_)
  refine lv_if_eq (tgt := 22) hx hb d_M_distance_8 (by decide) (fun c4 => ?_) (fun c4 => ?_)
  · have h := ifp c4 h
    refine lv_iconst (v := -1) hx hb d_M_distance_22 (by decide) ?_
    cases h
    exact kr _ _ _ _ I d_M_distance_23
  · have h := ifn c4 h
    refine lv_aload_n hx hb d_M_distance_11 rfl (lv_at hl 0 rfl) ?_
    refine g_cM_trees E I k_M_10 d_M_distance_12 ?_
    refine lv_iload_n hx hb d_M_distance_15 rfl (lv_at hl 2 rfl) ?_
    obtain ⟨r6, st5, h7, h⟩ := bd_some h
    refine cV (As := [.int x2]) (rest := []) E I hA (k_T_has h7) g_M_52 ⟨rfl, rfl⟩ 1 rfl rfl rfl hl rfl (Nat.le_of_ble_eq_true rfl) ⟨Nat.le_of_ble_eq_true rfl, Nat.le_of_ble_eq_true rfl⟩ ⟨Nat.zero_le _, Nat.zero_le _⟩ d_M_distance_16 rfl (fun H locs I => ?_)
    refine lv_if_ne (tgt := 24) hx hb d_M_distance_19 (by decide) (fun c8 => ?_) (fun c8 => ?_)
    · have h := ifn c8 h
      refine lv_aload_n hx hb d_M_distance_24 rfl (lv_at hl 0 rfl) ?_
      refine g_cM_trees E I k_M_10 d_M_distance_25 ?_
      refine lv_aload_n hx hb d_M_distance_28 rfl (lv_at hl 0 rfl) ?_
      refine g_cM_trials E I k_M_21 d_M_distance_29 ?_
      refine lv_iload_n hx hb d_M_distance_32 rfl (lv_at hl 1 rfl) ?_
      obtain ⟨r10, st9, h11, h⟩ := bd_some h
      refine cV (As := [.int x1]) (rest := [.ref (A 1)]) E I hA (k_U_rootOf h11) g_M_133 ⟨rfl, rfl⟩ 2 rfl rfl rfl hl rfl (Nat.le_of_ble_eq_true rfl) ⟨Nat.le_of_ble_eq_true rfl, Nat.le_of_ble_eq_true rfl⟩ ⟨Nat.zero_le _, Nat.zero_le _⟩ d_M_distance_33 rfl (fun H locs I => ?_)
      refine lv_iload_n hx hb d_M_distance_36 rfl (lv_at hl 2 rfl) ?_
      obtain ⟨r13, st12, h14, h⟩ := bd_some h
      refine cV (As := [.int r10, .int x2]) (rest := []) E I hA (k_T_wayBetween h14) g_M_136 ⟨rfl, rfl⟩ 1 rfl rfl rfl hl rfl (Nat.le_of_ble_eq_true rfl) ⟨Nat.le_of_ble_eq_true rfl, Nat.le_of_ble_eq_true rfl⟩ ⟨Nat.zero_le _, Nat.zero_le _⟩ d_M_distance_37 rfl (fun H locs I => ?_)
      cases h
      exact kr _ _ _ _ I d_M_distance_40
    · have h := ifp c8 h
      refine lv_iconst (v := -1) hx hb d_M_distance_22 (by decide) ?_
      cases h
      exact kr _ _ _ _ I d_M_distance_23
set_option maxHeartbeats 4000000 in
set_option maxRecDepth 100000 in
theorem k_M_distance {x1 : Int32} {x2 : Int32} {st t : CS} {r : Int32} (h : f_M_distance x1 x2 st = some (r, t)) : Cn l y_M_distance c_M_distance 3 (some .int) rm_M_distance D (tyL cs) (cwC A cs st) (cwC A cs t) [.ref (A 0), .int x1, .int x2] (some (.int r)) := by
  refine cn_intro (by decide) (Nat.le_of_ble_eq_true rfl) ?_
  intro p e s m below meth c A0 Q ls E hr hlk hA hA0 hQ I hl
  exact w_M_distance E hA (rt_i E hr hlk hA0 hQ) x1 x2 st _ _ _ h I (lv_sub hl [0, 1, 2] rfl)
abbrev rm_T_renumber : Room := { frames := 3, cells := 0, slots := 0, locals := 67 }
noncomputable def f_T_renumber_10 : Nat → Int32 → CS → Option (Unit × CS)
  | 0, _, _ => none
  | n + 1, x4, st =>
    if (cT_size st) ≤ x4 then (
      some ((), st)
    ) else (
      bd (f_T_shapeFor x4 st) fun r3 st2 =>
      ck x4 64 <|
      nx (s_cT_shapes st2 x4.toNatClampNeg r3) fun st6 =>
      nx (x4 + 1) fun x4_7 =>
      f_T_renumber_10 n x4_7 st6
    )
noncomputable def f_T_renumber (x1 : Int32) (x2 : Int64) (st : CS) : Option (Unit × CS) :=
  ck x1 64 <|
  nx (s_cT_numbers st x1.toNatClampNeg x2) fun st9 =>
  f_T_renumber_10 FU x1 st9
set_option maxHeartbeats 4000000 in
set_option maxRecDepth 100000 in
theorem w_T_renumber_10  {r : Unit} {t : CS} (E : EC R_T c_T_renumber 5 p s m args c D (tyL cs)) (hA : ∀ q, H0.size ≤ q → A0 q) (kr : ∀ (H : Heap) (locs : List Loc) (pc : Nat) (ls : Array Slot), IW D (cwC A cs t) A0 H0 H locs → decode c_T_renumber pc = .ok (.return_, 1) → W p l e rm_T_renumber s m args below meth c H locs 0 0 Q (F0 m pc ls [])) : ∀ (n : Nat), ∀ (x4 : Int32) (st : CS) (H : Heap) (locs : List Loc) (ls : Array Slot), f_T_renumber_10 n x4 st = some (r, t) → IW D (cwC A cs st) A0 H0 H locs → lv_has ls 5 [(0, .ref (A 1)), (4, .int x4)] → W p l e rm_T_renumber s m args below meth c H locs 0 0 Q (F0 m 10 ls []) := by
  intro n
  induction n with
  | zero => intro x4 st H locs ls h I hl; cases h
  | succ n ih =>
    intro x4 st H locs ls h I hl
    have hx := E.1
    have hb := E.2.1
    rw [f_T_renumber_10] at h
    refine lv_iload hx hb d_T_renumber_10 (lv_at hl 1 rfl) ?_
    refine lv_aload_n hx hb d_T_renumber_12 rfl (lv_at hl 0 rfl) ?_
    refine g_cT_size E I k_T_34 d_T_renumber_13 ?_
    refine lv_icmp_ge (tgt := 38) hx hb d_T_renumber_16 (by decide) (fun c1 => ?_) (fun c1 => ?_)
    · have h := ifp c1 h
      cases h
      exact kr _ _ _ _ I d_T_renumber_38
    · have h := ifn c1 h
      refine lv_aload_n hx hb d_T_renumber_19 rfl (lv_at hl 0 rfl) ?_
      refine g_cT_shapes E I k_T_28 d_T_renumber_20 ?_
      refine lv_iload hx hb d_T_renumber_23 (lv_at hl 1 rfl) ?_
      refine lv_aload_n hx hb d_T_renumber_25 rfl (lv_at hl 0 rfl) ?_
      refine lv_iload hx hb d_T_renumber_26 (lv_at hl 1 rfl) ?_
      obtain ⟨r3, st2, h4, h⟩ := bd_some h
      refine cV (As := [.int x4]) (rest := [.int x4, .ref (A 12)]) E I hA (k_T_shapeFor h4) g_T_46 ⟨rfl, rfl⟩ 1 rfl rfl rfl hl rfl (Nat.le_of_ble_eq_true rfl) ⟨Nat.le_of_ble_eq_true rfl, Nat.le_of_ble_eq_true rfl⟩ ⟨Nat.zero_le _, Nat.zero_le _⟩ d_T_renumber_28 rfl (fun H locs I => ?_)
      obtain ⟨b5, h⟩ := ck_some h
      obtain ⟨st6, est6⟩ : ∃ y : CS, y = (s_cT_shapes st2 x4.toNatClampNeg r3) := ⟨_, rfl⟩
      have h := nx_k est6 h
      refine p_cT_shapes E I b5 est6 d_T_renumber_31 (fun H locs I => ?_)
      obtain ⟨x4_7, ex4_7⟩ : ∃ y : Int32, y = (x4 + 1) := ⟨_, rfl⟩
      have h := nx_k ex4_7 h
      refine lv_iinc (v := x4_7) (lv' := [(4, .int x4_7), (0, .ref (A 1))]) hx hb d_T_renumber_32 hl (k := 1) rfl (by rw [ex4_7]; rfl) (by decide) rfl (fun ls hl => ?_)
      refine lv_goto (tgt := 10) hx hb d_T_renumber_35 (by decide) ?_
      exact ih x4_7 st6 _ _ _ h I (lv_sub hl [1, 0] rfl)
set_option maxHeartbeats 4000000 in
set_option maxRecDepth 100000 in
theorem w_T_renumber  {r : Unit} {t : CS} (E : EC R_T c_T_renumber 5 p s m args c D (tyL cs)) (hA : ∀ q, H0.size ≤ q → A0 q) (kr : ∀ (H : Heap) (locs : List Loc) (pc : Nat) (ls : Array Slot), IW D (cwC A cs t) A0 H0 H locs → decode c_T_renumber pc = .ok (.return_, 1) → W p l e rm_T_renumber s m args below meth c H locs 0 0 Q (F0 m pc ls [])) : ∀ (x1 : Int32) (x2 : Int64) (st : CS) (H : Heap) (locs : List Loc) (ls : Array Slot), f_T_renumber x1 x2 st = some (r, t) → IW D (cwC A cs st) A0 H0 H locs → lv_has ls 5 [(0, .ref (A 1)), (1, .int x1), (2, .long x2)] → W p l e rm_T_renumber s m args below meth c H locs 0 0 Q (F0 m 0 ls []) := by
  intro x1 x2 st H locs ls h I hl
  have hx := E.1
  have hb := E.2.1
  rw [f_T_renumber] at h
  refine lv_aload_n hx hb d_T_renumber_0 rfl (lv_at hl 0 rfl) ?_
  refine g_cT_numbers E I k_T_15 d_T_renumber_1 ?_
  refine lv_iload_n hx hb d_T_renumber_4 rfl (lv_at hl 1 rfl) ?_
  refine lv_lload_n hx hb d_T_renumber_5 rfl (lv_at hl 2 rfl) ?_
  obtain ⟨b8, h⟩ := ck_some h
  obtain ⟨st9, est9⟩ : ∃ y : CS, y = (s_cT_numbers st x1.toNatClampNeg x2) := ⟨_, rfl⟩
  have h := nx_k est9 h
  refine p_cT_numbers E I b8 est9 d_T_renumber_6 (fun H locs I => ?_)
  refine lv_iload_n hx hb d_T_renumber_7 rfl (lv_at hl 1 rfl) ?_
  refine lv_istore (lv' := [(4, .int x1), (0, .ref (A 1)), (1, .int x1), (2, .long x2)]) hx hb d_T_renumber_8 hl (by decide) rfl (fun ls hl => ?_)
  exact w_T_renumber_10 E hA kr FU x1 st9 _ _ _ h I (lv_sub hl [1, 0] rfl)
set_option maxHeartbeats 4000000 in
set_option maxRecDepth 100000 in
theorem k_T_renumber {x1 : Int32} {x2 : Int64} {st t : CS} {r : Unit} (h : f_T_renumber x1 x2 st = some (r, t)) : Cn l y_T_renumber c_T_renumber 5 none rm_T_renumber D (tyL cs) (cwC A cs st) (cwC A cs t) [.ref (A 1), .int x1, .long x2] (none) := by
  refine cn_intro (by decide) (Nat.le_of_ble_eq_true rfl) ?_
  intro p e s m below meth c A0 Q ls E hr hlk hA hA0 hQ I hl
  exact w_T_renumber E hA (rt_v E hr hlk hA0 hQ) x1 x2 st _ _ _ h I (lv_sub hl [0, 1, 2] rfl)
abbrev rm_U_retry : Room := { frames := 134, cells := 0, slots := 0, locals := 5310 }
noncomputable def f_U_retry_5 : Nat → Int32 → Int64 → Int32 → CS → Option (Int64 × CS)
  | 0, _, _, _, _ => none
  | n + 1, x1, x2, x4, st =>
    if (cU_size st) ≤ x4 then (
      some (x2, st)
    ) else (
      ck x4 24 <|
      bd (f_M_bit x1 st) fun r4 st3 =>
      if ((cU_covered st x4.toNatClampNeg) &&& r4) = (0 : Int64) then (
        nx (x4 + 1) fun x4_7 =>
        f_U_retry_5 n x1 x2 x4_7 st3
      ) else (
        ck x4 24 <|
        nx (x2 ||| (cU_covered st3 x4.toNatClampNeg)) fun x2_9 =>
        bd (f_U_attempt x4 st3) fun _ st10 =>
        ck x4 24 <|
        nx (x2_9 ||| (cU_covered st10 x4.toNatClampNeg)) fun x2_14 =>
        nx (x4 + 1) fun x4_15 =>
        f_U_retry_5 n x1 x2_14 x4_15 st10
      )
    )
noncomputable def f_U_retry (x1 : Int32) (st : CS) : Option (Int64 × CS) :=
  f_U_retry_5 FU x1 (0 : Int64) (0 : Int32) st
set_option maxHeartbeats 4000000 in
set_option maxRecDepth 100000 in
theorem w_U_retry_5  {r : Int64} {t : CS} (E : EC R_U c_U_retry 5 p s m args c D (tyL cs)) (hA : ∀ q, H0.size ≤ q → A0 q) (kr : ∀ (H : Heap) (locs : List Loc) (pc : Nat) (ls : Array Slot), IW D (cwC A cs t) A0 H0 H locs → decode c_U_retry pc = .ok (.lreturn, 1) → W p l e rm_U_retry s m args below meth c H locs 0 0 Q (F0 m pc ls [.long r])) : ∀ (n : Nat), ∀ (x1 : Int32) (x2 : Int64) (x4 : Int32) (st : CS) (H : Heap) (locs : List Loc) (ls : Array Slot), f_U_retry_5 n x1 x2 x4 st = some (r, t) → IW D (cwC A cs st) A0 H0 H locs → lv_has ls 5 [(0, .ref (A 2)), (1, .int x1), (2, .long x2), (4, .int x4)] → W p l e rm_U_retry s m args below meth c H locs 0 0 Q (F0 m 5 ls []) := by
  intro n
  induction n with
  | zero => intro x1 x2 x4 st H locs ls h I hl; cases h
  | succ n ih =>
    intro x1 x2 x4 st H locs ls h I hl
    have hx := E.1
    have hb := E.2.1
    rw [f_U_retry_5] at h
    refine lv_iload hx hb d_U_retry_5 (lv_at hl 3 rfl) ?_
    refine lv_aload_n hx hb d_U_retry_7 rfl (lv_at hl 0 rfl) ?_
    refine g_cU_size E I k_U_40 d_U_retry_8 ?_
    refine lv_icmp_ge (tgt := 63) hx hb d_U_retry_11 (by decide) (fun c1 => ?_) (fun c1 => ?_)
    · have h := ifp c1 h
      refine lv_lload_n hx hb d_U_retry_63 rfl (lv_at hl 2 rfl) ?_
      cases h
      exact kr _ _ _ _ I d_U_retry_64
    · have h := ifn c1 h
      refine lv_aload_n hx hb d_U_retry_14 rfl (lv_at hl 0 rfl) ?_
      refine g_cU_covered E I k_U_37 d_U_retry_15 ?_
      refine lv_iload hx hb d_U_retry_18 (lv_at hl 3 rfl) ?_
      obtain ⟨b2, h⟩ := ck_some h
      refine l_cU_covered E I b2 d_U_retry_20 ?_
      refine lv_iload_n hx hb d_U_retry_21 rfl (lv_at hl 1 rfl) ?_
      obtain ⟨r4, st3, h5, h⟩ := bd_some h
      refine cSN (As := [.int x1]) (rest := [.long (cU_covered st x4.toNatClampNeg)]) E I hA (k_M_bit h5) g_U_44 ⟨rfl, rfl⟩ rfl hl rfl (Nat.le_of_ble_eq_true rfl) ⟨Nat.le_of_ble_eq_true rfl, Nat.le_of_ble_eq_true rfl⟩ ⟨Nat.zero_le _, Nat.zero_le _⟩ d_U_retry_22 rfl (fun H locs I => ?_)
      refine lv_land hx hb d_U_retry_25 ?_
      refine lv_lconst (v := 0) hx hb d_U_retry_26 (by decide) ?_
      refine W.lcmp hx hb d_U_retry_27 ?_
      refine lv_if_eq (tgt := 57) hx hb d_U_retry_28 (by decide) (fun c6 => ?_) (fun c6 => ?_)
      · have c6 := (lg_cmp_eq _ _).mp c6
        have h := ifp c6 h
        obtain ⟨x4_7, ex4_7⟩ : ∃ y : Int32, y = (x4 + 1) := ⟨_, rfl⟩
        have h := nx_k ex4_7 h
        refine lv_iinc (v := x4_7) (lv' := [(4, .int x4_7), (0, .ref (A 2)), (1, .int x1), (2, .long x2)]) hx hb d_U_retry_57 hl (k := 3) rfl (by rw [ex4_7]; rfl) (by decide) rfl (fun ls hl => ?_)
        refine lv_goto (tgt := 5) hx hb d_U_retry_60 (by decide) ?_
        exact ih x1 x2 x4_7 st3 _ _ _ h I (lv_sub hl [1, 2, 3, 0] rfl)
      · have c6 := mt (lg_cmp_eq _ _).mpr c6
        have h := ifn c6 h
        refine lv_lload_n hx hb d_U_retry_31 rfl (lv_at hl 2 rfl) ?_
        refine lv_aload_n hx hb d_U_retry_32 rfl (lv_at hl 0 rfl) ?_
        refine g_cU_covered E I k_U_37 d_U_retry_33 ?_
        refine lv_iload hx hb d_U_retry_36 (lv_at hl 3 rfl) ?_
        obtain ⟨b8, h⟩ := ck_some h
        refine l_cU_covered E I b8 d_U_retry_38 ?_
        refine lv_lor hx hb d_U_retry_39 ?_
        refine lv_topl (fun x2_9 ex2_9 => ?_)
        have h := nx_k ex2_9 h
        refine lv_lstore_n (lv' := [(2, .long x2_9), (0, .ref (A 2)), (1, .int x1), (4, .int x4)]) hx hb d_U_retry_40 rfl hl (by decide) rfl (fun ls hl => ?_)
        refine lv_aload_n hx hb d_U_retry_41 rfl (lv_at hl 1 rfl) ?_
        refine lv_iload hx hb d_U_retry_42 (lv_at hl 3 rfl) ?_
        obtain ⟨u12, st10, h11, h⟩ := bd_some h
        refine cV (As := [.int x4]) (rest := []) E I hA (k_U_attempt h11) g_U_48 ⟨rfl, rfl⟩ 2 rfl rfl rfl hl rfl (Nat.le_of_ble_eq_true rfl) ⟨Nat.le_of_ble_eq_true rfl, Nat.le_of_ble_eq_true rfl⟩ ⟨Nat.zero_le _, Nat.zero_le _⟩ d_U_retry_44 rfl (fun H locs I => ?_)
        refine lv_lload_n hx hb d_U_retry_47 rfl (lv_at hl 0 rfl) ?_
        refine lv_aload_n hx hb d_U_retry_48 rfl (lv_at hl 1 rfl) ?_
        refine g_cU_covered E I k_U_37 d_U_retry_49 ?_
        refine lv_iload hx hb d_U_retry_52 (lv_at hl 3 rfl) ?_
        obtain ⟨b13, h⟩ := ck_some h
        refine l_cU_covered E I b13 d_U_retry_54 ?_
        refine lv_lor hx hb d_U_retry_55 ?_
        refine lv_topl (fun x2_14 ex2_14 => ?_)
        have h := nx_k ex2_14 h
        refine lv_lstore_n (lv' := [(2, .long x2_14), (0, .ref (A 2)), (1, .int x1), (4, .int x4)]) hx hb d_U_retry_56 rfl hl (by decide) rfl (fun ls hl => ?_)
        obtain ⟨x4_15, ex4_15⟩ : ∃ y : Int32, y = (x4 + 1) := ⟨_, rfl⟩
        have h := nx_k ex4_15 h
        refine lv_iinc (v := x4_15) (lv' := [(4, .int x4_15), (2, .long x2_14), (0, .ref (A 2)), (1, .int x1)]) hx hb d_U_retry_57 hl (k := 3) rfl (by rw [ex4_15]; rfl) (by decide) rfl (fun ls hl => ?_)
        refine lv_goto (tgt := 5) hx hb d_U_retry_60 (by decide) ?_
        exact ih x1 x2_14 x4_15 st10 _ _ _ h I (lv_sub hl [2, 3, 1, 0] rfl)
set_option maxHeartbeats 4000000 in
set_option maxRecDepth 100000 in
theorem w_U_retry  {r : Int64} {t : CS} (E : EC R_U c_U_retry 5 p s m args c D (tyL cs)) (hA : ∀ q, H0.size ≤ q → A0 q) (kr : ∀ (H : Heap) (locs : List Loc) (pc : Nat) (ls : Array Slot), IW D (cwC A cs t) A0 H0 H locs → decode c_U_retry pc = .ok (.lreturn, 1) → W p l e rm_U_retry s m args below meth c H locs 0 0 Q (F0 m pc ls [.long r])) : ∀ (x1 : Int32) (st : CS) (H : Heap) (locs : List Loc) (ls : Array Slot), f_U_retry x1 st = some (r, t) → IW D (cwC A cs st) A0 H0 H locs → lv_has ls 5 [(0, .ref (A 2)), (1, .int x1)] → W p l e rm_U_retry s m args below meth c H locs 0 0 Q (F0 m 0 ls []) := by
  intro x1 st H locs ls h I hl
  have hx := E.1
  have hb := E.2.1
  rw [f_U_retry] at h
  refine lv_lconst (v := 0) hx hb d_U_retry_0 (by decide) ?_
  refine lv_lstore_n (lv' := [(2, .long (0 : Int64)), (0, .ref (A 2)), (1, .int x1)]) hx hb d_U_retry_1 rfl hl (by decide) rfl (fun ls hl => ?_)
  refine lv_iconst (v := 0) hx hb d_U_retry_2 (by decide) ?_
  refine lv_istore (lv' := [(4, .int (0 : Int32)), (2, .long (0 : Int64)), (0, .ref (A 2)), (1, .int x1)]) hx hb d_U_retry_3 hl (by decide) rfl (fun ls hl => ?_)
  exact w_U_retry_5 E hA kr FU x1 (0 : Int64) (0 : Int32) st _ _ _ h I (lv_sub hl [2, 3, 1, 0] rfl)
set_option maxHeartbeats 4000000 in
set_option maxRecDepth 100000 in
theorem k_U_retry {x1 : Int32} {st t : CS} {r : Int64} (h : f_U_retry x1 st = some (r, t)) : Cn l y_U_retry c_U_retry 5 (some .long) rm_U_retry D (tyL cs) (cwC A cs st) (cwC A cs t) [.ref (A 2), .int x1] (some (.long r)) := by
  refine cn_intro (by decide) (Nat.le_of_ble_eq_true rfl) ?_
  intro p e s m below meth c A0 Q ls E hr hlk hA hA0 hQ I hl
  exact w_U_retry E hA (rt_l E hr hlk hA0 hQ) x1 st _ _ _ h I (lv_sub hl [0, 1] rfl)
abbrev rm_N_forget : Room := { frames := 1, cells := 0, slots := 0, locals := 23 }
noncomputable def f_N_forget_2 : Nat → Int64 → Int32 → CS → Option (Unit × CS)
  | 0, _, _, _ => none
  | n + 1, x1, x3, st =>
    if (cN_size st) ≤ x3 then (
      some ((), st)
    ) else (
      ck x3 100 <|
      bd (f_M_bit (cN_nodes st x3.toNatClampNeg) st) fun r4 st3 =>
      if (x1 &&& r4) = (0 : Int64) then (
        nx (x3 + 1) fun x3_7 =>
        f_N_forget_2 n x1 x3_7 st3
      ) else (
        bd (f_N_settle x3 (-1 : Int32) (-1 : Int32) st3) fun _ st8 =>
        nx (x3 + 1) fun x3_11 =>
        f_N_forget_2 n x1 x3_11 st8
      )
    )
noncomputable def f_N_forget (x1 : Int64) (st : CS) : Option (Unit × CS) :=
  f_N_forget_2 FU x1 (0 : Int32) st
set_option maxHeartbeats 4000000 in
set_option maxRecDepth 100000 in
theorem w_N_forget_2  {r : Unit} {t : CS} (E : EC R_N c_N_forget 4 p s m args c D (tyL cs)) (hA : ∀ q, H0.size ≤ q → A0 q) (kr : ∀ (H : Heap) (locs : List Loc) (pc : Nat) (ls : Array Slot), IW D (cwC A cs t) A0 H0 H locs → decode c_N_forget pc = .ok (.return_, 1) → W p l e rm_N_forget s m args below meth c H locs 0 0 Q (F0 m pc ls [])) : ∀ (n : Nat), ∀ (x1 : Int64) (x3 : Int32) (st : CS) (H : Heap) (locs : List Loc) (ls : Array Slot), f_N_forget_2 n x1 x3 st = some (r, t) → IW D (cwC A cs st) A0 H0 H locs → lv_has ls 4 [(0, .ref (A 4)), (1, .long x1), (3, .int x3)] → W p l e rm_N_forget s m args below meth c H locs 0 0 Q (F0 m 2 ls []) := by
  intro n
  induction n with
  | zero => intro x1 x3 st H locs ls h I hl; cases h
  | succ n ih =>
    intro x1 x3 st H locs ls h I hl
    have hx := E.1
    have hb := E.2.1
    rw [f_N_forget_2] at h
    refine lv_iload_n hx hb d_N_forget_2 rfl (lv_at hl 2 rfl) ?_
    refine lv_aload_n hx hb d_N_forget_3 rfl (lv_at hl 0 rfl) ?_
    refine g_cN_size E I k_N_32 d_N_forget_4 ?_
    refine lv_icmp_ge (tgt := 39) hx hb d_N_forget_7 (by decide) (fun c1 => ?_) (fun c1 => ?_)
    · have h := ifp c1 h
      cases h
      exact kr _ _ _ _ I d_N_forget_39
    · have h := ifn c1 h
      refine lv_lload_n hx hb d_N_forget_10 rfl (lv_at hl 1 rfl) ?_
      refine lv_aload_n hx hb d_N_forget_11 rfl (lv_at hl 0 rfl) ?_
      refine g_cN_nodes E I k_N_19 d_N_forget_12 ?_
      refine lv_iload_n hx hb d_N_forget_15 rfl (lv_at hl 2 rfl) ?_
      obtain ⟨b2, h⟩ := ck_some h
      refine l_cN_nodes E I b2 d_N_forget_16 ?_
      obtain ⟨r4, st3, h5, h⟩ := bd_some h
      refine cSN (As := [.int (cN_nodes st x3.toNatClampNeg)]) (rest := [.long x1]) E I hA (k_M_bit h5) g_N_36 ⟨rfl, rfl⟩ rfl hl rfl (Nat.le_of_ble_eq_true rfl) ⟨Nat.le_of_ble_eq_true rfl, Nat.le_of_ble_eq_true rfl⟩ ⟨Nat.zero_le _, Nat.zero_le _⟩ d_N_forget_17 rfl (fun H locs I => ?_)
      refine lv_land hx hb d_N_forget_20 ?_
      refine lv_lconst (v := 0) hx hb d_N_forget_21 (by decide) ?_
      refine W.lcmp hx hb d_N_forget_22 ?_
      refine lv_if_eq (tgt := 33) hx hb d_N_forget_23 (by decide) (fun c6 => ?_) (fun c6 => ?_)
      · have c6 := (lg_cmp_eq _ _).mp c6
        have h := ifp c6 h
        obtain ⟨x3_7, ex3_7⟩ : ∃ y : Int32, y = (x3 + 1) := ⟨_, rfl⟩
        have h := nx_k ex3_7 h
        refine lv_iinc (v := x3_7) (lv' := [(3, .int x3_7), (0, .ref (A 4)), (1, .long x1)]) hx hb d_N_forget_33 hl (k := 2) rfl (by rw [ex3_7]; rfl) (by decide) rfl (fun ls hl => ?_)
        refine lv_goto (tgt := 2) hx hb d_N_forget_36 (by decide) ?_
        exact ih x1 x3_7 st3 _ _ _ h I (lv_sub hl [1, 2, 0] rfl)
      · have c6 := mt (lg_cmp_eq _ _).mpr c6
        have h := ifn c6 h
        refine lv_aload_n hx hb d_N_forget_26 rfl (lv_at hl 0 rfl) ?_
        refine lv_iload_n hx hb d_N_forget_27 rfl (lv_at hl 2 rfl) ?_
        refine lv_iconst (v := -1) hx hb d_N_forget_28 (by decide) ?_
        refine lv_iconst (v := -1) hx hb d_N_forget_29 (by decide) ?_
        obtain ⟨u10, st8, h9, h⟩ := bd_some h
        refine cV (As := [.int x3, .int (-1 : Int32), .int (-1 : Int32)]) (rest := []) E I hA (k_N_settle h9) g_N_40 ⟨rfl, rfl⟩ 4 rfl rfl rfl hl rfl (Nat.le_of_ble_eq_true rfl) ⟨Nat.le_of_ble_eq_true rfl, Nat.le_of_ble_eq_true rfl⟩ ⟨Nat.zero_le _, Nat.zero_le _⟩ d_N_forget_30 rfl (fun H locs I => ?_)
        obtain ⟨x3_11, ex3_11⟩ : ∃ y : Int32, y = (x3 + 1) := ⟨_, rfl⟩
        have h := nx_k ex3_11 h
        refine lv_iinc (v := x3_11) (lv' := [(3, .int x3_11), (0, .ref (A 4)), (1, .long x1)]) hx hb d_N_forget_33 hl (k := 2) rfl (by rw [ex3_11]; rfl) (by decide) rfl (fun ls hl => ?_)
        refine lv_goto (tgt := 2) hx hb d_N_forget_36 (by decide) ?_
        exact ih x1 x3_11 st8 _ _ _ h I (lv_sub hl [1, 2, 0] rfl)
set_option maxHeartbeats 4000000 in
set_option maxRecDepth 100000 in
theorem w_N_forget  {r : Unit} {t : CS} (E : EC R_N c_N_forget 4 p s m args c D (tyL cs)) (hA : ∀ q, H0.size ≤ q → A0 q) (kr : ∀ (H : Heap) (locs : List Loc) (pc : Nat) (ls : Array Slot), IW D (cwC A cs t) A0 H0 H locs → decode c_N_forget pc = .ok (.return_, 1) → W p l e rm_N_forget s m args below meth c H locs 0 0 Q (F0 m pc ls [])) : ∀ (x1 : Int64) (st : CS) (H : Heap) (locs : List Loc) (ls : Array Slot), f_N_forget x1 st = some (r, t) → IW D (cwC A cs st) A0 H0 H locs → lv_has ls 4 [(0, .ref (A 4)), (1, .long x1)] → W p l e rm_N_forget s m args below meth c H locs 0 0 Q (F0 m 0 ls []) := by
  intro x1 st H locs ls h I hl
  have hx := E.1
  have hb := E.2.1
  rw [f_N_forget] at h
  refine lv_iconst (v := 0) hx hb d_N_forget_0 (by decide) ?_
  refine lv_istore_n (lv' := [(3, .int (0 : Int32)), (0, .ref (A 4)), (1, .long x1)]) hx hb d_N_forget_1 rfl hl (by decide) rfl (fun ls hl => ?_)
  exact w_N_forget_2 E hA kr FU x1 (0 : Int32) st _ _ _ h I (lv_sub hl [1, 2, 0] rfl)
set_option maxHeartbeats 4000000 in
set_option maxRecDepth 100000 in
theorem k_N_forget {x1 : Int64} {st t : CS} {r : Unit} (h : f_N_forget x1 st = some (r, t)) : Cn l y_N_forget c_N_forget 4 none rm_N_forget D (tyL cs) (cwC A cs st) (cwC A cs t) [.ref (A 4), .long x1] (none) := by
  refine cn_intro (by decide) (Nat.le_of_ble_eq_true rfl) ?_
  intro p e s m below meth c A0 Q ls E hr hlk hA hA0 hQ I hl
  exact w_N_forget E hA (rt_v E hr hlk hA0 hQ) x1 st _ _ _ h I (lv_sub hl [0, 1] rfl)
abbrev rm_U_countPassing : Room := { frames := 0, cells := 0, slots := 0, locals := 0 }
noncomputable def f_U_countPassing_4 : Nat → Int32 → Int32 → CS → Option (Int32 × CS)
  | 0, _, _, _ => none
  | n + 1, x1, x2, st =>
    if (cU_size st) ≤ x2 then (
      some (x1, st)
    ) else (
      ck x2 24 <|
      if (cU_states st x2.toNatClampNeg) = (1 : Int32) then (
        nx (x1 + 1) fun x1_5 =>
        nx (x2 + 1) fun x2_6 =>
        f_U_countPassing_4 n x1_5 x2_6 st
      ) else (
        nx (x2 + 1) fun x2_4 =>
        f_U_countPassing_4 n x1 x2_4 st
      )
    )
noncomputable def f_U_countPassing (st : CS) : Option (Int32 × CS) :=
  f_U_countPassing_4 FU (0 : Int32) (0 : Int32) st
set_option maxHeartbeats 4000000 in
set_option maxRecDepth 100000 in
theorem w_U_countPassing_4  {r : Int32} {t : CS} (E : EC R_U c_U_countPassing 3 p s m args c D (tyL cs)) (hA : ∀ q, H0.size ≤ q → A0 q) (kr : ∀ (H : Heap) (locs : List Loc) (pc : Nat) (ls : Array Slot), IW D (cwC A cs t) A0 H0 H locs → decode c_U_countPassing pc = .ok (.ireturn, 1) → W p l e rm_U_countPassing s m args below meth c H locs 0 0 Q (F0 m pc ls [.int r])) : ∀ (n : Nat), ∀ (x1 : Int32) (x2 : Int32) (st : CS) (H : Heap) (locs : List Loc) (ls : Array Slot), f_U_countPassing_4 n x1 x2 st = some (r, t) → IW D (cwC A cs st) A0 H0 H locs → lv_has ls 3 [(0, .ref (A 2)), (1, .int x1), (2, .int x2)] → W p l e rm_U_countPassing s m args below meth c H locs 0 0 Q (F0 m 4 ls []) := by
  intro n
  induction n with
  | zero => intro x1 x2 st H locs ls h I hl; cases h
  | succ n ih =>
    intro x1 x2 st H locs ls h I hl
    have hx := E.1
    have hb := E.2.1
    rw [f_U_countPassing_4] at h
    refine lv_iload_n hx hb d_U_countPassing_4 rfl (lv_at hl 2 rfl) ?_
    refine lv_aload_n hx hb d_U_countPassing_5 rfl (lv_at hl 0 rfl) ?_
    refine g_cU_size E I k_U_40 d_U_countPassing_6 ?_
    refine lv_icmp_ge (tgt := 31) hx hb d_U_countPassing_9 (by decide) (fun c1 => ?_) (fun c1 => ?_)
    · have h := ifp c1 h
      refine lv_iload_n hx hb d_U_countPassing_31 rfl (lv_at hl 1 rfl) ?_
      cases h
      exact kr _ _ _ _ I d_U_countPassing_32
    · have h := ifn c1 h
      refine lv_aload_n hx hb d_U_countPassing_12 rfl (lv_at hl 0 rfl) ?_
      refine g_cU_states E I k_U_31 d_U_countPassing_13 ?_
      refine lv_iload_n hx hb d_U_countPassing_16 rfl (lv_at hl 2 rfl) ?_
      obtain ⟨b2, h⟩ := ck_some h
      refine l_cU_states E I b2 d_U_countPassing_17 ?_
      refine lv_iconst (v := 1) hx hb d_U_countPassing_18 (by decide) ?_
      refine lv_icmp_ne (tgt := 25) hx hb d_U_countPassing_19 (by decide) (fun c3 => ?_) (fun c3 => ?_)
      · have h := ifn c3 h
        obtain ⟨x2_4, ex2_4⟩ : ∃ y : Int32, y = (x2 + 1) := ⟨_, rfl⟩
        have h := nx_k ex2_4 h
        refine lv_iinc (v := x2_4) (lv' := [(2, .int x2_4), (0, .ref (A 2)), (1, .int x1)]) hx hb d_U_countPassing_25 hl (k := 2) rfl (by rw [ex2_4]; rfl) (by decide) rfl (fun ls hl => ?_)
        refine lv_goto (tgt := 4) hx hb d_U_countPassing_28 (by decide) ?_
        exact ih x1 x2_4 st _ _ _ h I (lv_sub hl [1, 2, 0] rfl)
      · have h := ifp c3 h
        obtain ⟨x1_5, ex1_5⟩ : ∃ y : Int32, y = (x1 + 1) := ⟨_, rfl⟩
        have h := nx_k ex1_5 h
        refine lv_iinc (v := x1_5) (lv' := [(1, .int x1_5), (0, .ref (A 2)), (2, .int x2)]) hx hb d_U_countPassing_22 hl (k := 1) rfl (by rw [ex1_5]; rfl) (by decide) rfl (fun ls hl => ?_)
        obtain ⟨x2_6, ex2_6⟩ : ∃ y : Int32, y = (x2 + 1) := ⟨_, rfl⟩
        have h := nx_k ex2_6 h
        refine lv_iinc (v := x2_6) (lv' := [(2, .int x2_6), (1, .int x1_5), (0, .ref (A 2))]) hx hb d_U_countPassing_25 hl (k := 2) rfl (by rw [ex2_6]; rfl) (by decide) rfl (fun ls hl => ?_)
        refine lv_goto (tgt := 4) hx hb d_U_countPassing_28 (by decide) ?_
        exact ih x1_5 x2_6 st _ _ _ h I (lv_sub hl [2, 1, 0] rfl)
set_option maxHeartbeats 4000000 in
set_option maxRecDepth 100000 in
theorem w_U_countPassing  {r : Int32} {t : CS} (E : EC R_U c_U_countPassing 3 p s m args c D (tyL cs)) (hA : ∀ q, H0.size ≤ q → A0 q) (kr : ∀ (H : Heap) (locs : List Loc) (pc : Nat) (ls : Array Slot), IW D (cwC A cs t) A0 H0 H locs → decode c_U_countPassing pc = .ok (.ireturn, 1) → W p l e rm_U_countPassing s m args below meth c H locs 0 0 Q (F0 m pc ls [.int r])) : ∀ (st : CS) (H : Heap) (locs : List Loc) (ls : Array Slot), f_U_countPassing st = some (r, t) → IW D (cwC A cs st) A0 H0 H locs → lv_has ls 3 [(0, .ref (A 2))] → W p l e rm_U_countPassing s m args below meth c H locs 0 0 Q (F0 m 0 ls []) := by
  intro st H locs ls h I hl
  have hx := E.1
  have hb := E.2.1
  rw [f_U_countPassing] at h
  refine lv_iconst (v := 0) hx hb d_U_countPassing_0 (by decide) ?_
  refine lv_istore_n (lv' := [(1, .int (0 : Int32)), (0, .ref (A 2))]) hx hb d_U_countPassing_1 rfl hl (by decide) rfl (fun ls hl => ?_)
  refine lv_iconst (v := 0) hx hb d_U_countPassing_2 (by decide) ?_
  refine lv_istore_n (lv' := [(2, .int (0 : Int32)), (1, .int (0 : Int32)), (0, .ref (A 2))]) hx hb d_U_countPassing_3 rfl hl (by decide) rfl (fun ls hl => ?_)
  exact w_U_countPassing_4 E hA kr FU (0 : Int32) (0 : Int32) st _ _ _ h I (lv_sub hl [2, 1, 0] rfl)
set_option maxHeartbeats 4000000 in
set_option maxRecDepth 100000 in
theorem k_U_countPassing {st t : CS} {r : Int32} (h : f_U_countPassing st = some (r, t)) : Cn l y_U_countPassing c_U_countPassing 3 (some .int) rm_U_countPassing D (tyL cs) (cwC A cs st) (cwC A cs t) [.ref (A 2)] (some (.int r)) := by
  refine cn_intro (by decide) (Nat.le_of_ble_eq_true rfl) ?_
  intro p e s m below meth c A0 Q ls E hr hlk hA hA0 hQ I hl
  exact w_U_countPassing E hA (rt_i E hr hlk hA0 hQ) st _ _ _ h I (lv_sub hl [0] rfl)
abbrev rm_M_change : Room := { frames := 135, cells := 0, slots := 0, locals := 5334 }
noncomputable def f_M_change (x1 : Int32) (x2 : Int64) (st : CS) : Option (Int32 × CS) :=
  bd (f_T_has x1 st) fun r2 st1 =>
  if r2 = 0 then (
    some ((-1 : Int32), st1)
  ) else (
    bd (f_T_kindOf x1 st1) fun r6 st5 =>
    if r6 = 0 then (
      bd (f_T_numberOf x1 st5) fun r10 st9 =>
      if r10 = x2 then (
        bd (f_U_countPassing st9) fun r14 st13 =>
        some (r14, st13)
      ) else (
        bd (f_T_renumber x1 x2 st9) fun _ st16 =>
        bd (f_U_retry x1 st16) fun r20 st19 =>
        bd (f_N_forget r20 st19) fun _ st22 =>
        bd (f_U_countPassing st22) fun r26 st25 =>
        some (r26, st25)
      )
    ) else (
      some ((-1 : Int32), st5)
    )
  )
set_option maxHeartbeats 4000000 in
set_option maxRecDepth 100000 in
theorem w_M_change  {r : Int32} {t : CS} (E : EC R_M c_M_change 4 p s m args c D (tyL cs)) (hA : ∀ q, H0.size ≤ q → A0 q) (kr : ∀ (H : Heap) (locs : List Loc) (pc : Nat) (ls : Array Slot), IW D (cwC A cs t) A0 H0 H locs → decode c_M_change pc = .ok (.ireturn, 1) → W p l e rm_M_change s m args below meth c H locs 0 0 Q (F0 m pc ls [.int r])) : ∀ (x1 : Int32) (x2 : Int64) (st : CS) (H : Heap) (locs : List Loc) (ls : Array Slot), f_M_change x1 x2 st = some (r, t) → IW D (cwC A cs st) A0 H0 H locs → lv_has ls 4 [(0, .ref (A 0)), (1, .int x1), (2, .long x2)] → W p l e rm_M_change s m args below meth c H locs 0 0 Q (F0 m 0 ls []) := by
  intro x1 x2 st H locs ls h I hl
  have hx := E.1
  have hb := E.2.1
  rw [f_M_change] at h
  refine lv_aload_n hx hb d_M_change_0 rfl (lv_at hl 0 rfl) ?_
  refine g_cM_trees E I k_M_10 d_M_change_1 ?_
  refine lv_iload_n hx hb d_M_change_4 rfl (lv_at hl 1 rfl) ?_
  obtain ⟨r2, st1, h3, h⟩ := bd_some h
  refine cV (As := [.int x1]) (rest := []) E I hA (k_T_has h3) g_M_52 ⟨rfl, rfl⟩ 1 rfl rfl rfl hl rfl (Nat.le_of_ble_eq_true rfl) ⟨Nat.le_of_ble_eq_true rfl, Nat.le_of_ble_eq_true rfl⟩ ⟨Nat.zero_le _, Nat.zero_le _⟩ d_M_change_5 rfl (fun H locs I => ?_)
  refine lv_if_eq (tgt := 22) hx hb d_M_change_8 (by decide) (fun c4 => ?_) (fun c4 => ?_)
  · have h := ifp c4 h
    refine lv_iconst (v := -1) hx hb d_M_change_22 (by decide) ?_
    cases h
    exact kr _ _ _ _ I d_M_change_23
  · have h := ifn c4 h
    refine lv_aload_n hx hb d_M_change_11 rfl (lv_at hl 0 rfl) ?_
    refine g_cM_trees E I k_M_10 d_M_change_12 ?_
    refine lv_iload_n hx hb d_M_change_15 rfl (lv_at hl 1 rfl) ?_
    obtain ⟨r6, st5, h7, h⟩ := bd_some h
    refine cV (As := [.int x1]) (rest := []) E I hA (k_T_kindOf h7) g_M_93 ⟨rfl, rfl⟩ 1 rfl rfl rfl hl rfl (Nat.le_of_ble_eq_true rfl) ⟨Nat.le_of_ble_eq_true rfl, Nat.le_of_ble_eq_true rfl⟩ ⟨Nat.zero_le _, Nat.zero_le _⟩ d_M_change_16 rfl (fun H locs I => ?_)
    refine lv_if_eq (tgt := 24) hx hb d_M_change_19 (by decide) (fun c8 => ?_) (fun c8 => ?_)
    · have h := ifp c8 h
      refine lv_aload_n hx hb d_M_change_24 rfl (lv_at hl 0 rfl) ?_
      refine g_cM_trees E I k_M_10 d_M_change_25 ?_
      refine lv_iload_n hx hb d_M_change_28 rfl (lv_at hl 1 rfl) ?_
      obtain ⟨r10, st9, h11, h⟩ := bd_some h
      refine cV (As := [.int x1]) (rest := []) E I hA (k_T_numberOf h11) g_M_140 ⟨rfl, rfl⟩ 1 rfl rfl rfl hl rfl (Nat.le_of_ble_eq_true rfl) ⟨Nat.le_of_ble_eq_true rfl, Nat.le_of_ble_eq_true rfl⟩ ⟨Nat.zero_le _, Nat.zero_le _⟩ d_M_change_29 rfl (fun H locs I => ?_)
      refine lv_lload_n hx hb d_M_change_32 rfl (lv_at hl 2 rfl) ?_
      refine W.lcmp hx hb d_M_change_33 ?_
      refine lv_if_eq (tgt := 61) hx hb d_M_change_34 (by decide) (fun c12 => ?_) (fun c12 => ?_)
      · have c12 := (lg_cmp_eq _ _).mp c12
        have h := ifp c12 h
        refine lv_aload_n hx hb d_M_change_61 rfl (lv_at hl 0 rfl) ?_
        refine g_cM_trials E I k_M_21 d_M_change_62 ?_
        obtain ⟨r14, st13, h15, h⟩ := bd_some h
        refine cV (As := []) (rest := []) E I hA (k_U_countPassing h15) g_M_154 ⟨rfl, rfl⟩ 2 rfl rfl rfl hl rfl (Nat.le_of_ble_eq_true rfl) ⟨Nat.le_of_ble_eq_true rfl, Nat.le_of_ble_eq_true rfl⟩ ⟨Nat.zero_le _, Nat.zero_le _⟩ d_M_change_65 rfl (fun H locs I => ?_)
        cases h
        exact kr _ _ _ _ I d_M_change_68
      · have c12 := mt (lg_cmp_eq _ _).mpr c12
        have h := ifn c12 h
        refine lv_aload_n hx hb d_M_change_37 rfl (lv_at hl 0 rfl) ?_
        refine g_cM_trees E I k_M_10 d_M_change_38 ?_
        refine lv_iload_n hx hb d_M_change_41 rfl (lv_at hl 1 rfl) ?_
        refine lv_lload_n hx hb d_M_change_42 rfl (lv_at hl 2 rfl) ?_
        obtain ⟨u18, st16, h17, h⟩ := bd_some h
        refine cV (As := [.int x1, .long x2]) (rest := []) E I hA (k_T_renumber h17) g_M_143 ⟨rfl, rfl⟩ 1 rfl rfl rfl hl rfl (Nat.le_of_ble_eq_true rfl) ⟨Nat.le_of_ble_eq_true rfl, Nat.le_of_ble_eq_true rfl⟩ ⟨Nat.zero_le _, Nat.zero_le _⟩ d_M_change_43 rfl (fun H locs I => ?_)
        refine lv_aload_n hx hb d_M_change_46 rfl (lv_at hl 0 rfl) ?_
        refine g_cM_mutants E I k_M_28 d_M_change_47 ?_
        refine lv_aload_n hx hb d_M_change_50 rfl (lv_at hl 0 rfl) ?_
        refine g_cM_trials E I k_M_21 d_M_change_51 ?_
        refine lv_iload_n hx hb d_M_change_54 rfl (lv_at hl 1 rfl) ?_
        obtain ⟨r20, st19, h21, h⟩ := bd_some h
        refine cV (As := [.int x1]) (rest := [.ref (A 4)]) E I hA (k_U_retry h21) g_M_147 ⟨rfl, rfl⟩ 2 rfl rfl rfl hl rfl (Nat.le_of_ble_eq_true rfl) ⟨Nat.le_of_ble_eq_true rfl, Nat.le_of_ble_eq_true rfl⟩ ⟨Nat.zero_le _, Nat.zero_le _⟩ d_M_change_55 rfl (fun H locs I => ?_)
        obtain ⟨u24, st22, h23, h⟩ := bd_some h
        refine cV (As := [.long r20]) (rest := []) E I hA (k_N_forget h23) g_M_150 ⟨rfl, rfl⟩ 4 rfl rfl rfl hl rfl (Nat.le_of_ble_eq_true rfl) ⟨Nat.le_of_ble_eq_true rfl, Nat.le_of_ble_eq_true rfl⟩ ⟨Nat.zero_le _, Nat.zero_le _⟩ d_M_change_58 rfl (fun H locs I => ?_)
        refine lv_aload_n hx hb d_M_change_61 rfl (lv_at hl 0 rfl) ?_
        refine g_cM_trials E I k_M_21 d_M_change_62 ?_
        obtain ⟨r26, st25, h27, h⟩ := bd_some h
        refine cV (As := []) (rest := []) E I hA (k_U_countPassing h27) g_M_154 ⟨rfl, rfl⟩ 2 rfl rfl rfl hl rfl (Nat.le_of_ble_eq_true rfl) ⟨Nat.le_of_ble_eq_true rfl, Nat.le_of_ble_eq_true rfl⟩ ⟨Nat.zero_le _, Nat.zero_le _⟩ d_M_change_65 rfl (fun H locs I => ?_)
        cases h
        exact kr _ _ _ _ I d_M_change_68
    · have h := ifn c8 h
      refine lv_iconst (v := -1) hx hb d_M_change_22 (by decide) ?_
      cases h
      exact kr _ _ _ _ I d_M_change_23
set_option maxHeartbeats 4000000 in
set_option maxRecDepth 100000 in
theorem k_M_change {x1 : Int32} {x2 : Int64} {st t : CS} {r : Int32} (h : f_M_change x1 x2 st = some (r, t)) : Cn l y_M_change c_M_change 4 (some .int) rm_M_change D (tyL cs) (cwC A cs st) (cwC A cs t) [.ref (A 0), .int x1, .long x2] (some (.int r)) := by
  refine cn_intro (by decide) (Nat.le_of_ble_eq_true rfl) ?_
  intro p e s m below meth c A0 Q ls E hr hlk hA hA0 hQ I hl
  exact w_M_change E hA (rt_i E hr hlk hA0 hQ) x1 x2 st _ _ _ h I (lv_sub hl [0, 1, 2] rfl)
abbrev rm_D_shuffle : Room := { frames := 0, cells := 0, slots := 0, locals := 0 }
noncomputable def f_D_shuffle_31 : Nat → Int32 → Int32 → Int64 → Int32 → CS → Option (Unit × CS)
  | 0, _, _, _, _, _ => none
  | n + 1, x3, x4, x5, x7, st =>
    if x3 ≤ x7 then (
      nx (s_cD_size st x3) fun st2 =>
      some ((), st2)
    ) else (
      if x4 ≤ x7 then (
        nx (s_cD_size st x3) fun st4 =>
        some ((), st4)
      ) else (
        nx ((x5 * (6364136223846793005 : Int64)) + (1442695040888963407 : Int64)) fun x5_5 =>
        dvl (x4 - x7).toInt64 <|
        nx (x7 + ((x5_5.toUInt64 >>> ((33 : Int32).toInt64.toUInt64 &&& Int64.toUInt64 63)).toInt64 - (x5_5.toUInt64 >>> ((33 : Int32).toInt64.toUInt64 &&& Int64.toUInt64 63)).toInt64 / (x4 - x7).toInt64 * (x4 - x7).toInt64).toInt32) fun x8_7 =>
        ck x7 100 <|
        nx (cD_row st x7.toNatClampNeg) fun x9_9 =>
        ck x8_7 100 <|
        ck x7 100 <|
        nx (s_cD_row st x7.toNatClampNeg (cD_row st x8_7.toNatClampNeg)) fun st12 =>
        ck x8_7 100 <|
        nx (s_cD_row st12 x8_7.toNatClampNeg x9_9) fun st14 =>
        nx (x7 + 1) fun x7_15 =>
        f_D_shuffle_31 n x3 x4 x5_5 x7_15 st14
      )
    )
noncomputable def f_D_shuffle_3 : Nat → Int64 → Int32 → Int32 → Int32 → CS → Option (Unit × CS)
  | 0, _, _, _, _, _ => none
  | n + 1, x1, x3, x4, x5, st =>
    if x4 ≤ x5 then (
      f_D_shuffle_31 FU x3 x4 x1 (0 : Int32) st
    ) else (
      ck x5 100 <|
      nx (s_cD_row st x5.toNatClampNeg x5) fun st18 =>
      nx (x5 + 1) fun x5_19 =>
      f_D_shuffle_3 n x1 x3 x4 x5_19 st18
    )
noncomputable def f_D_shuffle (x1 : Int64) (x3 : Int32) (x4 : Int32) (st : CS) : Option (Unit × CS) :=
  f_D_shuffle_3 FU x1 x3 x4 (0 : Int32) st
set_option maxHeartbeats 4000000 in
set_option maxRecDepth 100000 in
theorem w_D_shuffle_31  {r : Unit} {t : CS} (E : EC R_D c_D_shuffle 10 p s m args c D (tyL cs)) (hA : ∀ q, H0.size ≤ q → A0 q) (kr : ∀ (H : Heap) (locs : List Loc) (pc : Nat) (ls : Array Slot), IW D (cwC A cs t) A0 H0 H locs → decode c_D_shuffle pc = .ok (.return_, 1) → W p l e rm_D_shuffle s m args below meth c H locs 0 0 Q (F0 m pc ls [])) : ∀ (n : Nat), ∀ (x3 : Int32) (x4 : Int32) (x5 : Int64) (x7 : Int32) (st : CS) (H : Heap) (locs : List Loc) (ls : Array Slot), f_D_shuffle_31 n x3 x4 x5 x7 st = some (r, t) → IW D (cwC A cs st) A0 H0 H locs → lv_has ls 10 [(0, .ref (A 6)), (3, .int x3), (4, .int x4), (5, .long x5), (7, .int x7)] → W p l e rm_D_shuffle s m args below meth c H locs 0 0 Q (F0 m 31 ls []) := by
  intro n
  induction n with
  | zero => intro x3 x4 x5 x7 st H locs ls h I hl; cases h
  | succ n ih =>
    intro x3 x4 x5 x7 st H locs ls h I hl
    have hx := E.1
    have hb := E.2.1
    rw [f_D_shuffle_31] at h
    refine lv_iload hx hb d_D_shuffle_31 (lv_at hl 4 rfl) ?_
    refine lv_iload_n hx hb d_D_shuffle_33 rfl (lv_at hl 1 rfl) ?_
    refine lv_icmp_ge (tgt := 112) hx hb d_D_shuffle_34 (by decide) (fun c1 => ?_) (fun c1 => ?_)
    · have h := ifp c1 h
      refine lv_aload_n hx hb d_D_shuffle_112 rfl (lv_at hl 0 rfl) ?_
      refine lv_iload_n hx hb d_D_shuffle_113 rfl (lv_at hl 1 rfl) ?_
      obtain ⟨st2, est2⟩ : ∃ y : CS, y = (s_cD_size st x3) := ⟨_, rfl⟩
      have h := nx_k est2 h
      refine p_cD_size E I est2 k_D_15 d_D_shuffle_114 (fun H locs I => ?_)
      cases h
      exact kr _ _ _ _ I d_D_shuffle_117
    · have h := ifn c1 h
      refine lv_iload hx hb d_D_shuffle_37 (lv_at hl 4 rfl) ?_
      refine lv_iload hx hb d_D_shuffle_39 (lv_at hl 2 rfl) ?_
      refine lv_icmp_ge (tgt := 112) hx hb d_D_shuffle_41 (by decide) (fun c3 => ?_) (fun c3 => ?_)
      · have h := ifp c3 h
        refine lv_aload_n hx hb d_D_shuffle_112 rfl (lv_at hl 0 rfl) ?_
        refine lv_iload_n hx hb d_D_shuffle_113 rfl (lv_at hl 1 rfl) ?_
        obtain ⟨st4, est4⟩ : ∃ y : CS, y = (s_cD_size st x3) := ⟨_, rfl⟩
        have h := nx_k est4 h
        refine p_cD_size E I est4 k_D_15 d_D_shuffle_114 (fun H locs I => ?_)
        cases h
        exact kr _ _ _ _ I d_D_shuffle_117
      · have h := ifn c3 h
        refine lv_lload hx hb d_D_shuffle_44 (lv_at hl 3 rfl) ?_
        refine lv_ldc2 (v := 6364136223846793005) hx hb E.2.2.2.1 (E.2.2.2.2.1 _ kl_D_19) d_D_shuffle_46 ?_
        refine lv_lmul hx hb d_D_shuffle_49 ?_
        refine lv_ldc2 (v := 1442695040888963407) hx hb E.2.2.2.1 (E.2.2.2.2.1 _ kl_D_21) d_D_shuffle_50 ?_
        refine lv_ladd hx hb d_D_shuffle_53 ?_
        refine lv_topl (fun x5_5 ex5_5 => ?_)
        have h := nx_k ex5_5 h
        refine lv_lstore (lv' := [(5, .long x5_5), (0, .ref (A 6)), (3, .int x3), (4, .int x4), (7, .int x7)]) hx hb d_D_shuffle_54 hl (by decide) rfl (fun ls hl => ?_)
        refine lv_iload hx hb d_D_shuffle_56 (lv_at hl 4 rfl) ?_
        refine lv_lload hx hb d_D_shuffle_58 (lv_at hl 0 rfl) ?_
        refine lv_bipush (v := 33) hx hb d_D_shuffle_60 (by decide) ?_
        refine lv_lushr hx hb d_D_shuffle_62 rfl ?_
        refine lv_iload hx hb d_D_shuffle_63 (lv_at hl 3 rfl) ?_
        refine lv_iload hx hb d_D_shuffle_65 (lv_at hl 4 rfl) ?_
        refine lv_isub hx hb d_D_shuffle_67 ?_
        refine lv_i2l hx hb d_D_shuffle_68 rfl ?_
        obtain ⟨b6, h⟩ := dvl_some h
        refine lv_lrem hx hb d_D_shuffle_69 b6 ?_
        refine lv_l2i hx hb d_D_shuffle_70 rfl ?_
        refine lv_iadd hx hb d_D_shuffle_71 ?_
        refine lv_topi (fun x8_7 ex8_7 => ?_)
        have h := nx_k ex8_7 h
        refine lv_istore (lv' := [(8, .int x8_7), (5, .long x5_5), (0, .ref (A 6)), (3, .int x3), (4, .int x4), (7, .int x7)]) hx hb d_D_shuffle_72 hl (by decide) rfl (fun ls hl => ?_)
        refine lv_aload_n hx hb d_D_shuffle_74 rfl (lv_at hl 2 rfl) ?_
        refine g_cD_row E I k_D_9 d_D_shuffle_75 ?_
        refine lv_iload hx hb d_D_shuffle_78 (lv_at hl 5 rfl) ?_
        obtain ⟨b8, h⟩ := ck_some h
        refine l_cD_row E I b8 d_D_shuffle_80 ?_
        refine lv_topi (fun x9_9 ex9_9 => ?_)
        have h := nx_k ex9_9 h
        refine lv_istore (lv' := [(9, .int x9_9), (8, .int x8_7), (5, .long x5_5), (0, .ref (A 6)), (3, .int x3), (4, .int x4), (7, .int x7)]) hx hb d_D_shuffle_81 hl (by decide) rfl (fun ls hl => ?_)
        refine lv_aload_n hx hb d_D_shuffle_83 rfl (lv_at hl 3 rfl) ?_
        refine g_cD_row E I k_D_9 d_D_shuffle_84 ?_
        refine lv_iload hx hb d_D_shuffle_87 (lv_at hl 6 rfl) ?_
        refine lv_aload_n hx hb d_D_shuffle_89 rfl (lv_at hl 3 rfl) ?_
        refine g_cD_row E I k_D_9 d_D_shuffle_90 ?_
        refine lv_iload hx hb d_D_shuffle_93 (lv_at hl 1 rfl) ?_
        obtain ⟨b10, h⟩ := ck_some h
        refine l_cD_row E I b10 d_D_shuffle_95 ?_
        obtain ⟨b11, h⟩ := ck_some h
        obtain ⟨st12, est12⟩ : ∃ y : CS, y = (s_cD_row st x7.toNatClampNeg (cD_row st x8_7.toNatClampNeg)) := ⟨_, rfl⟩
        have h := nx_k est12 h
        refine p_cD_row E I b11 est12 d_D_shuffle_96 (fun H locs I => ?_)
        refine lv_aload_n hx hb d_D_shuffle_97 rfl (lv_at hl 3 rfl) ?_
        refine g_cD_row E I k_D_9 d_D_shuffle_98 ?_
        refine lv_iload hx hb d_D_shuffle_101 (lv_at hl 1 rfl) ?_
        refine lv_iload hx hb d_D_shuffle_103 (lv_at hl 0 rfl) ?_
        obtain ⟨b13, h⟩ := ck_some h
        obtain ⟨st14, est14⟩ : ∃ y : CS, y = (s_cD_row st12 x8_7.toNatClampNeg x9_9) := ⟨_, rfl⟩
        have h := nx_k est14 h
        refine p_cD_row E I b13 est14 d_D_shuffle_105 (fun H locs I => ?_)
        obtain ⟨x7_15, ex7_15⟩ : ∃ y : Int32, y = (x7 + 1) := ⟨_, rfl⟩
        have h := nx_k ex7_15 h
        refine lv_iinc (v := x7_15) (lv' := [(7, .int x7_15), (9, .int x9_9), (8, .int x8_7), (5, .long x5_5), (0, .ref (A 6)), (3, .int x3), (4, .int x4)]) hx hb d_D_shuffle_106 hl (k := 6) rfl (by rw [ex7_15]; rfl) (by decide) rfl (fun ls hl => ?_)
        refine lv_goto (tgt := 31) hx hb d_D_shuffle_109 (by decide) ?_
        exact ih x3 x4 x5_5 x7_15 st14 _ _ _ h I (lv_sub hl [4, 5, 6, 3, 0] rfl)
set_option maxHeartbeats 4000000 in
set_option maxRecDepth 100000 in
theorem w_D_shuffle_3  {r : Unit} {t : CS} (E : EC R_D c_D_shuffle 10 p s m args c D (tyL cs)) (hA : ∀ q, H0.size ≤ q → A0 q) (kr : ∀ (H : Heap) (locs : List Loc) (pc : Nat) (ls : Array Slot), IW D (cwC A cs t) A0 H0 H locs → decode c_D_shuffle pc = .ok (.return_, 1) → W p l e rm_D_shuffle s m args below meth c H locs 0 0 Q (F0 m pc ls [])) : ∀ (n : Nat), ∀ (x1 : Int64) (x3 : Int32) (x4 : Int32) (x5 : Int32) (st : CS) (H : Heap) (locs : List Loc) (ls : Array Slot), f_D_shuffle_3 n x1 x3 x4 x5 st = some (r, t) → IW D (cwC A cs st) A0 H0 H locs → lv_has ls 10 [(0, .ref (A 6)), (1, .long x1), (3, .int x3), (4, .int x4), (5, .int x5)] → W p l e rm_D_shuffle s m args below meth c H locs 0 0 Q (F0 m 3 ls []) := by
  intro n
  induction n with
  | zero => intro x1 x3 x4 x5 st H locs ls h I hl; cases h
  | succ n ih =>
    intro x1 x3 x4 x5 st H locs ls h I hl
    have hx := E.1
    have hb := E.2.1
    rw [f_D_shuffle_3] at h
    refine lv_iload hx hb d_D_shuffle_3 (lv_at hl 4 rfl) ?_
    refine lv_iload hx hb d_D_shuffle_5 (lv_at hl 3 rfl) ?_
    refine lv_icmp_ge (tgt := 25) hx hb d_D_shuffle_7 (by decide) (fun c16 => ?_) (fun c16 => ?_)
    · have h := ifp c16 h
      refine lv_lload_n hx hb d_D_shuffle_25 rfl (lv_at hl 1 rfl) ?_
      refine lv_lstore (lv' := [(5, .long x1), (0, .ref (A 6)), (1, .long x1), (3, .int x3), (4, .int x4)]) hx hb d_D_shuffle_26 hl (by decide) rfl (fun ls hl => ?_)
      refine lv_iconst (v := 0) hx hb d_D_shuffle_28 (by decide) ?_
      refine lv_istore (lv' := [(7, .int (0 : Int32)), (5, .long x1), (0, .ref (A 6)), (1, .long x1), (3, .int x3), (4, .int x4)]) hx hb d_D_shuffle_29 hl (by decide) rfl (fun ls hl => ?_)
      exact w_D_shuffle_31 E hA kr FU x3 x4 x1 (0 : Int32) st _ _ _ h I (lv_sub hl [2, 4, 5, 1, 0] rfl)
    · have h := ifn c16 h
      refine lv_aload_n hx hb d_D_shuffle_10 rfl (lv_at hl 0 rfl) ?_
      refine g_cD_row E I k_D_9 d_D_shuffle_11 ?_
      refine lv_iload hx hb d_D_shuffle_14 (lv_at hl 4 rfl) ?_
      refine lv_iload hx hb d_D_shuffle_16 (lv_at hl 4 rfl) ?_
      obtain ⟨b17, h⟩ := ck_some h
      obtain ⟨st18, est18⟩ : ∃ y : CS, y = (s_cD_row st x5.toNatClampNeg x5) := ⟨_, rfl⟩
      have h := nx_k est18 h
      refine p_cD_row E I b17 est18 d_D_shuffle_18 (fun H locs I => ?_)
      obtain ⟨x5_19, ex5_19⟩ : ∃ y : Int32, y = (x5 + 1) := ⟨_, rfl⟩
      have h := nx_k ex5_19 h
      refine lv_iinc (v := x5_19) (lv' := [(5, .int x5_19), (0, .ref (A 6)), (1, .long x1), (3, .int x3), (4, .int x4)]) hx hb d_D_shuffle_19 hl (k := 4) rfl (by rw [ex5_19]; rfl) (by decide) rfl (fun ls hl => ?_)
      refine lv_goto (tgt := 3) hx hb d_D_shuffle_22 (by decide) ?_
      exact ih x1 x3 x4 x5_19 st18 _ _ _ h I (lv_sub hl [1, 2, 3, 4, 0] rfl)
set_option maxHeartbeats 4000000 in
set_option maxRecDepth 100000 in
theorem w_D_shuffle  {r : Unit} {t : CS} (E : EC R_D c_D_shuffle 10 p s m args c D (tyL cs)) (hA : ∀ q, H0.size ≤ q → A0 q) (kr : ∀ (H : Heap) (locs : List Loc) (pc : Nat) (ls : Array Slot), IW D (cwC A cs t) A0 H0 H locs → decode c_D_shuffle pc = .ok (.return_, 1) → W p l e rm_D_shuffle s m args below meth c H locs 0 0 Q (F0 m pc ls [])) : ∀ (x1 : Int64) (x3 : Int32) (x4 : Int32) (st : CS) (H : Heap) (locs : List Loc) (ls : Array Slot), f_D_shuffle x1 x3 x4 st = some (r, t) → IW D (cwC A cs st) A0 H0 H locs → lv_has ls 10 [(0, .ref (A 6)), (1, .long x1), (3, .int x3), (4, .int x4)] → W p l e rm_D_shuffle s m args below meth c H locs 0 0 Q (F0 m 0 ls []) := by
  intro x1 x3 x4 st H locs ls h I hl
  have hx := E.1
  have hb := E.2.1
  rw [f_D_shuffle] at h
  refine lv_iconst (v := 0) hx hb d_D_shuffle_0 (by decide) ?_
  refine lv_istore (lv' := [(5, .int (0 : Int32)), (0, .ref (A 6)), (1, .long x1), (3, .int x3), (4, .int x4)]) hx hb d_D_shuffle_1 hl (by decide) rfl (fun ls hl => ?_)
  exact w_D_shuffle_3 E hA kr FU x1 x3 x4 (0 : Int32) st _ _ _ h I (lv_sub hl [1, 2, 3, 4, 0] rfl)
set_option maxHeartbeats 4000000 in
set_option maxRecDepth 100000 in
theorem k_D_shuffle {x1 : Int64} {x3 : Int32} {x4 : Int32} {st t : CS} {r : Unit} (h : f_D_shuffle x1 x3 x4 st = some (r, t)) : Cn l y_D_shuffle c_D_shuffle 10 none rm_D_shuffle D (tyL cs) (cwC A cs st) (cwC A cs t) [.ref (A 6), .long x1, .int x3, .int x4] (none) := by
  refine cn_intro (by decide) (Nat.le_of_ble_eq_true rfl) ?_
  intro p e s m below meth c A0 Q ls E hr hlk hA hA0 hQ I hl
  exact w_D_shuffle E hA (rt_v E hr hlk hA0 hQ) x1 x3 x4 st _ _ _ h I (lv_sub hl [0, 1, 2, 3] rfl)
abbrev rm_M_sample : Room := { frames := 1, cells := 0, slots := 0, locals := 29 }
noncomputable def f_M_sample (x1 : Int64) (x3 : Int32) (st : CS) : Option (Int32 × CS) :=
  if x3 < 0 then (
    some ((0 : Int32), st)
  ) else (
    bd (f_N_size st) fun r3 st2 =>
    if x3 ≤ r3 then (
      bd (f_N_size st2) fun r7 st6 =>
      bd (f_D_shuffle x1 x3 r7 st6) fun _ st9 =>
      some ((1 : Int32), st9)
    ) else (
      some ((0 : Int32), st2)
    )
  )
set_option maxHeartbeats 4000000 in
set_option maxRecDepth 100000 in
theorem w_M_sample  {r : Int32} {t : CS} (E : EC R_M c_M_sample 4 p s m args c D (tyL cs)) (hA : ∀ q, H0.size ≤ q → A0 q) (kr : ∀ (H : Heap) (locs : List Loc) (pc : Nat) (ls : Array Slot), IW D (cwC A cs t) A0 H0 H locs → narrow .boolean (.int r) = .int r → decode c_M_sample pc = .ok (.ireturn, 1) → W p l e rm_M_sample s m args below meth c H locs 0 0 Q (F0 m pc ls [.int r])) : ∀ (x1 : Int64) (x3 : Int32) (st : CS) (H : Heap) (locs : List Loc) (ls : Array Slot), f_M_sample x1 x3 st = some (r, t) → IW D (cwC A cs st) A0 H0 H locs → lv_has ls 4 [(0, .ref (A 0)), (1, .long x1), (3, .int x3)] → W p l e rm_M_sample s m args below meth c H locs 0 0 Q (F0 m 0 ls []) := by
  intro x1 x3 st H locs ls h I hl
  have hx := E.1
  have hb := E.2.1
  rw [f_M_sample] at h
  refine lv_iload_n hx hb d_M_sample_0 rfl (lv_at hl 2 rfl) ?_
  refine lv_if_lt (tgt := 15) hx hb d_M_sample_1 (by decide) (fun c1 => ?_) (fun c1 => ?_)
  · have h := ifp c1 h
    refine lv_iconst (v := 0) hx hb d_M_sample_15 (by decide) ?_
    cases h
    exact kr _ _ _ _ I (by decide) d_M_sample_16
  · have h := ifn c1 h
    refine lv_iload_n hx hb d_M_sample_4 rfl (lv_at hl 2 rfl) ?_
    refine lv_aload_n hx hb d_M_sample_5 rfl (lv_at hl 0 rfl) ?_
    refine g_cM_mutants E I k_M_28 d_M_sample_6 ?_
    obtain ⟨r3, st2, h4, h⟩ := bd_some h
    refine cV (As := []) (rest := [.int x3]) E I hA (k_N_size h4) g_M_85 ⟨rfl, rfl⟩ 4 rfl rfl rfl hl rfl (Nat.le_of_ble_eq_true rfl) ⟨Nat.le_of_ble_eq_true rfl, Nat.le_of_ble_eq_true rfl⟩ ⟨Nat.zero_le _, Nat.zero_le _⟩ d_M_sample_9 rfl (fun H locs I => ?_)
    refine lv_icmp_le (tgt := 17) hx hb d_M_sample_12 (by decide) (fun c5 => ?_) (fun c5 => ?_)
    · have h := ifp c5 h
      refine lv_aload_n hx hb d_M_sample_17 rfl (lv_at hl 0 rfl) ?_
      refine g_cM_draw E I k_M_44 d_M_sample_18 ?_
      refine lv_lload_n hx hb d_M_sample_21 rfl (lv_at hl 1 rfl) ?_
      refine lv_iload_n hx hb d_M_sample_22 rfl (lv_at hl 2 rfl) ?_
      refine lv_aload_n hx hb d_M_sample_23 rfl (lv_at hl 0 rfl) ?_
      refine g_cM_mutants E I k_M_28 d_M_sample_24 ?_
      obtain ⟨r7, st6, h8, h⟩ := bd_some h
      refine cV (As := []) (rest := [.int x3, .long x1, .ref (A 6)]) E I hA (k_N_size h8) g_M_85 ⟨rfl, rfl⟩ 4 rfl rfl rfl hl rfl (Nat.le_of_ble_eq_true rfl) ⟨Nat.le_of_ble_eq_true rfl, Nat.le_of_ble_eq_true rfl⟩ ⟨Nat.zero_le _, Nat.zero_le _⟩ d_M_sample_27 rfl (fun H locs I => ?_)
      obtain ⟨u11, st9, h10, h⟩ := bd_some h
      refine cV (As := [.long x1, .int x3, .int r7]) (rest := []) E I hA (k_D_shuffle h10) g_M_157 ⟨rfl, rfl⟩ 6 rfl rfl rfl hl rfl (Nat.le_of_ble_eq_true rfl) ⟨Nat.le_of_ble_eq_true rfl, Nat.le_of_ble_eq_true rfl⟩ ⟨Nat.zero_le _, Nat.zero_le _⟩ d_M_sample_30 rfl (fun H locs I => ?_)
      refine lv_iconst (v := 1) hx hb d_M_sample_33 (by decide) ?_
      cases h
      exact kr _ _ _ _ I (by decide) d_M_sample_34
    · have h := ifn c5 h
      refine lv_iconst (v := 0) hx hb d_M_sample_15 (by decide) ?_
      cases h
      exact kr _ _ _ _ I (by decide) d_M_sample_16
set_option maxHeartbeats 4000000 in
set_option maxRecDepth 100000 in
theorem k_M_sample {x1 : Int64} {x3 : Int32} {st t : CS} {r : Int32} (h : f_M_sample x1 x3 st = some (r, t)) : Cn l y_M_sample c_M_sample 4 (some .boolean) rm_M_sample D (tyL cs) (cwC A cs st) (cwC A cs t) [.ref (A 0), .long x1, .int x3] (some (.int r)) := by
  refine cn_intro (by decide) (Nat.le_of_ble_eq_true rfl) ?_
  intro p e s m below meth c A0 Q ls E hr hlk hA hA0 hQ I hl
  exact w_M_sample E hA (rt_z E hr hlk hA0 hQ) x1 x3 st _ _ _ h I (lv_sub hl [0, 1, 2] rfl)
abbrev rm_D_at : Room := { frames := 0, cells := 0, slots := 0, locals := 0 }
noncomputable def f_D_at (x1 : Int32) (st : CS) : Option (Int32 × CS) :=
  if x1 < 0 then (
    some ((-1 : Int32), st)
  ) else (
    if (cD_size st) ≤ x1 then (
      some ((-1 : Int32), st)
    ) else (
      ck x1 100 <|
      some ((cD_row st x1.toNatClampNeg), st)
    )
  )
set_option maxHeartbeats 4000000 in
set_option maxRecDepth 100000 in
theorem w_D_at  {r : Int32} {t : CS} (E : EC R_D c_D_at 2 p s m args c D (tyL cs)) (hA : ∀ q, H0.size ≤ q → A0 q) (kr : ∀ (H : Heap) (locs : List Loc) (pc : Nat) (ls : Array Slot), IW D (cwC A cs t) A0 H0 H locs → decode c_D_at pc = .ok (.ireturn, 1) → W p l e rm_D_at s m args below meth c H locs 0 0 Q (F0 m pc ls [.int r])) : ∀ (x1 : Int32) (st : CS) (H : Heap) (locs : List Loc) (ls : Array Slot), f_D_at x1 st = some (r, t) → IW D (cwC A cs st) A0 H0 H locs → lv_has ls 2 [(0, .ref (A 6)), (1, .int x1)] → W p l e rm_D_at s m args below meth c H locs 0 0 Q (F0 m 0 ls []) := by
  intro x1 st H locs ls h I hl
  have hx := E.1
  have hb := E.2.1
  rw [f_D_at] at h
  refine lv_iload_n hx hb d_D_at_0 rfl (lv_at hl 1 rfl) ?_
  refine lv_if_lt (tgt := 21) hx hb d_D_at_1 (by decide) (fun c1 => ?_) (fun c1 => ?_)
  · have h := ifp c1 h
    refine lv_iconst (v := -1) hx hb d_D_at_21 (by decide) ?_
    cases h
    exact kr _ _ _ _ I d_D_at_22
  · have h := ifn c1 h
    refine lv_iload_n hx hb d_D_at_4 rfl (lv_at hl 1 rfl) ?_
    refine lv_aload_n hx hb d_D_at_5 rfl (lv_at hl 0 rfl) ?_
    refine g_cD_size E I k_D_15 d_D_at_6 ?_
    refine lv_icmp_ge (tgt := 21) hx hb d_D_at_9 (by decide) (fun c2 => ?_) (fun c2 => ?_)
    · have h := ifp c2 h
      refine lv_iconst (v := -1) hx hb d_D_at_21 (by decide) ?_
      cases h
      exact kr _ _ _ _ I d_D_at_22
    · have h := ifn c2 h
      refine lv_aload_n hx hb d_D_at_12 rfl (lv_at hl 0 rfl) ?_
      refine g_cD_row E I k_D_9 d_D_at_13 ?_
      refine lv_iload_n hx hb d_D_at_16 rfl (lv_at hl 1 rfl) ?_
      obtain ⟨b3, h⟩ := ck_some h
      refine l_cD_row E I b3 d_D_at_17 ?_
      refine lv_goto (tgt := 22) hx hb d_D_at_18 (by decide) ?_
      cases h
      exact kr _ _ _ _ I d_D_at_22
set_option maxHeartbeats 4000000 in
set_option maxRecDepth 100000 in
theorem k_D_at {x1 : Int32} {st t : CS} {r : Int32} (h : f_D_at x1 st = some (r, t)) : Cn l y_D_at c_D_at 2 (some .int) rm_D_at D (tyL cs) (cwC A cs st) (cwC A cs t) [.ref (A 6), .int x1] (some (.int r)) := by
  refine cn_intro (by decide) (Nat.le_of_ble_eq_true rfl) ?_
  intro p e s m below meth c A0 Q ls E hr hlk hA hA0 hQ I hl
  exact w_D_at E hA (rt_i E hr hlk hA0 hQ) x1 st _ _ _ h I (lv_sub hl [0, 1] rfl)
abbrev rm_M_sampled : Room := { frames := 1, cells := 0, slots := 0, locals := 21 }
noncomputable def f_M_sampled (x1 : Int32) (st : CS) : Option (Int32 × CS) :=
  bd (f_D_at x1 st) fun r2 st1 =>
  some (r2, st1)
set_option maxHeartbeats 4000000 in
set_option maxRecDepth 100000 in
theorem w_M_sampled  {r : Int32} {t : CS} (E : EC R_M c_M_sampled 2 p s m args c D (tyL cs)) (hA : ∀ q, H0.size ≤ q → A0 q) (kr : ∀ (H : Heap) (locs : List Loc) (pc : Nat) (ls : Array Slot), IW D (cwC A cs t) A0 H0 H locs → decode c_M_sampled pc = .ok (.ireturn, 1) → W p l e rm_M_sampled s m args below meth c H locs 0 0 Q (F0 m pc ls [.int r])) : ∀ (x1 : Int32) (st : CS) (H : Heap) (locs : List Loc) (ls : Array Slot), f_M_sampled x1 st = some (r, t) → IW D (cwC A cs st) A0 H0 H locs → lv_has ls 2 [(0, .ref (A 0)), (1, .int x1)] → W p l e rm_M_sampled s m args below meth c H locs 0 0 Q (F0 m 0 ls []) := by
  intro x1 st H locs ls h I hl
  have hx := E.1
  have hb := E.2.1
  rw [f_M_sampled] at h
  refine lv_aload_n hx hb d_M_sampled_0 rfl (lv_at hl 0 rfl) ?_
  refine g_cM_draw E I k_M_44 d_M_sampled_1 ?_
  refine lv_iload_n hx hb d_M_sampled_4 rfl (lv_at hl 1 rfl) ?_
  obtain ⟨r2, st1, h3, h⟩ := bd_some h
  refine cV (As := [.int x1]) (rest := []) E I hA (k_D_at h3) g_M_161 ⟨rfl, rfl⟩ 6 rfl rfl rfl hl rfl (Nat.le_of_ble_eq_true rfl) ⟨Nat.le_of_ble_eq_true rfl, Nat.le_of_ble_eq_true rfl⟩ ⟨Nat.zero_le _, Nat.zero_le _⟩ d_M_sampled_5 rfl (fun H locs I => ?_)
  cases h
  exact kr _ _ _ _ I d_M_sampled_8
set_option maxHeartbeats 4000000 in
set_option maxRecDepth 100000 in
theorem k_M_sampled {x1 : Int32} {st t : CS} {r : Int32} (h : f_M_sampled x1 st = some (r, t)) : Cn l y_M_sampled c_M_sampled 2 (some .int) rm_M_sampled D (tyL cs) (cwC A cs st) (cwC A cs t) [.ref (A 0), .int x1] (some (.int r)) := by
  refine cn_intro (by decide) (Nat.le_of_ble_eq_true rfl) ?_
  intro p e s m below meth c A0 Q ls E hr hlk hA hA0 hQ I hl
  exact w_M_sampled E hA (rt_i E hr hlk hA0 hQ) x1 st _ _ _ h I (lv_sub hl [0, 1] rfl)
abbrev rm_N_isOnSide : Room := { frames := 3, cells := 0, slots := 0, locals := 66 }
noncomputable def f_N_isOnSide (x1 : Int32) (x2 : Int32) (st : CS) : Option (Int32 × CS) :=
  ck x1 100 <|
  nx (cN_outcomes st x1.toNatClampNeg) fun x3_2 =>
  if x2 = 0 then (
    if x3_2 = (1 : Int32) then (
      some ((1 : Int32), st)
    ) else (
      if x3_2 = (2 : Int32) then (
        some ((1 : Int32), st)
      ) else (
        some ((0 : Int32), st)
      )
    )
  ) else (
    if x2 = 1 then (
      if x3_2 = (-1 : Int32) then (
        some ((0 : Int32), st)
      ) else (
        some ((1 : Int32), st)
      )
    ) else (
      if x3_2 = 0 then (
        bd (f_N_isAlike x1 st) fun r10 st9 =>
        if r10 = 0 then (
          some ((1 : Int32), st9)
        ) else (
          some ((0 : Int32), st9)
        )
      ) else (
        some ((0 : Int32), st)
      )
    )
  )
set_option maxHeartbeats 4000000 in
set_option maxRecDepth 100000 in
theorem w_N_isOnSide  {r : Int32} {t : CS} (E : EC R_N c_N_isOnSide 4 p s m args c D (tyL cs)) (hA : ∀ q, H0.size ≤ q → A0 q) (kr : ∀ (H : Heap) (locs : List Loc) (pc : Nat) (ls : Array Slot), IW D (cwC A cs t) A0 H0 H locs → narrow .boolean (.int r) = .int r → decode c_N_isOnSide pc = .ok (.ireturn, 1) → W p l e rm_N_isOnSide s m args below meth c H locs 0 0 Q (F0 m pc ls [.int r])) : ∀ (x1 : Int32) (x2 : Int32) (st : CS) (H : Heap) (locs : List Loc) (ls : Array Slot), f_N_isOnSide x1 x2 st = some (r, t) → IW D (cwC A cs st) A0 H0 H locs → lv_has ls 4 [(0, .ref (A 4)), (1, .int x1), (2, .int x2)] → W p l e rm_N_isOnSide s m args below meth c H locs 0 0 Q (F0 m 0 ls []) := by
  intro x1 x2 st H locs ls h I hl
  have hx := E.1
  have hb := E.2.1
  rw [f_N_isOnSide] at h
  refine lv_aload_n hx hb d_N_isOnSide_0 rfl (lv_at hl 0 rfl) ?_
  refine g_cN_outcomes E I k_N_22 d_N_isOnSide_1 ?_
  refine lv_iload_n hx hb d_N_isOnSide_4 rfl (lv_at hl 1 rfl) ?_
  obtain ⟨b1, h⟩ := ck_some h
  refine l_cN_outcomes E I b1 d_N_isOnSide_5 ?_
  refine lv_topi (fun x3_2 ex3_2 => ?_)
  have h := nx_k ex3_2 h
  refine lv_istore_n (lv' := [(3, .int x3_2), (0, .ref (A 4)), (1, .int x1), (2, .int x2)]) hx hb d_N_isOnSide_6 rfl hl (by decide) rfl (fun ls hl => ?_)
  refine lv_iload_n hx hb d_N_isOnSide_7 rfl (lv_at hl 3 rfl) ?_
  by_cases c3 : x2 = 0
  · have h := ifp c3 h
    refine lv_lookup (off := 28) (tgt := 36) hx hb d_N_isOnSide_8 (by decide) (by rw [c3]; rfl) (by decide) ?_
    refine lv_iload_n hx hb d_N_isOnSide_36 rfl (lv_at hl 0 rfl) ?_
    refine lv_iconst (v := 1) hx hb d_N_isOnSide_37 (by decide) ?_
    refine lv_icmp_eq (tgt := 46) hx hb d_N_isOnSide_38 (by decide) (fun c4 => ?_) (fun c4 => ?_)
    · have h := ifp c4 h
      refine lv_iconst (v := 1) hx hb d_N_isOnSide_46 (by decide) ?_
      refine lv_goto (tgt := 51) hx hb d_N_isOnSide_47 (by decide) ?_
      cases h
      exact kr _ _ _ _ I (by decide) d_N_isOnSide_51
    · have h := ifn c4 h
      refine lv_iload_n hx hb d_N_isOnSide_41 rfl (lv_at hl 0 rfl) ?_
      refine lv_iconst (v := 2) hx hb d_N_isOnSide_42 (by decide) ?_
      refine lv_icmp_ne (tgt := 50) hx hb d_N_isOnSide_43 (by decide) (fun c5 => ?_) (fun c5 => ?_)
      · have h := ifn c5 h
        refine lv_iconst (v := 0) hx hb d_N_isOnSide_50 (by decide) ?_
        cases h
        exact kr _ _ _ _ I (by decide) d_N_isOnSide_51
      · have h := ifp c5 h
        refine lv_iconst (v := 1) hx hb d_N_isOnSide_46 (by decide) ?_
        refine lv_goto (tgt := 51) hx hb d_N_isOnSide_47 (by decide) ?_
        cases h
        exact kr _ _ _ _ I (by decide) d_N_isOnSide_51
  · have h := ifn c3 h
    by_cases c6 : x2 = 1
    · have h := ifp c6 h
      refine lv_lookup (off := 44) (tgt := 52) hx hb d_N_isOnSide_8 (by decide) (by rw [c6]; rfl) (by decide) ?_
      refine lv_iload_n hx hb d_N_isOnSide_52 rfl (lv_at hl 0 rfl) ?_
      refine lv_iconst (v := -1) hx hb d_N_isOnSide_53 (by decide) ?_
      refine lv_icmp_eq (tgt := 61) hx hb d_N_isOnSide_54 (by decide) (fun c7 => ?_) (fun c7 => ?_)
      · have h := ifp c7 h
        refine lv_iconst (v := 0) hx hb d_N_isOnSide_61 (by decide) ?_
        cases h
        exact kr _ _ _ _ I (by decide) d_N_isOnSide_62
      · have h := ifn c7 h
        refine lv_iconst (v := 1) hx hb d_N_isOnSide_57 (by decide) ?_
        refine lv_goto (tgt := 62) hx hb d_N_isOnSide_58 (by decide) ?_
        cases h
        exact kr _ _ _ _ I (by decide) d_N_isOnSide_62
    · have h := ifn c6 h
      have tc3 := ne_ti (z := 0) (by decide) c3
      have tc6 := ne_ti (z := 1) (by decide) c6
      refine lv_lookup (off := 55) (tgt := 63) hx hb d_N_isOnSide_8 (by decide) (by simp [Op.lookupswitch.offset, tc3.symm, tc6.symm]) (by decide) ?_
      refine lv_iload_n hx hb d_N_isOnSide_63 rfl (lv_at hl 0 rfl) ?_
      refine lv_if_ne (tgt := 79) hx hb d_N_isOnSide_64 (by decide) (fun c8 => ?_) (fun c8 => ?_)
      · have h := ifn c8 h
        refine lv_iconst (v := 0) hx hb d_N_isOnSide_79 (by decide) ?_
        cases h
        exact kr _ _ _ _ I (by decide) d_N_isOnSide_80
      · have h := ifp c8 h
        refine lv_aload_n hx hb d_N_isOnSide_67 rfl (lv_at hl 1 rfl) ?_
        refine lv_iload_n hx hb d_N_isOnSide_68 rfl (lv_at hl 2 rfl) ?_
        obtain ⟨r10, st9, h11, h⟩ := bd_some h
        refine cV (As := [.int x1]) (rest := []) E I hA (k_N_isAlike h11) g_N_44 ⟨rfl, rfl⟩ 4 rfl rfl rfl hl rfl (Nat.le_of_ble_eq_true rfl) ⟨Nat.le_of_ble_eq_true rfl, Nat.le_of_ble_eq_true rfl⟩ ⟨Nat.zero_le _, Nat.zero_le _⟩ d_N_isOnSide_69 rfl (fun H locs I => ?_)
        refine lv_if_ne (tgt := 79) hx hb d_N_isOnSide_72 (by decide) (fun c12 => ?_) (fun c12 => ?_)
        · have h := ifn c12 h
          refine lv_iconst (v := 0) hx hb d_N_isOnSide_79 (by decide) ?_
          cases h
          exact kr _ _ _ _ I (by decide) d_N_isOnSide_80
        · have h := ifp c12 h
          refine lv_iconst (v := 1) hx hb d_N_isOnSide_75 (by decide) ?_
          refine lv_goto (tgt := 80) hx hb d_N_isOnSide_76 (by decide) ?_
          cases h
          exact kr _ _ _ _ I (by decide) d_N_isOnSide_80
set_option maxHeartbeats 4000000 in
set_option maxRecDepth 100000 in
theorem k_N_isOnSide {x1 : Int32} {x2 : Int32} {st t : CS} {r : Int32} (h : f_N_isOnSide x1 x2 st = some (r, t)) : Cn l y_N_isOnSide c_N_isOnSide 4 (some .boolean) rm_N_isOnSide D (tyL cs) (cwC A cs st) (cwC A cs t) [.ref (A 4), .int x1, .int x2] (some (.int r)) := by
  refine cn_intro (by decide) (Nat.le_of_ble_eq_true rfl) ?_
  intro p e s m below meth c A0 Q ls E hr hlk hA hA0 hQ I hl
  exact w_N_isOnSide E hA (rt_z E hr hlk hA0 hQ) x1 x2 st _ _ _ h I (lv_sub hl [0, 1, 2] rfl)
abbrev rm_M_score : Room := { frames := 4, cells := 0, slots := 0, locals := 89 }
noncomputable def f_M_score_58 (k28 : Int32 → Int32 → Int32 → Int32 → CS → Option (Int32 × CS)) (x1 : Int32) (x2 : Int32) (x3 : Int32) (x4 : Int32) (st : CS) : Option (Int32 × CS) :=
  bd (f_N_isOnSide x4 x2 st) fun r2 st1 =>
  if r2 = 0 then (
    nx (x4 + 1) fun x4_5 =>
    k28 x1 x2 x3 x4_5 st1
  ) else (
    nx (x3 + 1) fun x3_6 =>
    nx (x4 + 1) fun x4_7 =>
    k28 x1 x2 x3_6 x4_7 st1
  )
noncomputable def f_M_score_28 : Nat → Int32 → Int32 → Int32 → Int32 → CS → Option (Int32 × CS)
  | 0, _, _, _, _, _ => none
  | n + 1, x1, x2, x3, x4, st =>
    bd (f_N_size st) fun r9 st8 =>
    if r9 ≤ x4 then (
      some (x3, st8)
    ) else (
      if x1 = (-1 : Int32) then (
        f_M_score_58 (f_M_score_28 n) x1 x2 x3 x4 st8
      ) else (
        bd (f_N_kindOf x4 st8) fun r14 st13 =>
        if x1 = r14 then (
          f_M_score_58 (f_M_score_28 n) x1 x2 x3 x4 st13
        ) else (
          nx (x4 + 1) fun x4_17 =>
          f_M_score_28 n x1 x2 x3 x4_17 st13
        )
      )
    )
noncomputable def f_M_score_12 (x1 : Int32) (x2 : Int32) (st : CS) : Option (Int32 × CS) :=
  if x2 < 0 then (
    some ((-1 : Int32), st)
  ) else (
    if x2 ≤ (2 : Int32) then (
      f_M_score_28 FU x1 x2 (0 : Int32) (0 : Int32) st
    ) else (
      some ((-1 : Int32), st)
    )
  )
noncomputable def f_M_score (x1 : Int32) (x2 : Int32) (st : CS) : Option (Int32 × CS) :=
  if x1 = (-1 : Int32) then (
    f_M_score_12 x1 x2 st
  ) else (
    bd (f_M_isMutantKind x1 st) fun r22 st21 =>
    if r22 = 0 then (
      some ((-1 : Int32), st21)
    ) else (
      f_M_score_12 x1 x2 st21
    )
  )
set_option maxHeartbeats 4000000 in
set_option maxRecDepth 100000 in
theorem w_M_score_58  {r : Int32} {t : CS} (E : EC R_M c_M_score 5 p s m args c D (tyL cs)) (hA : ∀ q, H0.size ≤ q → A0 q) (kr : ∀ (H : Heap) (locs : List Loc) (pc : Nat) (ls : Array Slot), IW D (cwC A cs t) A0 H0 H locs → decode c_M_score pc = .ok (.ireturn, 1) → W p l e rm_M_score s m args below meth c H locs 0 0 Q (F0 m pc ls [.int r])) {k28 : Int32 → Int32 → Int32 → Int32 → CS → Option (Int32 × CS)} (hk28 : ∀ (x1 : Int32) (x2 : Int32) (x3 : Int32) (x4 : Int32) (st : CS) (H : Heap) (locs : List Loc) (ls : Array Slot), k28 x1 x2 x3 x4 st = some (r, t) → IW D (cwC A cs st) A0 H0 H locs → lv_has ls 5 [(0, .ref (A 0)), (1, .int x1), (2, .int x2), (3, .int x3), (4, .int x4)] → W p l e rm_M_score s m args below meth c H locs 0 0 Q (F0 m 28 ls [])) : ∀ (x1 : Int32) (x2 : Int32) (x3 : Int32) (x4 : Int32) (st : CS) (H : Heap) (locs : List Loc) (ls : Array Slot), f_M_score_58 k28 x1 x2 x3 x4 st = some (r, t) → IW D (cwC A cs st) A0 H0 H locs → lv_has ls 5 [(0, .ref (A 0)), (1, .int x1), (2, .int x2), (3, .int x3), (4, .int x4)] → W p l e rm_M_score s m args below meth c H locs 0 0 Q (F0 m 58 ls []) := by
  intro x1 x2 x3 x4 st H locs ls h I hl
  have hx := E.1
  have hb := E.2.1
  rw [f_M_score_58] at h
  refine lv_aload_n hx hb d_M_score_58 rfl (lv_at hl 0 rfl) ?_
  refine g_cM_mutants E I k_M_28 d_M_score_59 ?_
  refine lv_iload hx hb d_M_score_62 (lv_at hl 4 rfl) ?_
  refine lv_iload_n hx hb d_M_score_64 rfl (lv_at hl 2 rfl) ?_
  obtain ⟨r2, st1, h3, h⟩ := bd_some h
  refine cV (As := [.int x4, .int x2]) (rest := []) E I hA (k_N_isOnSide h3) g_M_162 ⟨rfl, rfl⟩ 4 rfl rfl rfl hl rfl (Nat.le_of_ble_eq_true rfl) ⟨Nat.le_of_ble_eq_true rfl, Nat.le_of_ble_eq_true rfl⟩ ⟨Nat.zero_le _, Nat.zero_le _⟩ d_M_score_65 rfl (fun H locs I => ?_)
  refine lv_if_eq (tgt := 74) hx hb d_M_score_68 (by decide) (fun c4 => ?_) (fun c4 => ?_)
  · have h := ifp c4 h
    obtain ⟨x4_5, ex4_5⟩ : ∃ y : Int32, y = (x4 + 1) := ⟨_, rfl⟩
    have h := nx_k ex4_5 h
    refine lv_iinc (v := x4_5) (lv' := [(4, .int x4_5), (0, .ref (A 0)), (1, .int x1), (2, .int x2), (3, .int x3)]) hx hb d_M_score_74 hl (k := 4) rfl (by rw [ex4_5]; rfl) (by decide) rfl (fun ls hl => ?_)
    refine lv_goto (tgt := 28) hx hb d_M_score_77 (by decide) ?_
    exact hk28 x1 x2 x3 x4_5 st1 _ _ _ h I (lv_sub hl [1, 2, 3, 4, 0] rfl)
  · have h := ifn c4 h
    obtain ⟨x3_6, ex3_6⟩ : ∃ y : Int32, y = (x3 + 1) := ⟨_, rfl⟩
    have h := nx_k ex3_6 h
    refine lv_iinc (v := x3_6) (lv' := [(3, .int x3_6), (0, .ref (A 0)), (1, .int x1), (2, .int x2), (4, .int x4)]) hx hb d_M_score_71 hl (k := 3) rfl (by rw [ex3_6]; rfl) (by decide) rfl (fun ls hl => ?_)
    obtain ⟨x4_7, ex4_7⟩ : ∃ y : Int32, y = (x4 + 1) := ⟨_, rfl⟩
    have h := nx_k ex4_7 h
    refine lv_iinc (v := x4_7) (lv' := [(4, .int x4_7), (3, .int x3_6), (0, .ref (A 0)), (1, .int x1), (2, .int x2)]) hx hb d_M_score_74 hl (k := 4) rfl (by rw [ex4_7]; rfl) (by decide) rfl (fun ls hl => ?_)
    refine lv_goto (tgt := 28) hx hb d_M_score_77 (by decide) ?_
    exact hk28 x1 x2 x3_6 x4_7 st1 _ _ _ h I (lv_sub hl [2, 3, 4, 1, 0] rfl)
set_option maxHeartbeats 4000000 in
set_option maxRecDepth 100000 in
theorem w_M_score_28  {r : Int32} {t : CS} (E : EC R_M c_M_score 5 p s m args c D (tyL cs)) (hA : ∀ q, H0.size ≤ q → A0 q) (kr : ∀ (H : Heap) (locs : List Loc) (pc : Nat) (ls : Array Slot), IW D (cwC A cs t) A0 H0 H locs → decode c_M_score pc = .ok (.ireturn, 1) → W p l e rm_M_score s m args below meth c H locs 0 0 Q (F0 m pc ls [.int r])) : ∀ (n : Nat), ∀ (x1 : Int32) (x2 : Int32) (x3 : Int32) (x4 : Int32) (st : CS) (H : Heap) (locs : List Loc) (ls : Array Slot), f_M_score_28 n x1 x2 x3 x4 st = some (r, t) → IW D (cwC A cs st) A0 H0 H locs → lv_has ls 5 [(0, .ref (A 0)), (1, .int x1), (2, .int x2), (3, .int x3), (4, .int x4)] → W p l e rm_M_score s m args below meth c H locs 0 0 Q (F0 m 28 ls []) := by
  intro n
  induction n with
  | zero => intro x1 x2 x3 x4 st H locs ls h I hl; cases h
  | succ n ih =>
    intro x1 x2 x3 x4 st H locs ls h I hl
    have hx := E.1
    have hb := E.2.1
    rw [f_M_score_28] at h
    refine lv_iload hx hb d_M_score_28 (lv_at hl 4 rfl) ?_
    refine lv_aload_n hx hb d_M_score_30 rfl (lv_at hl 0 rfl) ?_
    refine g_cM_mutants E I k_M_28 d_M_score_31 ?_
    obtain ⟨r9, st8, h10, h⟩ := bd_some h
    refine cV (As := []) (rest := [.int x4]) E I hA (k_N_size h10) g_M_85 ⟨rfl, rfl⟩ 4 rfl rfl rfl hl rfl (Nat.le_of_ble_eq_true rfl) ⟨Nat.le_of_ble_eq_true rfl, Nat.le_of_ble_eq_true rfl⟩ ⟨Nat.zero_le _, Nat.zero_le _⟩ d_M_score_34 rfl (fun H locs I => ?_)
    refine lv_icmp_ge (tgt := 80) hx hb d_M_score_37 (by decide) (fun c11 => ?_) (fun c11 => ?_)
    · have h := ifp c11 h
      refine lv_iload_n hx hb d_M_score_80 rfl (lv_at hl 3 rfl) ?_
      cases h
      exact kr _ _ _ _ I d_M_score_81
    · have h := ifn c11 h
      refine lv_iload_n hx hb d_M_score_40 rfl (lv_at hl 1 rfl) ?_
      refine lv_iconst (v := -1) hx hb d_M_score_41 (by decide) ?_
      refine lv_icmp_eq (tgt := 58) hx hb d_M_score_42 (by decide) (fun c12 => ?_) (fun c12 => ?_)
      · have h := ifp c12 h
        exact w_M_score_58 E hA kr ih x1 x2 x3 x4 st8 _ _ _ h I (lv_sub hl [0, 1, 2, 3, 4] rfl)
      · have h := ifn c12 h
        refine lv_iload_n hx hb d_M_score_45 rfl (lv_at hl 1 rfl) ?_
        refine lv_aload_n hx hb d_M_score_46 rfl (lv_at hl 0 rfl) ?_
        refine g_cM_mutants E I k_M_28 d_M_score_47 ?_
        refine lv_iload hx hb d_M_score_50 (lv_at hl 4 rfl) ?_
        obtain ⟨r14, st13, h15, h⟩ := bd_some h
        refine cV (As := [.int x4]) (rest := [.int x1]) E I hA (k_N_kindOf h15) g_M_104 ⟨rfl, rfl⟩ 4 rfl rfl rfl hl rfl (Nat.le_of_ble_eq_true rfl) ⟨Nat.le_of_ble_eq_true rfl, Nat.le_of_ble_eq_true rfl⟩ ⟨Nat.zero_le _, Nat.zero_le _⟩ d_M_score_52 rfl (fun H locs I => ?_)
        refine lv_icmp_ne (tgt := 74) hx hb d_M_score_55 (by decide) (fun c16 => ?_) (fun c16 => ?_)
        · have h := ifn c16 h
          obtain ⟨x4_17, ex4_17⟩ : ∃ y : Int32, y = (x4 + 1) := ⟨_, rfl⟩
          have h := nx_k ex4_17 h
          refine lv_iinc (v := x4_17) (lv' := [(4, .int x4_17), (0, .ref (A 0)), (1, .int x1), (2, .int x2), (3, .int x3)]) hx hb d_M_score_74 hl (k := 4) rfl (by rw [ex4_17]; rfl) (by decide) rfl (fun ls hl => ?_)
          refine lv_goto (tgt := 28) hx hb d_M_score_77 (by decide) ?_
          exact ih x1 x2 x3 x4_17 st13 _ _ _ h I (lv_sub hl [1, 2, 3, 4, 0] rfl)
        · have h := ifp c16 h
          exact w_M_score_58 E hA kr ih x1 x2 x3 x4 st13 _ _ _ h I (lv_sub hl [0, 1, 2, 3, 4] rfl)
set_option maxHeartbeats 4000000 in
set_option maxRecDepth 100000 in
theorem w_M_score_12  {r : Int32} {t : CS} (E : EC R_M c_M_score 5 p s m args c D (tyL cs)) (hA : ∀ q, H0.size ≤ q → A0 q) (kr : ∀ (H : Heap) (locs : List Loc) (pc : Nat) (ls : Array Slot), IW D (cwC A cs t) A0 H0 H locs → decode c_M_score pc = .ok (.ireturn, 1) → W p l e rm_M_score s m args below meth c H locs 0 0 Q (F0 m pc ls [.int r])) : ∀ (x1 : Int32) (x2 : Int32) (st : CS) (H : Heap) (locs : List Loc) (ls : Array Slot), f_M_score_12 x1 x2 st = some (r, t) → IW D (cwC A cs st) A0 H0 H locs → lv_has ls 5 [(0, .ref (A 0)), (1, .int x1), (2, .int x2)] → W p l e rm_M_score s m args below meth c H locs 0 0 Q (F0 m 12 ls []) := by
  intro x1 x2 st H locs ls h I hl
  have hx := E.1
  have hb := E.2.1
  rw [f_M_score_12] at h
  refine lv_iload_n hx hb d_M_score_12 rfl (lv_at hl 2 rfl) ?_
  refine lv_if_lt (tgt := 21) hx hb d_M_score_13 (by decide) (fun c18 => ?_) (fun c18 => ?_)
  · have h := ifp c18 h
    refine lv_iconst (v := -1) hx hb d_M_score_21 (by decide) ?_
    cases h
    exact kr _ _ _ _ I d_M_score_22
  · have h := ifn c18 h
    refine lv_iload_n hx hb d_M_score_16 rfl (lv_at hl 2 rfl) ?_
    refine lv_iconst (v := 2) hx hb d_M_score_17 (by decide) ?_
    refine lv_icmp_le (tgt := 23) hx hb d_M_score_18 (by decide) (fun c19 => ?_) (fun c19 => ?_)
    · have h := ifp c19 h
      refine lv_iconst (v := 0) hx hb d_M_score_23 (by decide) ?_
      refine lv_istore_n (lv' := [(3, .int (0 : Int32)), (0, .ref (A 0)), (1, .int x1), (2, .int x2)]) hx hb d_M_score_24 rfl hl (by decide) rfl (fun ls hl => ?_)
      refine lv_iconst (v := 0) hx hb d_M_score_25 (by decide) ?_
      refine lv_istore (lv' := [(4, .int (0 : Int32)), (3, .int (0 : Int32)), (0, .ref (A 0)), (1, .int x1), (2, .int x2)]) hx hb d_M_score_26 hl (by decide) rfl (fun ls hl => ?_)
      exact w_M_score_28 E hA kr FU x1 x2 (0 : Int32) (0 : Int32) st _ _ _ h I (lv_sub hl [2, 3, 4, 1, 0] rfl)
    · have h := ifn c19 h
      refine lv_iconst (v := -1) hx hb d_M_score_21 (by decide) ?_
      cases h
      exact kr _ _ _ _ I d_M_score_22
set_option maxHeartbeats 4000000 in
set_option maxRecDepth 100000 in
theorem w_M_score  {r : Int32} {t : CS} (E : EC R_M c_M_score 5 p s m args c D (tyL cs)) (hA : ∀ q, H0.size ≤ q → A0 q) (kr : ∀ (H : Heap) (locs : List Loc) (pc : Nat) (ls : Array Slot), IW D (cwC A cs t) A0 H0 H locs → decode c_M_score pc = .ok (.ireturn, 1) → W p l e rm_M_score s m args below meth c H locs 0 0 Q (F0 m pc ls [.int r])) : ∀ (x1 : Int32) (x2 : Int32) (st : CS) (H : Heap) (locs : List Loc) (ls : Array Slot), f_M_score x1 x2 st = some (r, t) → IW D (cwC A cs st) A0 H0 H locs → lv_has ls 5 [(0, .ref (A 0)), (1, .int x1), (2, .int x2)] → W p l e rm_M_score s m args below meth c H locs 0 0 Q (F0 m 0 ls []) := by
  intro x1 x2 st H locs ls h I hl
  have hx := E.1
  have hb := E.2.1
  rw [f_M_score] at h
  refine lv_iload_n hx hb d_M_score_0 rfl (lv_at hl 1 rfl) ?_
  refine lv_iconst (v := -1) hx hb d_M_score_1 (by decide) ?_
  refine lv_icmp_eq (tgt := 12) hx hb d_M_score_2 (by decide) (fun c20 => ?_) (fun c20 => ?_)
  · have h := ifp c20 h
    exact w_M_score_12 E hA kr x1 x2 st _ _ _ h I (lv_sub hl [0, 1, 2] rfl)
  · have h := ifn c20 h
    refine lv_iload_n hx hb d_M_score_5 rfl (lv_at hl 1 rfl) ?_
    obtain ⟨r22, st21, h23, h⟩ := bd_some h
    refine cS (As := [.int x1]) (rest := []) E I hA (k_M_isMutantKind h23) g_M_78 ⟨rfl, rfl⟩ rfl hl rfl (Nat.le_of_ble_eq_true rfl) ⟨Nat.le_of_ble_eq_true rfl, Nat.le_of_ble_eq_true rfl⟩ ⟨Nat.zero_le _, Nat.zero_le _⟩ d_M_score_6 rfl (fun H locs I => ?_)
    refine lv_if_eq (tgt := 21) hx hb d_M_score_9 (by decide) (fun c24 => ?_) (fun c24 => ?_)
    · have h := ifp c24 h
      refine lv_iconst (v := -1) hx hb d_M_score_21 (by decide) ?_
      cases h
      exact kr _ _ _ _ I d_M_score_22
    · have h := ifn c24 h
      exact w_M_score_12 E hA kr x1 x2 st21 _ _ _ h I (lv_sub hl [0, 1, 2] rfl)
set_option maxHeartbeats 4000000 in
set_option maxRecDepth 100000 in
theorem k_M_score {x1 : Int32} {x2 : Int32} {st t : CS} {r : Int32} (h : f_M_score x1 x2 st = some (r, t)) : Cn l y_M_score c_M_score 5 (some .int) rm_M_score D (tyL cs) (cwC A cs st) (cwC A cs t) [.ref (A 0), .int x1, .int x2] (some (.int r)) := by
  refine cn_intro (by decide) (Nat.le_of_ble_eq_true rfl) ?_
  intro p e s m below meth c A0 Q ls E hr hlk hA hA0 hQ I hl
  exact w_M_score E hA (rt_i E hr hlk hA0 hQ) x1 x2 st _ _ _ h I (lv_sub hl [0, 1, 2] rfl)
end Mmc5
