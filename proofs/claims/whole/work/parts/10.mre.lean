section Mmr5
variable {p : Program} {l : Launch} {e : Env} {s : State} {m : MethodId} {args : Array Value} {below : List Frame} {meth : Method} {c : Code} {Q : State → Prop} {D : va_G} {A0 : Nat → Prop} {H0 : Heap} {A : Nat → Nat} {cs : ClassId × ClassId × ClassId}
abbrev rm_R_sample : Room := { frames := 1, cells := 0, slots := 0, locals := 25 }
noncomputable def f_R_sample_49 : Nat → Int32 → Int64 → Int32 → RS → Option (Int32 × RS)
  | 0, _, _, _, _ => none
  | n + 1, x3, x4, x6, st =>
    if x3 ≤ x6 then (
      nx (s_r_sampledMany st x3) fun st2 =>
      some ((1 : Int32), st2)
    ) else (
      nx ((x4 * (6364136223846793005 : Int64)) + (1442695040888963407 : Int64)) fun x4_3 =>
      dvl ((r_mutants st) - x6).toInt64 <|
      nx (x6 + ((x4_3.toUInt64 >>> ((33 : Int32).toInt64.toUInt64 &&& Int64.toUInt64 63)).toInt64 - (x4_3.toUInt64 >>> ((33 : Int32).toInt64.toUInt64 &&& Int64.toUInt64 63)).toInt64 / ((r_mutants st) - x6).toInt64 * ((r_mutants st) - x6).toInt64).toInt32) fun x7_5 =>
      ck x6 100 <|
      nx (r_sampleRow st x6.toNatClampNeg) fun x8_7 =>
      ck x7_5 100 <|
      ck x6 100 <|
      nx (s_r_sampleRow st x6.toNatClampNeg (r_sampleRow st x7_5.toNatClampNeg)) fun st10 =>
      ck x7_5 100 <|
      nx (s_r_sampleRow st10 x7_5.toNatClampNeg x8_7) fun st12 =>
      nx (x6 + 1) fun x6_13 =>
      f_R_sample_49 n x3 x4_3 x6_13 st12
    )
noncomputable def f_R_sample_19 : Nat → Int64 → Int32 → Int32 → RS → Option (Int32 × RS)
  | 0, _, _, _, _ => none
  | n + 1, x1, x3, x4, st =>
    if (r_mutants st) ≤ x4 then (
      f_R_sample_49 FU x3 x1 (0 : Int32) st
    ) else (
      ck x4 100 <|
      nx (s_r_sampleRow st x4.toNatClampNeg x4) fun st16 =>
      nx (x4 + 1) fun x4_17 =>
      f_R_sample_19 n x1 x3 x4_17 st16
    )
noncomputable def f_R_sample (x1 : Int64) (x3 : Int32) (st : RS) : Option (Int32 × RS) :=
  bd (f_R_in (x3.toInt64) (0 : Int64) ((r_mutants st).toInt64) st) fun r19 st18 =>
  if r19 = 0 then (
    some ((0 : Int32), st18)
  ) else (
    f_R_sample_19 FU x1 x3 (0 : Int32) st18
  )
set_option maxHeartbeats 4000000 in
set_option maxRecDepth 100000 in
theorem w_R_sample_49  {r : Int32} {t : RS} (E : EC R_R c_R_sample 9 p s m args c D (tyL cs)) (hA : ∀ q, H0.size ≤ q → A0 q) (kr : ∀ (H : Heap) (locs : List Loc) (pc : Nat) (ls : Array Slot), IW D (cwR A cs t) A0 H0 H locs → narrow .boolean (.int r) = .int r → decode c_R_sample pc = .ok (.ireturn, 1) → W p l e rm_R_sample s m args below meth c H locs 0 0 Q (F0 m pc ls [.int r])) : ∀ (n : Nat), ∀ (x3 : Int32) (x4 : Int64) (x6 : Int32) (st : RS) (H : Heap) (locs : List Loc) (ls : Array Slot), f_R_sample_49 n x3 x4 x6 st = some (r, t) → IW D (cwR A cs st) A0 H0 H locs → lv_has ls 9 [(0, .ref (A 0)), (3, .int x3), (4, .long x4), (6, .int x6)] → W p l e rm_R_sample s m args below meth c H locs 0 0 Q (F0 m 49 ls []) := by
  intro n
  induction n with
  | zero => intro x3 x4 x6 st H locs ls h I hl; cases h
  | succ n ih =>
    intro x3 x4 x6 st H locs ls h I hl
    have hx := E.1
    have hb := E.2.1
    rw [f_R_sample_49] at h
    refine lv_iload hx hb d_R_sample_49 (lv_at hl 3 rfl) ?_
    refine lv_iload_n hx hb d_R_sample_51 rfl (lv_at hl 1 rfl) ?_
    refine lv_icmp_ge (tgt := 125) hx hb d_R_sample_52 (by decide) (fun c1 => ?_) (fun c1 => ?_)
    · have h := ifp c1 h
      refine lv_aload_n hx hb d_R_sample_125 rfl (lv_at hl 0 rfl) ?_
      refine lv_iload_n hx hb d_R_sample_126 rfl (lv_at hl 1 rfl) ?_
      obtain ⟨st2, est2⟩ : ∃ y : RS, y = (s_r_sampledMany st x3) := ⟨_, rfl⟩
      have h := nx_k est2 h
      refine p_r_sampledMany E I est2 k_R_221 d_R_sample_127 (fun H locs I => ?_)
      refine lv_iconst (v := 1) hx hb d_R_sample_130 (by decide) ?_
      cases h
      exact kr _ _ _ _ I (by decide) d_R_sample_131
    · have h := ifn c1 h
      refine lv_lload hx hb d_R_sample_55 (lv_at hl 2 rfl) ?_
      refine lv_ldc2 (v := 6364136223846793005) hx hb E.2.2.2.1 (E.2.2.2.2.1 _ kl_R_217) d_R_sample_57 ?_
      refine lv_lmul hx hb d_R_sample_60 ?_
      refine lv_ldc2 (v := 1442695040888963407) hx hb E.2.2.2.1 (E.2.2.2.2.1 _ kl_R_219) d_R_sample_61 ?_
      refine lv_ladd hx hb d_R_sample_64 ?_
      refine lv_topl (fun x4_3 ex4_3 => ?_)
      have h := nx_k ex4_3 h
      refine lv_lstore (lv' := [(4, .long x4_3), (0, .ref (A 0)), (3, .int x3), (6, .int x6)]) hx hb d_R_sample_65 hl (by decide) rfl (fun ls hl => ?_)
      refine lv_iload hx hb d_R_sample_67 (lv_at hl 3 rfl) ?_
      refine lv_lload hx hb d_R_sample_69 (lv_at hl 0 rfl) ?_
      refine lv_bipush (v := 33) hx hb d_R_sample_71 (by decide) ?_
      refine lv_lushr hx hb d_R_sample_73 rfl ?_
      refine lv_aload_n hx hb d_R_sample_74 rfl (lv_at hl 1 rfl) ?_
      refine g_r_mutants E I k_R_101 d_R_sample_75 ?_
      refine lv_iload hx hb d_R_sample_78 (lv_at hl 3 rfl) ?_
      refine lv_isub hx hb d_R_sample_80 ?_
      refine lv_i2l hx hb d_R_sample_81 rfl ?_
      obtain ⟨b4, h⟩ := dvl_some h
      refine lv_lrem hx hb d_R_sample_82 b4 ?_
      refine lv_l2i hx hb d_R_sample_83 rfl ?_
      refine lv_iadd hx hb d_R_sample_84 ?_
      refine lv_topi (fun x7_5 ex7_5 => ?_)
      have h := nx_k ex7_5 h
      refine lv_istore (lv' := [(7, .int x7_5), (4, .long x4_3), (0, .ref (A 0)), (3, .int x3), (6, .int x6)]) hx hb d_R_sample_85 hl (by decide) rfl (fun ls hl => ?_)
      refine lv_aload_n hx hb d_R_sample_87 rfl (lv_at hl 2 rfl) ?_
      refine g_rR_sampleRow E I k_R_60 d_R_sample_88 ?_
      refine lv_iload hx hb d_R_sample_91 (lv_at hl 4 rfl) ?_
      obtain ⟨b6, h⟩ := ck_some h
      refine l_r_sampleRow E I b6 d_R_sample_93 ?_
      refine lv_topi (fun x8_7 ex8_7 => ?_)
      have h := nx_k ex8_7 h
      refine lv_istore (lv' := [(8, .int x8_7), (7, .int x7_5), (4, .long x4_3), (0, .ref (A 0)), (3, .int x3), (6, .int x6)]) hx hb d_R_sample_94 hl (by decide) rfl (fun ls hl => ?_)
      refine lv_aload_n hx hb d_R_sample_96 rfl (lv_at hl 3 rfl) ?_
      refine g_rR_sampleRow E I k_R_60 d_R_sample_97 ?_
      refine lv_iload hx hb d_R_sample_100 (lv_at hl 5 rfl) ?_
      refine lv_aload_n hx hb d_R_sample_102 rfl (lv_at hl 3 rfl) ?_
      refine g_rR_sampleRow E I k_R_60 d_R_sample_103 ?_
      refine lv_iload hx hb d_R_sample_106 (lv_at hl 1 rfl) ?_
      obtain ⟨b8, h⟩ := ck_some h
      refine l_r_sampleRow E I b8 d_R_sample_108 ?_
      obtain ⟨b9, h⟩ := ck_some h
      obtain ⟨st10, est10⟩ : ∃ y : RS, y = (s_r_sampleRow st x6.toNatClampNeg (r_sampleRow st x7_5.toNatClampNeg)) := ⟨_, rfl⟩
      have h := nx_k est10 h
      refine p_r_sampleRow E I b9 est10 d_R_sample_109 (fun H locs I => ?_)
      refine lv_aload_n hx hb d_R_sample_110 rfl (lv_at hl 3 rfl) ?_
      refine g_rR_sampleRow E I k_R_60 d_R_sample_111 ?_
      refine lv_iload hx hb d_R_sample_114 (lv_at hl 1 rfl) ?_
      refine lv_iload hx hb d_R_sample_116 (lv_at hl 0 rfl) ?_
      obtain ⟨b11, h⟩ := ck_some h
      obtain ⟨st12, est12⟩ : ∃ y : RS, y = (s_r_sampleRow st10 x7_5.toNatClampNeg x8_7) := ⟨_, rfl⟩
      have h := nx_k est12 h
      refine p_r_sampleRow E I b11 est12 d_R_sample_118 (fun H locs I => ?_)
      obtain ⟨x6_13, ex6_13⟩ : ∃ y : Int32, y = (x6 + 1) := ⟨_, rfl⟩
      have h := nx_k ex6_13 h
      refine lv_iinc (v := x6_13) (lv' := [(6, .int x6_13), (8, .int x8_7), (7, .int x7_5), (4, .long x4_3), (0, .ref (A 0)), (3, .int x3)]) hx hb d_R_sample_119 hl (k := 5) rfl (by rw [ex6_13]; rfl) (by decide) rfl (fun ls hl => ?_)
      refine lv_goto (tgt := 49) hx hb d_R_sample_122 (by decide) ?_
      exact ih x3 x4_3 x6_13 st12 _ _ _ h I (lv_sub hl [4, 5, 3, 0] rfl)
set_option maxHeartbeats 4000000 in
set_option maxRecDepth 100000 in
theorem w_R_sample_19  {r : Int32} {t : RS} (E : EC R_R c_R_sample 9 p s m args c D (tyL cs)) (hA : ∀ q, H0.size ≤ q → A0 q) (kr : ∀ (H : Heap) (locs : List Loc) (pc : Nat) (ls : Array Slot), IW D (cwR A cs t) A0 H0 H locs → narrow .boolean (.int r) = .int r → decode c_R_sample pc = .ok (.ireturn, 1) → W p l e rm_R_sample s m args below meth c H locs 0 0 Q (F0 m pc ls [.int r])) : ∀ (n : Nat), ∀ (x1 : Int64) (x3 : Int32) (x4 : Int32) (st : RS) (H : Heap) (locs : List Loc) (ls : Array Slot), f_R_sample_19 n x1 x3 x4 st = some (r, t) → IW D (cwR A cs st) A0 H0 H locs → lv_has ls 9 [(0, .ref (A 0)), (1, .long x1), (3, .int x3), (4, .int x4)] → W p l e rm_R_sample s m args below meth c H locs 0 0 Q (F0 m 19 ls []) := by
  intro n
  induction n with
  | zero => intro x1 x3 x4 st H locs ls h I hl; cases h
  | succ n ih =>
    intro x1 x3 x4 st H locs ls h I hl
    have hx := E.1
    have hb := E.2.1
    rw [f_R_sample_19] at h
    refine lv_iload hx hb d_R_sample_19 (lv_at hl 3 rfl) ?_
    refine lv_aload_n hx hb d_R_sample_21 rfl (lv_at hl 0 rfl) ?_
    refine g_r_mutants E I k_R_101 d_R_sample_22 ?_
    refine lv_icmp_ge (tgt := 43) hx hb d_R_sample_25 (by decide) (fun c14 => ?_) (fun c14 => ?_)
    · have h := ifp c14 h
      refine lv_lload_n hx hb d_R_sample_43 rfl (lv_at hl 1 rfl) ?_
      refine lv_lstore (lv' := [(4, .long x1), (0, .ref (A 0)), (1, .long x1), (3, .int x3)]) hx hb d_R_sample_44 hl (by decide) rfl (fun ls hl => ?_)
      refine lv_iconst (v := 0) hx hb d_R_sample_46 (by decide) ?_
      refine lv_istore (lv' := [(6, .int (0 : Int32)), (4, .long x1), (0, .ref (A 0)), (1, .long x1), (3, .int x3)]) hx hb d_R_sample_47 hl (by decide) rfl (fun ls hl => ?_)
      exact w_R_sample_49 E hA kr FU x3 x1 (0 : Int32) st _ _ _ h I (lv_sub hl [2, 4, 1, 0] rfl)
    · have h := ifn c14 h
      refine lv_aload_n hx hb d_R_sample_28 rfl (lv_at hl 0 rfl) ?_
      refine g_rR_sampleRow E I k_R_60 d_R_sample_29 ?_
      refine lv_iload hx hb d_R_sample_32 (lv_at hl 3 rfl) ?_
      refine lv_iload hx hb d_R_sample_34 (lv_at hl 3 rfl) ?_
      obtain ⟨b15, h⟩ := ck_some h
      obtain ⟨st16, est16⟩ : ∃ y : RS, y = (s_r_sampleRow st x4.toNatClampNeg x4) := ⟨_, rfl⟩
      have h := nx_k est16 h
      refine p_r_sampleRow E I b15 est16 d_R_sample_36 (fun H locs I => ?_)
      obtain ⟨x4_17, ex4_17⟩ : ∃ y : Int32, y = (x4 + 1) := ⟨_, rfl⟩
      have h := nx_k ex4_17 h
      refine lv_iinc (v := x4_17) (lv' := [(4, .int x4_17), (0, .ref (A 0)), (1, .long x1), (3, .int x3)]) hx hb d_R_sample_37 hl (k := 3) rfl (by rw [ex4_17]; rfl) (by decide) rfl (fun ls hl => ?_)
      refine lv_goto (tgt := 19) hx hb d_R_sample_40 (by decide) ?_
      exact ih x1 x3 x4_17 st16 _ _ _ h I (lv_sub hl [1, 2, 3, 0] rfl)
set_option maxHeartbeats 4000000 in
set_option maxRecDepth 100000 in
theorem w_R_sample  {r : Int32} {t : RS} (E : EC R_R c_R_sample 9 p s m args c D (tyL cs)) (hA : ∀ q, H0.size ≤ q → A0 q) (kr : ∀ (H : Heap) (locs : List Loc) (pc : Nat) (ls : Array Slot), IW D (cwR A cs t) A0 H0 H locs → narrow .boolean (.int r) = .int r → decode c_R_sample pc = .ok (.ireturn, 1) → W p l e rm_R_sample s m args below meth c H locs 0 0 Q (F0 m pc ls [.int r])) : ∀ (x1 : Int64) (x3 : Int32) (st : RS) (H : Heap) (locs : List Loc) (ls : Array Slot), f_R_sample x1 x3 st = some (r, t) → IW D (cwR A cs st) A0 H0 H locs → lv_has ls 9 [(0, .ref (A 0)), (1, .long x1), (3, .int x3)] → W p l e rm_R_sample s m args below meth c H locs 0 0 Q (F0 m 0 ls []) := by
  intro x1 x3 st H locs ls h I hl
  have hx := E.1
  have hb := E.2.1
  rw [f_R_sample] at h
  refine lv_iload_n hx hb d_R_sample_0 rfl (lv_at hl 2 rfl) ?_
  refine lv_i2l hx hb d_R_sample_1 rfl ?_
  refine lv_lconst (v := 0) hx hb d_R_sample_2 (by decide) ?_
  refine lv_aload_n hx hb d_R_sample_3 rfl (lv_at hl 0 rfl) ?_
  refine g_r_mutants E I k_R_101 d_R_sample_4 ?_
  refine lv_i2l hx hb d_R_sample_7 rfl ?_
  obtain ⟨r19, st18, h20, h⟩ := bd_some h
  refine cS (As := [.long x3.toInt64, .long (0 : Int64), .long (r_mutants st).toInt64]) (rest := []) E I hA (k_R_in h20) g_R_94 ⟨rfl, rfl⟩ rfl hl rfl (Nat.le_of_ble_eq_true rfl) ⟨Nat.le_of_ble_eq_true rfl, Nat.le_of_ble_eq_true rfl⟩ ⟨Nat.zero_le _, Nat.zero_le _⟩ d_R_sample_8 rfl (fun H locs I => ?_)
  refine lv_if_ne (tgt := 16) hx hb d_R_sample_11 (by decide) (fun c21 => ?_) (fun c21 => ?_)
  · have h := ifn c21 h
    refine lv_iconst (v := 0) hx hb d_R_sample_16 (by decide) ?_
    refine lv_istore (lv' := [(4, .int (0 : Int32)), (0, .ref (A 0)), (1, .long x1), (3, .int x3)]) hx hb d_R_sample_17 hl (by decide) rfl (fun ls hl => ?_)
    exact w_R_sample_19 E hA kr FU x1 x3 (0 : Int32) st18 _ _ _ h I (lv_sub hl [1, 2, 3, 0] rfl)
  · have h := ifp c21 h
    refine lv_iconst (v := 0) hx hb d_R_sample_14 (by decide) ?_
    cases h
    exact kr _ _ _ _ I (by decide) d_R_sample_15
set_option maxHeartbeats 4000000 in
set_option maxRecDepth 100000 in
theorem k_R_sample {x1 : Int64} {x3 : Int32} {st t : RS} {r : Int32} (h : f_R_sample x1 x3 st = some (r, t)) : Cn l y_R_sample c_R_sample 9 (some .boolean) rm_R_sample D (tyL cs) (cwR A cs st) (cwR A cs t) [.ref (A 0), .long x1, .int x3] (some (.int r)) := by
  refine cn_intro (by decide) (Nat.le_of_ble_eq_true rfl) ?_
  intro p e s m below meth c A0 Q ls E hr hlk hA hA0 hQ I hl
  exact w_R_sample E hA (rt_z E hr hlk hA0 hQ) x1 x3 st _ _ _ h I (lv_sub hl [0, 1, 2] rfl)
abbrev rm_R_sampled : Room := { frames := 1, cells := 0, slots := 0, locals := 25 }
noncomputable def f_R_sampled (x1 : Int32) (st : RS) : Option (Int32 × RS) :=
  bd (f_R_in (x1.toInt64) (0 : Int64) (((r_sampledMany st) - (1 : Int32)).toInt64) st) fun r2 st1 =>
  if r2 = 0 then (
    some ((-1 : Int32), st1)
  ) else (
    ck x1 100 <|
    some ((r_sampleRow st1 x1.toNatClampNeg), st1)
  )
set_option maxHeartbeats 4000000 in
set_option maxRecDepth 100000 in
theorem w_R_sampled  {r : Int32} {t : RS} (E : EC R_R c_R_sampled 2 p s m args c D (tyL cs)) (hA : ∀ q, H0.size ≤ q → A0 q) (kr : ∀ (H : Heap) (locs : List Loc) (pc : Nat) (ls : Array Slot), IW D (cwR A cs t) A0 H0 H locs → decode c_R_sampled pc = .ok (.ireturn, 1) → W p l e rm_R_sampled s m args below meth c H locs 0 0 Q (F0 m pc ls [.int r])) : ∀ (x1 : Int32) (st : RS) (H : Heap) (locs : List Loc) (ls : Array Slot), f_R_sampled x1 st = some (r, t) → IW D (cwR A cs st) A0 H0 H locs → lv_has ls 2 [(0, .ref (A 0)), (1, .int x1)] → W p l e rm_R_sampled s m args below meth c H locs 0 0 Q (F0 m 0 ls []) := by
  intro x1 st H locs ls h I hl
  have hx := E.1
  have hb := E.2.1
  rw [f_R_sampled] at h
  refine lv_iload_n hx hb d_R_sampled_0 rfl (lv_at hl 1 rfl) ?_
  refine lv_i2l hx hb d_R_sampled_1 rfl ?_
  refine lv_lconst (v := 0) hx hb d_R_sampled_2 (by decide) ?_
  refine lv_aload_n hx hb d_R_sampled_3 rfl (lv_at hl 0 rfl) ?_
  refine g_r_sampledMany E I k_R_221 d_R_sampled_4 ?_
  refine lv_iconst (v := 1) hx hb d_R_sampled_7 (by decide) ?_
  refine lv_isub hx hb d_R_sampled_8 ?_
  refine lv_i2l hx hb d_R_sampled_9 rfl ?_
  obtain ⟨r2, st1, h3, h⟩ := bd_some h
  refine cS (As := [.long x1.toInt64, .long (0 : Int64), .long ((r_sampledMany st) - (1 : Int32)).toInt64]) (rest := []) E I hA (k_R_in h3) g_R_94 ⟨rfl, rfl⟩ rfl hl rfl (Nat.le_of_ble_eq_true rfl) ⟨Nat.le_of_ble_eq_true rfl, Nat.le_of_ble_eq_true rfl⟩ ⟨Nat.zero_le _, Nat.zero_le _⟩ d_R_sampled_10 rfl (fun H locs I => ?_)
  refine lv_if_eq (tgt := 25) hx hb d_R_sampled_13 (by decide) (fun c4 => ?_) (fun c4 => ?_)
  · have h := ifp c4 h
    refine lv_iconst (v := -1) hx hb d_R_sampled_25 (by decide) ?_
    cases h
    exact kr _ _ _ _ I d_R_sampled_26
  · have h := ifn c4 h
    refine lv_aload_n hx hb d_R_sampled_16 rfl (lv_at hl 0 rfl) ?_
    refine g_rR_sampleRow E I k_R_60 d_R_sampled_17 ?_
    refine lv_iload_n hx hb d_R_sampled_20 rfl (lv_at hl 1 rfl) ?_
    obtain ⟨b5, h⟩ := ck_some h
    refine l_r_sampleRow E I b5 d_R_sampled_21 ?_
    refine lv_goto (tgt := 26) hx hb d_R_sampled_22 (by decide) ?_
    cases h
    exact kr _ _ _ _ I d_R_sampled_26
set_option maxHeartbeats 4000000 in
set_option maxRecDepth 100000 in
theorem k_R_sampled {x1 : Int32} {st t : RS} {r : Int32} (h : f_R_sampled x1 st = some (r, t)) : Cn l y_R_sampled c_R_sampled 2 (some .int) rm_R_sampled D (tyL cs) (cwR A cs st) (cwR A cs t) [.ref (A 0), .int x1] (some (.int r)) := by
  refine cn_intro (by decide) (Nat.le_of_ble_eq_true rfl) ?_
  intro p e s m below meth c A0 Q ls E hr hlk hA hA0 hQ I hl
  exact w_R_sampled E hA (rt_i E hr hlk hA0 hQ) x1 st _ _ _ h I (lv_sub hl [0, 1] rfl)
abbrev rm_R_score : Room := { frames := 3, cells := 0, slots := 0, locals := 69 }
noncomputable def f_R_score_131 (k33 : Int32 → Int32 → Int32 → Int32 → RS → Option (Int32 × RS)) (x1 : Int32) (x2 : Int32) (x3 : Int32) (x4 : Int32) (s0 : Int32) (st : RS) : Option (Int32 × RS) :=
  if s0 = 0 then (
    nx (x3 + (0 : Int32)) fun x3_2 =>
    nx (x4 + 1) fun x4_3 =>
    k33 x1 x2 x3_2 x4_3 st
  ) else (
    nx (x3 + (1 : Int32)) fun x3_4 =>
    nx (x4 + 1) fun x4_5 =>
    k33 x1 x2 x3_4 x4_5 st
  )
noncomputable def f_R_score_61 (k33 : Int32 → Int32 → Int32 → Int32 → RS → Option (Int32 × RS)) (x1 : Int32) (x2 : Int32) (x3 : Int32) (x4 : Int32) (st : RS) : Option (Int32 × RS) :=
  if x2 = 0 then (
    ck x4 100 <|
    if (r_outcome st x4.toNatClampNeg) ≤ 0 then (
      f_R_score_131 k33 x1 x2 x3 x4 (0 : Int32) st
    ) else (
      f_R_score_131 k33 x1 x2 x3 x4 (1 : Int32) st
    )
  ) else (
    if x2 = (1 : Int32) then (
      ck x4 100 <|
      if (r_outcome st x4.toNatClampNeg) = (-1 : Int32) then (
        f_R_score_131 k33 x1 x2 x3 x4 (0 : Int32) st
      ) else (
        f_R_score_131 k33 x1 x2 x3 x4 (1 : Int32) st
      )
    ) else (
      ck x4 100 <|
      if (r_outcome st x4.toNatClampNeg) = 0 then (
        bd (f_R_isProved x4 st) fun r11 st10 =>
        if r11 = 0 then (
          f_R_score_131 k33 x1 x2 x3 x4 (1 : Int32) st10
        ) else (
          f_R_score_131 k33 x1 x2 x3 x4 (0 : Int32) st10
        )
      ) else (
        f_R_score_131 k33 x1 x2 x3 x4 (0 : Int32) st
      )
    )
  )
noncomputable def f_R_score_33 : Nat → Int32 → Int32 → Int32 → Int32 → RS → Option (Int32 × RS)
  | 0, _, _, _, _, _ => none
  | n + 1, x1, x2, x3, x4, st =>
    if (r_mutants st) ≤ x4 then (
      some (x3, st)
    ) else (
      if x1 = (-1 : Int32) then (
        f_R_score_61 (f_R_score_33 n) x1 x2 x3 x4 st
      ) else (
        ck x4 100 <|
        if (r_kindM st x4.toNatClampNeg) = x1 then (
          f_R_score_61 (f_R_score_33 n) x1 x2 x3 x4 st
        ) else (
          nx (x4 + 1) fun x4_22 =>
          f_R_score_33 n x1 x2 x3 x4_22 st
        )
      )
    )
noncomputable def f_R_score (x1 : Int32) (x2 : Int32) (st : RS) : Option (Int32 × RS) :=
  bd (f_R_in (x1.toInt64) (-1 : Int64) (5 : Int64) st) fun r24 st23 =>
  if r24 = 0 then (
    some ((-1 : Int32), st23)
  ) else (
    bd (f_R_in (x2.toInt64) (0 : Int64) (2 : Int64) st23) fun r28 st27 =>
    if r28 = 0 then (
      some ((-1 : Int32), st27)
    ) else (
      f_R_score_33 FU x1 x2 (0 : Int32) (0 : Int32) st27
    )
  )
set_option maxHeartbeats 4000000 in
set_option maxRecDepth 100000 in
theorem w_R_score_131  {r : Int32} {t : RS} (E : EC R_R c_R_score 6 p s m args c D (tyL cs)) (hA : ∀ q, H0.size ≤ q → A0 q) (kr : ∀ (H : Heap) (locs : List Loc) (pc : Nat) (ls : Array Slot), IW D (cwR A cs t) A0 H0 H locs → decode c_R_score pc = .ok (.ireturn, 1) → W p l e rm_R_score s m args below meth c H locs 0 0 Q (F0 m pc ls [.int r])) {k33 : Int32 → Int32 → Int32 → Int32 → RS → Option (Int32 × RS)} (hk33 : ∀ (x1 : Int32) (x2 : Int32) (x3 : Int32) (x4 : Int32) (st : RS) (H : Heap) (locs : List Loc) (ls : Array Slot), k33 x1 x2 x3 x4 st = some (r, t) → IW D (cwR A cs st) A0 H0 H locs → lv_has ls 6 [(0, .ref (A 0)), (1, .int x1), (2, .int x2), (3, .int x3), (4, .int x4)] → W p l e rm_R_score s m args below meth c H locs 0 0 Q (F0 m 33 ls [])) : ∀ (x1 : Int32) (x2 : Int32) (x3 : Int32) (x4 : Int32) (s0 : Int32) (st : RS) (H : Heap) (locs : List Loc) (ls : Array Slot), f_R_score_131 k33 x1 x2 x3 x4 s0 st = some (r, t) → IW D (cwR A cs st) A0 H0 H locs → lv_has ls 6 [(0, .ref (A 0)), (1, .int x1), (2, .int x2), (3, .int x3), (4, .int x4)] → W p l e rm_R_score s m args below meth c H locs 0 0 Q (F0 m 131 ls [.int s0]) := by
  intro x1 x2 x3 x4 s0 st H locs ls h I hl
  have hx := E.1
  have hb := E.2.1
  rw [f_R_score_131] at h
  refine lv_istore (lv' := [(5, .int s0), (0, .ref (A 0)), (1, .int x1), (2, .int x2), (3, .int x3), (4, .int x4)]) hx hb d_R_score_131 hl (by decide) rfl (fun ls hl => ?_)
  refine lv_iload_n hx hb d_R_score_133 rfl (lv_at hl 4 rfl) ?_
  refine lv_iload hx hb d_R_score_134 (lv_at hl 0 rfl) ?_
  refine lv_if_eq (tgt := 143) hx hb d_R_score_136 (by decide) (fun c1 => ?_) (fun c1 => ?_)
  · have h := ifp c1 h
    refine lv_iconst (v := 0) hx hb d_R_score_143 (by decide) ?_
    refine lv_iadd hx hb d_R_score_144 ?_
    refine lv_topi (fun x3_2 ex3_2 => ?_)
    have h := nx_k ex3_2 h
    refine lv_istore_n (lv' := [(3, .int x3_2), (5, .int s0), (0, .ref (A 0)), (1, .int x1), (2, .int x2), (4, .int x4)]) hx hb d_R_score_145 rfl hl (by decide) rfl (fun ls hl => ?_)
    obtain ⟨x4_3, ex4_3⟩ : ∃ y : Int32, y = (x4 + 1) := ⟨_, rfl⟩
    have h := nx_k ex4_3 h
    refine lv_iinc (v := x4_3) (lv' := [(4, .int x4_3), (3, .int x3_2), (5, .int s0), (0, .ref (A 0)), (1, .int x1), (2, .int x2)]) hx hb d_R_score_146 hl (k := 5) rfl (by rw [ex4_3]; rfl) (by decide) rfl (fun ls hl => ?_)
    refine lv_goto (tgt := 33) hx hb d_R_score_149 (by decide) ?_
    exact hk33 x1 x2 x3_2 x4_3 st _ _ _ h I (lv_sub hl [3, 4, 5, 1, 0] rfl)
  · have h := ifn c1 h
    refine lv_iconst (v := 1) hx hb d_R_score_139 (by decide) ?_
    refine lv_goto (tgt := 144) hx hb d_R_score_140 (by decide) ?_
    refine lv_iadd hx hb d_R_score_144 ?_
    refine lv_topi (fun x3_4 ex3_4 => ?_)
    have h := nx_k ex3_4 h
    refine lv_istore_n (lv' := [(3, .int x3_4), (5, .int s0), (0, .ref (A 0)), (1, .int x1), (2, .int x2), (4, .int x4)]) hx hb d_R_score_145 rfl hl (by decide) rfl (fun ls hl => ?_)
    obtain ⟨x4_5, ex4_5⟩ : ∃ y : Int32, y = (x4 + 1) := ⟨_, rfl⟩
    have h := nx_k ex4_5 h
    refine lv_iinc (v := x4_5) (lv' := [(4, .int x4_5), (3, .int x3_4), (5, .int s0), (0, .ref (A 0)), (1, .int x1), (2, .int x2)]) hx hb d_R_score_146 hl (k := 5) rfl (by rw [ex4_5]; rfl) (by decide) rfl (fun ls hl => ?_)
    refine lv_goto (tgt := 33) hx hb d_R_score_149 (by decide) ?_
    exact hk33 x1 x2 x3_4 x4_5 st _ _ _ h I (lv_sub hl [3, 4, 5, 1, 0] rfl)
set_option maxHeartbeats 4000000 in
set_option maxRecDepth 100000 in
theorem w_R_score_61  {r : Int32} {t : RS} (E : EC R_R c_R_score 6 p s m args c D (tyL cs)) (hA : ∀ q, H0.size ≤ q → A0 q) (kr : ∀ (H : Heap) (locs : List Loc) (pc : Nat) (ls : Array Slot), IW D (cwR A cs t) A0 H0 H locs → decode c_R_score pc = .ok (.ireturn, 1) → W p l e rm_R_score s m args below meth c H locs 0 0 Q (F0 m pc ls [.int r])) {k33 : Int32 → Int32 → Int32 → Int32 → RS → Option (Int32 × RS)} (hk33 : ∀ (x1 : Int32) (x2 : Int32) (x3 : Int32) (x4 : Int32) (st : RS) (H : Heap) (locs : List Loc) (ls : Array Slot), k33 x1 x2 x3 x4 st = some (r, t) → IW D (cwR A cs st) A0 H0 H locs → lv_has ls 6 [(0, .ref (A 0)), (1, .int x1), (2, .int x2), (3, .int x3), (4, .int x4)] → W p l e rm_R_score s m args below meth c H locs 0 0 Q (F0 m 33 ls [])) : ∀ (x1 : Int32) (x2 : Int32) (x3 : Int32) (x4 : Int32) (st : RS) (H : Heap) (locs : List Loc) (ls : Array Slot), f_R_score_61 k33 x1 x2 x3 x4 st = some (r, t) → IW D (cwR A cs st) A0 H0 H locs → lv_has ls 6 [(0, .ref (A 0)), (1, .int x1), (2, .int x2), (3, .int x3), (4, .int x4)] → W p l e rm_R_score s m args below meth c H locs 0 0 Q (F0 m 61 ls []) := by
  intro x1 x2 x3 x4 st H locs ls h I hl
  have hx := E.1
  have hb := E.2.1
  rw [f_R_score_61] at h
  refine lv_iload_n hx hb d_R_score_61 rfl (lv_at hl 2 rfl) ?_
  refine lv_if_ne (tgt := 83) hx hb d_R_score_62 (by decide) (fun c6 => ?_) (fun c6 => ?_)
  · have h := ifn c6 h
    refine lv_iload_n hx hb d_R_score_83 rfl (lv_at hl 2 rfl) ?_
    refine lv_iconst (v := 1) hx hb d_R_score_84 (by decide) ?_
    refine lv_icmp_ne (tgt := 107) hx hb d_R_score_85 (by decide) (fun c7 => ?_) (fun c7 => ?_)
    · have h := ifn c7 h
      refine lv_aload_n hx hb d_R_score_107 rfl (lv_at hl 0 rfl) ?_
      refine g_rR_outcome E I k_R_54 d_R_score_108 ?_
      refine lv_iload hx hb d_R_score_111 (lv_at hl 4 rfl) ?_
      obtain ⟨b8, h⟩ := ck_some h
      refine l_r_outcome E I b8 d_R_score_113 ?_
      refine lv_if_ne (tgt := 130) hx hb d_R_score_114 (by decide) (fun c9 => ?_) (fun c9 => ?_)
      · have h := ifn c9 h
        refine lv_iconst (v := 0) hx hb d_R_score_130 (by decide) ?_
        exact w_R_score_131 E hA kr hk33 x1 x2 x3 x4 (0 : Int32) st _ _ _ h I (lv_sub hl [0, 1, 2, 3, 4] rfl)
      · have h := ifp c9 h
        refine lv_aload_n hx hb d_R_score_117 rfl (lv_at hl 0 rfl) ?_
        refine lv_iload hx hb d_R_score_118 (lv_at hl 4 rfl) ?_
        obtain ⟨r11, st10, h12, h⟩ := bd_some h
        refine cV (As := [.int x4]) (rest := []) E I hA (k_R_isProved h12) g_R_197 ⟨rfl, rfl⟩ 0 rfl rfl rfl hl rfl (Nat.le_of_ble_eq_true rfl) ⟨Nat.le_of_ble_eq_true rfl, Nat.le_of_ble_eq_true rfl⟩ ⟨Nat.zero_le _, Nat.zero_le _⟩ d_R_score_120 rfl (fun H locs I => ?_)
        refine lv_if_ne (tgt := 130) hx hb d_R_score_123 (by decide) (fun c13 => ?_) (fun c13 => ?_)
        · have h := ifn c13 h
          refine lv_iconst (v := 0) hx hb d_R_score_130 (by decide) ?_
          exact w_R_score_131 E hA kr hk33 x1 x2 x3 x4 (0 : Int32) st10 _ _ _ h I (lv_sub hl [0, 1, 2, 3, 4] rfl)
        · have h := ifp c13 h
          refine lv_iconst (v := 1) hx hb d_R_score_126 (by decide) ?_
          refine lv_goto (tgt := 131) hx hb d_R_score_127 (by decide) ?_
          exact w_R_score_131 E hA kr hk33 x1 x2 x3 x4 (1 : Int32) st10 _ _ _ h I (lv_sub hl [0, 1, 2, 3, 4] rfl)
    · have h := ifp c7 h
      refine lv_aload_n hx hb d_R_score_88 rfl (lv_at hl 0 rfl) ?_
      refine g_rR_outcome E I k_R_54 d_R_score_89 ?_
      refine lv_iload hx hb d_R_score_92 (lv_at hl 4 rfl) ?_
      obtain ⟨b14, h⟩ := ck_some h
      refine l_r_outcome E I b14 d_R_score_94 ?_
      refine lv_iconst (v := -1) hx hb d_R_score_95 (by decide) ?_
      refine lv_icmp_eq (tgt := 103) hx hb d_R_score_96 (by decide) (fun c15 => ?_) (fun c15 => ?_)
      · have h := ifp c15 h
        refine lv_iconst (v := 0) hx hb d_R_score_103 (by decide) ?_
        refine lv_goto (tgt := 131) hx hb d_R_score_104 (by decide) ?_
        exact w_R_score_131 E hA kr hk33 x1 x2 x3 x4 (0 : Int32) st _ _ _ h I (lv_sub hl [0, 1, 2, 3, 4] rfl)
      · have h := ifn c15 h
        refine lv_iconst (v := 1) hx hb d_R_score_99 (by decide) ?_
        refine lv_goto (tgt := 131) hx hb d_R_score_100 (by decide) ?_
        exact w_R_score_131 E hA kr hk33 x1 x2 x3 x4 (1 : Int32) st _ _ _ h I (lv_sub hl [0, 1, 2, 3, 4] rfl)
  · have h := ifp c6 h
    refine lv_aload_n hx hb d_R_score_65 rfl (lv_at hl 0 rfl) ?_
    refine g_rR_outcome E I k_R_54 d_R_score_66 ?_
    refine lv_iload hx hb d_R_score_69 (lv_at hl 4 rfl) ?_
    obtain ⟨b16, h⟩ := ck_some h
    refine l_r_outcome E I b16 d_R_score_71 ?_
    refine lv_if_le (tgt := 79) hx hb d_R_score_72 (by decide) (fun c17 => ?_) (fun c17 => ?_)
    · have h := ifp c17 h
      refine lv_iconst (v := 0) hx hb d_R_score_79 (by decide) ?_
      refine lv_goto (tgt := 131) hx hb d_R_score_80 (by decide) ?_
      exact w_R_score_131 E hA kr hk33 x1 x2 x3 x4 (0 : Int32) st _ _ _ h I (lv_sub hl [0, 1, 2, 3, 4] rfl)
    · have h := ifn c17 h
      refine lv_iconst (v := 1) hx hb d_R_score_75 (by decide) ?_
      refine lv_goto (tgt := 131) hx hb d_R_score_76 (by decide) ?_
      exact w_R_score_131 E hA kr hk33 x1 x2 x3 x4 (1 : Int32) st _ _ _ h I (lv_sub hl [0, 1, 2, 3, 4] rfl)
set_option maxHeartbeats 4000000 in
set_option maxRecDepth 100000 in
theorem w_R_score_33  {r : Int32} {t : RS} (E : EC R_R c_R_score 6 p s m args c D (tyL cs)) (hA : ∀ q, H0.size ≤ q → A0 q) (kr : ∀ (H : Heap) (locs : List Loc) (pc : Nat) (ls : Array Slot), IW D (cwR A cs t) A0 H0 H locs → decode c_R_score pc = .ok (.ireturn, 1) → W p l e rm_R_score s m args below meth c H locs 0 0 Q (F0 m pc ls [.int r])) : ∀ (n : Nat), ∀ (x1 : Int32) (x2 : Int32) (x3 : Int32) (x4 : Int32) (st : RS) (H : Heap) (locs : List Loc) (ls : Array Slot), f_R_score_33 n x1 x2 x3 x4 st = some (r, t) → IW D (cwR A cs st) A0 H0 H locs → lv_has ls 6 [(0, .ref (A 0)), (1, .int x1), (2, .int x2), (3, .int x3), (4, .int x4)] → W p l e rm_R_score s m args below meth c H locs 0 0 Q (F0 m 33 ls []) := by
  intro n
  induction n with
  | zero => intro x1 x2 x3 x4 st H locs ls h I hl; cases h
  | succ n ih =>
    intro x1 x2 x3 x4 st H locs ls h I hl
    have hx := E.1
    have hb := E.2.1
    rw [f_R_score_33] at h
    refine lv_iload hx hb d_R_score_33 (lv_at hl 4 rfl) ?_
    refine lv_aload_n hx hb d_R_score_35 rfl (lv_at hl 0 rfl) ?_
    refine g_r_mutants E I k_R_101 d_R_score_36 ?_
    refine lv_icmp_ge (tgt := 152) hx hb d_R_score_39 (by decide) (fun c18 => ?_) (fun c18 => ?_)
    · have h := ifp c18 h
      refine lv_iload_n hx hb d_R_score_152 rfl (lv_at hl 3 rfl) ?_
      cases h
      exact kr _ _ _ _ I d_R_score_153
    · have h := ifn c18 h
      refine lv_iload_n hx hb d_R_score_42 rfl (lv_at hl 1 rfl) ?_
      refine lv_iconst (v := -1) hx hb d_R_score_43 (by decide) ?_
      refine lv_icmp_eq (tgt := 61) hx hb d_R_score_44 (by decide) (fun c19 => ?_) (fun c19 => ?_)
      · have h := ifp c19 h
        exact w_R_score_61 E hA kr ih x1 x2 x3 x4 st _ _ _ h I (lv_sub hl [0, 1, 2, 3, 4] rfl)
      · have h := ifn c19 h
        refine lv_aload_n hx hb d_R_score_47 rfl (lv_at hl 0 rfl) ?_
        refine g_rR_kindM E I k_R_48 d_R_score_48 ?_
        refine lv_iload hx hb d_R_score_51 (lv_at hl 4 rfl) ?_
        obtain ⟨b20, h⟩ := ck_some h
        refine l_r_kindM E I b20 d_R_score_53 ?_
        refine lv_iload_n hx hb d_R_score_54 rfl (lv_at hl 1 rfl) ?_
        refine lv_icmp_eq (tgt := 61) hx hb d_R_score_55 (by decide) (fun c21 => ?_) (fun c21 => ?_)
        · have h := ifp c21 h
          exact w_R_score_61 E hA kr ih x1 x2 x3 x4 st _ _ _ h I (lv_sub hl [0, 1, 2, 3, 4] rfl)
        · have h := ifn c21 h
          refine lv_goto (tgt := 146) hx hb d_R_score_58 (by decide) ?_
          obtain ⟨x4_22, ex4_22⟩ : ∃ y : Int32, y = (x4 + 1) := ⟨_, rfl⟩
          have h := nx_k ex4_22 h
          refine lv_iinc (v := x4_22) (lv' := [(4, .int x4_22), (0, .ref (A 0)), (1, .int x1), (2, .int x2), (3, .int x3)]) hx hb d_R_score_146 hl (k := 4) rfl (by rw [ex4_22]; rfl) (by decide) rfl (fun ls hl => ?_)
          refine lv_goto (tgt := 33) hx hb d_R_score_149 (by decide) ?_
          exact ih x1 x2 x3 x4_22 st _ _ _ h I (lv_sub hl [1, 2, 3, 4, 0] rfl)
set_option maxHeartbeats 4000000 in
set_option maxRecDepth 100000 in
theorem w_R_score  {r : Int32} {t : RS} (E : EC R_R c_R_score 6 p s m args c D (tyL cs)) (hA : ∀ q, H0.size ≤ q → A0 q) (kr : ∀ (H : Heap) (locs : List Loc) (pc : Nat) (ls : Array Slot), IW D (cwR A cs t) A0 H0 H locs → decode c_R_score pc = .ok (.ireturn, 1) → W p l e rm_R_score s m args below meth c H locs 0 0 Q (F0 m pc ls [.int r])) : ∀ (x1 : Int32) (x2 : Int32) (st : RS) (H : Heap) (locs : List Loc) (ls : Array Slot), f_R_score x1 x2 st = some (r, t) → IW D (cwR A cs st) A0 H0 H locs → lv_has ls 6 [(0, .ref (A 0)), (1, .int x1), (2, .int x2)] → W p l e rm_R_score s m args below meth c H locs 0 0 Q (F0 m 0 ls []) := by
  intro x1 x2 st H locs ls h I hl
  have hx := E.1
  have hb := E.2.1
  rw [f_R_score] at h
  refine lv_iload_n hx hb d_R_score_0 rfl (lv_at hl 1 rfl) ?_
  refine lv_i2l hx hb d_R_score_1 rfl ?_
  refine lv_ldc2 (v := -1) hx hb E.2.2.2.1 (E.2.2.2.2.1 _ kl_R_224) d_R_score_2 ?_
  refine lv_ldc2 (v := 5) hx hb E.2.2.2.1 (E.2.2.2.2.1 _ kl_R_173) d_R_score_5 ?_
  obtain ⟨r24, st23, h25, h⟩ := bd_some h
  refine cS (As := [.long x1.toInt64, .long (-1 : Int64), .long (5 : Int64)]) (rest := []) E I hA (k_R_in h25) g_R_94 ⟨rfl, rfl⟩ rfl hl rfl (Nat.le_of_ble_eq_true rfl) ⟨Nat.le_of_ble_eq_true rfl, Nat.le_of_ble_eq_true rfl⟩ ⟨Nat.zero_le _, Nat.zero_le _⟩ d_R_score_8 rfl (fun H locs I => ?_)
  refine lv_if_eq (tgt := 26) hx hb d_R_score_11 (by decide) (fun c26 => ?_) (fun c26 => ?_)
  · have h := ifp c26 h
    refine lv_iconst (v := -1) hx hb d_R_score_26 (by decide) ?_
    cases h
    exact kr _ _ _ _ I d_R_score_27
  · have h := ifn c26 h
    refine lv_iload_n hx hb d_R_score_14 rfl (lv_at hl 2 rfl) ?_
    refine lv_i2l hx hb d_R_score_15 rfl ?_
    refine lv_lconst (v := 0) hx hb d_R_score_16 (by decide) ?_
    refine lv_ldc2 (v := 2) hx hb E.2.2.2.1 (E.2.2.2.2.1 _ kl_R_226) d_R_score_17 ?_
    obtain ⟨r28, st27, h29, h⟩ := bd_some h
    refine cS (As := [.long x2.toInt64, .long (0 : Int64), .long (2 : Int64)]) (rest := []) E I hA (k_R_in h29) g_R_94 ⟨rfl, rfl⟩ rfl hl rfl (Nat.le_of_ble_eq_true rfl) ⟨Nat.le_of_ble_eq_true rfl, Nat.le_of_ble_eq_true rfl⟩ ⟨Nat.zero_le _, Nat.zero_le _⟩ d_R_score_20 rfl (fun H locs I => ?_)
    refine lv_if_ne (tgt := 28) hx hb d_R_score_23 (by decide) (fun c30 => ?_) (fun c30 => ?_)
    · have h := ifn c30 h
      refine lv_iconst (v := 0) hx hb d_R_score_28 (by decide) ?_
      refine lv_istore_n (lv' := [(3, .int (0 : Int32)), (0, .ref (A 0)), (1, .int x1), (2, .int x2)]) hx hb d_R_score_29 rfl hl (by decide) rfl (fun ls hl => ?_)
      refine lv_iconst (v := 0) hx hb d_R_score_30 (by decide) ?_
      refine lv_istore (lv' := [(4, .int (0 : Int32)), (3, .int (0 : Int32)), (0, .ref (A 0)), (1, .int x1), (2, .int x2)]) hx hb d_R_score_31 hl (by decide) rfl (fun ls hl => ?_)
      exact w_R_score_33 E hA kr FU x1 x2 (0 : Int32) (0 : Int32) st27 _ _ _ h I (lv_sub hl [2, 3, 4, 1, 0] rfl)
    · have h := ifp c30 h
      refine lv_iconst (v := -1) hx hb d_R_score_26 (by decide) ?_
      cases h
      exact kr _ _ _ _ I d_R_score_27
set_option maxHeartbeats 4000000 in
set_option maxRecDepth 100000 in
theorem k_R_score {x1 : Int32} {x2 : Int32} {st t : RS} {r : Int32} (h : f_R_score x1 x2 st = some (r, t)) : Cn l y_R_score c_R_score 6 (some .int) rm_R_score D (tyL cs) (cwR A cs st) (cwR A cs t) [.ref (A 0), .int x1, .int x2] (some (.int r)) := by
  refine cn_intro (by decide) (Nat.le_of_ble_eq_true rfl) ?_
  intro p e s m below meth c A0 Q ls E hr hlk hA hA0 hQ I hl
  exact w_R_score E hA (rt_i E hr hlk hA0 hQ) x1 x2 st _ _ _ h I (lv_sub hl [0, 1, 2] rfl)
abbrev rm_R_miss : Room := { frames := 3, cells := 0, slots := 0, locals := 69 }
noncomputable def f_R_miss_4 : Nat → Int32 → Int32 → RS → Option (Int32 × RS)
  | 0, _, _, _ => none
  | n + 1, x2, x3, st =>
    if (r_mutants st) ≤ x3 then (
      some ((-1 : Int32), st)
    ) else (
      if x2 < 0 then (
        some ((-1 : Int32), st)
      ) else (
        ck x3 100 <|
        if (r_outcome st x3.toNatClampNeg) = 0 then (
          bd (f_R_isProved x3 st) fun r7 st6 =>
          if r7 = 0 then (
            if x2 = 0 then (
              some (x3, st6)
            ) else (
              nx (x2 + (-1)) fun x2_11 =>
              nx (x3 + 1) fun x3_12 =>
              f_R_miss_4 n x2_11 x3_12 st6
            )
          ) else (
            nx (x3 + 1) fun x3_13 =>
            f_R_miss_4 n x2 x3_13 st6
          )
        ) else (
          nx (x3 + 1) fun x3_5 =>
          f_R_miss_4 n x2 x3_5 st
        )
      )
    )
noncomputable def f_R_miss (x1 : Int32) (st : RS) : Option (Int32 × RS) :=
  f_R_miss_4 FU x1 (0 : Int32) st
set_option maxHeartbeats 4000000 in
set_option maxRecDepth 100000 in
theorem w_R_miss_4  {r : Int32} {t : RS} (E : EC R_R c_R_miss 4 p s m args c D (tyL cs)) (hA : ∀ q, H0.size ≤ q → A0 q) (kr : ∀ (H : Heap) (locs : List Loc) (pc : Nat) (ls : Array Slot), IW D (cwR A cs t) A0 H0 H locs → decode c_R_miss pc = .ok (.ireturn, 1) → W p l e rm_R_miss s m args below meth c H locs 0 0 Q (F0 m pc ls [.int r])) : ∀ (n : Nat), ∀ (x2 : Int32) (x3 : Int32) (st : RS) (H : Heap) (locs : List Loc) (ls : Array Slot), f_R_miss_4 n x2 x3 st = some (r, t) → IW D (cwR A cs st) A0 H0 H locs → lv_has ls 4 [(0, .ref (A 0)), (2, .int x2), (3, .int x3)] → W p l e rm_R_miss s m args below meth c H locs 0 0 Q (F0 m 4 ls []) := by
  intro n
  induction n with
  | zero => intro x2 x3 st H locs ls h I hl; cases h
  | succ n ih =>
    intro x2 x3 st H locs ls h I hl
    have hx := E.1
    have hb := E.2.1
    rw [f_R_miss_4] at h
    refine lv_iload_n hx hb d_R_miss_4 rfl (lv_at hl 2 rfl) ?_
    refine lv_aload_n hx hb d_R_miss_5 rfl (lv_at hl 0 rfl) ?_
    refine g_r_mutants E I k_R_101 d_R_miss_6 ?_
    refine lv_icmp_ge (tgt := 51) hx hb d_R_miss_9 (by decide) (fun c1 => ?_) (fun c1 => ?_)
    · have h := ifp c1 h
      refine lv_iconst (v := -1) hx hb d_R_miss_51 (by decide) ?_
      cases h
      exact kr _ _ _ _ I d_R_miss_52
    · have h := ifn c1 h
      refine lv_iload_n hx hb d_R_miss_12 rfl (lv_at hl 1 rfl) ?_
      refine lv_if_lt (tgt := 51) hx hb d_R_miss_13 (by decide) (fun c2 => ?_) (fun c2 => ?_)
      · have h := ifp c2 h
        refine lv_iconst (v := -1) hx hb d_R_miss_51 (by decide) ?_
        cases h
        exact kr _ _ _ _ I d_R_miss_52
      · have h := ifn c2 h
        refine lv_aload_n hx hb d_R_miss_16 rfl (lv_at hl 0 rfl) ?_
        refine g_rR_outcome E I k_R_54 d_R_miss_17 ?_
        refine lv_iload_n hx hb d_R_miss_20 rfl (lv_at hl 2 rfl) ?_
        obtain ⟨b3, h⟩ := ck_some h
        refine l_r_outcome E I b3 d_R_miss_21 ?_
        refine lv_if_ne (tgt := 45) hx hb d_R_miss_22 (by decide) (fun c4 => ?_) (fun c4 => ?_)
        · have h := ifn c4 h
          obtain ⟨x3_5, ex3_5⟩ : ∃ y : Int32, y = (x3 + 1) := ⟨_, rfl⟩
          have h := nx_k ex3_5 h
          refine lv_iinc (v := x3_5) (lv' := [(3, .int x3_5), (0, .ref (A 0)), (2, .int x2)]) hx hb d_R_miss_45 hl (k := 2) rfl (by rw [ex3_5]; rfl) (by decide) rfl (fun ls hl => ?_)
          refine lv_goto (tgt := 4) hx hb d_R_miss_48 (by decide) ?_
          exact ih x2 x3_5 st _ _ _ h I (lv_sub hl [1, 2, 0] rfl)
        · have h := ifp c4 h
          refine lv_aload_n hx hb d_R_miss_25 rfl (lv_at hl 0 rfl) ?_
          refine lv_iload_n hx hb d_R_miss_26 rfl (lv_at hl 2 rfl) ?_
          obtain ⟨r7, st6, h8, h⟩ := bd_some h
          refine cV (As := [.int x3]) (rest := []) E I hA (k_R_isProved h8) g_R_197 ⟨rfl, rfl⟩ 0 rfl rfl rfl hl rfl (Nat.le_of_ble_eq_true rfl) ⟨Nat.le_of_ble_eq_true rfl, Nat.le_of_ble_eq_true rfl⟩ ⟨Nat.zero_le _, Nat.zero_le _⟩ d_R_miss_27 rfl (fun H locs I => ?_)
          refine lv_if_eq (tgt := 36) hx hb d_R_miss_30 (by decide) (fun c9 => ?_) (fun c9 => ?_)
          · have h := ifp c9 h
            refine lv_iload_n hx hb d_R_miss_36 rfl (lv_at hl 1 rfl) ?_
            refine lv_if_ne (tgt := 42) hx hb d_R_miss_37 (by decide) (fun c10 => ?_) (fun c10 => ?_)
            · have h := ifn c10 h
              obtain ⟨x2_11, ex2_11⟩ : ∃ y : Int32, y = (x2 + (-1)) := ⟨_, rfl⟩
              have h := nx_k ex2_11 h
              refine lv_iinc (v := x2_11) (lv' := [(2, .int x2_11), (0, .ref (A 0)), (3, .int x3)]) hx hb d_R_miss_42 hl (k := 1) rfl (by rw [ex2_11]; rfl) (by decide) rfl (fun ls hl => ?_)
              obtain ⟨x3_12, ex3_12⟩ : ∃ y : Int32, y = (x3 + 1) := ⟨_, rfl⟩
              have h := nx_k ex3_12 h
              refine lv_iinc (v := x3_12) (lv' := [(3, .int x3_12), (2, .int x2_11), (0, .ref (A 0))]) hx hb d_R_miss_45 hl (k := 2) rfl (by rw [ex3_12]; rfl) (by decide) rfl (fun ls hl => ?_)
              refine lv_goto (tgt := 4) hx hb d_R_miss_48 (by decide) ?_
              exact ih x2_11 x3_12 st6 _ _ _ h I (lv_sub hl [2, 1, 0] rfl)
            · have h := ifp c10 h
              refine lv_iload_n hx hb d_R_miss_40 rfl (lv_at hl 2 rfl) ?_
              cases h
              exact kr _ _ _ _ I d_R_miss_41
          · have h := ifn c9 h
            refine lv_goto (tgt := 45) hx hb d_R_miss_33 (by decide) ?_
            obtain ⟨x3_13, ex3_13⟩ : ∃ y : Int32, y = (x3 + 1) := ⟨_, rfl⟩
            have h := nx_k ex3_13 h
            refine lv_iinc (v := x3_13) (lv' := [(3, .int x3_13), (0, .ref (A 0)), (2, .int x2)]) hx hb d_R_miss_45 hl (k := 2) rfl (by rw [ex3_13]; rfl) (by decide) rfl (fun ls hl => ?_)
            refine lv_goto (tgt := 4) hx hb d_R_miss_48 (by decide) ?_
            exact ih x2 x3_13 st6 _ _ _ h I (lv_sub hl [1, 2, 0] rfl)
set_option maxHeartbeats 4000000 in
set_option maxRecDepth 100000 in
theorem w_R_miss  {r : Int32} {t : RS} (E : EC R_R c_R_miss 4 p s m args c D (tyL cs)) (hA : ∀ q, H0.size ≤ q → A0 q) (kr : ∀ (H : Heap) (locs : List Loc) (pc : Nat) (ls : Array Slot), IW D (cwR A cs t) A0 H0 H locs → decode c_R_miss pc = .ok (.ireturn, 1) → W p l e rm_R_miss s m args below meth c H locs 0 0 Q (F0 m pc ls [.int r])) : ∀ (x1 : Int32) (st : RS) (H : Heap) (locs : List Loc) (ls : Array Slot), f_R_miss x1 st = some (r, t) → IW D (cwR A cs st) A0 H0 H locs → lv_has ls 4 [(0, .ref (A 0)), (1, .int x1)] → W p l e rm_R_miss s m args below meth c H locs 0 0 Q (F0 m 0 ls []) := by
  intro x1 st H locs ls h I hl
  have hx := E.1
  have hb := E.2.1
  rw [f_R_miss] at h
  refine lv_iload_n hx hb d_R_miss_0 rfl (lv_at hl 1 rfl) ?_
  refine lv_istore_n (lv' := [(2, .int x1), (0, .ref (A 0)), (1, .int x1)]) hx hb d_R_miss_1 rfl hl (by decide) rfl (fun ls hl => ?_)
  refine lv_iconst (v := 0) hx hb d_R_miss_2 (by decide) ?_
  refine lv_istore_n (lv' := [(3, .int (0 : Int32)), (2, .int x1), (0, .ref (A 0)), (1, .int x1)]) hx hb d_R_miss_3 rfl hl (by decide) rfl (fun ls hl => ?_)
  exact w_R_miss_4 E hA kr FU x1 (0 : Int32) st _ _ _ h I (lv_sub hl [2, 1, 0] rfl)
set_option maxHeartbeats 4000000 in
set_option maxRecDepth 100000 in
theorem k_R_miss {x1 : Int32} {st t : RS} {r : Int32} (h : f_R_miss x1 st = some (r, t)) : Cn l y_R_miss c_R_miss 4 (some .int) rm_R_miss D (tyL cs) (cwR A cs st) (cwR A cs t) [.ref (A 0), .int x1] (some (.int r)) := by
  refine cn_intro (by decide) (Nat.le_of_ble_eq_true rfl) ?_
  intro p e s m below meth c A0 Q ls E hr hlk hA hA0 hQ I hl
  exact w_R_miss E hA (rt_i E hr hlk hA0 hQ) x1 st _ _ _ h I (lv_sub hl [0, 1] rfl)
end Mmr5
