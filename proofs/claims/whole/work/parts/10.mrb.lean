section Mmr2
variable {p : Program} {l : Launch} {e : Env} {s : State} {m : MethodId} {args : Array Value} {below : List Frame} {meth : Method} {c : Code} {Q : State → Prop} {D : va_G} {A0 : Nat → Prop} {H0 : Heap} {A : Nat → Nat} {cs : ClassId × ClassId × ClassId}
abbrev rm_R_both : Room := { frames := 2, cells := 0, slots := 0, locals := 47 }
noncomputable def f_R_both (x1 : Int32) (x2 : Int32) (x3 : Int32) (st : RS) : Option (Unit × RS) :=
  ck x1 65 <|
  ck x1 65 <|
  nx (s_r_phase st x1.toNatClampNeg ((r_phase st x1.toNatClampNeg) + (1 : Int32))) fun st3 =>
  ck x1 65 <|
  if (r_phase st3 x1.toNatClampNeg) = (1 : Int32) then (
    ck x2 64 <|
    bd (f_R_enter (r_partA st3 x2.toNatClampNeg) x3 st3) fun _ st29 =>
    some ((), st29)
  ) else (
    ck x1 65 <|
    if (r_phase st3 x1.toNatClampNeg) = (2 : Int32) then (
      ck x1 65 <|
      nx (s_r_first st3 x1.toNatClampNeg (r_given st3)) fun st16 =>
      bd (f_R_is (4 : Int32) x2 st16) fun r18 st17 =>
      if r18 = 0 then (
        ck x2 64 <|
        bd (f_R_enter (r_partB st17 x2.toNatClampNeg) x3 st17) fun _ st22 =>
        some ((), st22)
      ) else (
        bd (f_R_leave (r_given st17) st17) fun _ st25 =>
        some ((), st25)
      )
    ) else (
      ck x1 65 <|
      bd (f_R_made x2 (r_first st3 x1.toNatClampNeg) (r_given st3) st3) fun r10 st9 =>
      bd (f_R_leave r10 st9) fun _ st12 =>
      some ((), st12)
    )
  )
set_option maxHeartbeats 4000000 in
set_option maxRecDepth 100000 in
theorem w_R_both  {r : Unit} {t : RS} (E : EC R_R c_R_both 4 p s m args c D (tyL cs)) (hA : ∀ q, H0.size ≤ q → A0 q) (kr : ∀ (H : Heap) (locs : List Loc) (pc : Nat) (ls : Array Slot), IW D (cwR A cs t) A0 H0 H locs → decode c_R_both pc = .ok (.return_, 1) → W p l e rm_R_both s m args below meth c H locs 0 0 Q (F0 m pc ls [])) : ∀ (x1 : Int32) (x2 : Int32) (x3 : Int32) (st : RS) (H : Heap) (locs : List Loc) (ls : Array Slot), f_R_both x1 x2 x3 st = some (r, t) → IW D (cwR A cs st) A0 H0 H locs → lv_has ls 4 [(0, .ref (A 0)), (1, .int x1), (2, .int x2), (3, .int x3)] → W p l e rm_R_both s m args below meth c H locs 0 0 Q (F0 m 0 ls []) := by
  intro x1 x2 x3 st H locs ls h I hl
  have hx := E.1
  have hb := E.2.1
  rw [f_R_both] at h
  refine lv_aload_n hx hb d_R_both_0 rfl (lv_at hl 0 rfl) ?_
  refine g_rR_phase E I k_R_76 d_R_both_1 ?_
  refine lv_iload_n hx hb d_R_both_4 rfl (lv_at hl 1 rfl) ?_
  refine lv_dup2_11 hx hb d_R_both_5 rfl rfl ?_
  obtain ⟨b1, h⟩ := ck_some h
  refine l_r_phase E I b1 d_R_both_6 ?_
  refine lv_iconst (v := 1) hx hb d_R_both_7 (by decide) ?_
  refine lv_iadd hx hb d_R_both_8 ?_
  obtain ⟨b2, h⟩ := ck_some h
  obtain ⟨st3, est3⟩ : ∃ y : RS, y = (s_r_phase st x1.toNatClampNeg ((r_phase st x1.toNatClampNeg) + (1 : Int32))) := ⟨_, rfl⟩
  have h := nx_k est3 h
  refine p_r_phase E I b2 est3 d_R_both_9 (fun H locs I => ?_)
  refine lv_aload_n hx hb d_R_both_10 rfl (lv_at hl 0 rfl) ?_
  refine g_rR_phase E I k_R_76 d_R_both_11 ?_
  refine lv_iload_n hx hb d_R_both_14 rfl (lv_at hl 1 rfl) ?_
  obtain ⟨b4, h⟩ := ck_some h
  refine l_r_phase E I b4 d_R_both_15 ?_
  refine lv_iconst (v := 1) hx hb d_R_both_16 (by decide) ?_
  refine lv_icmp_ne (tgt := 34) hx hb d_R_both_17 (by decide) (fun c5 => ?_) (fun c5 => ?_)
  · have h := ifn c5 h
    refine lv_aload_n hx hb d_R_both_34 rfl (lv_at hl 0 rfl) ?_
    refine g_rR_phase E I k_R_76 d_R_both_35 ?_
    refine lv_iload_n hx hb d_R_both_38 rfl (lv_at hl 1 rfl) ?_
    obtain ⟨b6, h⟩ := ck_some h
    refine l_r_phase E I b6 d_R_both_39 ?_
    refine lv_iconst (v := 2) hx hb d_R_both_40 (by decide) ?_
    refine lv_icmp_ne (tgt := 88) hx hb d_R_both_41 (by decide) (fun c7 => ?_) (fun c7 => ?_)
    · have h := ifn c7 h
      refine lv_aload_n hx hb d_R_both_88 rfl (lv_at hl 0 rfl) ?_
      refine lv_aload_n hx hb d_R_both_89 rfl (lv_at hl 0 rfl) ?_
      refine lv_iload_n hx hb d_R_both_90 rfl (lv_at hl 2 rfl) ?_
      refine lv_aload_n hx hb d_R_both_91 rfl (lv_at hl 0 rfl) ?_
      refine g_rR_first E I k_R_79 d_R_both_92 ?_
      refine lv_iload_n hx hb d_R_both_95 rfl (lv_at hl 1 rfl) ?_
      obtain ⟨b8, h⟩ := ck_some h
      refine l_r_first E I b8 d_R_both_96 ?_
      refine lv_aload_n hx hb d_R_both_97 rfl (lv_at hl 0 rfl) ?_
      refine g_r_given E I k_R_124 d_R_both_98 ?_
      obtain ⟨r10, st9, h11, h⟩ := bd_some h
      refine cV (As := [.int x2, .long (r_first st3 x1.toNatClampNeg), .long (r_given st3)]) (rest := [.ref (A 0)]) E I hA (k_R_made h11) g_R_157 ⟨rfl, rfl⟩ 0 rfl rfl rfl hl rfl (Nat.le_of_ble_eq_true rfl) ⟨Nat.le_of_ble_eq_true rfl, Nat.le_of_ble_eq_true rfl⟩ ⟨Nat.zero_le _, Nat.zero_le _⟩ d_R_both_101 rfl (fun H locs I => ?_)
      obtain ⟨u14, st12, h13, h⟩ := bd_some h
      refine cV (As := [.long r10]) (rest := []) E I hA (k_R_leave h13) g_R_143 ⟨rfl, rfl⟩ 0 rfl rfl rfl hl rfl (Nat.le_of_ble_eq_true rfl) ⟨Nat.le_of_ble_eq_true rfl, Nat.le_of_ble_eq_true rfl⟩ ⟨Nat.zero_le _, Nat.zero_le _⟩ d_R_both_104 rfl (fun H locs I => ?_)
      cases h
      exact kr _ _ _ _ I d_R_both_107
    · have h := ifp c7 h
      refine lv_aload_n hx hb d_R_both_44 rfl (lv_at hl 0 rfl) ?_
      refine g_rR_first E I k_R_79 d_R_both_45 ?_
      refine lv_iload_n hx hb d_R_both_48 rfl (lv_at hl 1 rfl) ?_
      refine lv_aload_n hx hb d_R_both_49 rfl (lv_at hl 0 rfl) ?_
      refine g_r_given E I k_R_124 d_R_both_50 ?_
      obtain ⟨b15, h⟩ := ck_some h
      obtain ⟨st16, est16⟩ : ∃ y : RS, y = (s_r_first st3 x1.toNatClampNeg (r_given st3)) := ⟨_, rfl⟩
      have h := nx_k est16 h
      refine p_r_first E I b15 est16 d_R_both_53 (fun H locs I => ?_)
      refine lv_aload_n hx hb d_R_both_54 rfl (lv_at hl 0 rfl) ?_
      refine lv_iconst (v := 4) hx hb d_R_both_55 (by decide) ?_
      refine lv_iload_n hx hb d_R_both_56 rfl (lv_at hl 2 rfl) ?_
      obtain ⟨r18, st17, h19, h⟩ := bd_some h
      refine cV (As := [.int (4 : Int32), .int x2]) (rest := []) E I hA (k_R_is h19) g_R_139 ⟨rfl, rfl⟩ 0 rfl rfl rfl hl rfl (Nat.le_of_ble_eq_true rfl) ⟨Nat.le_of_ble_eq_true rfl, Nat.le_of_ble_eq_true rfl⟩ ⟨Nat.zero_le _, Nat.zero_le _⟩ d_R_both_57 rfl (fun H locs I => ?_)
      refine lv_if_eq (tgt := 74) hx hb d_R_both_60 (by decide) (fun c20 => ?_) (fun c20 => ?_)
      · have h := ifp c20 h
        refine lv_aload_n hx hb d_R_both_74 rfl (lv_at hl 0 rfl) ?_
        refine lv_aload_n hx hb d_R_both_75 rfl (lv_at hl 0 rfl) ?_
        refine g_rR_partB E I k_R_20 d_R_both_76 ?_
        refine lv_iload_n hx hb d_R_both_79 rfl (lv_at hl 2 rfl) ?_
        obtain ⟨b21, h⟩ := ck_some h
        refine l_r_partB E I b21 d_R_both_80 ?_
        refine lv_iload_n hx hb d_R_both_81 rfl (lv_at hl 3 rfl) ?_
        obtain ⟨u24, st22, h23, h⟩ := bd_some h
        refine cV (As := [.int (r_partB st17 x2.toNatClampNeg), .int x3]) (rest := []) E I hA (k_R_enter h23) g_R_131 ⟨rfl, rfl⟩ 0 rfl rfl rfl hl rfl (Nat.le_of_ble_eq_true rfl) ⟨Nat.le_of_ble_eq_true rfl, Nat.le_of_ble_eq_true rfl⟩ ⟨Nat.zero_le _, Nat.zero_le _⟩ d_R_both_82 rfl (fun H locs I => ?_)
        refine lv_goto (tgt := 107) hx hb d_R_both_85 (by decide) ?_
        cases h
        exact kr _ _ _ _ I d_R_both_107
      · have h := ifn c20 h
        refine lv_aload_n hx hb d_R_both_63 rfl (lv_at hl 0 rfl) ?_
        refine lv_aload_n hx hb d_R_both_64 rfl (lv_at hl 0 rfl) ?_
        refine g_r_given E I k_R_124 d_R_both_65 ?_
        obtain ⟨u27, st25, h26, h⟩ := bd_some h
        refine cV (As := [.long (r_given st17)]) (rest := []) E I hA (k_R_leave h26) g_R_143 ⟨rfl, rfl⟩ 0 rfl rfl rfl hl rfl (Nat.le_of_ble_eq_true rfl) ⟨Nat.le_of_ble_eq_true rfl, Nat.le_of_ble_eq_true rfl⟩ ⟨Nat.zero_le _, Nat.zero_le _⟩ d_R_both_68 rfl (fun H locs I => ?_)
        refine lv_goto (tgt := 107) hx hb d_R_both_71 (by decide) ?_
        cases h
        exact kr _ _ _ _ I d_R_both_107
  · have h := ifp c5 h
    refine lv_aload_n hx hb d_R_both_20 rfl (lv_at hl 0 rfl) ?_
    refine lv_aload_n hx hb d_R_both_21 rfl (lv_at hl 0 rfl) ?_
    refine g_rR_partA E I k_R_17 d_R_both_22 ?_
    refine lv_iload_n hx hb d_R_both_25 rfl (lv_at hl 2 rfl) ?_
    obtain ⟨b28, h⟩ := ck_some h
    refine l_r_partA E I b28 d_R_both_26 ?_
    refine lv_iload_n hx hb d_R_both_27 rfl (lv_at hl 3 rfl) ?_
    obtain ⟨u31, st29, h30, h⟩ := bd_some h
    refine cV (As := [.int (r_partA st3 x2.toNatClampNeg), .int x3]) (rest := []) E I hA (k_R_enter h30) g_R_131 ⟨rfl, rfl⟩ 0 rfl rfl rfl hl rfl (Nat.le_of_ble_eq_true rfl) ⟨Nat.le_of_ble_eq_true rfl, Nat.le_of_ble_eq_true rfl⟩ ⟨Nat.zero_le _, Nat.zero_le _⟩ d_R_both_28 rfl (fun H locs I => ?_)
    refine lv_goto (tgt := 107) hx hb d_R_both_31 (by decide) ?_
    cases h
    exact kr _ _ _ _ I d_R_both_107
set_option maxHeartbeats 4000000 in
set_option maxRecDepth 100000 in
theorem k_R_both {x1 : Int32} {x2 : Int32} {x3 : Int32} {st t : RS} {r : Unit} (h : f_R_both x1 x2 x3 st = some (r, t)) : Cn l y_R_both c_R_both 4 none rm_R_both D (tyL cs) (cwR A cs st) (cwR A cs t) [.ref (A 0), .int x1, .int x2, .int x3] (none) := by
  refine cn_intro (by decide) (Nat.le_of_ble_eq_true rfl) ?_
  intro p e s m below meth c A0 Q ls E hr hlk hA hA0 hQ I hl
  exact w_R_both E hA (rt_v E hr hlk hA0 hQ) x1 x2 x3 st _ _ _ h I (lv_sub hl [0, 1, 2, 3] rfl)
abbrev rm_R_goOn : Room := { frames := 3, cells := 0, slots := 0, locals := 70 }
noncomputable def f_R_goOn (x1 : Int64) (x3 : Int32) (st : RS) : Option (Unit × RS) :=
  nx ((r_high st) - (1 : Int32)) fun x4_1 =>
  ck x4_1 65 <|
  nx (r_waits st x4_1.toNatClampNeg) fun x5_3 =>
  ck x5_3 64 <|
  if (r_kindOf st x5_3.toNatClampNeg) = 0 then (
    bd (f_R_is (0 : Int32) x5_3 st) fun r7 st6 =>
    if r7 = 0 then (
      ck x5_3 64 <|
      bd (f_R_leave (r_number st6 x5_3.toNatClampNeg) st6) fun _ st11 =>
      some ((), st11)
    ) else (
      ck x5_3 64 <|
      bd (f_R_leave ((r_number st6 x5_3.toNatClampNeg) + (1 : Int64)) st6) fun _ st15 =>
      some ((), st15)
    )
  ) else (
    if (r_kindOf st x5_3.toNatClampNeg) = 1 then (
      bd (f_R_leave x1 st) fun _ st19 =>
      some ((), st19)
    ) else (
      if (r_kindOf st x5_3.toNatClampNeg) = 2 then (
        bd (f_R_leave (r_acc st) st) fun _ st23 =>
        some ((), st23)
      ) else (
        if (r_kindOf st x5_3.toNatClampNeg) = 8 then (
          bd (f_R_choose x4_1 x5_3 x3 st) fun _ st27 =>
          some ((), st27)
        ) else (
          if (r_kindOf st x5_3.toNatClampNeg) = 9 then (
            bd (f_R_loop x4_1 x5_3 x3 st) fun _ st31 =>
            some ((), st31)
          ) else (
            bd (f_R_both x4_1 x5_3 x3 st) fun _ st34 =>
            some ((), st34)
          )
        )
      )
    )
  )
set_option maxHeartbeats 4000000 in
set_option maxRecDepth 100000 in
theorem w_R_goOn  {r : Unit} {t : RS} (E : EC R_R c_R_goOn 6 p s m args c D (tyL cs)) (hA : ∀ q, H0.size ≤ q → A0 q) (kr : ∀ (H : Heap) (locs : List Loc) (pc : Nat) (ls : Array Slot), IW D (cwR A cs t) A0 H0 H locs → decode c_R_goOn pc = .ok (.return_, 1) → W p l e rm_R_goOn s m args below meth c H locs 0 0 Q (F0 m pc ls [])) : ∀ (x1 : Int64) (x3 : Int32) (st : RS) (H : Heap) (locs : List Loc) (ls : Array Slot), f_R_goOn x1 x3 st = some (r, t) → IW D (cwR A cs st) A0 H0 H locs → lv_has ls 6 [(0, .ref (A 0)), (1, .long x1), (3, .int x3)] → W p l e rm_R_goOn s m args below meth c H locs 0 0 Q (F0 m 0 ls []) := by
  intro x1 x3 st H locs ls h I hl
  have hx := E.1
  have hb := E.2.1
  rw [f_R_goOn] at h
  refine lv_aload_n hx hb d_R_goOn_0 rfl (lv_at hl 0 rfl) ?_
  refine g_r_high E I k_R_121 d_R_goOn_1 ?_
  refine lv_iconst (v := 1) hx hb d_R_goOn_4 (by decide) ?_
  refine lv_isub hx hb d_R_goOn_5 ?_
  refine lv_topi (fun x4_1 ex4_1 => ?_)
  have h := nx_k ex4_1 h
  refine lv_istore (lv' := [(4, .int x4_1), (0, .ref (A 0)), (1, .long x1), (3, .int x3)]) hx hb d_R_goOn_6 hl (by decide) rfl (fun ls hl => ?_)
  refine lv_aload_n hx hb d_R_goOn_8 rfl (lv_at hl 1 rfl) ?_
  refine g_rR_waits E I k_R_73 d_R_goOn_9 ?_
  refine lv_iload hx hb d_R_goOn_12 (lv_at hl 0 rfl) ?_
  obtain ⟨b2, h⟩ := ck_some h
  refine l_r_waits E I b2 d_R_goOn_14 ?_
  refine lv_topi (fun x5_3 ex5_3 => ?_)
  have h := nx_k ex5_3 h
  refine lv_istore (lv' := [(5, .int x5_3), (4, .int x4_1), (0, .ref (A 0)), (1, .long x1), (3, .int x3)]) hx hb d_R_goOn_15 hl (by decide) rfl (fun ls hl => ?_)
  refine lv_aload_n hx hb d_R_goOn_17 rfl (lv_at hl 2 rfl) ?_
  refine g_rR_kindOf E I k_R_7 d_R_goOn_18 ?_
  refine lv_iload hx hb d_R_goOn_21 (lv_at hl 0 rfl) ?_
  obtain ⟨b4, h⟩ := ck_some h
  refine l_r_kindOf E I b4 d_R_goOn_23 ?_
  by_cases c5 : (r_kindOf st x5_3.toNatClampNeg) = 0
  · have h := ifp c5 h
    refine lv_tableIn (off := 56) (tgt := 80) hx hb d_R_goOn_24 (by rw [c5]; decide) (by rw [c5]; decide) (by rw [c5]; rfl) (by decide) ?_
    refine lv_aload_n hx hb d_R_goOn_80 rfl (lv_at hl 2 rfl) ?_
    refine lv_aload_n hx hb d_R_goOn_81 rfl (lv_at hl 2 rfl) ?_
    refine lv_iconst (v := 0) hx hb d_R_goOn_82 (by decide) ?_
    refine lv_iload hx hb d_R_goOn_83 (lv_at hl 0 rfl) ?_
    obtain ⟨r7, st6, h8, h⟩ := bd_some h
    refine cV (As := [.int (0 : Int32), .int x5_3]) (rest := [.ref (A 0)]) E I hA (k_R_is h8) g_R_139 ⟨rfl, rfl⟩ 0 rfl rfl rfl hl rfl (Nat.le_of_ble_eq_true rfl) ⟨Nat.le_of_ble_eq_true rfl, Nat.le_of_ble_eq_true rfl⟩ ⟨Nat.zero_le _, Nat.zero_le _⟩ d_R_goOn_85 rfl (fun H locs I => ?_)
    refine lv_if_eq (tgt := 103) hx hb d_R_goOn_88 (by decide) (fun c9 => ?_) (fun c9 => ?_)
    · have h := ifp c9 h
      refine lv_aload_n hx hb d_R_goOn_103 rfl (lv_at hl 2 rfl) ?_
      refine g_rR_number E I k_R_13 d_R_goOn_104 ?_
      refine lv_iload hx hb d_R_goOn_107 (lv_at hl 0 rfl) ?_
      obtain ⟨b10, h⟩ := ck_some h
      refine l_r_number E I b10 d_R_goOn_109 ?_
      obtain ⟨u13, st11, h12, h⟩ := bd_some h
      refine cV (As := [.long (r_number st6 x5_3.toNatClampNeg)]) (rest := []) E I hA (k_R_leave h12) g_R_143 ⟨rfl, rfl⟩ 0 rfl rfl rfl hl rfl (Nat.le_of_ble_eq_true rfl) ⟨Nat.le_of_ble_eq_true rfl, Nat.le_of_ble_eq_true rfl⟩ ⟨Nat.zero_le _, Nat.zero_le _⟩ d_R_goOn_110 rfl (fun H locs I => ?_)
      cases h
      exact kr _ _ _ _ I d_R_goOn_113
    · have h := ifn c9 h
      refine lv_aload_n hx hb d_R_goOn_91 rfl (lv_at hl 2 rfl) ?_
      refine g_rR_number E I k_R_13 d_R_goOn_92 ?_
      refine lv_iload hx hb d_R_goOn_95 (lv_at hl 0 rfl) ?_
      obtain ⟨b14, h⟩ := ck_some h
      refine l_r_number E I b14 d_R_goOn_97 ?_
      refine lv_lconst (v := 1) hx hb d_R_goOn_98 (by decide) ?_
      refine lv_ladd hx hb d_R_goOn_99 ?_
      refine lv_goto (tgt := 110) hx hb d_R_goOn_100 (by decide) ?_
      obtain ⟨u17, st15, h16, h⟩ := bd_some h
      refine cV (As := [.long ((r_number st6 x5_3.toNatClampNeg) + (1 : Int64))]) (rest := []) E I hA (k_R_leave h16) g_R_143 ⟨rfl, rfl⟩ 0 rfl rfl rfl hl rfl (Nat.le_of_ble_eq_true rfl) ⟨Nat.le_of_ble_eq_true rfl, Nat.le_of_ble_eq_true rfl⟩ ⟨Nat.zero_le _, Nat.zero_le _⟩ d_R_goOn_110 rfl (fun H locs I => ?_)
      cases h
      exact kr _ _ _ _ I d_R_goOn_113
  · have h := ifn c5 h
    by_cases c18 : (r_kindOf st x5_3.toNatClampNeg) = 1
    · have h := ifp c18 h
      refine lv_tableIn (off := 90) (tgt := 114) hx hb d_R_goOn_24 (by rw [c18]; decide) (by rw [c18]; decide) (by rw [c18]; rfl) (by decide) ?_
      refine lv_aload_n hx hb d_R_goOn_114 rfl (lv_at hl 2 rfl) ?_
      refine lv_lload_n hx hb d_R_goOn_115 rfl (lv_at hl 3 rfl) ?_
      obtain ⟨u21, st19, h20, h⟩ := bd_some h
      refine cV (As := [.long x1]) (rest := []) E I hA (k_R_leave h20) g_R_143 ⟨rfl, rfl⟩ 0 rfl rfl rfl hl rfl (Nat.le_of_ble_eq_true rfl) ⟨Nat.le_of_ble_eq_true rfl, Nat.le_of_ble_eq_true rfl⟩ ⟨Nat.zero_le _, Nat.zero_le _⟩ d_R_goOn_116 rfl (fun H locs I => ?_)
      cases h
      exact kr _ _ _ _ I d_R_goOn_119
    · have h := ifn c18 h
      by_cases c22 : (r_kindOf st x5_3.toNatClampNeg) = 2
      · have h := ifp c22 h
        refine lv_tableIn (off := 96) (tgt := 120) hx hb d_R_goOn_24 (by rw [c22]; decide) (by rw [c22]; decide) (by rw [c22]; rfl) (by decide) ?_
        refine lv_aload_n hx hb d_R_goOn_120 rfl (lv_at hl 2 rfl) ?_
        refine lv_aload_n hx hb d_R_goOn_121 rfl (lv_at hl 2 rfl) ?_
        refine g_r_acc E I k_R_128 d_R_goOn_122 ?_
        obtain ⟨u25, st23, h24, h⟩ := bd_some h
        refine cV (As := [.long (r_acc st)]) (rest := []) E I hA (k_R_leave h24) g_R_143 ⟨rfl, rfl⟩ 0 rfl rfl rfl hl rfl (Nat.le_of_ble_eq_true rfl) ⟨Nat.le_of_ble_eq_true rfl, Nat.le_of_ble_eq_true rfl⟩ ⟨Nat.zero_le _, Nat.zero_le _⟩ d_R_goOn_125 rfl (fun H locs I => ?_)
        cases h
        exact kr _ _ _ _ I d_R_goOn_128
      · have h := ifn c22 h
        by_cases c26 : (r_kindOf st x5_3.toNatClampNeg) = 8
        · have h := ifp c26 h
          refine lv_tableIn (off := 105) (tgt := 129) hx hb d_R_goOn_24 (by rw [c26]; decide) (by rw [c26]; decide) (by rw [c26]; rfl) (by decide) ?_
          refine lv_aload_n hx hb d_R_goOn_129 rfl (lv_at hl 2 rfl) ?_
          refine lv_iload hx hb d_R_goOn_130 (lv_at hl 1 rfl) ?_
          refine lv_iload hx hb d_R_goOn_132 (lv_at hl 0 rfl) ?_
          refine lv_iload_n hx hb d_R_goOn_134 rfl (lv_at hl 4 rfl) ?_
          obtain ⟨u29, st27, h28, h⟩ := bd_some h
          refine cV (As := [.int x4_1, .int x5_3, .int x3]) (rest := []) E I hA (k_R_choose h28) g_R_147 ⟨rfl, rfl⟩ 0 rfl rfl rfl hl rfl (Nat.le_of_ble_eq_true rfl) ⟨Nat.le_of_ble_eq_true rfl, Nat.le_of_ble_eq_true rfl⟩ ⟨Nat.zero_le _, Nat.zero_le _⟩ d_R_goOn_135 rfl (fun H locs I => ?_)
          cases h
          exact kr _ _ _ _ I d_R_goOn_138
        · have h := ifn c26 h
          by_cases c30 : (r_kindOf st x5_3.toNatClampNeg) = 9
          · have h := ifp c30 h
            refine lv_tableIn (off := 115) (tgt := 139) hx hb d_R_goOn_24 (by rw [c30]; decide) (by rw [c30]; decide) (by rw [c30]; rfl) (by decide) ?_
            refine lv_aload_n hx hb d_R_goOn_139 rfl (lv_at hl 2 rfl) ?_
            refine lv_iload hx hb d_R_goOn_140 (lv_at hl 1 rfl) ?_
            refine lv_iload hx hb d_R_goOn_142 (lv_at hl 0 rfl) ?_
            refine lv_iload_n hx hb d_R_goOn_144 rfl (lv_at hl 4 rfl) ?_
            obtain ⟨u33, st31, h32, h⟩ := bd_some h
            refine cV (As := [.int x4_1, .int x5_3, .int x3]) (rest := []) E I hA (k_R_loop h32) g_R_151 ⟨rfl, rfl⟩ 0 rfl rfl rfl hl rfl (Nat.le_of_ble_eq_true rfl) ⟨Nat.le_of_ble_eq_true rfl, Nat.le_of_ble_eq_true rfl⟩ ⟨Nat.zero_le _, Nat.zero_le _⟩ d_R_goOn_145 rfl (fun H locs I => ?_)
            cases h
            exact kr _ _ _ _ I d_R_goOn_148
          · have h := ifn c30 h
            by_cases c37 : (r_kindOf st x5_3.toNatClampNeg) = 3
            · refine lv_tableIn (off := 125) (tgt := 149) hx hb d_R_goOn_24 (by rw [c37]; decide) (by rw [c37]; decide) (by rw [c37]; rfl) (by decide) ?_
              refine lv_aload_n hx hb d_R_goOn_149 rfl (lv_at hl 2 rfl) ?_
              refine lv_iload hx hb d_R_goOn_150 (lv_at hl 1 rfl) ?_
              refine lv_iload hx hb d_R_goOn_152 (lv_at hl 0 rfl) ?_
              refine lv_iload_n hx hb d_R_goOn_154 rfl (lv_at hl 4 rfl) ?_
              obtain ⟨u36, st34, h35, h⟩ := bd_some h
              refine cV (As := [.int x4_1, .int x5_3, .int x3]) (rest := []) E I hA (k_R_both h35) g_R_154 ⟨rfl, rfl⟩ 0 rfl rfl rfl hl rfl (Nat.le_of_ble_eq_true rfl) ⟨Nat.le_of_ble_eq_true rfl, Nat.le_of_ble_eq_true rfl⟩ ⟨Nat.zero_le _, Nat.zero_le _⟩ d_R_goOn_155 rfl (fun H locs I => ?_)
              cases h
              exact kr _ _ _ _ I d_R_goOn_158
            · by_cases c38 : (r_kindOf st x5_3.toNatClampNeg) = 4
              · refine lv_tableIn (off := 125) (tgt := 149) hx hb d_R_goOn_24 (by rw [c38]; decide) (by rw [c38]; decide) (by rw [c38]; rfl) (by decide) ?_
                refine lv_aload_n hx hb d_R_goOn_149 rfl (lv_at hl 2 rfl) ?_
                refine lv_iload hx hb d_R_goOn_150 (lv_at hl 1 rfl) ?_
                refine lv_iload hx hb d_R_goOn_152 (lv_at hl 0 rfl) ?_
                refine lv_iload_n hx hb d_R_goOn_154 rfl (lv_at hl 4 rfl) ?_
                obtain ⟨u36, st34, h35, h⟩ := bd_some h
                refine cV (As := [.int x4_1, .int x5_3, .int x3]) (rest := []) E I hA (k_R_both h35) g_R_154 ⟨rfl, rfl⟩ 0 rfl rfl rfl hl rfl (Nat.le_of_ble_eq_true rfl) ⟨Nat.le_of_ble_eq_true rfl, Nat.le_of_ble_eq_true rfl⟩ ⟨Nat.zero_le _, Nat.zero_le _⟩ d_R_goOn_155 rfl (fun H locs I => ?_)
                cases h
                exact kr _ _ _ _ I d_R_goOn_158
              · by_cases c39 : (r_kindOf st x5_3.toNatClampNeg) = 5
                · refine lv_tableIn (off := 125) (tgt := 149) hx hb d_R_goOn_24 (by rw [c39]; decide) (by rw [c39]; decide) (by rw [c39]; rfl) (by decide) ?_
                  refine lv_aload_n hx hb d_R_goOn_149 rfl (lv_at hl 2 rfl) ?_
                  refine lv_iload hx hb d_R_goOn_150 (lv_at hl 1 rfl) ?_
                  refine lv_iload hx hb d_R_goOn_152 (lv_at hl 0 rfl) ?_
                  refine lv_iload_n hx hb d_R_goOn_154 rfl (lv_at hl 4 rfl) ?_
                  obtain ⟨u36, st34, h35, h⟩ := bd_some h
                  refine cV (As := [.int x4_1, .int x5_3, .int x3]) (rest := []) E I hA (k_R_both h35) g_R_154 ⟨rfl, rfl⟩ 0 rfl rfl rfl hl rfl (Nat.le_of_ble_eq_true rfl) ⟨Nat.le_of_ble_eq_true rfl, Nat.le_of_ble_eq_true rfl⟩ ⟨Nat.zero_le _, Nat.zero_le _⟩ d_R_goOn_155 rfl (fun H locs I => ?_)
                  cases h
                  exact kr _ _ _ _ I d_R_goOn_158
                · by_cases c40 : (r_kindOf st x5_3.toNatClampNeg) = 6
                  · refine lv_tableIn (off := 125) (tgt := 149) hx hb d_R_goOn_24 (by rw [c40]; decide) (by rw [c40]; decide) (by rw [c40]; rfl) (by decide) ?_
                    refine lv_aload_n hx hb d_R_goOn_149 rfl (lv_at hl 2 rfl) ?_
                    refine lv_iload hx hb d_R_goOn_150 (lv_at hl 1 rfl) ?_
                    refine lv_iload hx hb d_R_goOn_152 (lv_at hl 0 rfl) ?_
                    refine lv_iload_n hx hb d_R_goOn_154 rfl (lv_at hl 4 rfl) ?_
                    obtain ⟨u36, st34, h35, h⟩ := bd_some h
                    refine cV (As := [.int x4_1, .int x5_3, .int x3]) (rest := []) E I hA (k_R_both h35) g_R_154 ⟨rfl, rfl⟩ 0 rfl rfl rfl hl rfl (Nat.le_of_ble_eq_true rfl) ⟨Nat.le_of_ble_eq_true rfl, Nat.le_of_ble_eq_true rfl⟩ ⟨Nat.zero_le _, Nat.zero_le _⟩ d_R_goOn_155 rfl (fun H locs I => ?_)
                    cases h
                    exact kr _ _ _ _ I d_R_goOn_158
                  · by_cases c41 : (r_kindOf st x5_3.toNatClampNeg) = 7
                    · refine lv_tableIn (off := 125) (tgt := 149) hx hb d_R_goOn_24 (by rw [c41]; decide) (by rw [c41]; decide) (by rw [c41]; rfl) (by decide) ?_
                      refine lv_aload_n hx hb d_R_goOn_149 rfl (lv_at hl 2 rfl) ?_
                      refine lv_iload hx hb d_R_goOn_150 (lv_at hl 1 rfl) ?_
                      refine lv_iload hx hb d_R_goOn_152 (lv_at hl 0 rfl) ?_
                      refine lv_iload_n hx hb d_R_goOn_154 rfl (lv_at hl 4 rfl) ?_
                      obtain ⟨u36, st34, h35, h⟩ := bd_some h
                      refine cV (As := [.int x4_1, .int x5_3, .int x3]) (rest := []) E I hA (k_R_both h35) g_R_154 ⟨rfl, rfl⟩ 0 rfl rfl rfl hl rfl (Nat.le_of_ble_eq_true rfl) ⟨Nat.le_of_ble_eq_true rfl, Nat.le_of_ble_eq_true rfl⟩ ⟨Nat.zero_le _, Nat.zero_le _⟩ d_R_goOn_155 rfl (fun H locs I => ?_)
                      cases h
                      exact kr _ _ _ _ I d_R_goOn_158
                    · have tc5 := ne_ti (z := 0) (by decide) c5
                      have tc18 := ne_ti (z := 1) (by decide) c18
                      have tc22 := ne_ti (z := 2) (by decide) c22
                      have tc26 := ne_ti (z := 8) (by decide) c26
                      have tc30 := ne_ti (z := 9) (by decide) c30
                      have tc37 := ne_ti (z := 3) (by decide) c37
                      have tc38 := ne_ti (z := 4) (by decide) c38
                      have tc39 := ne_ti (z := 5) (by decide) c39
                      have tc40 := ne_ti (z := 6) (by decide) c40
                      have tc41 := ne_ti (z := 7) (by decide) c41
                      refine lv_tableOut (tgt := 149) hx hb d_R_goOn_24 (by omega) (by decide) ?_
                      refine lv_aload_n hx hb d_R_goOn_149 rfl (lv_at hl 2 rfl) ?_
                      refine lv_iload hx hb d_R_goOn_150 (lv_at hl 1 rfl) ?_
                      refine lv_iload hx hb d_R_goOn_152 (lv_at hl 0 rfl) ?_
                      refine lv_iload_n hx hb d_R_goOn_154 rfl (lv_at hl 4 rfl) ?_
                      obtain ⟨u36, st34, h35, h⟩ := bd_some h
                      refine cV (As := [.int x4_1, .int x5_3, .int x3]) (rest := []) E I hA (k_R_both h35) g_R_154 ⟨rfl, rfl⟩ 0 rfl rfl rfl hl rfl (Nat.le_of_ble_eq_true rfl) ⟨Nat.le_of_ble_eq_true rfl, Nat.le_of_ble_eq_true rfl⟩ ⟨Nat.zero_le _, Nat.zero_le _⟩ d_R_goOn_155 rfl (fun H locs I => ?_)
                      cases h
                      exact kr _ _ _ _ I d_R_goOn_158
set_option maxHeartbeats 4000000 in
set_option maxRecDepth 100000 in
theorem k_R_goOn {x1 : Int64} {x3 : Int32} {st t : RS} {r : Unit} (h : f_R_goOn x1 x3 st = some (r, t)) : Cn l y_R_goOn c_R_goOn 6 none rm_R_goOn D (tyL cs) (cwR A cs st) (cwR A cs t) [.ref (A 0), .long x1, .int x3] (none) := by
  refine cn_intro (by decide) (Nat.le_of_ble_eq_true rfl) ?_
  intro p e s m below meth c A0 Q ls E hr hlk hA hA0 hQ I hl
  exact w_R_goOn E hA (rt_v E hr hlk hA0 hQ) x1 x3 st _ _ _ h I (lv_sub hl [0, 1, 2] rfl)
abbrev rm_R_workOut : Room := { frames := 4, cells := 0, slots := 0, locals := 95 }
noncomputable def f_R_workOut_51 : Nat → Int64 → Int32 → RS → Option (Unit × RS)
  | 0, _, _, _ => none
  | n + 1, x2, x4, st =>
    if (r_high st) ≤ 0 then (
      some ((), st)
    ) else (
      if (r_isCut st) = 0 then (
        bd (f_R_goOn x2 x4 st) fun _ st3 =>
        f_R_workOut_51 n x2 x4 st3
      ) else (
        some ((), st)
      )
    )
noncomputable def f_R_workOut_23 : Nat → Int32 → Int64 → Int32 → Int32 → RS → Option (Unit × RS)
  | 0, _, _, _, _, _ => none
  | n + 1, x1, x2, x4, x5, st =>
    if (64 : Int32) ≤ x5 then (
      bd (f_R_enter x1 x4 st) fun _ st7 =>
      f_R_workOut_51 FU x2 x4 st7
    ) else (
      ck x5 64 <|
      nx (s_r_marked st x5.toNatClampNeg (vp_nar .boolean (0 : Int32))) fun st11 =>
      nx (x5 + 1) fun x5_12 =>
      f_R_workOut_23 n x1 x2 x4 x5_12 st11
    )
noncomputable def f_R_workOut (x1 : Int32) (x2 : Int64) (x4 : Int32) (st : RS) : Option (Unit × RS) :=
  nx (s_r_steps st (0 : Int32)) fun st13 =>
  nx (s_r_isCut st13 (0 : Int32)) fun st14 =>
  nx (s_r_high st14 (0 : Int32)) fun st15 =>
  nx (s_r_acc st15 (0 : Int64)) fun st16 =>
  f_R_workOut_23 FU x1 x2 x4 (0 : Int32) st16
set_option maxHeartbeats 4000000 in
set_option maxRecDepth 100000 in
theorem w_R_workOut_51  {r : Unit} {t : RS} (E : EC R_R c_R_workOut 6 p s m args c D (tyL cs)) (hA : ∀ q, H0.size ≤ q → A0 q) (kr : ∀ (H : Heap) (locs : List Loc) (pc : Nat) (ls : Array Slot), IW D (cwR A cs t) A0 H0 H locs → decode c_R_workOut pc = .ok (.return_, 1) → W p l e rm_R_workOut s m args below meth c H locs 0 0 Q (F0 m pc ls [])) : ∀ (n : Nat), ∀ (x2 : Int64) (x4 : Int32) (st : RS) (H : Heap) (locs : List Loc) (ls : Array Slot), f_R_workOut_51 n x2 x4 st = some (r, t) → IW D (cwR A cs st) A0 H0 H locs → lv_has ls 6 [(0, .ref (A 0)), (2, .long x2), (4, .int x4)] → W p l e rm_R_workOut s m args below meth c H locs 0 0 Q (F0 m 51 ls []) := by
  intro n
  induction n with
  | zero => intro x2 x4 st H locs ls h I hl; cases h
  | succ n ih =>
    intro x2 x4 st H locs ls h I hl
    have hx := E.1
    have hb := E.2.1
    rw [f_R_workOut_51] at h
    refine lv_aload_n hx hb d_R_workOut_51 rfl (lv_at hl 0 rfl) ?_
    refine g_r_high E I k_R_121 d_R_workOut_52 ?_
    refine lv_if_le (tgt := 75) hx hb d_R_workOut_55 (by decide) (fun c1 => ?_) (fun c1 => ?_)
    · have h := ifp c1 h
      cases h
      exact kr _ _ _ _ I d_R_workOut_75
    · have h := ifn c1 h
      refine lv_aload_n hx hb d_R_workOut_58 rfl (lv_at hl 0 rfl) ?_
      refine g_r_isCut E I k_R_117 d_R_workOut_59 ?_
      refine lv_if_ne (tgt := 75) hx hb d_R_workOut_62 (by decide) (fun c2 => ?_) (fun c2 => ?_)
      · have h := ifn c2 h
        cases h
        exact kr _ _ _ _ I d_R_workOut_75
      · have h := ifp c2 h
        refine lv_aload_n hx hb d_R_workOut_65 rfl (lv_at hl 0 rfl) ?_
        refine lv_lload_n hx hb d_R_workOut_66 rfl (lv_at hl 1 rfl) ?_
        refine lv_iload hx hb d_R_workOut_67 (lv_at hl 2 rfl) ?_
        obtain ⟨u5, st3, h4, h⟩ := bd_some h
        refine cV (As := [.long x2, .int x4]) (rest := []) E I hA (k_R_goOn h4) g_R_135 ⟨rfl, rfl⟩ 0 rfl rfl rfl hl rfl (Nat.le_of_ble_eq_true rfl) ⟨Nat.le_of_ble_eq_true rfl, Nat.le_of_ble_eq_true rfl⟩ ⟨Nat.zero_le _, Nat.zero_le _⟩ d_R_workOut_69 rfl (fun H locs I => ?_)
        refine lv_goto (tgt := 51) hx hb d_R_workOut_72 (by decide) ?_
        exact ih x2 x4 st3 _ _ _ h I (lv_sub hl [0, 1, 2] rfl)
set_option maxHeartbeats 4000000 in
set_option maxRecDepth 100000 in
theorem w_R_workOut_23  {r : Unit} {t : RS} (E : EC R_R c_R_workOut 6 p s m args c D (tyL cs)) (hA : ∀ q, H0.size ≤ q → A0 q) (kr : ∀ (H : Heap) (locs : List Loc) (pc : Nat) (ls : Array Slot), IW D (cwR A cs t) A0 H0 H locs → decode c_R_workOut pc = .ok (.return_, 1) → W p l e rm_R_workOut s m args below meth c H locs 0 0 Q (F0 m pc ls [])) : ∀ (n : Nat), ∀ (x1 : Int32) (x2 : Int64) (x4 : Int32) (x5 : Int32) (st : RS) (H : Heap) (locs : List Loc) (ls : Array Slot), f_R_workOut_23 n x1 x2 x4 x5 st = some (r, t) → IW D (cwR A cs st) A0 H0 H locs → lv_has ls 6 [(0, .ref (A 0)), (1, .int x1), (2, .long x2), (4, .int x4), (5, .int x5)] → W p l e rm_R_workOut s m args below meth c H locs 0 0 Q (F0 m 23 ls []) := by
  intro n
  induction n with
  | zero => intro x1 x2 x4 x5 st H locs ls h I hl; cases h
  | succ n ih =>
    intro x1 x2 x4 x5 st H locs ls h I hl
    have hx := E.1
    have hb := E.2.1
    rw [f_R_workOut_23] at h
    refine lv_iload hx hb d_R_workOut_23 (lv_at hl 4 rfl) ?_
    refine lv_bipush (v := 64) hx hb d_R_workOut_25 (by decide) ?_
    refine lv_icmp_ge (tgt := 44) hx hb d_R_workOut_27 (by decide) (fun c6 => ?_) (fun c6 => ?_)
    · have h := ifp c6 h
      refine lv_aload_n hx hb d_R_workOut_44 rfl (lv_at hl 0 rfl) ?_
      refine lv_iload_n hx hb d_R_workOut_45 rfl (lv_at hl 1 rfl) ?_
      refine lv_iload hx hb d_R_workOut_46 (lv_at hl 3 rfl) ?_
      obtain ⟨u9, st7, h8, h⟩ := bd_some h
      refine cV (As := [.int x1, .int x4]) (rest := []) E I hA (k_R_enter h8) g_R_131 ⟨rfl, rfl⟩ 0 rfl rfl rfl hl rfl (Nat.le_of_ble_eq_true rfl) ⟨Nat.le_of_ble_eq_true rfl, Nat.le_of_ble_eq_true rfl⟩ ⟨Nat.zero_le _, Nat.zero_le _⟩ d_R_workOut_48 rfl (fun H locs I => ?_)
      exact w_R_workOut_51 E hA kr FU x2 x4 st7 _ _ _ h I (lv_sub hl [0, 2, 3] rfl)
    · have h := ifn c6 h
      refine lv_aload_n hx hb d_R_workOut_30 rfl (lv_at hl 0 rfl) ?_
      refine g_rR_marked E I k_R_70 d_R_workOut_31 ?_
      refine lv_iload hx hb d_R_workOut_34 (lv_at hl 4 rfl) ?_
      refine lv_iconst (v := 0) hx hb d_R_workOut_36 (by decide) ?_
      obtain ⟨b10, h⟩ := ck_some h
      obtain ⟨st11, est11⟩ : ∃ y : RS, y = (s_r_marked st x5.toNatClampNeg (vp_nar .boolean (0 : Int32))) := ⟨_, rfl⟩
      have h := nx_k est11 h
      refine p_r_marked E I b10 est11 d_R_workOut_37 (fun H locs I => ?_)
      obtain ⟨x5_12, ex5_12⟩ : ∃ y : Int32, y = (x5 + 1) := ⟨_, rfl⟩
      have h := nx_k ex5_12 h
      refine lv_iinc (v := x5_12) (lv' := [(5, .int x5_12), (0, .ref (A 0)), (1, .int x1), (2, .long x2), (4, .int x4)]) hx hb d_R_workOut_38 hl (k := 4) rfl (by rw [ex5_12]; rfl) (by decide) rfl (fun ls hl => ?_)
      refine lv_goto (tgt := 23) hx hb d_R_workOut_41 (by decide) ?_
      exact ih x1 x2 x4 x5_12 st11 _ _ _ h I (lv_sub hl [1, 2, 3, 4, 0] rfl)
set_option maxHeartbeats 4000000 in
set_option maxRecDepth 100000 in
theorem w_R_workOut  {r : Unit} {t : RS} (E : EC R_R c_R_workOut 6 p s m args c D (tyL cs)) (hA : ∀ q, H0.size ≤ q → A0 q) (kr : ∀ (H : Heap) (locs : List Loc) (pc : Nat) (ls : Array Slot), IW D (cwR A cs t) A0 H0 H locs → decode c_R_workOut pc = .ok (.return_, 1) → W p l e rm_R_workOut s m args below meth c H locs 0 0 Q (F0 m pc ls [])) : ∀ (x1 : Int32) (x2 : Int64) (x4 : Int32) (st : RS) (H : Heap) (locs : List Loc) (ls : Array Slot), f_R_workOut x1 x2 x4 st = some (r, t) → IW D (cwR A cs st) A0 H0 H locs → lv_has ls 6 [(0, .ref (A 0)), (1, .int x1), (2, .long x2), (4, .int x4)] → W p l e rm_R_workOut s m args below meth c H locs 0 0 Q (F0 m 0 ls []) := by
  intro x1 x2 x4 st H locs ls h I hl
  have hx := E.1
  have hb := E.2.1
  rw [f_R_workOut] at h
  refine lv_aload_n hx hb d_R_workOut_0 rfl (lv_at hl 0 rfl) ?_
  refine lv_iconst (v := 0) hx hb d_R_workOut_1 (by decide) ?_
  obtain ⟨st13, est13⟩ : ∃ y : RS, y = (s_r_steps st (0 : Int32)) := ⟨_, rfl⟩
  have h := nx_k est13 h
  refine p_r_steps E I est13 k_R_114 d_R_workOut_2 (fun H locs I => ?_)
  refine lv_aload_n hx hb d_R_workOut_5 rfl (lv_at hl 0 rfl) ?_
  refine lv_iconst (v := 0) hx hb d_R_workOut_6 (by decide) ?_
  obtain ⟨st14, est14⟩ : ∃ y : RS, y = (s_r_isCut st13 (0 : Int32)) := ⟨_, rfl⟩
  have h := nx_k est14 h
  refine p_r_isCut E I est14 k_R_117 (by decide) d_R_workOut_7 (fun H locs I => ?_)
  refine lv_aload_n hx hb d_R_workOut_10 rfl (lv_at hl 0 rfl) ?_
  refine lv_iconst (v := 0) hx hb d_R_workOut_11 (by decide) ?_
  obtain ⟨st15, est15⟩ : ∃ y : RS, y = (s_r_high st14 (0 : Int32)) := ⟨_, rfl⟩
  have h := nx_k est15 h
  refine p_r_high E I est15 k_R_121 d_R_workOut_12 (fun H locs I => ?_)
  refine lv_aload_n hx hb d_R_workOut_15 rfl (lv_at hl 0 rfl) ?_
  refine lv_lconst (v := 0) hx hb d_R_workOut_16 (by decide) ?_
  obtain ⟨st16, est16⟩ : ∃ y : RS, y = (s_r_acc st15 (0 : Int64)) := ⟨_, rfl⟩
  have h := nx_k est16 h
  refine p_r_acc E I est16 k_R_128 d_R_workOut_17 (fun H locs I => ?_)
  refine lv_iconst (v := 0) hx hb d_R_workOut_20 (by decide) ?_
  refine lv_istore (lv' := [(5, .int (0 : Int32)), (0, .ref (A 0)), (1, .int x1), (2, .long x2), (4, .int x4)]) hx hb d_R_workOut_21 hl (by decide) rfl (fun ls hl => ?_)
  exact w_R_workOut_23 E hA kr FU x1 x2 x4 (0 : Int32) st16 _ _ _ h I (lv_sub hl [1, 2, 3, 4, 0] rfl)
set_option maxHeartbeats 4000000 in
set_option maxRecDepth 100000 in
theorem k_R_workOut {x1 : Int32} {x2 : Int64} {x4 : Int32} {st t : RS} {r : Unit} (h : f_R_workOut x1 x2 x4 st = some (r, t)) : Cn l y_R_workOut c_R_workOut 6 none rm_R_workOut D (tyL cs) (cwR A cs st) (cwR A cs t) [.ref (A 0), .int x1, .long x2, .int x4] (none) := by
  refine cn_intro (by decide) (Nat.le_of_ble_eq_true rfl) ?_
  intro p e s m below meth c A0 Q ls E hr hlk hA hA0 hQ I hl
  exact w_R_workOut E hA (rt_v E hr hlk hA0 hQ) x1 x2 x4 st _ _ _ h I (lv_sub hl [0, 1, 2, 3] rfl)
abbrev rm_R_tryOut : Room := { frames := 5, cells := 0, slots := 0, locals := 120 }
noncomputable def f_R_tryOut_78 : Nat → Int32 → Int32 → RS → Option (Unit × RS)
  | 0, _, _, _ => none
  | n + 1, x1, x2, st =>
    if (64 : Int32) ≤ x2 then (
      some ((), st)
    ) else (
      ck x2 64 <|
      ck (((64 : Int32) * x1) + x2) 1536 <|
      nx (s_r_covers st (((64 : Int32) * x1) + x2).toNatClampNeg (vp_nar .boolean (r_marked st x2.toNatClampNeg))) fun st4 =>
      nx (x2 + 1) fun x2_5 =>
      f_R_tryOut_78 n x1 x2_5 st4
    )
noncomputable def f_R_tryOut_65 (x1 : Int32) (s1 : Int32) (s2 : Int32) (st : RS) : Option (Unit × RS) :=
  ck s1 24 <|
  nx (s_r_passes st s1.toNatClampNeg s2) fun st7 =>
  ck x1 24 <|
  nx (s_r_stepsOf st7 x1.toNatClampNeg (r_steps st7)) fun st9 =>
  f_R_tryOut_78 FU x1 (0 : Int32) st9
noncomputable def f_R_tryOut (x1 : Int32) (st : RS) : Option (Unit × RS) :=
  nx (s_r_changedKind st (-1 : Int32)) fun st10 =>
  nx (s_r_changedNode st10 (-1 : Int32)) fun st11 =>
  ck x1 24 <|
  ck x1 24 <|
  bd (f_R_workOut (r_root st11 x1.toNatClampNeg) (r_input st11 x1.toNatClampNeg) (3000 : Int32) st11) fun _ st14 =>
  if (r_isCut st14) = 0 then (
    ck x1 24 <|
    if (r_given st14) = (r_wanted st14 x1.toNatClampNeg) then (
      f_R_tryOut_65 x1 x1 (1 : Int32) st14
    ) else (
      f_R_tryOut_65 x1 x1 (0 : Int32) st14
    )
  ) else (
    f_R_tryOut_65 x1 x1 (-2 : Int32) st14
  )
set_option maxHeartbeats 4000000 in
set_option maxRecDepth 100000 in
theorem w_R_tryOut_78  {r : Unit} {t : RS} (E : EC R_R c_R_tryOut 3 p s m args c D (tyL cs)) (hA : ∀ q, H0.size ≤ q → A0 q) (kr : ∀ (H : Heap) (locs : List Loc) (pc : Nat) (ls : Array Slot), IW D (cwR A cs t) A0 H0 H locs → decode c_R_tryOut pc = .ok (.return_, 1) → W p l e rm_R_tryOut s m args below meth c H locs 0 0 Q (F0 m pc ls [])) : ∀ (n : Nat), ∀ (x1 : Int32) (x2 : Int32) (st : RS) (H : Heap) (locs : List Loc) (ls : Array Slot), f_R_tryOut_78 n x1 x2 st = some (r, t) → IW D (cwR A cs st) A0 H0 H locs → lv_has ls 3 [(0, .ref (A 0)), (1, .int x1), (2, .int x2)] → W p l e rm_R_tryOut s m args below meth c H locs 0 0 Q (F0 m 78 ls []) := by
  intro n
  induction n with
  | zero => intro x1 x2 st H locs ls h I hl; cases h
  | succ n ih =>
    intro x1 x2 st H locs ls h I hl
    have hx := E.1
    have hb := E.2.1
    rw [f_R_tryOut_78] at h
    refine lv_iload_n hx hb d_R_tryOut_78 rfl (lv_at hl 2 rfl) ?_
    refine lv_bipush (v := 64) hx hb d_R_tryOut_79 (by decide) ?_
    refine lv_icmp_ge (tgt := 107) hx hb d_R_tryOut_81 (by decide) (fun c1 => ?_) (fun c1 => ?_)
    · have h := ifp c1 h
      cases h
      exact kr _ _ _ _ I d_R_tryOut_107
    · have h := ifn c1 h
      refine lv_aload_n hx hb d_R_tryOut_84 rfl (lv_at hl 0 rfl) ?_
      refine g_rR_covers E I k_R_41 d_R_tryOut_85 ?_
      refine lv_bipush (v := 64) hx hb d_R_tryOut_88 (by decide) ?_
      refine lv_iload_n hx hb d_R_tryOut_90 rfl (lv_at hl 1 rfl) ?_
      refine lv_imul hx hb d_R_tryOut_91 ?_
      refine lv_iload_n hx hb d_R_tryOut_92 rfl (lv_at hl 2 rfl) ?_
      refine lv_iadd hx hb d_R_tryOut_93 ?_
      refine lv_aload_n hx hb d_R_tryOut_94 rfl (lv_at hl 0 rfl) ?_
      refine g_rR_marked E I k_R_70 d_R_tryOut_95 ?_
      refine lv_iload_n hx hb d_R_tryOut_98 rfl (lv_at hl 2 rfl) ?_
      obtain ⟨b2, h⟩ := ck_some h
      refine l_r_marked E I b2 d_R_tryOut_99 ?_
      obtain ⟨b3, h⟩ := ck_some h
      obtain ⟨st4, est4⟩ : ∃ y : RS, y = (s_r_covers st (((64 : Int32) * x1) + x2).toNatClampNeg (vp_nar .boolean (r_marked st x2.toNatClampNeg))) := ⟨_, rfl⟩
      have h := nx_k est4 h
      refine p_r_covers E I b3 est4 d_R_tryOut_100 (fun H locs I => ?_)
      obtain ⟨x2_5, ex2_5⟩ : ∃ y : Int32, y = (x2 + 1) := ⟨_, rfl⟩
      have h := nx_k ex2_5 h
      refine lv_iinc (v := x2_5) (lv' := [(2, .int x2_5), (0, .ref (A 0)), (1, .int x1)]) hx hb d_R_tryOut_101 hl (k := 2) rfl (by rw [ex2_5]; rfl) (by decide) rfl (fun ls hl => ?_)
      refine lv_goto (tgt := 78) hx hb d_R_tryOut_104 (by decide) ?_
      exact ih x1 x2_5 st4 _ _ _ h I (lv_sub hl [1, 2, 0] rfl)
set_option maxHeartbeats 4000000 in
set_option maxRecDepth 100000 in
theorem w_R_tryOut_65  {r : Unit} {t : RS} (E : EC R_R c_R_tryOut 3 p s m args c D (tyL cs)) (hA : ∀ q, H0.size ≤ q → A0 q) (kr : ∀ (H : Heap) (locs : List Loc) (pc : Nat) (ls : Array Slot), IW D (cwR A cs t) A0 H0 H locs → decode c_R_tryOut pc = .ok (.return_, 1) → W p l e rm_R_tryOut s m args below meth c H locs 0 0 Q (F0 m pc ls [])) : ∀ (x1 : Int32) (s1 : Int32) (s2 : Int32) (st : RS) (H : Heap) (locs : List Loc) (ls : Array Slot), f_R_tryOut_65 x1 s1 s2 st = some (r, t) → IW D (cwR A cs st) A0 H0 H locs → lv_has ls 3 [(0, .ref (A 0)), (1, .int x1)] → W p l e rm_R_tryOut s m args below meth c H locs 0 0 Q (F0 m 65 ls [.int s2, .int s1, .ref (A 9)]) := by
  intro x1 s1 s2 st H locs ls h I hl
  have hx := E.1
  have hb := E.2.1
  rw [f_R_tryOut_65] at h
  obtain ⟨b6, h⟩ := ck_some h
  obtain ⟨st7, est7⟩ : ∃ y : RS, y = (s_r_passes st s1.toNatClampNeg s2) := ⟨_, rfl⟩
  have h := nx_k est7 h
  refine p_r_passes E I b6 est7 d_R_tryOut_65 (fun H locs I => ?_)
  refine lv_aload_n hx hb d_R_tryOut_66 rfl (lv_at hl 0 rfl) ?_
  refine g_rR_stepsOf E I k_R_38 d_R_tryOut_67 ?_
  refine lv_iload_n hx hb d_R_tryOut_70 rfl (lv_at hl 1 rfl) ?_
  refine lv_aload_n hx hb d_R_tryOut_71 rfl (lv_at hl 0 rfl) ?_
  refine g_r_steps E I k_R_114 d_R_tryOut_72 ?_
  obtain ⟨b8, h⟩ := ck_some h
  obtain ⟨st9, est9⟩ : ∃ y : RS, y = (s_r_stepsOf st7 x1.toNatClampNeg (r_steps st7)) := ⟨_, rfl⟩
  have h := nx_k est9 h
  refine p_r_stepsOf E I b8 est9 d_R_tryOut_75 (fun H locs I => ?_)
  refine lv_iconst (v := 0) hx hb d_R_tryOut_76 (by decide) ?_
  refine lv_istore_n (lv' := [(2, .int (0 : Int32)), (0, .ref (A 0)), (1, .int x1)]) hx hb d_R_tryOut_77 rfl hl (by decide) rfl (fun ls hl => ?_)
  exact w_R_tryOut_78 E hA kr FU x1 (0 : Int32) st9 _ _ _ h I (lv_sub hl [1, 2, 0] rfl)
set_option maxHeartbeats 4000000 in
set_option maxRecDepth 100000 in
theorem w_R_tryOut  {r : Unit} {t : RS} (E : EC R_R c_R_tryOut 3 p s m args c D (tyL cs)) (hA : ∀ q, H0.size ≤ q → A0 q) (kr : ∀ (H : Heap) (locs : List Loc) (pc : Nat) (ls : Array Slot), IW D (cwR A cs t) A0 H0 H locs → decode c_R_tryOut pc = .ok (.return_, 1) → W p l e rm_R_tryOut s m args below meth c H locs 0 0 Q (F0 m pc ls [])) : ∀ (x1 : Int32) (st : RS) (H : Heap) (locs : List Loc) (ls : Array Slot), f_R_tryOut x1 st = some (r, t) → IW D (cwR A cs st) A0 H0 H locs → lv_has ls 3 [(0, .ref (A 0)), (1, .int x1)] → W p l e rm_R_tryOut s m args below meth c H locs 0 0 Q (F0 m 0 ls []) := by
  intro x1 st H locs ls h I hl
  have hx := E.1
  have hb := E.2.1
  rw [f_R_tryOut] at h
  refine lv_aload_n hx hb d_R_tryOut_0 rfl (lv_at hl 0 rfl) ?_
  refine lv_iconst (v := -1) hx hb d_R_tryOut_1 (by decide) ?_
  obtain ⟨st10, est10⟩ : ∃ y : RS, y = (s_r_changedKind st (-1 : Int32)) := ⟨_, rfl⟩
  have h := nx_k est10 h
  refine p_r_changedKind E I est10 k_R_63 d_R_tryOut_2 (fun H locs I => ?_)
  refine lv_aload_n hx hb d_R_tryOut_5 rfl (lv_at hl 0 rfl) ?_
  refine lv_iconst (v := -1) hx hb d_R_tryOut_6 (by decide) ?_
  obtain ⟨st11, est11⟩ : ∃ y : RS, y = (s_r_changedNode st10 (-1 : Int32)) := ⟨_, rfl⟩
  have h := nx_k est11 h
  refine p_r_changedNode E I est11 k_R_67 d_R_tryOut_7 (fun H locs I => ?_)
  refine lv_aload_n hx hb d_R_tryOut_10 rfl (lv_at hl 0 rfl) ?_
  refine lv_aload_n hx hb d_R_tryOut_11 rfl (lv_at hl 0 rfl) ?_
  refine g_rR_root E I k_R_26 d_R_tryOut_12 ?_
  refine lv_iload_n hx hb d_R_tryOut_15 rfl (lv_at hl 1 rfl) ?_
  obtain ⟨b12, h⟩ := ck_some h
  refine l_r_root E I b12 d_R_tryOut_16 ?_
  refine lv_aload_n hx hb d_R_tryOut_17 rfl (lv_at hl 0 rfl) ?_
  refine g_rR_input E I k_R_29 d_R_tryOut_18 ?_
  refine lv_iload_n hx hb d_R_tryOut_21 rfl (lv_at hl 1 rfl) ?_
  obtain ⟨b13, h⟩ := ck_some h
  refine l_r_input E I b13 d_R_tryOut_22 ?_
  refine lv_sipush (v := 3000) hx hb d_R_tryOut_23 (by decide) ?_
  obtain ⟨u16, st14, h15, h⟩ := bd_some h
  refine cV (As := [.int (r_root st11 x1.toNatClampNeg), .long (r_input st11 x1.toNatClampNeg), .int (3000 : Int32)]) (rest := []) E I hA (k_R_workOut h15) g_R_161 ⟨rfl, rfl⟩ 0 rfl rfl rfl hl rfl (Nat.le_of_ble_eq_true rfl) ⟨Nat.le_of_ble_eq_true rfl, Nat.le_of_ble_eq_true rfl⟩ ⟨Nat.zero_le _, Nat.zero_le _⟩ d_R_tryOut_26 rfl (fun H locs I => ?_)
  refine lv_aload_n hx hb d_R_tryOut_29 rfl (lv_at hl 0 rfl) ?_
  refine g_rR_passes E I k_R_35 d_R_tryOut_30 ?_
  refine lv_iload_n hx hb d_R_tryOut_33 rfl (lv_at hl 1 rfl) ?_
  refine lv_aload_n hx hb d_R_tryOut_34 rfl (lv_at hl 0 rfl) ?_
  refine g_r_isCut E I k_R_117 d_R_tryOut_35 ?_
  refine lv_if_eq (tgt := 46) hx hb d_R_tryOut_38 (by decide) (fun c17 => ?_) (fun c17 => ?_)
  · have h := ifp c17 h
    refine lv_aload_n hx hb d_R_tryOut_46 rfl (lv_at hl 0 rfl) ?_
    refine g_r_given E I k_R_124 d_R_tryOut_47 ?_
    refine lv_aload_n hx hb d_R_tryOut_50 rfl (lv_at hl 0 rfl) ?_
    refine g_rR_wanted E I k_R_32 d_R_tryOut_51 ?_
    refine lv_iload_n hx hb d_R_tryOut_54 rfl (lv_at hl 1 rfl) ?_
    obtain ⟨b18, h⟩ := ck_some h
    refine l_r_wanted E I b18 d_R_tryOut_55 ?_
    refine W.lcmp hx hb d_R_tryOut_56 ?_
    refine lv_if_ne (tgt := 64) hx hb d_R_tryOut_57 (by decide) (fun c19 => ?_) (fun c19 => ?_)
    · have c19 := mt (lg_cmp_eq _ _).mpr c19
      have h := ifn c19 h
      refine lv_iconst (v := 0) hx hb d_R_tryOut_64 (by decide) ?_
      exact w_R_tryOut_65 E hA kr x1 x1 (0 : Int32) st14 _ _ _ h I (lv_sub hl [0, 1] rfl)
    · have c19 := (lg_cmp_eq _ _).mp c19
      have h := ifp c19 h
      refine lv_iconst (v := 1) hx hb d_R_tryOut_60 (by decide) ?_
      refine lv_goto (tgt := 65) hx hb d_R_tryOut_61 (by decide) ?_
      exact w_R_tryOut_65 E hA kr x1 x1 (1 : Int32) st14 _ _ _ h I (lv_sub hl [0, 1] rfl)
  · have h := ifn c17 h
    refine lv_bipush (v := -2) hx hb d_R_tryOut_41 (by decide) ?_
    refine lv_goto (tgt := 65) hx hb d_R_tryOut_43 (by decide) ?_
    exact w_R_tryOut_65 E hA kr x1 x1 (-2 : Int32) st14 _ _ _ h I (lv_sub hl [0, 1] rfl)
set_option maxHeartbeats 4000000 in
set_option maxRecDepth 100000 in
theorem k_R_tryOut {x1 : Int32} {st t : RS} {r : Unit} (h : f_R_tryOut x1 st = some (r, t)) : Cn l y_R_tryOut c_R_tryOut 3 none rm_R_tryOut D (tyL cs) (cwR A cs st) (cwR A cs t) [.ref (A 0), .int x1] (none) := by
  refine cn_intro (by decide) (Nat.le_of_ble_eq_true rfl) ?_
  intro p e s m below meth c A0 Q ls E hr hlk hA hA0 hQ I hl
  exact w_R_tryOut E hA (rt_v E hr hlk hA0 hQ) x1 st _ _ _ h I (lv_sub hl [0, 1] rfl)
abbrev rm_R_test : Room := { frames := 6, cells := 0, slots := 0, locals := 142 }
noncomputable def f_R_test (x1 : Int32) (x2 : Int64) (x4 : Int64) (st : RS) : Option (Int32 × RS) :=
  if (r_tests st) = (24 : Int32) then (
    some ((-1 : Int32), st)
  ) else (
    bd (f_R_isNode (x1.toInt64) st) fun r3 st2 =>
    if r3 = 0 then (
      some ((-1 : Int32), st2)
    ) else (
      ck (r_tests st2) 24 <|
      nx (s_r_root st2 (r_tests st2).toNatClampNeg x1) fun st7 =>
      ck (r_tests st7) 24 <|
      nx (s_r_input st7 (r_tests st7).toNatClampNeg x2) fun st9 =>
      ck (r_tests st9) 24 <|
      nx (s_r_wanted st9 (r_tests st9).toNatClampNeg x4) fun st11 =>
      bd (f_R_tryOut (r_tests st11) st11) fun _ st12 =>
      nx (s_r_tests st12 ((r_tests st12) + (1 : Int32))) fun st15 =>
      some (((r_tests st15) - (1 : Int32)), st15)
    )
  )
set_option maxHeartbeats 4000000 in
set_option maxRecDepth 100000 in
theorem w_R_test  {r : Int32} {t : RS} (E : EC R_R c_R_test 6 p s m args c D (tyL cs)) (hA : ∀ q, H0.size ≤ q → A0 q) (kr : ∀ (H : Heap) (locs : List Loc) (pc : Nat) (ls : Array Slot), IW D (cwR A cs t) A0 H0 H locs → decode c_R_test pc = .ok (.ireturn, 1) → W p l e rm_R_test s m args below meth c H locs 0 0 Q (F0 m pc ls [.int r])) : ∀ (x1 : Int32) (x2 : Int64) (x4 : Int64) (st : RS) (H : Heap) (locs : List Loc) (ls : Array Slot), f_R_test x1 x2 x4 st = some (r, t) → IW D (cwR A cs st) A0 H0 H locs → lv_has ls 6 [(0, .ref (A 0)), (1, .int x1), (2, .long x2), (4, .long x4)] → W p l e rm_R_test s m args below meth c H locs 0 0 Q (F0 m 0 ls []) := by
  intro x1 x2 x4 st H locs ls h I hl
  have hx := E.1
  have hb := E.2.1
  rw [f_R_test] at h
  refine lv_aload_n hx hb d_R_test_0 rfl (lv_at hl 0 rfl) ?_
  refine g_r_tests E I k_R_98 d_R_test_1 ?_
  refine lv_bipush (v := 24) hx hb d_R_test_4 (by decide) ?_
  refine lv_icmp_eq (tgt := 18) hx hb d_R_test_6 (by decide) (fun c1 => ?_) (fun c1 => ?_)
  · have h := ifp c1 h
    refine lv_iconst (v := -1) hx hb d_R_test_18 (by decide) ?_
    cases h
    exact kr _ _ _ _ I d_R_test_19
  · have h := ifn c1 h
    refine lv_aload_n hx hb d_R_test_9 rfl (lv_at hl 0 rfl) ?_
    refine lv_iload_n hx hb d_R_test_10 rfl (lv_at hl 1 rfl) ?_
    refine lv_i2l hx hb d_R_test_11 rfl ?_
    obtain ⟨r3, st2, h4, h⟩ := bd_some h
    refine cV (As := [.long x1.toInt64]) (rest := []) E I hA (k_R_isNode h4) g_R_110 ⟨rfl, rfl⟩ 0 rfl rfl rfl hl rfl (Nat.le_of_ble_eq_true rfl) ⟨Nat.le_of_ble_eq_true rfl, Nat.le_of_ble_eq_true rfl⟩ ⟨Nat.zero_le _, Nat.zero_le _⟩ d_R_test_12 rfl (fun H locs I => ?_)
    refine lv_if_ne (tgt := 20) hx hb d_R_test_15 (by decide) (fun c5 => ?_) (fun c5 => ?_)
    · have h := ifn c5 h
      refine lv_aload_n hx hb d_R_test_20 rfl (lv_at hl 0 rfl) ?_
      refine g_rR_root E I k_R_26 d_R_test_21 ?_
      refine lv_aload_n hx hb d_R_test_24 rfl (lv_at hl 0 rfl) ?_
      refine g_r_tests E I k_R_98 d_R_test_25 ?_
      refine lv_iload_n hx hb d_R_test_28 rfl (lv_at hl 1 rfl) ?_
      obtain ⟨b6, h⟩ := ck_some h
      obtain ⟨st7, est7⟩ : ∃ y : RS, y = (s_r_root st2 (r_tests st2).toNatClampNeg x1) := ⟨_, rfl⟩
      have h := nx_k est7 h
      refine p_r_root E I b6 est7 d_R_test_29 (fun H locs I => ?_)
      refine lv_aload_n hx hb d_R_test_30 rfl (lv_at hl 0 rfl) ?_
      refine g_rR_input E I k_R_29 d_R_test_31 ?_
      refine lv_aload_n hx hb d_R_test_34 rfl (lv_at hl 0 rfl) ?_
      refine g_r_tests E I k_R_98 d_R_test_35 ?_
      refine lv_lload_n hx hb d_R_test_38 rfl (lv_at hl 2 rfl) ?_
      obtain ⟨b8, h⟩ := ck_some h
      obtain ⟨st9, est9⟩ : ∃ y : RS, y = (s_r_input st7 (r_tests st7).toNatClampNeg x2) := ⟨_, rfl⟩
      have h := nx_k est9 h
      refine p_r_input E I b8 est9 d_R_test_39 (fun H locs I => ?_)
      refine lv_aload_n hx hb d_R_test_40 rfl (lv_at hl 0 rfl) ?_
      refine g_rR_wanted E I k_R_32 d_R_test_41 ?_
      refine lv_aload_n hx hb d_R_test_44 rfl (lv_at hl 0 rfl) ?_
      refine g_r_tests E I k_R_98 d_R_test_45 ?_
      refine lv_lload hx hb d_R_test_48 (lv_at hl 3 rfl) ?_
      obtain ⟨b10, h⟩ := ck_some h
      obtain ⟨st11, est11⟩ : ∃ y : RS, y = (s_r_wanted st9 (r_tests st9).toNatClampNeg x4) := ⟨_, rfl⟩
      have h := nx_k est11 h
      refine p_r_wanted E I b10 est11 d_R_test_50 (fun H locs I => ?_)
      refine lv_aload_n hx hb d_R_test_51 rfl (lv_at hl 0 rfl) ?_
      refine lv_aload_n hx hb d_R_test_52 rfl (lv_at hl 0 rfl) ?_
      refine g_r_tests E I k_R_98 d_R_test_53 ?_
      obtain ⟨u14, st12, h13, h⟩ := bd_some h
      refine cV (As := [.int (r_tests st11)]) (rest := []) E I hA (k_R_tryOut h13) g_R_165 ⟨rfl, rfl⟩ 0 rfl rfl rfl hl rfl (Nat.le_of_ble_eq_true rfl) ⟨Nat.le_of_ble_eq_true rfl, Nat.le_of_ble_eq_true rfl⟩ ⟨Nat.zero_le _, Nat.zero_le _⟩ d_R_test_56 rfl (fun H locs I => ?_)
      refine lv_aload_n hx hb d_R_test_59 rfl (lv_at hl 0 rfl) ?_
      refine lv_dup hx hb d_R_test_60 rfl ?_
      refine g_r_tests E I k_R_98 d_R_test_61 ?_
      refine lv_iconst (v := 1) hx hb d_R_test_64 (by decide) ?_
      refine lv_iadd hx hb d_R_test_65 ?_
      obtain ⟨st15, est15⟩ : ∃ y : RS, y = (s_r_tests st12 ((r_tests st12) + (1 : Int32))) := ⟨_, rfl⟩
      have h := nx_k est15 h
      refine p_r_tests E I est15 k_R_98 d_R_test_66 (fun H locs I => ?_)
      refine lv_aload_n hx hb d_R_test_69 rfl (lv_at hl 0 rfl) ?_
      refine g_r_tests E I k_R_98 d_R_test_70 ?_
      refine lv_iconst (v := 1) hx hb d_R_test_73 (by decide) ?_
      refine lv_isub hx hb d_R_test_74 ?_
      cases h
      exact kr _ _ _ _ I d_R_test_75
    · have h := ifp c5 h
      refine lv_iconst (v := -1) hx hb d_R_test_18 (by decide) ?_
      cases h
      exact kr _ _ _ _ I d_R_test_19
set_option maxHeartbeats 4000000 in
set_option maxRecDepth 100000 in
theorem k_R_test {x1 : Int32} {x2 : Int64} {x4 : Int64} {st t : RS} {r : Int32} (h : f_R_test x1 x2 x4 st = some (r, t)) : Cn l y_R_test c_R_test 6 (some .int) rm_R_test D (tyL cs) (cwR A cs st) (cwR A cs t) [.ref (A 0), .int x1, .long x2, .long x4] (some (.int r)) := by
  refine cn_intro (by decide) (Nat.le_of_ble_eq_true rfl) ?_
  intro p e s m below meth c A0 Q ls E hr hlk hA hA0 hQ I hl
  exact w_R_test E hA (rt_i E hr hlk hA0 hQ) x1 x2 x4 st _ _ _ h I (lv_sub hl [0, 1, 2, 3] rfl)
abbrev rm_R_isTest : Room := { frames := 1, cells := 0, slots := 0, locals := 25 }
noncomputable def f_R_isTest (x1 : Int32) (st : RS) : Option (Int32 × RS) :=
  bd (f_R_in (x1.toInt64) (0 : Int64) (((r_tests st) - (1 : Int32)).toInt64) st) fun r2 st1 =>
  zr r2 st1
set_option maxHeartbeats 4000000 in
set_option maxRecDepth 100000 in
theorem w_R_isTest  {r : Int32} {t : RS} (E : EC R_R c_R_isTest 2 p s m args c D (tyL cs)) (hA : ∀ q, H0.size ≤ q → A0 q) (kr : ∀ (H : Heap) (locs : List Loc) (pc : Nat) (ls : Array Slot), IW D (cwR A cs t) A0 H0 H locs → narrow .boolean (.int r) = .int r → decode c_R_isTest pc = .ok (.ireturn, 1) → W p l e rm_R_isTest s m args below meth c H locs 0 0 Q (F0 m pc ls [.int r])) : ∀ (x1 : Int32) (st : RS) (H : Heap) (locs : List Loc) (ls : Array Slot), f_R_isTest x1 st = some (r, t) → IW D (cwR A cs st) A0 H0 H locs → lv_has ls 2 [(0, .ref (A 0)), (1, .int x1)] → W p l e rm_R_isTest s m args below meth c H locs 0 0 Q (F0 m 0 ls []) := by
  intro x1 st H locs ls h I hl
  have hx := E.1
  have hb := E.2.1
  rw [f_R_isTest] at h
  refine lv_iload_n hx hb d_R_isTest_0 rfl (lv_at hl 1 rfl) ?_
  refine lv_i2l hx hb d_R_isTest_1 rfl ?_
  refine lv_lconst (v := 0) hx hb d_R_isTest_2 (by decide) ?_
  refine lv_aload_n hx hb d_R_isTest_3 rfl (lv_at hl 0 rfl) ?_
  refine g_r_tests E I k_R_98 d_R_isTest_4 ?_
  refine lv_iconst (v := 1) hx hb d_R_isTest_7 (by decide) ?_
  refine lv_isub hx hb d_R_isTest_8 ?_
  refine lv_i2l hx hb d_R_isTest_9 rfl ?_
  obtain ⟨r2, st1, h3, h⟩ := bd_some h
  refine cS (As := [.long x1.toInt64, .long (0 : Int64), .long ((r_tests st) - (1 : Int32)).toInt64]) (rest := []) E I hA (k_R_in h3) g_R_94 ⟨rfl, rfl⟩ rfl hl rfl (Nat.le_of_ble_eq_true rfl) ⟨Nat.le_of_ble_eq_true rfl, Nat.le_of_ble_eq_true rfl⟩ ⟨Nat.zero_le _, Nat.zero_le _⟩ d_R_isTest_10 rfl (fun H locs I => ?_)
  obtain ⟨z4, h⟩ := zr_some h
  cases h
  exact kr _ _ _ _ I (zr_nar z4) d_R_isTest_13
set_option maxHeartbeats 4000000 in
set_option maxRecDepth 100000 in
theorem k_R_isTest {x1 : Int32} {st t : RS} {r : Int32} (h : f_R_isTest x1 st = some (r, t)) : Cn l y_R_isTest c_R_isTest 2 (some .boolean) rm_R_isTest D (tyL cs) (cwR A cs st) (cwR A cs t) [.ref (A 0), .int x1] (some (.int r)) := by
  refine cn_intro (by decide) (Nat.le_of_ble_eq_true rfl) ?_
  intro p e s m below meth c A0 Q ls E hr hlk hA hA0 hQ I hl
  exact w_R_isTest E hA (rt_z E hr hlk hA0 hQ) x1 st _ _ _ h I (lv_sub hl [0, 1] rfl)
abbrev rm_R_about : Room := { frames := 2, cells := 0, slots := 0, locals := 46 }
noncomputable def f_R_about_45 : Nat → Int32 → Int32 → Int32 → RS → Option (Int32 × RS)
  | 0, _, _, _, _ => none
  | n + 1, x1, x3, x4, st =>
    if (64 : Int32) ≤ x4 then (
      some (x3, st)
    ) else (
      ck (((64 : Int32) * x1) + x4) 1536 <|
      if (r_covers st (((64 : Int32) * x1) + x4).toNatClampNeg) = 0 then (
        nx (x3 + (0 : Int32)) fun x3_4 =>
        nx (x4 + 1) fun x4_5 =>
        f_R_about_45 n x1 x3_4 x4_5 st
      ) else (
        nx (x3 + (1 : Int32)) fun x3_6 =>
        nx (x4 + 1) fun x4_7 =>
        f_R_about_45 n x1 x3_6 x4_7 st
      )
    )
noncomputable def f_R_about (x1 : Int32) (x2 : Int32) (st : RS) : Option (Int32 × RS) :=
  bd (f_R_isTest x1 st) fun r9 st8 =>
  if r9 = 0 then (
    some ((-1 : Int32), st8)
  ) else (
    if x2 = 0 then (
      ck x1 24 <|
      some ((r_passes st8 x1.toNatClampNeg), st8)
    ) else (
      if x2 = (1 : Int32) then (
        ck x1 24 <|
        some ((r_stepsOf st8 x1.toNatClampNeg), st8)
      ) else (
        if x2 = (2 : Int32) then (
          f_R_about_45 FU x1 (0 : Int32) (0 : Int32) st8
        ) else (
          some ((-1 : Int32), st8)
        )
      )
    )
  )
set_option maxHeartbeats 4000000 in
set_option maxRecDepth 100000 in
theorem w_R_about_45  {r : Int32} {t : RS} (E : EC R_R c_R_about 5 p s m args c D (tyL cs)) (hA : ∀ q, H0.size ≤ q → A0 q) (kr : ∀ (H : Heap) (locs : List Loc) (pc : Nat) (ls : Array Slot), IW D (cwR A cs t) A0 H0 H locs → decode c_R_about pc = .ok (.ireturn, 1) → W p l e rm_R_about s m args below meth c H locs 0 0 Q (F0 m pc ls [.int r])) : ∀ (n : Nat), ∀ (x1 : Int32) (x3 : Int32) (x4 : Int32) (st : RS) (H : Heap) (locs : List Loc) (ls : Array Slot), f_R_about_45 n x1 x3 x4 st = some (r, t) → IW D (cwR A cs st) A0 H0 H locs → lv_has ls 5 [(0, .ref (A 0)), (1, .int x1), (3, .int x3), (4, .int x4)] → W p l e rm_R_about s m args below meth c H locs 0 0 Q (F0 m 45 ls []) := by
  intro n
  induction n with
  | zero => intro x1 x3 x4 st H locs ls h I hl; cases h
  | succ n ih =>
    intro x1 x3 x4 st H locs ls h I hl
    have hx := E.1
    have hb := E.2.1
    rw [f_R_about_45] at h
    refine lv_iload hx hb d_R_about_45 (lv_at hl 3 rfl) ?_
    refine lv_bipush (v := 64) hx hb d_R_about_47 (by decide) ?_
    refine lv_icmp_ge (tgt := 81) hx hb d_R_about_49 (by decide) (fun c1 => ?_) (fun c1 => ?_)
    · have h := ifp c1 h
      refine lv_iload_n hx hb d_R_about_81 rfl (lv_at hl 2 rfl) ?_
      cases h
      exact kr _ _ _ _ I d_R_about_82
    · have h := ifn c1 h
      refine lv_iload_n hx hb d_R_about_52 rfl (lv_at hl 2 rfl) ?_
      refine lv_aload_n hx hb d_R_about_53 rfl (lv_at hl 0 rfl) ?_
      refine g_rR_covers E I k_R_41 d_R_about_54 ?_
      refine lv_bipush (v := 64) hx hb d_R_about_57 (by decide) ?_
      refine lv_iload_n hx hb d_R_about_59 rfl (lv_at hl 1 rfl) ?_
      refine lv_imul hx hb d_R_about_60 ?_
      refine lv_iload hx hb d_R_about_61 (lv_at hl 3 rfl) ?_
      refine lv_iadd hx hb d_R_about_63 ?_
      obtain ⟨b2, h⟩ := ck_some h
      refine l_r_covers E I b2 d_R_about_64 ?_
      refine lv_if_eq (tgt := 72) hx hb d_R_about_65 (by decide) (fun c3 => ?_) (fun c3 => ?_)
      · have h := ifp c3 h
        refine lv_iconst (v := 0) hx hb d_R_about_72 (by decide) ?_
        refine lv_iadd hx hb d_R_about_73 ?_
        refine lv_topi (fun x3_4 ex3_4 => ?_)
        have h := nx_k ex3_4 h
        refine lv_istore_n (lv' := [(3, .int x3_4), (0, .ref (A 0)), (1, .int x1), (4, .int x4)]) hx hb d_R_about_74 rfl hl (by decide) rfl (fun ls hl => ?_)
        obtain ⟨x4_5, ex4_5⟩ : ∃ y : Int32, y = (x4 + 1) := ⟨_, rfl⟩
        have h := nx_k ex4_5 h
        refine lv_iinc (v := x4_5) (lv' := [(4, .int x4_5), (3, .int x3_4), (0, .ref (A 0)), (1, .int x1)]) hx hb d_R_about_75 hl (k := 3) rfl (by rw [ex4_5]; rfl) (by decide) rfl (fun ls hl => ?_)
        refine lv_goto (tgt := 45) hx hb d_R_about_78 (by decide) ?_
        exact ih x1 x3_4 x4_5 st _ _ _ h I (lv_sub hl [2, 3, 1, 0] rfl)
      · have h := ifn c3 h
        refine lv_iconst (v := 1) hx hb d_R_about_68 (by decide) ?_
        refine lv_goto (tgt := 73) hx hb d_R_about_69 (by decide) ?_
        refine lv_iadd hx hb d_R_about_73 ?_
        refine lv_topi (fun x3_6 ex3_6 => ?_)
        have h := nx_k ex3_6 h
        refine lv_istore_n (lv' := [(3, .int x3_6), (0, .ref (A 0)), (1, .int x1), (4, .int x4)]) hx hb d_R_about_74 rfl hl (by decide) rfl (fun ls hl => ?_)
        obtain ⟨x4_7, ex4_7⟩ : ∃ y : Int32, y = (x4 + 1) := ⟨_, rfl⟩
        have h := nx_k ex4_7 h
        refine lv_iinc (v := x4_7) (lv' := [(4, .int x4_7), (3, .int x3_6), (0, .ref (A 0)), (1, .int x1)]) hx hb d_R_about_75 hl (k := 3) rfl (by rw [ex4_7]; rfl) (by decide) rfl (fun ls hl => ?_)
        refine lv_goto (tgt := 45) hx hb d_R_about_78 (by decide) ?_
        exact ih x1 x3_6 x4_7 st _ _ _ h I (lv_sub hl [2, 3, 1, 0] rfl)
set_option maxHeartbeats 4000000 in
set_option maxRecDepth 100000 in
theorem w_R_about  {r : Int32} {t : RS} (E : EC R_R c_R_about 5 p s m args c D (tyL cs)) (hA : ∀ q, H0.size ≤ q → A0 q) (kr : ∀ (H : Heap) (locs : List Loc) (pc : Nat) (ls : Array Slot), IW D (cwR A cs t) A0 H0 H locs → decode c_R_about pc = .ok (.ireturn, 1) → W p l e rm_R_about s m args below meth c H locs 0 0 Q (F0 m pc ls [.int r])) : ∀ (x1 : Int32) (x2 : Int32) (st : RS) (H : Heap) (locs : List Loc) (ls : Array Slot), f_R_about x1 x2 st = some (r, t) → IW D (cwR A cs st) A0 H0 H locs → lv_has ls 5 [(0, .ref (A 0)), (1, .int x1), (2, .int x2)] → W p l e rm_R_about s m args below meth c H locs 0 0 Q (F0 m 0 ls []) := by
  intro x1 x2 st H locs ls h I hl
  have hx := E.1
  have hb := E.2.1
  rw [f_R_about] at h
  refine lv_aload_n hx hb d_R_about_0 rfl (lv_at hl 0 rfl) ?_
  refine lv_iload_n hx hb d_R_about_1 rfl (lv_at hl 1 rfl) ?_
  obtain ⟨r9, st8, h10, h⟩ := bd_some h
  refine cV (As := [.int x1]) (rest := []) E I hA (k_R_isTest h10) g_R_169 ⟨rfl, rfl⟩ 0 rfl rfl rfl hl rfl (Nat.le_of_ble_eq_true rfl) ⟨Nat.le_of_ble_eq_true rfl, Nat.le_of_ble_eq_true rfl⟩ ⟨Nat.zero_le _, Nat.zero_le _⟩ d_R_about_2 rfl (fun H locs I => ?_)
  refine lv_if_ne (tgt := 10) hx hb d_R_about_5 (by decide) (fun c11 => ?_) (fun c11 => ?_)
  · have h := ifn c11 h
    refine lv_iload_n hx hb d_R_about_10 rfl (lv_at hl 2 rfl) ?_
    refine lv_if_ne (tgt := 21) hx hb d_R_about_11 (by decide) (fun c12 => ?_) (fun c12 => ?_)
    · have h := ifn c12 h
      refine lv_iload_n hx hb d_R_about_21 rfl (lv_at hl 2 rfl) ?_
      refine lv_iconst (v := 1) hx hb d_R_about_22 (by decide) ?_
      refine lv_icmp_ne (tgt := 33) hx hb d_R_about_23 (by decide) (fun c13 => ?_) (fun c13 => ?_)
      · have h := ifn c13 h
        refine lv_iload_n hx hb d_R_about_33 rfl (lv_at hl 2 rfl) ?_
        refine lv_iconst (v := 2) hx hb d_R_about_34 (by decide) ?_
        refine lv_icmp_eq (tgt := 40) hx hb d_R_about_35 (by decide) (fun c14 => ?_) (fun c14 => ?_)
        · have h := ifp c14 h
          refine lv_iconst (v := 0) hx hb d_R_about_40 (by decide) ?_
          refine lv_istore_n (lv' := [(3, .int (0 : Int32)), (0, .ref (A 0)), (1, .int x1), (2, .int x2)]) hx hb d_R_about_41 rfl hl (by decide) rfl (fun ls hl => ?_)
          refine lv_iconst (v := 0) hx hb d_R_about_42 (by decide) ?_
          refine lv_istore (lv' := [(4, .int (0 : Int32)), (3, .int (0 : Int32)), (0, .ref (A 0)), (1, .int x1), (2, .int x2)]) hx hb d_R_about_43 hl (by decide) rfl (fun ls hl => ?_)
          exact w_R_about_45 E hA kr FU x1 (0 : Int32) (0 : Int32) st8 _ _ _ h I (lv_sub hl [2, 3, 1, 0] rfl)
        · have h := ifn c14 h
          refine lv_iconst (v := -1) hx hb d_R_about_38 (by decide) ?_
          cases h
          exact kr _ _ _ _ I d_R_about_39
      · have h := ifp c13 h
        refine lv_aload_n hx hb d_R_about_26 rfl (lv_at hl 0 rfl) ?_
        refine g_rR_stepsOf E I k_R_38 d_R_about_27 ?_
        refine lv_iload_n hx hb d_R_about_30 rfl (lv_at hl 1 rfl) ?_
        obtain ⟨b15, h⟩ := ck_some h
        refine l_r_stepsOf E I b15 d_R_about_31 ?_
        cases h
        exact kr _ _ _ _ I d_R_about_32
    · have h := ifp c12 h
      refine lv_aload_n hx hb d_R_about_14 rfl (lv_at hl 0 rfl) ?_
      refine g_rR_passes E I k_R_35 d_R_about_15 ?_
      refine lv_iload_n hx hb d_R_about_18 rfl (lv_at hl 1 rfl) ?_
      obtain ⟨b16, h⟩ := ck_some h
      refine l_r_passes E I b16 d_R_about_19 ?_
      cases h
      exact kr _ _ _ _ I d_R_about_20
  · have h := ifp c11 h
    refine lv_iconst (v := -1) hx hb d_R_about_8 (by decide) ?_
    cases h
    exact kr _ _ _ _ I d_R_about_9
set_option maxHeartbeats 4000000 in
set_option maxRecDepth 100000 in
theorem k_R_about {x1 : Int32} {x2 : Int32} {st t : RS} {r : Int32} (h : f_R_about x1 x2 st = some (r, t)) : Cn l y_R_about c_R_about 5 (some .int) rm_R_about D (tyL cs) (cwR A cs st) (cwR A cs t) [.ref (A 0), .int x1, .int x2] (some (.int r)) := by
  refine cn_intro (by decide) (Nat.le_of_ble_eq_true rfl) ?_
  intro p e s m below meth c A0 Q ls E hr hlk hA hA0 hQ I hl
  exact w_R_about E hA (rt_i E hr hlk hA0 hQ) x1 x2 st _ _ _ h I (lv_sub hl [0, 1, 2] rfl)
abbrev rm_R_isFor : Room := { frames := 0, cells := 0, slots := 0, locals := 0 }
noncomputable def f_R_isFor (x1 : Int32) (x2 : Int32) (st : RS) : Option (Int32 × RS) :=
  ck x2 64 <|
  nx (r_kindOf st x2.toNatClampNeg) fun x3_2 =>
  if x1 = 0 then (
    if x3_2 = 0 then (
      some ((1 : Int32), st)
    ) else (
      some ((0 : Int32), st)
    )
  ) else (
    if x1 = 1 then (
      if x3_2 = (6 : Int32) then (
        some ((1 : Int32), st)
      ) else (
        some ((0 : Int32), st)
      )
    ) else (
      if x1 = 2 then (
        if x3_2 = (3 : Int32) then (
          some ((1 : Int32), st)
        ) else (
          if x3_2 = (4 : Int32) then (
            some ((1 : Int32), st)
          ) else (
            some ((0 : Int32), st)
          )
        )
      ) else (
        if x1 = 3 then (
          if x3_2 = (8 : Int32) then (
            some ((1 : Int32), st)
          ) else (
            some ((0 : Int32), st)
          )
        ) else (
          if x1 = 4 then (
            if x3_2 = (3 : Int32) then (
              some ((1 : Int32), st)
            ) else (
              if x3_2 = (4 : Int32) then (
                some ((1 : Int32), st)
              ) else (
                if x3_2 = (5 : Int32) then (
                  some ((1 : Int32), st)
                ) else (
                  some ((0 : Int32), st)
                )
              )
            )
          ) else (
            if x3_2 = (7 : Int32) then (
              some ((1 : Int32), st)
            ) else (
              some ((0 : Int32), st)
            )
          )
        )
      )
    )
  )
set_option maxHeartbeats 4000000 in
set_option maxRecDepth 100000 in
theorem w_R_isFor  {r : Int32} {t : RS} (E : EC R_R c_R_isFor 4 p s m args c D (tyL cs)) (hA : ∀ q, H0.size ≤ q → A0 q) (kr : ∀ (H : Heap) (locs : List Loc) (pc : Nat) (ls : Array Slot), IW D (cwR A cs t) A0 H0 H locs → narrow .boolean (.int r) = .int r → decode c_R_isFor pc = .ok (.ireturn, 1) → W p l e rm_R_isFor s m args below meth c H locs 0 0 Q (F0 m pc ls [.int r])) : ∀ (x1 : Int32) (x2 : Int32) (st : RS) (H : Heap) (locs : List Loc) (ls : Array Slot), f_R_isFor x1 x2 st = some (r, t) → IW D (cwR A cs st) A0 H0 H locs → lv_has ls 4 [(0, .ref (A 0)), (1, .int x1), (2, .int x2)] → W p l e rm_R_isFor s m args below meth c H locs 0 0 Q (F0 m 0 ls []) := by
  intro x1 x2 st H locs ls h I hl
  have hx := E.1
  have hb := E.2.1
  rw [f_R_isFor] at h
  refine lv_aload_n hx hb d_R_isFor_0 rfl (lv_at hl 0 rfl) ?_
  refine g_rR_kindOf E I k_R_7 d_R_isFor_1 ?_
  refine lv_iload_n hx hb d_R_isFor_4 rfl (lv_at hl 2 rfl) ?_
  obtain ⟨b1, h⟩ := ck_some h
  refine l_r_kindOf E I b1 d_R_isFor_5 ?_
  refine lv_topi (fun x3_2 ex3_2 => ?_)
  have h := nx_k ex3_2 h
  refine lv_istore_n (lv' := [(3, .int x3_2), (0, .ref (A 0)), (1, .int x1), (2, .int x2)]) hx hb d_R_isFor_6 rfl hl (by decide) rfl (fun ls hl => ?_)
  refine lv_iload_n hx hb d_R_isFor_7 rfl (lv_at hl 2 rfl) ?_
  by_cases c3 : x1 = 0
  · have h := ifp c3 h
    refine lv_tableIn (off := 36) (tgt := 44) hx hb d_R_isFor_8 (by rw [c3]; decide) (by rw [c3]; decide) (by rw [c3]; rfl) (by decide) ?_
    refine lv_iload_n hx hb d_R_isFor_44 rfl (lv_at hl 0 rfl) ?_
    refine lv_if_ne (tgt := 52) hx hb d_R_isFor_45 (by decide) (fun c4 => ?_) (fun c4 => ?_)
    · have h := ifn c4 h
      refine lv_iconst (v := 0) hx hb d_R_isFor_52 (by decide) ?_
      cases h
      exact kr _ _ _ _ I (by decide) d_R_isFor_53
    · have h := ifp c4 h
      refine lv_iconst (v := 1) hx hb d_R_isFor_48 (by decide) ?_
      refine lv_goto (tgt := 53) hx hb d_R_isFor_49 (by decide) ?_
      cases h
      exact kr _ _ _ _ I (by decide) d_R_isFor_53
  · have h := ifn c3 h
    by_cases c5 : x1 = 1
    · have h := ifp c5 h
      refine lv_tableIn (off := 46) (tgt := 54) hx hb d_R_isFor_8 (by rw [c5]; decide) (by rw [c5]; decide) (by rw [c5]; rfl) (by decide) ?_
      refine lv_iload_n hx hb d_R_isFor_54 rfl (lv_at hl 0 rfl) ?_
      refine lv_bipush (v := 6) hx hb d_R_isFor_55 (by decide) ?_
      refine lv_icmp_ne (tgt := 64) hx hb d_R_isFor_57 (by decide) (fun c6 => ?_) (fun c6 => ?_)
      · have h := ifn c6 h
        refine lv_iconst (v := 0) hx hb d_R_isFor_64 (by decide) ?_
        cases h
        exact kr _ _ _ _ I (by decide) d_R_isFor_65
      · have h := ifp c6 h
        refine lv_iconst (v := 1) hx hb d_R_isFor_60 (by decide) ?_
        refine lv_goto (tgt := 65) hx hb d_R_isFor_61 (by decide) ?_
        cases h
        exact kr _ _ _ _ I (by decide) d_R_isFor_65
    · have h := ifn c5 h
      by_cases c7 : x1 = 2
      · have h := ifp c7 h
        refine lv_tableIn (off := 58) (tgt := 66) hx hb d_R_isFor_8 (by rw [c7]; decide) (by rw [c7]; decide) (by rw [c7]; rfl) (by decide) ?_
        refine lv_iload_n hx hb d_R_isFor_66 rfl (lv_at hl 0 rfl) ?_
        refine lv_iconst (v := 3) hx hb d_R_isFor_67 (by decide) ?_
        refine lv_icmp_eq (tgt := 76) hx hb d_R_isFor_68 (by decide) (fun c8 => ?_) (fun c8 => ?_)
        · have h := ifp c8 h
          refine lv_iconst (v := 1) hx hb d_R_isFor_76 (by decide) ?_
          refine lv_goto (tgt := 81) hx hb d_R_isFor_77 (by decide) ?_
          cases h
          exact kr _ _ _ _ I (by decide) d_R_isFor_81
        · have h := ifn c8 h
          refine lv_iload_n hx hb d_R_isFor_71 rfl (lv_at hl 0 rfl) ?_
          refine lv_iconst (v := 4) hx hb d_R_isFor_72 (by decide) ?_
          refine lv_icmp_ne (tgt := 80) hx hb d_R_isFor_73 (by decide) (fun c9 => ?_) (fun c9 => ?_)
          · have h := ifn c9 h
            refine lv_iconst (v := 0) hx hb d_R_isFor_80 (by decide) ?_
            cases h
            exact kr _ _ _ _ I (by decide) d_R_isFor_81
          · have h := ifp c9 h
            refine lv_iconst (v := 1) hx hb d_R_isFor_76 (by decide) ?_
            refine lv_goto (tgt := 81) hx hb d_R_isFor_77 (by decide) ?_
            cases h
            exact kr _ _ _ _ I (by decide) d_R_isFor_81
      · have h := ifn c7 h
        by_cases c10 : x1 = 3
        · have h := ifp c10 h
          refine lv_tableIn (off := 74) (tgt := 82) hx hb d_R_isFor_8 (by rw [c10]; decide) (by rw [c10]; decide) (by rw [c10]; rfl) (by decide) ?_
          refine lv_iload_n hx hb d_R_isFor_82 rfl (lv_at hl 0 rfl) ?_
          refine lv_bipush (v := 8) hx hb d_R_isFor_83 (by decide) ?_
          refine lv_icmp_ne (tgt := 92) hx hb d_R_isFor_85 (by decide) (fun c11 => ?_) (fun c11 => ?_)
          · have h := ifn c11 h
            refine lv_iconst (v := 0) hx hb d_R_isFor_92 (by decide) ?_
            cases h
            exact kr _ _ _ _ I (by decide) d_R_isFor_93
          · have h := ifp c11 h
            refine lv_iconst (v := 1) hx hb d_R_isFor_88 (by decide) ?_
            refine lv_goto (tgt := 93) hx hb d_R_isFor_89 (by decide) ?_
            cases h
            exact kr _ _ _ _ I (by decide) d_R_isFor_93
        · have h := ifn c10 h
          by_cases c12 : x1 = 4
          · have h := ifp c12 h
            refine lv_tableIn (off := 86) (tgt := 94) hx hb d_R_isFor_8 (by rw [c12]; decide) (by rw [c12]; decide) (by rw [c12]; rfl) (by decide) ?_
            refine lv_iload_n hx hb d_R_isFor_94 rfl (lv_at hl 0 rfl) ?_
            refine lv_iconst (v := 3) hx hb d_R_isFor_95 (by decide) ?_
            refine lv_icmp_eq (tgt := 109) hx hb d_R_isFor_96 (by decide) (fun c13 => ?_) (fun c13 => ?_)
            · have h := ifp c13 h
              refine lv_iconst (v := 1) hx hb d_R_isFor_109 (by decide) ?_
              refine lv_goto (tgt := 114) hx hb d_R_isFor_110 (by decide) ?_
              cases h
              exact kr _ _ _ _ I (by decide) d_R_isFor_114
            · have h := ifn c13 h
              refine lv_iload_n hx hb d_R_isFor_99 rfl (lv_at hl 0 rfl) ?_
              refine lv_iconst (v := 4) hx hb d_R_isFor_100 (by decide) ?_
              refine lv_icmp_eq (tgt := 109) hx hb d_R_isFor_101 (by decide) (fun c14 => ?_) (fun c14 => ?_)
              · have h := ifp c14 h
                refine lv_iconst (v := 1) hx hb d_R_isFor_109 (by decide) ?_
                refine lv_goto (tgt := 114) hx hb d_R_isFor_110 (by decide) ?_
                cases h
                exact kr _ _ _ _ I (by decide) d_R_isFor_114
              · have h := ifn c14 h
                refine lv_iload_n hx hb d_R_isFor_104 rfl (lv_at hl 0 rfl) ?_
                refine lv_iconst (v := 5) hx hb d_R_isFor_105 (by decide) ?_
                refine lv_icmp_ne (tgt := 113) hx hb d_R_isFor_106 (by decide) (fun c15 => ?_) (fun c15 => ?_)
                · have h := ifn c15 h
                  refine lv_iconst (v := 0) hx hb d_R_isFor_113 (by decide) ?_
                  cases h
                  exact kr _ _ _ _ I (by decide) d_R_isFor_114
                · have h := ifp c15 h
                  refine lv_iconst (v := 1) hx hb d_R_isFor_109 (by decide) ?_
                  refine lv_goto (tgt := 114) hx hb d_R_isFor_110 (by decide) ?_
                  cases h
                  exact kr _ _ _ _ I (by decide) d_R_isFor_114
          · have h := ifn c12 h
            have tc3 := ne_ti (z := 0) (by decide) c3
            have tc5 := ne_ti (z := 1) (by decide) c5
            have tc7 := ne_ti (z := 2) (by decide) c7
            have tc10 := ne_ti (z := 3) (by decide) c10
            have tc12 := ne_ti (z := 4) (by decide) c12
            refine lv_tableOut (tgt := 115) hx hb d_R_isFor_8 (by omega) (by decide) ?_
            refine lv_iload_n hx hb d_R_isFor_115 rfl (lv_at hl 0 rfl) ?_
            refine lv_bipush (v := 7) hx hb d_R_isFor_116 (by decide) ?_
            refine lv_icmp_ne (tgt := 125) hx hb d_R_isFor_118 (by decide) (fun c16 => ?_) (fun c16 => ?_)
            · have h := ifn c16 h
              refine lv_iconst (v := 0) hx hb d_R_isFor_125 (by decide) ?_
              cases h
              exact kr _ _ _ _ I (by decide) d_R_isFor_126
            · have h := ifp c16 h
              refine lv_iconst (v := 1) hx hb d_R_isFor_121 (by decide) ?_
              refine lv_goto (tgt := 126) hx hb d_R_isFor_122 (by decide) ?_
              cases h
              exact kr _ _ _ _ I (by decide) d_R_isFor_126
set_option maxHeartbeats 4000000 in
set_option maxRecDepth 100000 in
theorem k_R_isFor {x1 : Int32} {x2 : Int32} {st t : RS} {r : Int32} (h : f_R_isFor x1 x2 st = some (r, t)) : Cn l y_R_isFor c_R_isFor 4 (some .boolean) rm_R_isFor D (tyL cs) (cwR A cs st) (cwR A cs t) [.ref (A 0), .int x1, .int x2] (some (.int r)) := by
  refine cn_intro (by decide) (Nat.le_of_ble_eq_true rfl) ?_
  intro p e s m below meth c A0 Q ls E hr hlk hA hA0 hQ I hl
  exact w_R_isFor E hA (rt_z E hr hlk hA0 hQ) x1 x2 st _ _ _ h I (lv_sub hl [0, 1, 2] rfl)
end Mmr2
