section Mmc4
variable {p : Program} {l : Launch} {e : Env} {s : State} {m : MethodId} {args : Array Value} {below : List Frame} {meth : Method} {c : Code} {Q : State → Prop} {D : va_G} {A0 : Nat → Prop} {H0 : Heap} {A : Nat → Nat} {cs : ClassId × ClassId × ClassId}
abbrev rm_M_mutant : Room := { frames := 3, cells := 0, slots := 0, locals := 66 }
noncomputable def f_M_mutant (x1 : Int32) (x2 : Int32) (st : CS) : Option (Int32 × CS) :=
  bd (f_N_has x1 st) fun r2 st1 =>
  if r2 = 0 then (
    some ((-1 : Int32), st1)
  ) else (
    if x2 = 0 then (
      bd (f_N_kindOf x1 st1) fun r7 st6 =>
      some (r7, st6)
    ) else (
      if x2 = 1 then (
        bd (f_N_nodeOf x1 st1) fun r11 st10 =>
        some (r11, st10)
      ) else (
        if x2 = 2 then (
          bd (f_N_outcomeOf x1 st1) fun r15 st14 =>
          some (r15, st14)
        ) else (
          if x2 = 3 then (
            bd (f_N_enderOf x1 st1) fun r19 st18 =>
            some (r19, st18)
          ) else (
            if x2 = 4 then (
              bd (f_N_isAlike x1 st1) fun r23 st22 =>
              if r23 = 0 then (
                some ((0 : Int32), st22)
              ) else (
                some ((1 : Int32), st22)
              )
            ) else (
              some ((-1 : Int32), st1)
            )
          )
        )
      )
    )
  )
set_option maxHeartbeats 4000000 in
set_option maxRecDepth 100000 in
theorem w_M_mutant  {r : Int32} {t : CS} (E : EC R_M c_M_mutant 3 p s m args c D (tyL cs)) (hA : ∀ q, H0.size ≤ q → A0 q) (kr : ∀ (H : Heap) (locs : List Loc) (pc : Nat) (ls : Array Slot), IW D (cwC A cs t) A0 H0 H locs → decode c_M_mutant pc = .ok (.ireturn, 1) → W p l e rm_M_mutant s m args below meth c H locs 0 0 Q (F0 m pc ls [.int r])) : ∀ (x1 : Int32) (x2 : Int32) (st : CS) (H : Heap) (locs : List Loc) (ls : Array Slot), f_M_mutant x1 x2 st = some (r, t) → IW D (cwC A cs st) A0 H0 H locs → lv_has ls 3 [(0, .ref (A 0)), (1, .int x1), (2, .int x2)] → W p l e rm_M_mutant s m args below meth c H locs 0 0 Q (F0 m 0 ls []) := by
  intro x1 x2 st H locs ls h I hl
  have hx := E.1
  have hb := E.2.1
  rw [f_M_mutant] at h
  refine lv_aload_n hx hb d_M_mutant_0 rfl (lv_at hl 0 rfl) ?_
  refine g_cM_mutants E I k_M_28 d_M_mutant_1 ?_
  refine lv_iload_n hx hb d_M_mutant_4 rfl (lv_at hl 1 rfl) ?_
  obtain ⟨r2, st1, h3, h⟩ := bd_some h
  refine cV (As := [.int x1]) (rest := []) E I hA (k_N_has h3) g_M_103 ⟨rfl, rfl⟩ 4 rfl rfl rfl hl rfl (Nat.le_of_ble_eq_true rfl) ⟨Nat.le_of_ble_eq_true rfl, Nat.le_of_ble_eq_true rfl⟩ ⟨Nat.zero_le _, Nat.zero_le _⟩ d_M_mutant_5 rfl (fun H locs I => ?_)
  refine lv_if_ne (tgt := 13) hx hb d_M_mutant_8 (by decide) (fun c4 => ?_) (fun c4 => ?_)
  · have h := ifn c4 h
    refine lv_iload_n hx hb d_M_mutant_13 rfl (lv_at hl 2 rfl) ?_
    by_cases c5 : x2 = 0
    · have h := ifp c5 h
      refine lv_tableIn (off := 34) (tgt := 48) hx hb d_M_mutant_14 (by rw [c5]; decide) (by rw [c5]; decide) (by rw [c5]; rfl) (by decide) ?_
      refine lv_aload_n hx hb d_M_mutant_48 rfl (lv_at hl 0 rfl) ?_
      refine g_cM_mutants E I k_M_28 d_M_mutant_49 ?_
      refine lv_iload_n hx hb d_M_mutant_52 rfl (lv_at hl 1 rfl) ?_
      obtain ⟨r7, st6, h8, h⟩ := bd_some h
      refine cV (As := [.int x1]) (rest := []) E I hA (k_N_kindOf h8) g_M_104 ⟨rfl, rfl⟩ 4 rfl rfl rfl hl rfl (Nat.le_of_ble_eq_true rfl) ⟨Nat.le_of_ble_eq_true rfl, Nat.le_of_ble_eq_true rfl⟩ ⟨Nat.zero_le _, Nat.zero_le _⟩ d_M_mutant_53 rfl (fun H locs I => ?_)
      cases h
      exact kr _ _ _ _ I d_M_mutant_56
    · have h := ifn c5 h
      by_cases c9 : x2 = 1
      · have h := ifp c9 h
        refine lv_tableIn (off := 43) (tgt := 57) hx hb d_M_mutant_14 (by rw [c9]; decide) (by rw [c9]; decide) (by rw [c9]; rfl) (by decide) ?_
        refine lv_aload_n hx hb d_M_mutant_57 rfl (lv_at hl 0 rfl) ?_
        refine g_cM_mutants E I k_M_28 d_M_mutant_58 ?_
        refine lv_iload_n hx hb d_M_mutant_61 rfl (lv_at hl 1 rfl) ?_
        obtain ⟨r11, st10, h12, h⟩ := bd_some h
        refine cV (As := [.int x1]) (rest := []) E I hA (k_N_nodeOf h12) g_M_105 ⟨rfl, rfl⟩ 4 rfl rfl rfl hl rfl (Nat.le_of_ble_eq_true rfl) ⟨Nat.le_of_ble_eq_true rfl, Nat.le_of_ble_eq_true rfl⟩ ⟨Nat.zero_le _, Nat.zero_le _⟩ d_M_mutant_62 rfl (fun H locs I => ?_)
        cases h
        exact kr _ _ _ _ I d_M_mutant_65
      · have h := ifn c9 h
        by_cases c13 : x2 = 2
        · have h := ifp c13 h
          refine lv_tableIn (off := 52) (tgt := 66) hx hb d_M_mutant_14 (by rw [c13]; decide) (by rw [c13]; decide) (by rw [c13]; rfl) (by decide) ?_
          refine lv_aload_n hx hb d_M_mutant_66 rfl (lv_at hl 0 rfl) ?_
          refine g_cM_mutants E I k_M_28 d_M_mutant_67 ?_
          refine lv_iload_n hx hb d_M_mutant_70 rfl (lv_at hl 1 rfl) ?_
          obtain ⟨r15, st14, h16, h⟩ := bd_some h
          refine cV (As := [.int x1]) (rest := []) E I hA (k_N_outcomeOf h16) g_M_108 ⟨rfl, rfl⟩ 4 rfl rfl rfl hl rfl (Nat.le_of_ble_eq_true rfl) ⟨Nat.le_of_ble_eq_true rfl, Nat.le_of_ble_eq_true rfl⟩ ⟨Nat.zero_le _, Nat.zero_le _⟩ d_M_mutant_71 rfl (fun H locs I => ?_)
          cases h
          exact kr _ _ _ _ I d_M_mutant_74
        · have h := ifn c13 h
          by_cases c17 : x2 = 3
          · have h := ifp c17 h
            refine lv_tableIn (off := 61) (tgt := 75) hx hb d_M_mutant_14 (by rw [c17]; decide) (by rw [c17]; decide) (by rw [c17]; rfl) (by decide) ?_
            refine lv_aload_n hx hb d_M_mutant_75 rfl (lv_at hl 0 rfl) ?_
            refine g_cM_mutants E I k_M_28 d_M_mutant_76 ?_
            refine lv_iload_n hx hb d_M_mutant_79 rfl (lv_at hl 1 rfl) ?_
            obtain ⟨r19, st18, h20, h⟩ := bd_some h
            refine cV (As := [.int x1]) (rest := []) E I hA (k_N_enderOf h20) g_M_111 ⟨rfl, rfl⟩ 4 rfl rfl rfl hl rfl (Nat.le_of_ble_eq_true rfl) ⟨Nat.le_of_ble_eq_true rfl, Nat.le_of_ble_eq_true rfl⟩ ⟨Nat.zero_le _, Nat.zero_le _⟩ d_M_mutant_80 rfl (fun H locs I => ?_)
            cases h
            exact kr _ _ _ _ I d_M_mutant_83
          · have h := ifn c17 h
            by_cases c21 : x2 = 4
            · have h := ifp c21 h
              refine lv_tableIn (off := 70) (tgt := 84) hx hb d_M_mutant_14 (by rw [c21]; decide) (by rw [c21]; decide) (by rw [c21]; rfl) (by decide) ?_
              refine lv_aload_n hx hb d_M_mutant_84 rfl (lv_at hl 0 rfl) ?_
              refine g_cM_mutants E I k_M_28 d_M_mutant_85 ?_
              refine lv_iload_n hx hb d_M_mutant_88 rfl (lv_at hl 1 rfl) ?_
              obtain ⟨r23, st22, h24, h⟩ := bd_some h
              refine cV (As := [.int x1]) (rest := []) E I hA (k_N_isAlike h24) g_M_114 ⟨rfl, rfl⟩ 4 rfl rfl rfl hl rfl (Nat.le_of_ble_eq_true rfl) ⟨Nat.le_of_ble_eq_true rfl, Nat.le_of_ble_eq_true rfl⟩ ⟨Nat.zero_le _, Nat.zero_le _⟩ d_M_mutant_89 rfl (fun H locs I => ?_)
              refine lv_if_eq (tgt := 99) hx hb d_M_mutant_92 (by decide) (fun c25 => ?_) (fun c25 => ?_)
              · have h := ifp c25 h
                refine lv_iconst (v := 0) hx hb d_M_mutant_99 (by decide) ?_
                cases h
                exact kr _ _ _ _ I d_M_mutant_100
              · have h := ifn c25 h
                refine lv_iconst (v := 1) hx hb d_M_mutant_95 (by decide) ?_
                refine lv_goto (tgt := 100) hx hb d_M_mutant_96 (by decide) ?_
                cases h
                exact kr _ _ _ _ I d_M_mutant_100
            · have h := ifn c21 h
              have tc5 := ne_ti (z := 0) (by decide) c5
              have tc9 := ne_ti (z := 1) (by decide) c9
              have tc13 := ne_ti (z := 2) (by decide) c13
              have tc17 := ne_ti (z := 3) (by decide) c17
              have tc21 := ne_ti (z := 4) (by decide) c21
              refine lv_tableOut (tgt := 101) hx hb d_M_mutant_14 (by omega) (by decide) ?_
              refine lv_iconst (v := -1) hx hb d_M_mutant_101 (by decide) ?_
              cases h
              exact kr _ _ _ _ I d_M_mutant_102
  · have h := ifp c4 h
    refine lv_iconst (v := -1) hx hb d_M_mutant_11 (by decide) ?_
    cases h
    exact kr _ _ _ _ I d_M_mutant_12
set_option maxHeartbeats 4000000 in
set_option maxRecDepth 100000 in
theorem k_M_mutant {x1 : Int32} {x2 : Int32} {st t : CS} {r : Int32} (h : f_M_mutant x1 x2 st = some (r, t)) : Cn l y_M_mutant c_M_mutant 3 (some .int) rm_M_mutant D (tyL cs) (cwC A cs st) (cwC A cs t) [.ref (A 0), .int x1, .int x2] (some (.int r)) := by
  refine cn_intro (by decide) (Nat.le_of_ble_eq_true rfl) ?_
  intro p e s m below meth c A0 Q ls E hr hlk hA hA0 hQ I hl
  exact w_M_mutant E hA (rt_i E hr hlk hA0 hQ) x1 x2 st _ _ _ h I (lv_sub hl [0, 1, 2] rfl)
abbrev rm_U_size : Room := { frames := 0, cells := 0, slots := 0, locals := 0 }
noncomputable def f_U_size (st : CS) : Option (Int32 × CS) :=
  some ((cU_size st), st)
set_option maxHeartbeats 4000000 in
set_option maxRecDepth 100000 in
theorem w_U_size  {r : Int32} {t : CS} (E : EC R_U c_U_size 1 p s m args c D (tyL cs)) (hA : ∀ q, H0.size ≤ q → A0 q) (kr : ∀ (H : Heap) (locs : List Loc) (pc : Nat) (ls : Array Slot), IW D (cwC A cs t) A0 H0 H locs → decode c_U_size pc = .ok (.ireturn, 1) → W p l e rm_U_size s m args below meth c H locs 0 0 Q (F0 m pc ls [.int r])) : ∀ (st : CS) (H : Heap) (locs : List Loc) (ls : Array Slot), f_U_size st = some (r, t) → IW D (cwC A cs st) A0 H0 H locs → lv_has ls 1 [(0, .ref (A 2))] → W p l e rm_U_size s m args below meth c H locs 0 0 Q (F0 m 0 ls []) := by
  intro st H locs ls h I hl
  have hx := E.1
  have hb := E.2.1
  rw [f_U_size] at h
  refine lv_aload_n hx hb d_U_size_0 rfl (lv_at hl 0 rfl) ?_
  refine g_cU_size E I k_U_40 d_U_size_1 ?_
  cases h
  exact kr _ _ _ _ I d_U_size_4
set_option maxHeartbeats 4000000 in
set_option maxRecDepth 100000 in
theorem k_U_size {st t : CS} {r : Int32} (h : f_U_size st = some (r, t)) : Cn l y_U_size c_U_size 1 (some .int) rm_U_size D (tyL cs) (cwC A cs st) (cwC A cs t) [.ref (A 2)] (some (.int r)) := by
  refine cn_intro (by decide) (Nat.le_of_ble_eq_true rfl) ?_
  intro p e s m below meth c A0 Q ls E hr hlk hA hA0 hQ I hl
  exact w_U_size E hA (rt_i E hr hlk hA0 hQ) st _ _ _ h I (lv_sub hl [0] rfl)
abbrev rm_U_passesAndCovers : Room := { frames := 1, cells := 0, slots := 0, locals := 20 }
noncomputable def f_U_passesAndCovers (x1 : Int32) (x2 : Int32) (st : CS) : Option (Int32 × CS) :=
  ck x1 24 <|
  if (cU_states st x1.toNatClampNeg) = (1 : Int32) then (
    ck x1 24 <|
    bd (f_M_bit x2 st) fun r5 st4 =>
    if ((cU_covered st x1.toNatClampNeg) &&& r5) = (0 : Int64) then (
      some ((0 : Int32), st4)
    ) else (
      some ((1 : Int32), st4)
    )
  ) else (
    some ((0 : Int32), st)
  )
set_option maxHeartbeats 4000000 in
set_option maxRecDepth 100000 in
theorem w_U_passesAndCovers  {r : Int32} {t : CS} (E : EC R_U c_U_passesAndCovers 3 p s m args c D (tyL cs)) (hA : ∀ q, H0.size ≤ q → A0 q) (kr : ∀ (H : Heap) (locs : List Loc) (pc : Nat) (ls : Array Slot), IW D (cwC A cs t) A0 H0 H locs → narrow .boolean (.int r) = .int r → decode c_U_passesAndCovers pc = .ok (.ireturn, 1) → W p l e rm_U_passesAndCovers s m args below meth c H locs 0 0 Q (F0 m pc ls [.int r])) : ∀ (x1 : Int32) (x2 : Int32) (st : CS) (H : Heap) (locs : List Loc) (ls : Array Slot), f_U_passesAndCovers x1 x2 st = some (r, t) → IW D (cwC A cs st) A0 H0 H locs → lv_has ls 3 [(0, .ref (A 2)), (1, .int x1), (2, .int x2)] → W p l e rm_U_passesAndCovers s m args below meth c H locs 0 0 Q (F0 m 0 ls []) := by
  intro x1 x2 st H locs ls h I hl
  have hx := E.1
  have hb := E.2.1
  rw [f_U_passesAndCovers] at h
  refine lv_aload_n hx hb d_U_passesAndCovers_0 rfl (lv_at hl 0 rfl) ?_
  refine g_cU_states E I k_U_31 d_U_passesAndCovers_1 ?_
  refine lv_iload_n hx hb d_U_passesAndCovers_4 rfl (lv_at hl 1 rfl) ?_
  obtain ⟨b1, h⟩ := ck_some h
  refine l_cU_states E I b1 d_U_passesAndCovers_5 ?_
  refine lv_iconst (v := 1) hx hb d_U_passesAndCovers_6 (by decide) ?_
  refine lv_icmp_ne (tgt := 30) hx hb d_U_passesAndCovers_7 (by decide) (fun c2 => ?_) (fun c2 => ?_)
  · have h := ifn c2 h
    refine lv_iconst (v := 0) hx hb d_U_passesAndCovers_30 (by decide) ?_
    cases h
    exact kr _ _ _ _ I (by decide) d_U_passesAndCovers_31
  · have h := ifp c2 h
    refine lv_aload_n hx hb d_U_passesAndCovers_10 rfl (lv_at hl 0 rfl) ?_
    refine g_cU_covered E I k_U_37 d_U_passesAndCovers_11 ?_
    refine lv_iload_n hx hb d_U_passesAndCovers_14 rfl (lv_at hl 1 rfl) ?_
    obtain ⟨b3, h⟩ := ck_some h
    refine l_cU_covered E I b3 d_U_passesAndCovers_15 ?_
    refine lv_iload_n hx hb d_U_passesAndCovers_16 rfl (lv_at hl 2 rfl) ?_
    obtain ⟨r5, st4, h6, h⟩ := bd_some h
    refine cSN (As := [.int x2]) (rest := [.long (cU_covered st x1.toNatClampNeg)]) E I hA (k_M_bit h6) g_U_44 ⟨rfl, rfl⟩ rfl hl rfl (Nat.le_of_ble_eq_true rfl) ⟨Nat.le_of_ble_eq_true rfl, Nat.le_of_ble_eq_true rfl⟩ ⟨Nat.zero_le _, Nat.zero_le _⟩ d_U_passesAndCovers_17 rfl (fun H locs I => ?_)
    refine lv_land hx hb d_U_passesAndCovers_20 ?_
    refine lv_lconst (v := 0) hx hb d_U_passesAndCovers_21 (by decide) ?_
    refine W.lcmp hx hb d_U_passesAndCovers_22 ?_
    refine lv_if_eq (tgt := 30) hx hb d_U_passesAndCovers_23 (by decide) (fun c7 => ?_) (fun c7 => ?_)
    · have c7 := (lg_cmp_eq _ _).mp c7
      have h := ifp c7 h
      refine lv_iconst (v := 0) hx hb d_U_passesAndCovers_30 (by decide) ?_
      cases h
      exact kr _ _ _ _ I (by decide) d_U_passesAndCovers_31
    · have c7 := mt (lg_cmp_eq _ _).mpr c7
      have h := ifn c7 h
      refine lv_iconst (v := 1) hx hb d_U_passesAndCovers_26 (by decide) ?_
      refine lv_goto (tgt := 31) hx hb d_U_passesAndCovers_27 (by decide) ?_
      cases h
      exact kr _ _ _ _ I (by decide) d_U_passesAndCovers_31
set_option maxHeartbeats 4000000 in
set_option maxRecDepth 100000 in
theorem k_U_passesAndCovers {x1 : Int32} {x2 : Int32} {st t : CS} {r : Int32} (h : f_U_passesAndCovers x1 x2 st = some (r, t)) : Cn l y_U_passesAndCovers c_U_passesAndCovers 3 (some .boolean) rm_U_passesAndCovers D (tyL cs) (cwC A cs st) (cwC A cs t) [.ref (A 2), .int x1, .int x2] (some (.int r)) := by
  refine cn_intro (by decide) (Nat.le_of_ble_eq_true rfl) ?_
  intro p e s m below meth c A0 Q ls E hr hlk hA hA0 hQ I hl
  exact w_U_passesAndCovers E hA (rt_z E hr hlk hA0 hQ) x1 x2 st _ _ _ h I (lv_sub hl [0, 1, 2] rfl)
abbrev rm_U_rootOf : Room := { frames := 0, cells := 0, slots := 0, locals := 0 }
noncomputable def f_U_rootOf (x1 : Int32) (st : CS) : Option (Int32 × CS) :=
  ck x1 24 <|
  some ((cU_roots st x1.toNatClampNeg), st)
set_option maxHeartbeats 4000000 in
set_option maxRecDepth 100000 in
theorem w_U_rootOf  {r : Int32} {t : CS} (E : EC R_U c_U_rootOf 2 p s m args c D (tyL cs)) (hA : ∀ q, H0.size ≤ q → A0 q) (kr : ∀ (H : Heap) (locs : List Loc) (pc : Nat) (ls : Array Slot), IW D (cwC A cs t) A0 H0 H locs → decode c_U_rootOf pc = .ok (.ireturn, 1) → W p l e rm_U_rootOf s m args below meth c H locs 0 0 Q (F0 m pc ls [.int r])) : ∀ (x1 : Int32) (st : CS) (H : Heap) (locs : List Loc) (ls : Array Slot), f_U_rootOf x1 st = some (r, t) → IW D (cwC A cs st) A0 H0 H locs → lv_has ls 2 [(0, .ref (A 2)), (1, .int x1)] → W p l e rm_U_rootOf s m args below meth c H locs 0 0 Q (F0 m 0 ls []) := by
  intro x1 st H locs ls h I hl
  have hx := E.1
  have hb := E.2.1
  rw [f_U_rootOf] at h
  refine lv_aload_n hx hb d_U_rootOf_0 rfl (lv_at hl 0 rfl) ?_
  refine g_cU_roots E I k_U_20 d_U_rootOf_1 ?_
  refine lv_iload_n hx hb d_U_rootOf_4 rfl (lv_at hl 1 rfl) ?_
  obtain ⟨b1, h⟩ := ck_some h
  refine l_cU_roots E I b1 d_U_rootOf_5 ?_
  cases h
  exact kr _ _ _ _ I d_U_rootOf_6
set_option maxHeartbeats 4000000 in
set_option maxRecDepth 100000 in
theorem k_U_rootOf {x1 : Int32} {st t : CS} {r : Int32} (h : f_U_rootOf x1 st = some (r, t)) : Cn l y_U_rootOf c_U_rootOf 2 (some .int) rm_U_rootOf D (tyL cs) (cwC A cs st) (cwC A cs t) [.ref (A 2), .int x1] (some (.int r)) := by
  refine cn_intro (by decide) (Nat.le_of_ble_eq_true rfl) ?_
  intro p e s m below meth c A0 Q ls E hr hlk hA hA0 hQ I hl
  exact w_U_rootOf E hA (rt_i E hr hlk hA0 hQ) x1 st _ _ _ h I (lv_sub hl [0, 1] rfl)
abbrev rm_T_shorten : Room := { frames := 0, cells := 0, slots := 0, locals := 0 }
noncomputable def f_T_shorten (x1 : Int32) (x2 : Int32) (st : CS) : Option (Unit × CS) :=
  ck x1 64 <|
  if (cT_ways st x1.toNatClampNeg) = (-1 : Int32) then (
    ck x1 64 <|
    nx (s_cT_ways st x1.toNatClampNeg x2) fun st4 =>
    some ((), st4)
  ) else (
    ck x1 64 <|
    if (cT_ways st x1.toNatClampNeg) ≤ x2 then (
      some ((), st)
    ) else (
      ck x1 64 <|
      nx (s_cT_ways st x1.toNatClampNeg x2) fun st8 =>
      some ((), st8)
    )
  )
set_option maxHeartbeats 4000000 in
set_option maxRecDepth 100000 in
theorem w_T_shorten  {r : Unit} {t : CS} (E : EC R_T c_T_shorten 3 p s m args c D (tyL cs)) (hA : ∀ q, H0.size ≤ q → A0 q) (kr : ∀ (H : Heap) (locs : List Loc) (pc : Nat) (ls : Array Slot), IW D (cwC A cs t) A0 H0 H locs → decode c_T_shorten pc = .ok (.return_, 1) → W p l e rm_T_shorten s m args below meth c H locs 0 0 Q (F0 m pc ls [])) : ∀ (x1 : Int32) (x2 : Int32) (st : CS) (H : Heap) (locs : List Loc) (ls : Array Slot), f_T_shorten x1 x2 st = some (r, t) → IW D (cwC A cs st) A0 H0 H locs → lv_has ls 3 [(0, .ref (A 1)), (1, .int x1), (2, .int x2)] → W p l e rm_T_shorten s m args below meth c H locs 0 0 Q (F0 m 0 ls []) := by
  intro x1 x2 st H locs ls h I hl
  have hx := E.1
  have hb := E.2.1
  rw [f_T_shorten] at h
  refine lv_aload_n hx hb d_T_shorten_0 rfl (lv_at hl 0 rfl) ?_
  refine g_cT_ways E I k_T_31 d_T_shorten_1 ?_
  refine lv_iload_n hx hb d_T_shorten_4 rfl (lv_at hl 1 rfl) ?_
  obtain ⟨b1, h⟩ := ck_some h
  refine l_cT_ways E I b1 d_T_shorten_5 ?_
  refine lv_iconst (v := -1) hx hb d_T_shorten_6 (by decide) ?_
  refine lv_icmp_eq (tgt := 20) hx hb d_T_shorten_7 (by decide) (fun c2 => ?_) (fun c2 => ?_)
  · have h := ifp c2 h
    refine lv_aload_n hx hb d_T_shorten_20 rfl (lv_at hl 0 rfl) ?_
    refine g_cT_ways E I k_T_31 d_T_shorten_21 ?_
    refine lv_iload_n hx hb d_T_shorten_24 rfl (lv_at hl 1 rfl) ?_
    refine lv_iload_n hx hb d_T_shorten_25 rfl (lv_at hl 2 rfl) ?_
    obtain ⟨b3, h⟩ := ck_some h
    obtain ⟨st4, est4⟩ : ∃ y : CS, y = (s_cT_ways st x1.toNatClampNeg x2) := ⟨_, rfl⟩
    have h := nx_k est4 h
    refine p_cT_ways E I b3 est4 d_T_shorten_26 (fun H locs I => ?_)
    cases h
    exact kr _ _ _ _ I d_T_shorten_27
  · have h := ifn c2 h
    refine lv_aload_n hx hb d_T_shorten_10 rfl (lv_at hl 0 rfl) ?_
    refine g_cT_ways E I k_T_31 d_T_shorten_11 ?_
    refine lv_iload_n hx hb d_T_shorten_14 rfl (lv_at hl 1 rfl) ?_
    obtain ⟨b5, h⟩ := ck_some h
    refine l_cT_ways E I b5 d_T_shorten_15 ?_
    refine lv_iload_n hx hb d_T_shorten_16 rfl (lv_at hl 2 rfl) ?_
    refine lv_icmp_le (tgt := 27) hx hb d_T_shorten_17 (by decide) (fun c6 => ?_) (fun c6 => ?_)
    · have h := ifp c6 h
      cases h
      exact kr _ _ _ _ I d_T_shorten_27
    · have h := ifn c6 h
      refine lv_aload_n hx hb d_T_shorten_20 rfl (lv_at hl 0 rfl) ?_
      refine g_cT_ways E I k_T_31 d_T_shorten_21 ?_
      refine lv_iload_n hx hb d_T_shorten_24 rfl (lv_at hl 1 rfl) ?_
      refine lv_iload_n hx hb d_T_shorten_25 rfl (lv_at hl 2 rfl) ?_
      obtain ⟨b7, h⟩ := ck_some h
      obtain ⟨st8, est8⟩ : ∃ y : CS, y = (s_cT_ways st x1.toNatClampNeg x2) := ⟨_, rfl⟩
      have h := nx_k est8 h
      refine p_cT_ways E I b7 est8 d_T_shorten_26 (fun H locs I => ?_)
      cases h
      exact kr _ _ _ _ I d_T_shorten_27
set_option maxHeartbeats 4000000 in
set_option maxRecDepth 100000 in
theorem k_T_shorten {x1 : Int32} {x2 : Int32} {st t : CS} {r : Unit} (h : f_T_shorten x1 x2 st = some (r, t)) : Cn l y_T_shorten c_T_shorten 3 none rm_T_shorten D (tyL cs) (cwC A cs st) (cwC A cs t) [.ref (A 1), .int x1, .int x2] (none) := by
  refine cn_intro (by decide) (Nat.le_of_ble_eq_true rfl) ?_
  intro p e s m below meth c A0 Q ls E hr hlk hA hA0 hQ I hl
  exact w_T_shorten E hA (rt_v E hr hlk hA0 hQ) x1 x2 st _ _ _ h I (lv_sub hl [0, 1, 2] rfl)
abbrev rm_T_goOnFrom : Room := { frames := 1, cells := 0, slots := 0, locals := 22 }
noncomputable def f_T_goOnFrom_45 (x1 : Int32) (x2 : Int32) (x3 : Int32) (st : CS) : Option (Unit × CS) :=
  if x3 ≤ (2 : Int32) then (
    some ((), st)
  ) else (
    ck x1 64 <|
    bd (f_T_shorten (cT_thirds st x1.toNatClampNeg) x2 st) fun _ st3 =>
    some ((), st3)
  )
noncomputable def f_T_goOnFrom (x1 : Int32) (st : CS) : Option (Unit × CS) :=
  ck x1 64 <|
  nx ((cT_ways st x1.toNatClampNeg) + (1 : Int32)) fun x2_7 =>
  ck x1 64 <|
  bd (f_T_partCount (cT_kinds st x1.toNatClampNeg) st) fun r10 st9 =>
  if r10 ≤ 0 then (
    f_T_goOnFrom_45 x1 x2_7 r10 st9
  ) else (
    ck x1 64 <|
    bd (f_T_shorten (cT_firsts st9 x1.toNatClampNeg) x2_7 st9) fun _ st14 =>
    ck x1 64 <|
    bd (f_T_shorten (cT_seconds st14 x1.toNatClampNeg) x2_7 st14) fun _ st18 =>
    f_T_goOnFrom_45 x1 x2_7 r10 st18
  )
set_option maxHeartbeats 4000000 in
set_option maxRecDepth 100000 in
theorem w_T_goOnFrom_45  {r : Unit} {t : CS} (E : EC R_T c_T_goOnFrom 4 p s m args c D (tyL cs)) (hA : ∀ q, H0.size ≤ q → A0 q) (kr : ∀ (H : Heap) (locs : List Loc) (pc : Nat) (ls : Array Slot), IW D (cwC A cs t) A0 H0 H locs → decode c_T_goOnFrom pc = .ok (.return_, 1) → W p l e rm_T_goOnFrom s m args below meth c H locs 0 0 Q (F0 m pc ls [])) : ∀ (x1 : Int32) (x2 : Int32) (x3 : Int32) (st : CS) (H : Heap) (locs : List Loc) (ls : Array Slot), f_T_goOnFrom_45 x1 x2 x3 st = some (r, t) → IW D (cwC A cs st) A0 H0 H locs → lv_has ls 4 [(0, .ref (A 1)), (1, .int x1), (2, .int x2), (3, .int x3)] → W p l e rm_T_goOnFrom s m args below meth c H locs 0 0 Q (F0 m 45 ls []) := by
  intro x1 x2 x3 st H locs ls h I hl
  have hx := E.1
  have hb := E.2.1
  rw [f_T_goOnFrom_45] at h
  refine lv_iload_n hx hb d_T_goOnFrom_45 rfl (lv_at hl 3 rfl) ?_
  refine lv_iconst (v := 2) hx hb d_T_goOnFrom_46 (by decide) ?_
  refine lv_icmp_le (tgt := 61) hx hb d_T_goOnFrom_47 (by decide) (fun c1 => ?_) (fun c1 => ?_)
  · have h := ifp c1 h
    cases h
    exact kr _ _ _ _ I d_T_goOnFrom_61
  · have h := ifn c1 h
    refine lv_aload_n hx hb d_T_goOnFrom_50 rfl (lv_at hl 0 rfl) ?_
    refine lv_aload_n hx hb d_T_goOnFrom_51 rfl (lv_at hl 0 rfl) ?_
    refine g_cT_thirds E I k_T_25 d_T_goOnFrom_52 ?_
    refine lv_iload_n hx hb d_T_goOnFrom_55 rfl (lv_at hl 1 rfl) ?_
    obtain ⟨b2, h⟩ := ck_some h
    refine l_cT_thirds E I b2 d_T_goOnFrom_56 ?_
    refine lv_iload_n hx hb d_T_goOnFrom_57 rfl (lv_at hl 2 rfl) ?_
    obtain ⟨u5, st3, h4, h⟩ := bd_some h
    refine cV (As := [.int (cT_thirds st x1.toNatClampNeg), .int x2]) (rest := []) E I hA (k_T_shorten h4) g_T_53 ⟨rfl, rfl⟩ 1 rfl rfl rfl hl rfl (Nat.le_of_ble_eq_true rfl) ⟨Nat.le_of_ble_eq_true rfl, Nat.le_of_ble_eq_true rfl⟩ ⟨Nat.zero_le _, Nat.zero_le _⟩ d_T_goOnFrom_58 rfl (fun H locs I => ?_)
    cases h
    exact kr _ _ _ _ I d_T_goOnFrom_61
set_option maxHeartbeats 4000000 in
set_option maxRecDepth 100000 in
theorem w_T_goOnFrom  {r : Unit} {t : CS} (E : EC R_T c_T_goOnFrom 4 p s m args c D (tyL cs)) (hA : ∀ q, H0.size ≤ q → A0 q) (kr : ∀ (H : Heap) (locs : List Loc) (pc : Nat) (ls : Array Slot), IW D (cwC A cs t) A0 H0 H locs → decode c_T_goOnFrom pc = .ok (.return_, 1) → W p l e rm_T_goOnFrom s m args below meth c H locs 0 0 Q (F0 m pc ls [])) : ∀ (x1 : Int32) (st : CS) (H : Heap) (locs : List Loc) (ls : Array Slot), f_T_goOnFrom x1 st = some (r, t) → IW D (cwC A cs st) A0 H0 H locs → lv_has ls 4 [(0, .ref (A 1)), (1, .int x1)] → W p l e rm_T_goOnFrom s m args below meth c H locs 0 0 Q (F0 m 0 ls []) := by
  intro x1 st H locs ls h I hl
  have hx := E.1
  have hb := E.2.1
  rw [f_T_goOnFrom] at h
  refine lv_aload_n hx hb d_T_goOnFrom_0 rfl (lv_at hl 0 rfl) ?_
  refine g_cT_ways E I k_T_31 d_T_goOnFrom_1 ?_
  refine lv_iload_n hx hb d_T_goOnFrom_4 rfl (lv_at hl 1 rfl) ?_
  obtain ⟨b6, h⟩ := ck_some h
  refine l_cT_ways E I b6 d_T_goOnFrom_5 ?_
  refine lv_iconst (v := 1) hx hb d_T_goOnFrom_6 (by decide) ?_
  refine lv_iadd hx hb d_T_goOnFrom_7 ?_
  refine lv_topi (fun x2_7 ex2_7 => ?_)
  have h := nx_k ex2_7 h
  refine lv_istore_n (lv' := [(2, .int x2_7), (0, .ref (A 1)), (1, .int x1)]) hx hb d_T_goOnFrom_8 rfl hl (by decide) rfl (fun ls hl => ?_)
  refine lv_aload_n hx hb d_T_goOnFrom_9 rfl (lv_at hl 1 rfl) ?_
  refine g_cT_kinds E I k_T_9 d_T_goOnFrom_10 ?_
  refine lv_iload_n hx hb d_T_goOnFrom_13 rfl (lv_at hl 2 rfl) ?_
  obtain ⟨b8, h⟩ := ck_some h
  refine l_cT_kinds E I b8 d_T_goOnFrom_14 ?_
  obtain ⟨r10, st9, h11, h⟩ := bd_some h
  refine cS (As := [.int (cT_kinds st x1.toNatClampNeg)]) (rest := []) E I hA (k_T_partCount h11) g_T_38 ⟨rfl, rfl⟩ rfl hl rfl (Nat.le_of_ble_eq_true rfl) ⟨Nat.le_of_ble_eq_true rfl, Nat.le_of_ble_eq_true rfl⟩ ⟨Nat.zero_le _, Nat.zero_le _⟩ d_T_goOnFrom_15 rfl (fun H locs I => ?_)
  refine lv_istore_n (lv' := [(3, .int r10), (2, .int x2_7), (0, .ref (A 1)), (1, .int x1)]) hx hb d_T_goOnFrom_18 rfl hl (by decide) rfl (fun ls hl => ?_)
  refine lv_iload_n hx hb d_T_goOnFrom_19 rfl (lv_at hl 0 rfl) ?_
  refine lv_if_le (tgt := 45) hx hb d_T_goOnFrom_20 (by decide) (fun c12 => ?_) (fun c12 => ?_)
  · have h := ifp c12 h
    exact w_T_goOnFrom_45 E hA kr x1 x2_7 r10 st9 _ _ _ h I (lv_sub hl [2, 3, 1, 0] rfl)
  · have h := ifn c12 h
    refine lv_aload_n hx hb d_T_goOnFrom_23 rfl (lv_at hl 2 rfl) ?_
    refine lv_aload_n hx hb d_T_goOnFrom_24 rfl (lv_at hl 2 rfl) ?_
    refine g_cT_firsts E I k_T_19 d_T_goOnFrom_25 ?_
    refine lv_iload_n hx hb d_T_goOnFrom_28 rfl (lv_at hl 3 rfl) ?_
    obtain ⟨b13, h⟩ := ck_some h
    refine l_cT_firsts E I b13 d_T_goOnFrom_29 ?_
    refine lv_iload_n hx hb d_T_goOnFrom_30 rfl (lv_at hl 1 rfl) ?_
    obtain ⟨u16, st14, h15, h⟩ := bd_some h
    refine cV (As := [.int (cT_firsts st9 x1.toNatClampNeg), .int x2_7]) (rest := []) E I hA (k_T_shorten h15) g_T_53 ⟨rfl, rfl⟩ 1 rfl rfl rfl hl rfl (Nat.le_of_ble_eq_true rfl) ⟨Nat.le_of_ble_eq_true rfl, Nat.le_of_ble_eq_true rfl⟩ ⟨Nat.zero_le _, Nat.zero_le _⟩ d_T_goOnFrom_31 rfl (fun H locs I => ?_)
    refine lv_aload_n hx hb d_T_goOnFrom_34 rfl (lv_at hl 2 rfl) ?_
    refine lv_aload_n hx hb d_T_goOnFrom_35 rfl (lv_at hl 2 rfl) ?_
    refine g_cT_seconds E I k_T_22 d_T_goOnFrom_36 ?_
    refine lv_iload_n hx hb d_T_goOnFrom_39 rfl (lv_at hl 3 rfl) ?_
    obtain ⟨b17, h⟩ := ck_some h
    refine l_cT_seconds E I b17 d_T_goOnFrom_40 ?_
    refine lv_iload_n hx hb d_T_goOnFrom_41 rfl (lv_at hl 1 rfl) ?_
    obtain ⟨u20, st18, h19, h⟩ := bd_some h
    refine cV (As := [.int (cT_seconds st14 x1.toNatClampNeg), .int x2_7]) (rest := []) E I hA (k_T_shorten h19) g_T_53 ⟨rfl, rfl⟩ 1 rfl rfl rfl hl rfl (Nat.le_of_ble_eq_true rfl) ⟨Nat.le_of_ble_eq_true rfl, Nat.le_of_ble_eq_true rfl⟩ ⟨Nat.zero_le _, Nat.zero_le _⟩ d_T_goOnFrom_42 rfl (fun H locs I => ?_)
    exact w_T_goOnFrom_45 E hA kr x1 x2_7 r10 st18 _ _ _ h I (lv_sub hl [2, 3, 1, 0] rfl)
set_option maxHeartbeats 4000000 in
set_option maxRecDepth 100000 in
theorem k_T_goOnFrom {x1 : Int32} {st t : CS} {r : Unit} (h : f_T_goOnFrom x1 st = some (r, t)) : Cn l y_T_goOnFrom c_T_goOnFrom 4 none rm_T_goOnFrom D (tyL cs) (cwC A cs st) (cwC A cs t) [.ref (A 1), .int x1] (none) := by
  refine cn_intro (by decide) (Nat.le_of_ble_eq_true rfl) ?_
  intro p e s m below meth c A0 Q ls E hr hlk hA hA0 hQ I hl
  exact w_T_goOnFrom E hA (rt_v E hr hlk hA0 hQ) x1 st _ _ _ h I (lv_sub hl [0, 1] rfl)
abbrev rm_T_wayBetween : Room := { frames := 2, cells := 0, slots := 0, locals := 45 }
noncomputable def f_T_wayBetween_36 : Nat → Int32 → Int32 → CS → Option (Int32 × CS)
  | 0, _, _, _ => none
  | n + 1, x2, x3, st =>
    if x3 ≤ x2 then (
      ck x2 64 <|
      some ((cT_ways st x2.toNatClampNeg), st)
    ) else (
      ck x3 64 <|
      if (cT_ways st x3.toNatClampNeg) = (-1 : Int32) then (
        nx (x3 + (-1)) fun x3_5 =>
        f_T_wayBetween_36 n x2 x3_5 st
      ) else (
        bd (f_T_goOnFrom x3 st) fun _ st6 =>
        nx (x3 + (-1)) fun x3_9 =>
        f_T_wayBetween_36 n x2 x3_9 st6
      )
    )
noncomputable def f_T_wayBetween_9 : Nat → Int32 → Int32 → Int32 → CS → Option (Int32 × CS)
  | 0, _, _, _, _ => none
  | n + 1, x1, x2, x3, st =>
    if x1 ≤ x3 then (
      ck x1 64 <|
      nx (s_cT_ways st x1.toNatClampNeg (0 : Int32)) fun st12 =>
      f_T_wayBetween_36 FU x2 x1 st12
    ) else (
      ck x3 64 <|
      nx (s_cT_ways st x3.toNatClampNeg (-1 : Int32)) fun st14 =>
      nx (x3 + 1) fun x3_15 =>
      f_T_wayBetween_9 n x1 x2 x3_15 st14
    )
noncomputable def f_T_wayBetween (x1 : Int32) (x2 : Int32) (st : CS) : Option (Int32 × CS) :=
  if x2 ≤ x1 then (
    f_T_wayBetween_9 FU x1 x2 (0 : Int32) st
  ) else (
    some ((-1 : Int32), st)
  )
set_option maxHeartbeats 4000000 in
set_option maxRecDepth 100000 in
theorem w_T_wayBetween_36  {r : Int32} {t : CS} (E : EC R_T c_T_wayBetween 4 p s m args c D (tyL cs)) (hA : ∀ q, H0.size ≤ q → A0 q) (kr : ∀ (H : Heap) (locs : List Loc) (pc : Nat) (ls : Array Slot), IW D (cwC A cs t) A0 H0 H locs → decode c_T_wayBetween pc = .ok (.ireturn, 1) → W p l e rm_T_wayBetween s m args below meth c H locs 0 0 Q (F0 m pc ls [.int r])) : ∀ (n : Nat), ∀ (x2 : Int32) (x3 : Int32) (st : CS) (H : Heap) (locs : List Loc) (ls : Array Slot), f_T_wayBetween_36 n x2 x3 st = some (r, t) → IW D (cwC A cs st) A0 H0 H locs → lv_has ls 4 [(0, .ref (A 1)), (2, .int x2), (3, .int x3)] → W p l e rm_T_wayBetween s m args below meth c H locs 0 0 Q (F0 m 36 ls []) := by
  intro n
  induction n with
  | zero => intro x2 x3 st H locs ls h I hl; cases h
  | succ n ih =>
    intro x2 x3 st H locs ls h I hl
    have hx := E.1
    have hb := E.2.1
    rw [f_T_wayBetween_36] at h
    refine lv_iload_n hx hb d_T_wayBetween_36 rfl (lv_at hl 2 rfl) ?_
    refine lv_iload_n hx hb d_T_wayBetween_37 rfl (lv_at hl 1 rfl) ?_
    refine lv_icmp_le (tgt := 62) hx hb d_T_wayBetween_38 (by decide) (fun c1 => ?_) (fun c1 => ?_)
    · have h := ifp c1 h
      refine lv_aload_n hx hb d_T_wayBetween_62 rfl (lv_at hl 0 rfl) ?_
      refine g_cT_ways E I k_T_31 d_T_wayBetween_63 ?_
      refine lv_iload_n hx hb d_T_wayBetween_66 rfl (lv_at hl 1 rfl) ?_
      obtain ⟨b2, h⟩ := ck_some h
      refine l_cT_ways E I b2 d_T_wayBetween_67 ?_
      cases h
      exact kr _ _ _ _ I d_T_wayBetween_68
    · have h := ifn c1 h
      refine lv_aload_n hx hb d_T_wayBetween_41 rfl (lv_at hl 0 rfl) ?_
      refine g_cT_ways E I k_T_31 d_T_wayBetween_42 ?_
      refine lv_iload_n hx hb d_T_wayBetween_45 rfl (lv_at hl 2 rfl) ?_
      obtain ⟨b3, h⟩ := ck_some h
      refine l_cT_ways E I b3 d_T_wayBetween_46 ?_
      refine lv_iconst (v := -1) hx hb d_T_wayBetween_47 (by decide) ?_
      refine lv_icmp_eq (tgt := 56) hx hb d_T_wayBetween_48 (by decide) (fun c4 => ?_) (fun c4 => ?_)
      · have h := ifp c4 h
        obtain ⟨x3_5, ex3_5⟩ : ∃ y : Int32, y = (x3 + (-1)) := ⟨_, rfl⟩
        have h := nx_k ex3_5 h
        refine lv_iinc (v := x3_5) (lv' := [(3, .int x3_5), (0, .ref (A 1)), (2, .int x2)]) hx hb d_T_wayBetween_56 hl (k := 2) rfl (by rw [ex3_5]; rfl) (by decide) rfl (fun ls hl => ?_)
        refine lv_goto (tgt := 36) hx hb d_T_wayBetween_59 (by decide) ?_
        exact ih x2 x3_5 st _ _ _ h I (lv_sub hl [1, 2, 0] rfl)
      · have h := ifn c4 h
        refine lv_aload_n hx hb d_T_wayBetween_51 rfl (lv_at hl 0 rfl) ?_
        refine lv_iload_n hx hb d_T_wayBetween_52 rfl (lv_at hl 2 rfl) ?_
        obtain ⟨u8, st6, h7, h⟩ := bd_some h
        refine cV (As := [.int x3]) (rest := []) E I hA (k_T_goOnFrom h7) g_T_49 ⟨rfl, rfl⟩ 1 rfl rfl rfl hl rfl (Nat.le_of_ble_eq_true rfl) ⟨Nat.le_of_ble_eq_true rfl, Nat.le_of_ble_eq_true rfl⟩ ⟨Nat.zero_le _, Nat.zero_le _⟩ d_T_wayBetween_53 rfl (fun H locs I => ?_)
        obtain ⟨x3_9, ex3_9⟩ : ∃ y : Int32, y = (x3 + (-1)) := ⟨_, rfl⟩
        have h := nx_k ex3_9 h
        refine lv_iinc (v := x3_9) (lv' := [(3, .int x3_9), (0, .ref (A 1)), (2, .int x2)]) hx hb d_T_wayBetween_56 hl (k := 2) rfl (by rw [ex3_9]; rfl) (by decide) rfl (fun ls hl => ?_)
        refine lv_goto (tgt := 36) hx hb d_T_wayBetween_59 (by decide) ?_
        exact ih x2 x3_9 st6 _ _ _ h I (lv_sub hl [1, 2, 0] rfl)
set_option maxHeartbeats 4000000 in
set_option maxRecDepth 100000 in
theorem w_T_wayBetween_9  {r : Int32} {t : CS} (E : EC R_T c_T_wayBetween 4 p s m args c D (tyL cs)) (hA : ∀ q, H0.size ≤ q → A0 q) (kr : ∀ (H : Heap) (locs : List Loc) (pc : Nat) (ls : Array Slot), IW D (cwC A cs t) A0 H0 H locs → decode c_T_wayBetween pc = .ok (.ireturn, 1) → W p l e rm_T_wayBetween s m args below meth c H locs 0 0 Q (F0 m pc ls [.int r])) : ∀ (n : Nat), ∀ (x1 : Int32) (x2 : Int32) (x3 : Int32) (st : CS) (H : Heap) (locs : List Loc) (ls : Array Slot), f_T_wayBetween_9 n x1 x2 x3 st = some (r, t) → IW D (cwC A cs st) A0 H0 H locs → lv_has ls 4 [(0, .ref (A 1)), (1, .int x1), (2, .int x2), (3, .int x3)] → W p l e rm_T_wayBetween s m args below meth c H locs 0 0 Q (F0 m 9 ls []) := by
  intro n
  induction n with
  | zero => intro x1 x2 x3 st H locs ls h I hl; cases h
  | succ n ih =>
    intro x1 x2 x3 st H locs ls h I hl
    have hx := E.1
    have hb := E.2.1
    rw [f_T_wayBetween_9] at h
    refine lv_iload_n hx hb d_T_wayBetween_9 rfl (lv_at hl 3 rfl) ?_
    refine lv_iload_n hx hb d_T_wayBetween_10 rfl (lv_at hl 1 rfl) ?_
    refine lv_icmp_ge (tgt := 27) hx hb d_T_wayBetween_11 (by decide) (fun c10 => ?_) (fun c10 => ?_)
    · have h := ifp c10 h
      refine lv_aload_n hx hb d_T_wayBetween_27 rfl (lv_at hl 0 rfl) ?_
      refine g_cT_ways E I k_T_31 d_T_wayBetween_28 ?_
      refine lv_iload_n hx hb d_T_wayBetween_31 rfl (lv_at hl 1 rfl) ?_
      refine lv_iconst (v := 0) hx hb d_T_wayBetween_32 (by decide) ?_
      obtain ⟨b11, h⟩ := ck_some h
      obtain ⟨st12, est12⟩ : ∃ y : CS, y = (s_cT_ways st x1.toNatClampNeg (0 : Int32)) := ⟨_, rfl⟩
      have h := nx_k est12 h
      refine p_cT_ways E I b11 est12 d_T_wayBetween_33 (fun H locs I => ?_)
      refine lv_iload_n hx hb d_T_wayBetween_34 rfl (lv_at hl 1 rfl) ?_
      refine lv_istore_n (lv' := [(3, .int x1), (0, .ref (A 1)), (1, .int x1), (2, .int x2)]) hx hb d_T_wayBetween_35 rfl hl (by decide) rfl (fun ls hl => ?_)
      exact w_T_wayBetween_36 E hA kr FU x2 x1 st12 _ _ _ h I (lv_sub hl [1, 3, 0] rfl)
    · have h := ifn c10 h
      refine lv_aload_n hx hb d_T_wayBetween_14 rfl (lv_at hl 0 rfl) ?_
      refine g_cT_ways E I k_T_31 d_T_wayBetween_15 ?_
      refine lv_iload_n hx hb d_T_wayBetween_18 rfl (lv_at hl 3 rfl) ?_
      refine lv_iconst (v := -1) hx hb d_T_wayBetween_19 (by decide) ?_
      obtain ⟨b13, h⟩ := ck_some h
      obtain ⟨st14, est14⟩ : ∃ y : CS, y = (s_cT_ways st x3.toNatClampNeg (-1 : Int32)) := ⟨_, rfl⟩
      have h := nx_k est14 h
      refine p_cT_ways E I b13 est14 d_T_wayBetween_20 (fun H locs I => ?_)
      obtain ⟨x3_15, ex3_15⟩ : ∃ y : Int32, y = (x3 + 1) := ⟨_, rfl⟩
      have h := nx_k ex3_15 h
      refine lv_iinc (v := x3_15) (lv' := [(3, .int x3_15), (0, .ref (A 1)), (1, .int x1), (2, .int x2)]) hx hb d_T_wayBetween_21 hl (k := 3) rfl (by rw [ex3_15]; rfl) (by decide) rfl (fun ls hl => ?_)
      refine lv_goto (tgt := 9) hx hb d_T_wayBetween_24 (by decide) ?_
      exact ih x1 x2 x3_15 st14 _ _ _ h I (lv_sub hl [1, 2, 3, 0] rfl)
set_option maxHeartbeats 4000000 in
set_option maxRecDepth 100000 in
theorem w_T_wayBetween  {r : Int32} {t : CS} (E : EC R_T c_T_wayBetween 4 p s m args c D (tyL cs)) (hA : ∀ q, H0.size ≤ q → A0 q) (kr : ∀ (H : Heap) (locs : List Loc) (pc : Nat) (ls : Array Slot), IW D (cwC A cs t) A0 H0 H locs → decode c_T_wayBetween pc = .ok (.ireturn, 1) → W p l e rm_T_wayBetween s m args below meth c H locs 0 0 Q (F0 m pc ls [.int r])) : ∀ (x1 : Int32) (x2 : Int32) (st : CS) (H : Heap) (locs : List Loc) (ls : Array Slot), f_T_wayBetween x1 x2 st = some (r, t) → IW D (cwC A cs st) A0 H0 H locs → lv_has ls 4 [(0, .ref (A 1)), (1, .int x1), (2, .int x2)] → W p l e rm_T_wayBetween s m args below meth c H locs 0 0 Q (F0 m 0 ls []) := by
  intro x1 x2 st H locs ls h I hl
  have hx := E.1
  have hb := E.2.1
  rw [f_T_wayBetween] at h
  refine lv_iload_n hx hb d_T_wayBetween_0 rfl (lv_at hl 2 rfl) ?_
  refine lv_iload_n hx hb d_T_wayBetween_1 rfl (lv_at hl 1 rfl) ?_
  refine lv_icmp_le (tgt := 7) hx hb d_T_wayBetween_2 (by decide) (fun c16 => ?_) (fun c16 => ?_)
  · have h := ifp c16 h
    refine lv_iconst (v := 0) hx hb d_T_wayBetween_7 (by decide) ?_
    refine lv_istore_n (lv' := [(3, .int (0 : Int32)), (0, .ref (A 1)), (1, .int x1), (2, .int x2)]) hx hb d_T_wayBetween_8 rfl hl (by decide) rfl (fun ls hl => ?_)
    exact w_T_wayBetween_9 E hA kr FU x1 x2 (0 : Int32) st _ _ _ h I (lv_sub hl [1, 2, 3, 0] rfl)
  · have h := ifn c16 h
    refine lv_iconst (v := -1) hx hb d_T_wayBetween_5 (by decide) ?_
    cases h
    exact kr _ _ _ _ I d_T_wayBetween_6
set_option maxHeartbeats 4000000 in
set_option maxRecDepth 100000 in
theorem k_T_wayBetween {x1 : Int32} {x2 : Int32} {st t : CS} {r : Int32} (h : f_T_wayBetween x1 x2 st = some (r, t)) : Cn l y_T_wayBetween c_T_wayBetween 4 (some .int) rm_T_wayBetween D (tyL cs) (cwC A cs st) (cwC A cs t) [.ref (A 1), .int x1, .int x2] (some (.int r)) := by
  refine cn_intro (by decide) (Nat.le_of_ble_eq_true rfl) ?_
  intro p e s m below meth c A0 Q ls E hr hlk hA hA0 hQ I hl
  exact w_T_wayBetween E hA (rt_i E hr hlk hA0 hQ) x1 x2 st _ _ _ h I (lv_sub hl [0, 1, 2] rfl)
abbrev rm_G_insert : Room := { frames := 0, cells := 0, slots := 0, locals := 0 }
noncomputable def f_G_insert_55 (x1 : Int32) (x2 : Int32) (x3 : Int32) (st : CS) : Option (Unit × CS) :=
  ck x3 24 <|
  nx (s_cG_line st x3.toNatClampNeg x1) fun st2 =>
  ck x3 24 <|
  nx (s_cG_distances st2 x3.toNatClampNeg x2) fun st4 =>
  nx (s_cG_size st4 ((cG_size st4) + (1 : Int32))) fun st5 =>
  some ((), st5)
noncomputable def f_G_insert_5 : Nat → Int32 → Int32 → Int32 → CS → Option (Unit × CS)
  | 0, _, _, _, _ => none
  | n + 1, x1, x2, x3, st =>
    if x3 ≤ 0 then (
      f_G_insert_55 x1 x2 x3 st
    ) else (
      ck (x3 - (1 : Int32)) 24 <|
      if (cG_distances st (x3 - (1 : Int32)).toNatClampNeg) ≤ x2 then (
        f_G_insert_55 x1 x2 x3 st
      ) else (
        ck (x3 - (1 : Int32)) 24 <|
        ck x3 24 <|
        nx (s_cG_line st x3.toNatClampNeg (cG_line st (x3 - (1 : Int32)).toNatClampNeg)) fun st11 =>
        ck (x3 - (1 : Int32)) 24 <|
        ck x3 24 <|
        nx (s_cG_distances st11 x3.toNatClampNeg (cG_distances st11 (x3 - (1 : Int32)).toNatClampNeg)) fun st14 =>
        nx (x3 + (-1)) fun x3_15 =>
        f_G_insert_5 n x1 x2 x3_15 st14
      )
    )
noncomputable def f_G_insert (x1 : Int32) (x2 : Int32) (st : CS) : Option (Unit × CS) :=
  nx (cG_size st) fun x3_16 =>
  f_G_insert_5 FU x1 x2 x3_16 st
set_option maxHeartbeats 4000000 in
set_option maxRecDepth 100000 in
theorem w_G_insert_55  {r : Unit} {t : CS} (E : EC R_G c_G_insert 4 p s m args c D (tyL cs)) (hA : ∀ q, H0.size ≤ q → A0 q) (kr : ∀ (H : Heap) (locs : List Loc) (pc : Nat) (ls : Array Slot), IW D (cwC A cs t) A0 H0 H locs → decode c_G_insert pc = .ok (.return_, 1) → W p l e rm_G_insert s m args below meth c H locs 0 0 Q (F0 m pc ls [])) : ∀ (x1 : Int32) (x2 : Int32) (x3 : Int32) (st : CS) (H : Heap) (locs : List Loc) (ls : Array Slot), f_G_insert_55 x1 x2 x3 st = some (r, t) → IW D (cwC A cs st) A0 H0 H locs → lv_has ls 4 [(0, .ref (A 5)), (1, .int x1), (2, .int x2), (3, .int x3)] → W p l e rm_G_insert s m args below meth c H locs 0 0 Q (F0 m 55 ls []) := by
  intro x1 x2 x3 st H locs ls h I hl
  have hx := E.1
  have hb := E.2.1
  rw [f_G_insert_55] at h
  refine lv_aload_n hx hb d_G_insert_55 rfl (lv_at hl 0 rfl) ?_
  refine g_cG_line E I k_G_19 d_G_insert_56 ?_
  refine lv_iload_n hx hb d_G_insert_59 rfl (lv_at hl 3 rfl) ?_
  refine lv_iload_n hx hb d_G_insert_60 rfl (lv_at hl 1 rfl) ?_
  obtain ⟨b1, h⟩ := ck_some h
  obtain ⟨st2, est2⟩ : ∃ y : CS, y = (s_cG_line st x3.toNatClampNeg x1) := ⟨_, rfl⟩
  have h := nx_k est2 h
  refine p_cG_line E I b1 est2 d_G_insert_61 (fun H locs I => ?_)
  refine lv_aload_n hx hb d_G_insert_62 rfl (lv_at hl 0 rfl) ?_
  refine g_cG_distances E I k_G_23 d_G_insert_63 ?_
  refine lv_iload_n hx hb d_G_insert_66 rfl (lv_at hl 3 rfl) ?_
  refine lv_iload_n hx hb d_G_insert_67 rfl (lv_at hl 2 rfl) ?_
  obtain ⟨b3, h⟩ := ck_some h
  obtain ⟨st4, est4⟩ : ∃ y : CS, y = (s_cG_distances st2 x3.toNatClampNeg x2) := ⟨_, rfl⟩
  have h := nx_k est4 h
  refine p_cG_distances E I b3 est4 d_G_insert_68 (fun H locs I => ?_)
  refine lv_aload_n hx hb d_G_insert_69 rfl (lv_at hl 0 rfl) ?_
  refine lv_dup hx hb d_G_insert_70 rfl ?_
  refine g_cG_size E I k_G_26 d_G_insert_71 ?_
  refine lv_iconst (v := 1) hx hb d_G_insert_74 (by decide) ?_
  refine lv_iadd hx hb d_G_insert_75 ?_
  obtain ⟨st5, est5⟩ : ∃ y : CS, y = (s_cG_size st4 ((cG_size st4) + (1 : Int32))) := ⟨_, rfl⟩
  have h := nx_k est5 h
  refine p_cG_size E I est5 k_G_26 d_G_insert_76 (fun H locs I => ?_)
  cases h
  exact kr _ _ _ _ I d_G_insert_79
set_option maxHeartbeats 4000000 in
set_option maxRecDepth 100000 in
theorem w_G_insert_5  {r : Unit} {t : CS} (E : EC R_G c_G_insert 4 p s m args c D (tyL cs)) (hA : ∀ q, H0.size ≤ q → A0 q) (kr : ∀ (H : Heap) (locs : List Loc) (pc : Nat) (ls : Array Slot), IW D (cwC A cs t) A0 H0 H locs → decode c_G_insert pc = .ok (.return_, 1) → W p l e rm_G_insert s m args below meth c H locs 0 0 Q (F0 m pc ls [])) : ∀ (n : Nat), ∀ (x1 : Int32) (x2 : Int32) (x3 : Int32) (st : CS) (H : Heap) (locs : List Loc) (ls : Array Slot), f_G_insert_5 n x1 x2 x3 st = some (r, t) → IW D (cwC A cs st) A0 H0 H locs → lv_has ls 4 [(0, .ref (A 5)), (1, .int x1), (2, .int x2), (3, .int x3)] → W p l e rm_G_insert s m args below meth c H locs 0 0 Q (F0 m 5 ls []) := by
  intro n
  induction n with
  | zero => intro x1 x2 x3 st H locs ls h I hl; cases h
  | succ n ih =>
    intro x1 x2 x3 st H locs ls h I hl
    have hx := E.1
    have hb := E.2.1
    rw [f_G_insert_5] at h
    refine lv_iload_n hx hb d_G_insert_5 rfl (lv_at hl 3 rfl) ?_
    refine lv_if_le (tgt := 55) hx hb d_G_insert_6 (by decide) (fun c6 => ?_) (fun c6 => ?_)
    · have h := ifp c6 h
      exact w_G_insert_55 E hA kr x1 x2 x3 st _ _ _ h I (lv_sub hl [0, 1, 2, 3] rfl)
    · have h := ifn c6 h
      refine lv_aload_n hx hb d_G_insert_9 rfl (lv_at hl 0 rfl) ?_
      refine g_cG_distances E I k_G_23 d_G_insert_10 ?_
      refine lv_iload_n hx hb d_G_insert_13 rfl (lv_at hl 3 rfl) ?_
      refine lv_iconst (v := 1) hx hb d_G_insert_14 (by decide) ?_
      refine lv_isub hx hb d_G_insert_15 ?_
      obtain ⟨b7, h⟩ := ck_some h
      refine l_cG_distances E I b7 d_G_insert_16 ?_
      refine lv_iload_n hx hb d_G_insert_17 rfl (lv_at hl 2 rfl) ?_
      refine lv_icmp_le (tgt := 55) hx hb d_G_insert_18 (by decide) (fun c8 => ?_) (fun c8 => ?_)
      · have h := ifp c8 h
        exact w_G_insert_55 E hA kr x1 x2 x3 st _ _ _ h I (lv_sub hl [0, 1, 2, 3] rfl)
      · have h := ifn c8 h
        refine lv_aload_n hx hb d_G_insert_21 rfl (lv_at hl 0 rfl) ?_
        refine g_cG_line E I k_G_19 d_G_insert_22 ?_
        refine lv_iload_n hx hb d_G_insert_25 rfl (lv_at hl 3 rfl) ?_
        refine lv_aload_n hx hb d_G_insert_26 rfl (lv_at hl 0 rfl) ?_
        refine g_cG_line E I k_G_19 d_G_insert_27 ?_
        refine lv_iload_n hx hb d_G_insert_30 rfl (lv_at hl 3 rfl) ?_
        refine lv_iconst (v := 1) hx hb d_G_insert_31 (by decide) ?_
        refine lv_isub hx hb d_G_insert_32 ?_
        obtain ⟨b9, h⟩ := ck_some h
        refine l_cG_line E I b9 d_G_insert_33 ?_
        obtain ⟨b10, h⟩ := ck_some h
        obtain ⟨st11, est11⟩ : ∃ y : CS, y = (s_cG_line st x3.toNatClampNeg (cG_line st (x3 - (1 : Int32)).toNatClampNeg)) := ⟨_, rfl⟩
        have h := nx_k est11 h
        refine p_cG_line E I b10 est11 d_G_insert_34 (fun H locs I => ?_)
        refine lv_aload_n hx hb d_G_insert_35 rfl (lv_at hl 0 rfl) ?_
        refine g_cG_distances E I k_G_23 d_G_insert_36 ?_
        refine lv_iload_n hx hb d_G_insert_39 rfl (lv_at hl 3 rfl) ?_
        refine lv_aload_n hx hb d_G_insert_40 rfl (lv_at hl 0 rfl) ?_
        refine g_cG_distances E I k_G_23 d_G_insert_41 ?_
        refine lv_iload_n hx hb d_G_insert_44 rfl (lv_at hl 3 rfl) ?_
        refine lv_iconst (v := 1) hx hb d_G_insert_45 (by decide) ?_
        refine lv_isub hx hb d_G_insert_46 ?_
        obtain ⟨b12, h⟩ := ck_some h
        refine l_cG_distances E I b12 d_G_insert_47 ?_
        obtain ⟨b13, h⟩ := ck_some h
        obtain ⟨st14, est14⟩ : ∃ y : CS, y = (s_cG_distances st11 x3.toNatClampNeg (cG_distances st11 (x3 - (1 : Int32)).toNatClampNeg)) := ⟨_, rfl⟩
        have h := nx_k est14 h
        refine p_cG_distances E I b13 est14 d_G_insert_48 (fun H locs I => ?_)
        obtain ⟨x3_15, ex3_15⟩ : ∃ y : Int32, y = (x3 + (-1)) := ⟨_, rfl⟩
        have h := nx_k ex3_15 h
        refine lv_iinc (v := x3_15) (lv' := [(3, .int x3_15), (0, .ref (A 5)), (1, .int x1), (2, .int x2)]) hx hb d_G_insert_49 hl (k := 3) rfl (by rw [ex3_15]; rfl) (by decide) rfl (fun ls hl => ?_)
        refine lv_goto (tgt := 5) hx hb d_G_insert_52 (by decide) ?_
        exact ih x1 x2 x3_15 st14 _ _ _ h I (lv_sub hl [1, 2, 3, 0] rfl)
set_option maxHeartbeats 4000000 in
set_option maxRecDepth 100000 in
theorem w_G_insert  {r : Unit} {t : CS} (E : EC R_G c_G_insert 4 p s m args c D (tyL cs)) (hA : ∀ q, H0.size ≤ q → A0 q) (kr : ∀ (H : Heap) (locs : List Loc) (pc : Nat) (ls : Array Slot), IW D (cwC A cs t) A0 H0 H locs → decode c_G_insert pc = .ok (.return_, 1) → W p l e rm_G_insert s m args below meth c H locs 0 0 Q (F0 m pc ls [])) : ∀ (x1 : Int32) (x2 : Int32) (st : CS) (H : Heap) (locs : List Loc) (ls : Array Slot), f_G_insert x1 x2 st = some (r, t) → IW D (cwC A cs st) A0 H0 H locs → lv_has ls 4 [(0, .ref (A 5)), (1, .int x1), (2, .int x2)] → W p l e rm_G_insert s m args below meth c H locs 0 0 Q (F0 m 0 ls []) := by
  intro x1 x2 st H locs ls h I hl
  have hx := E.1
  have hb := E.2.1
  rw [f_G_insert] at h
  refine lv_aload_n hx hb d_G_insert_0 rfl (lv_at hl 0 rfl) ?_
  refine g_cG_size E I k_G_26 d_G_insert_1 ?_
  refine lv_topi (fun x3_16 ex3_16 => ?_)
  have h := nx_k ex3_16 h
  refine lv_istore_n (lv' := [(3, .int x3_16), (0, .ref (A 5)), (1, .int x1), (2, .int x2)]) hx hb d_G_insert_4 rfl hl (by decide) rfl (fun ls hl => ?_)
  exact w_G_insert_5 E hA kr FU x1 x2 x3_16 st _ _ _ h I (lv_sub hl [1, 2, 3, 0] rfl)
set_option maxHeartbeats 4000000 in
set_option maxRecDepth 100000 in
theorem k_G_insert {x1 : Int32} {x2 : Int32} {st t : CS} {r : Unit} (h : f_G_insert x1 x2 st = some (r, t)) : Cn l y_G_insert c_G_insert 4 none rm_G_insert D (tyL cs) (cwC A cs st) (cwC A cs t) [.ref (A 5), .int x1, .int x2] (none) := by
  refine cn_intro (by decide) (Nat.le_of_ble_eq_true rfl) ?_
  intro p e s m below meth c A0 Q ls E hr hlk hA hA0 hQ I hl
  exact w_G_insert E hA (rt_v E hr hlk hA0 hQ) x1 x2 st _ _ _ h I (lv_sub hl [0, 1, 2] rfl)
abbrev rm_G_gather : Room := { frames := 3, cells := 0, slots := 0, locals := 68 }
noncomputable def f_G_gather_7 : Nat → Int32 → Int32 → CS → Option (Unit × CS)
  | 0, _, _, _ => none
  | n + 1, x1, x2, st =>
    bd (f_U_size st) fun r2 st1 =>
    if r2 ≤ x2 then (
      some ((), st1)
    ) else (
      bd (f_U_passesAndCovers x2 x1 st1) fun r6 st5 =>
      if r6 = 0 then (
        nx (x2 + 1) fun x2_9 =>
        f_G_gather_7 n x1 x2_9 st5
      ) else (
        bd (f_U_rootOf x2 st5) fun r11 st10 =>
        bd (f_T_wayBetween r11 x1 st10) fun r14 st13 =>
        bd (f_G_insert x2 r14 st13) fun _ st16 =>
        nx (x2 + 1) fun x2_19 =>
        f_G_gather_7 n x1 x2_19 st16
      )
    )
noncomputable def f_G_gather (x1 : Int32) (st : CS) : Option (Unit × CS) :=
  nx (s_cG_size st (0 : Int32)) fun st20 =>
  f_G_gather_7 FU x1 (0 : Int32) st20
set_option maxHeartbeats 4000000 in
set_option maxRecDepth 100000 in
theorem w_G_gather_7  {r : Unit} {t : CS} (E : EC R_G c_G_gather 3 p s m args c D (tyL cs)) (hA : ∀ q, H0.size ≤ q → A0 q) (kr : ∀ (H : Heap) (locs : List Loc) (pc : Nat) (ls : Array Slot), IW D (cwC A cs t) A0 H0 H locs → decode c_G_gather pc = .ok (.return_, 1) → W p l e rm_G_gather s m args below meth c H locs 0 0 Q (F0 m pc ls [])) : ∀ (n : Nat), ∀ (x1 : Int32) (x2 : Int32) (st : CS) (H : Heap) (locs : List Loc) (ls : Array Slot), f_G_gather_7 n x1 x2 st = some (r, t) → IW D (cwC A cs st) A0 H0 H locs → lv_has ls 3 [(0, .ref (A 5)), (1, .int x1), (2, .int x2)] → W p l e rm_G_gather s m args below meth c H locs 0 0 Q (F0 m 7 ls []) := by
  intro n
  induction n with
  | zero => intro x1 x2 st H locs ls h I hl; cases h
  | succ n ih =>
    intro x1 x2 st H locs ls h I hl
    have hx := E.1
    have hb := E.2.1
    rw [f_G_gather_7] at h
    refine lv_iload_n hx hb d_G_gather_7 rfl (lv_at hl 2 rfl) ?_
    refine lv_aload_n hx hb d_G_gather_8 rfl (lv_at hl 0 rfl) ?_
    refine g_cG_trials E I k_G_15 d_G_gather_9 ?_
    obtain ⟨r2, st1, h3, h⟩ := bd_some h
    refine cV (As := []) (rest := [.int x2]) E I hA (k_U_size h3) g_G_30 ⟨rfl, rfl⟩ 2 rfl rfl rfl hl rfl (Nat.le_of_ble_eq_true rfl) ⟨Nat.le_of_ble_eq_true rfl, Nat.le_of_ble_eq_true rfl⟩ ⟨Nat.zero_le _, Nat.zero_le _⟩ d_G_gather_12 rfl (fun H locs I => ?_)
    refine lv_icmp_ge (tgt := 57) hx hb d_G_gather_15 (by decide) (fun c4 => ?_) (fun c4 => ?_)
    · have h := ifp c4 h
      cases h
      exact kr _ _ _ _ I d_G_gather_57
    · have h := ifn c4 h
      refine lv_aload_n hx hb d_G_gather_18 rfl (lv_at hl 0 rfl) ?_
      refine g_cG_trials E I k_G_15 d_G_gather_19 ?_
      refine lv_iload_n hx hb d_G_gather_22 rfl (lv_at hl 2 rfl) ?_
      refine lv_iload_n hx hb d_G_gather_23 rfl (lv_at hl 1 rfl) ?_
      obtain ⟨r6, st5, h7, h⟩ := bd_some h
      refine cV (As := [.int x2, .int x1]) (rest := []) E I hA (k_U_passesAndCovers h7) g_G_35 ⟨rfl, rfl⟩ 2 rfl rfl rfl hl rfl (Nat.le_of_ble_eq_true rfl) ⟨Nat.le_of_ble_eq_true rfl, Nat.le_of_ble_eq_true rfl⟩ ⟨Nat.zero_le _, Nat.zero_le _⟩ d_G_gather_24 rfl (fun H locs I => ?_)
      refine lv_if_eq (tgt := 51) hx hb d_G_gather_27 (by decide) (fun c8 => ?_) (fun c8 => ?_)
      · have h := ifp c8 h
        obtain ⟨x2_9, ex2_9⟩ : ∃ y : Int32, y = (x2 + 1) := ⟨_, rfl⟩
        have h := nx_k ex2_9 h
        refine lv_iinc (v := x2_9) (lv' := [(2, .int x2_9), (0, .ref (A 5)), (1, .int x1)]) hx hb d_G_gather_51 hl (k := 2) rfl (by rw [ex2_9]; rfl) (by decide) rfl (fun ls hl => ?_)
        refine lv_goto (tgt := 7) hx hb d_G_gather_54 (by decide) ?_
        exact ih x1 x2_9 st5 _ _ _ h I (lv_sub hl [1, 2, 0] rfl)
      · have h := ifn c8 h
        refine lv_aload_n hx hb d_G_gather_30 rfl (lv_at hl 0 rfl) ?_
        refine lv_iload_n hx hb d_G_gather_31 rfl (lv_at hl 2 rfl) ?_
        refine lv_aload_n hx hb d_G_gather_32 rfl (lv_at hl 0 rfl) ?_
        refine g_cG_trees E I k_G_9 d_G_gather_33 ?_
        refine lv_aload_n hx hb d_G_gather_36 rfl (lv_at hl 0 rfl) ?_
        refine g_cG_trials E I k_G_15 d_G_gather_37 ?_
        refine lv_iload_n hx hb d_G_gather_40 rfl (lv_at hl 2 rfl) ?_
        obtain ⟨r11, st10, h12, h⟩ := bd_some h
        refine cV (As := [.int x2]) (rest := [.ref (A 1), .int x2, .ref (A 5)]) E I hA (k_U_rootOf h12) g_G_39 ⟨rfl, rfl⟩ 2 rfl rfl rfl hl rfl (Nat.le_of_ble_eq_true rfl) ⟨Nat.le_of_ble_eq_true rfl, Nat.le_of_ble_eq_true rfl⟩ ⟨Nat.zero_le _, Nat.zero_le _⟩ d_G_gather_41 rfl (fun H locs I => ?_)
        refine lv_iload_n hx hb d_G_gather_44 rfl (lv_at hl 1 rfl) ?_
        obtain ⟨r14, st13, h15, h⟩ := bd_some h
        refine cV (As := [.int r11, .int x1]) (rest := [.int x2, .ref (A 5)]) E I hA (k_T_wayBetween h15) g_G_43 ⟨rfl, rfl⟩ 1 rfl rfl rfl hl rfl (Nat.le_of_ble_eq_true rfl) ⟨Nat.le_of_ble_eq_true rfl, Nat.le_of_ble_eq_true rfl⟩ ⟨Nat.zero_le _, Nat.zero_le _⟩ d_G_gather_45 rfl (fun H locs I => ?_)
        obtain ⟨u18, st16, h17, h⟩ := bd_some h
        refine cV (As := [.int x2, .int r14]) (rest := []) E I hA (k_G_insert h17) g_G_49 ⟨rfl, rfl⟩ 5 rfl rfl rfl hl rfl (Nat.le_of_ble_eq_true rfl) ⟨Nat.le_of_ble_eq_true rfl, Nat.le_of_ble_eq_true rfl⟩ ⟨Nat.zero_le _, Nat.zero_le _⟩ d_G_gather_48 rfl (fun H locs I => ?_)
        obtain ⟨x2_19, ex2_19⟩ : ∃ y : Int32, y = (x2 + 1) := ⟨_, rfl⟩
        have h := nx_k ex2_19 h
        refine lv_iinc (v := x2_19) (lv' := [(2, .int x2_19), (0, .ref (A 5)), (1, .int x1)]) hx hb d_G_gather_51 hl (k := 2) rfl (by rw [ex2_19]; rfl) (by decide) rfl (fun ls hl => ?_)
        refine lv_goto (tgt := 7) hx hb d_G_gather_54 (by decide) ?_
        exact ih x1 x2_19 st16 _ _ _ h I (lv_sub hl [1, 2, 0] rfl)
set_option maxHeartbeats 4000000 in
set_option maxRecDepth 100000 in
theorem w_G_gather  {r : Unit} {t : CS} (E : EC R_G c_G_gather 3 p s m args c D (tyL cs)) (hA : ∀ q, H0.size ≤ q → A0 q) (kr : ∀ (H : Heap) (locs : List Loc) (pc : Nat) (ls : Array Slot), IW D (cwC A cs t) A0 H0 H locs → decode c_G_gather pc = .ok (.return_, 1) → W p l e rm_G_gather s m args below meth c H locs 0 0 Q (F0 m pc ls [])) : ∀ (x1 : Int32) (st : CS) (H : Heap) (locs : List Loc) (ls : Array Slot), f_G_gather x1 st = some (r, t) → IW D (cwC A cs st) A0 H0 H locs → lv_has ls 3 [(0, .ref (A 5)), (1, .int x1)] → W p l e rm_G_gather s m args below meth c H locs 0 0 Q (F0 m 0 ls []) := by
  intro x1 st H locs ls h I hl
  have hx := E.1
  have hb := E.2.1
  rw [f_G_gather] at h
  refine lv_aload_n hx hb d_G_gather_0 rfl (lv_at hl 0 rfl) ?_
  refine lv_iconst (v := 0) hx hb d_G_gather_1 (by decide) ?_
  obtain ⟨st20, est20⟩ : ∃ y : CS, y = (s_cG_size st (0 : Int32)) := ⟨_, rfl⟩
  have h := nx_k est20 h
  refine p_cG_size E I est20 k_G_26 d_G_gather_2 (fun H locs I => ?_)
  refine lv_iconst (v := 0) hx hb d_G_gather_5 (by decide) ?_
  refine lv_istore_n (lv' := [(2, .int (0 : Int32)), (0, .ref (A 5)), (1, .int x1)]) hx hb d_G_gather_6 rfl hl (by decide) rfl (fun ls hl => ?_)
  exact w_G_gather_7 E hA kr FU x1 (0 : Int32) st20 _ _ _ h I (lv_sub hl [1, 2, 0] rfl)
set_option maxHeartbeats 4000000 in
set_option maxRecDepth 100000 in
theorem k_G_gather {x1 : Int32} {st t : CS} {r : Unit} (h : f_G_gather x1 st = some (r, t)) : Cn l y_G_gather c_G_gather 3 none rm_G_gather D (tyL cs) (cwC A cs st) (cwC A cs t) [.ref (A 5), .int x1] (none) := by
  refine cn_intro (by decide) (Nat.le_of_ble_eq_true rfl) ?_
  intro p e s m below meth c A0 Q ls E hr hlk hA hA0 hQ I hl
  exact w_G_gather E hA (rt_v E hr hlk hA0 hQ) x1 st _ _ _ h I (lv_sub hl [0, 1] rfl)
abbrev rm_G_size : Room := { frames := 0, cells := 0, slots := 0, locals := 0 }
noncomputable def f_G_size (st : CS) : Option (Int32 × CS) :=
  some ((cG_size st), st)
set_option maxHeartbeats 4000000 in
set_option maxRecDepth 100000 in
theorem w_G_size  {r : Int32} {t : CS} (E : EC R_G c_G_size 1 p s m args c D (tyL cs)) (hA : ∀ q, H0.size ≤ q → A0 q) (kr : ∀ (H : Heap) (locs : List Loc) (pc : Nat) (ls : Array Slot), IW D (cwC A cs t) A0 H0 H locs → decode c_G_size pc = .ok (.ireturn, 1) → W p l e rm_G_size s m args below meth c H locs 0 0 Q (F0 m pc ls [.int r])) : ∀ (st : CS) (H : Heap) (locs : List Loc) (ls : Array Slot), f_G_size st = some (r, t) → IW D (cwC A cs st) A0 H0 H locs → lv_has ls 1 [(0, .ref (A 5))] → W p l e rm_G_size s m args below meth c H locs 0 0 Q (F0 m 0 ls []) := by
  intro st H locs ls h I hl
  have hx := E.1
  have hb := E.2.1
  rw [f_G_size] at h
  refine lv_aload_n hx hb d_G_size_0 rfl (lv_at hl 0 rfl) ?_
  refine g_cG_size E I k_G_26 d_G_size_1 ?_
  cases h
  exact kr _ _ _ _ I d_G_size_4
set_option maxHeartbeats 4000000 in
set_option maxRecDepth 100000 in
theorem k_G_size {st t : CS} {r : Int32} (h : f_G_size st = some (r, t)) : Cn l y_G_size c_G_size 1 (some .int) rm_G_size D (tyL cs) (cwC A cs st) (cwC A cs t) [.ref (A 5)] (some (.int r)) := by
  refine cn_intro (by decide) (Nat.le_of_ble_eq_true rfl) ?_
  intro p e s m below meth c A0 Q ls E hr hlk hA hA0 hQ I hl
  exact w_G_size E hA (rt_i E hr hlk hA0 hQ) st _ _ _ h I (lv_sub hl [0] rfl)
abbrev rm_G_at : Room := { frames := 0, cells := 0, slots := 0, locals := 0 }
noncomputable def f_G_at (x1 : Int32) (st : CS) : Option (Int32 × CS) :=
  if x1 < 0 then (
    some ((-1 : Int32), st)
  ) else (
    if (cG_size st) ≤ x1 then (
      some ((-1 : Int32), st)
    ) else (
      ck x1 24 <|
      some ((cG_line st x1.toNatClampNeg), st)
    )
  )
set_option maxHeartbeats 4000000 in
set_option maxRecDepth 100000 in
theorem w_G_at  {r : Int32} {t : CS} (E : EC R_G c_G_at 2 p s m args c D (tyL cs)) (hA : ∀ q, H0.size ≤ q → A0 q) (kr : ∀ (H : Heap) (locs : List Loc) (pc : Nat) (ls : Array Slot), IW D (cwC A cs t) A0 H0 H locs → decode c_G_at pc = .ok (.ireturn, 1) → W p l e rm_G_at s m args below meth c H locs 0 0 Q (F0 m pc ls [.int r])) : ∀ (x1 : Int32) (st : CS) (H : Heap) (locs : List Loc) (ls : Array Slot), f_G_at x1 st = some (r, t) → IW D (cwC A cs st) A0 H0 H locs → lv_has ls 2 [(0, .ref (A 5)), (1, .int x1)] → W p l e rm_G_at s m args below meth c H locs 0 0 Q (F0 m 0 ls []) := by
  intro x1 st H locs ls h I hl
  have hx := E.1
  have hb := E.2.1
  rw [f_G_at] at h
  refine lv_iload_n hx hb d_G_at_0 rfl (lv_at hl 1 rfl) ?_
  refine lv_if_lt (tgt := 21) hx hb d_G_at_1 (by decide) (fun c1 => ?_) (fun c1 => ?_)
  · have h := ifp c1 h
    refine lv_iconst (v := -1) hx hb d_G_at_21 (by decide) ?_
    cases h
    exact kr _ _ _ _ I d_G_at_22
  · have h := ifn c1 h
    refine lv_iload_n hx hb d_G_at_4 rfl (lv_at hl 1 rfl) ?_
    refine lv_aload_n hx hb d_G_at_5 rfl (lv_at hl 0 rfl) ?_
    refine g_cG_size E I k_G_26 d_G_at_6 ?_
    refine lv_icmp_ge (tgt := 21) hx hb d_G_at_9 (by decide) (fun c2 => ?_) (fun c2 => ?_)
    · have h := ifp c2 h
      refine lv_iconst (v := -1) hx hb d_G_at_21 (by decide) ?_
      cases h
      exact kr _ _ _ _ I d_G_at_22
    · have h := ifn c2 h
      refine lv_aload_n hx hb d_G_at_12 rfl (lv_at hl 0 rfl) ?_
      refine g_cG_line E I k_G_19 d_G_at_13 ?_
      refine lv_iload_n hx hb d_G_at_16 rfl (lv_at hl 1 rfl) ?_
      obtain ⟨b3, h⟩ := ck_some h
      refine l_cG_line E I b3 d_G_at_17 ?_
      refine lv_goto (tgt := 22) hx hb d_G_at_18 (by decide) ?_
      cases h
      exact kr _ _ _ _ I d_G_at_22
set_option maxHeartbeats 4000000 in
set_option maxRecDepth 100000 in
theorem k_G_at {x1 : Int32} {st t : CS} {r : Int32} (h : f_G_at x1 st = some (r, t)) : Cn l y_G_at c_G_at 2 (some .int) rm_G_at D (tyL cs) (cwC A cs st) (cwC A cs t) [.ref (A 5), .int x1] (some (.int r)) := by
  refine cn_intro (by decide) (Nat.le_of_ble_eq_true rfl) ?_
  intro p e s m below meth c A0 Q ls E hr hlk hA hA0 hQ I hl
  exact w_G_at E hA (rt_i E hr hlk hA0 hQ) x1 st _ _ _ h I (lv_sub hl [0, 1] rfl)
abbrev rm_K_changeAt : Room := { frames := 0, cells := 0, slots := 0, locals := 0 }
noncomputable def f_K_changeAt (x1 : Int32) (x2 : Int32) (st : CS) : Option (Unit × CS) :=
  nx (s_cK_changeKind st x1) fun st1 =>
  nx (s_cK_changedNode st1 x2) fun st2 =>
  some ((), st2)
set_option maxHeartbeats 4000000 in
set_option maxRecDepth 100000 in
theorem w_K_changeAt  {r : Unit} {t : CS} (E : EC R_K c_K_changeAt 3 p s m args c D (tyL cs)) (hA : ∀ q, H0.size ≤ q → A0 q) (kr : ∀ (H : Heap) (locs : List Loc) (pc : Nat) (ls : Array Slot), IW D (cwC A cs t) A0 H0 H locs → decode c_K_changeAt pc = .ok (.return_, 1) → W p l e rm_K_changeAt s m args below meth c H locs 0 0 Q (F0 m pc ls [])) : ∀ (x1 : Int32) (x2 : Int32) (st : CS) (H : Heap) (locs : List Loc) (ls : Array Slot), f_K_changeAt x1 x2 st = some (r, t) → IW D (cwC A cs st) A0 H0 H locs → lv_has ls 3 [(0, .ref (A 3)), (1, .int x1), (2, .int x2)] → W p l e rm_K_changeAt s m args below meth c H locs 0 0 Q (F0 m 0 ls []) := by
  intro x1 x2 st H locs ls h I hl
  have hx := E.1
  have hb := E.2.1
  rw [f_K_changeAt] at h
  refine lv_aload_n hx hb d_K_changeAt_0 rfl (lv_at hl 0 rfl) ?_
  refine lv_iload_n hx hb d_K_changeAt_1 rfl (lv_at hl 1 rfl) ?_
  obtain ⟨st1, est1⟩ : ∃ y : CS, y = (s_cK_changeKind st x1) := ⟨_, rfl⟩
  have h := nx_k est1 h
  refine p_cK_changeKind E I est1 k_K_15 d_K_changeAt_2 (fun H locs I => ?_)
  refine lv_aload_n hx hb d_K_changeAt_5 rfl (lv_at hl 0 rfl) ?_
  refine lv_iload_n hx hb d_K_changeAt_6 rfl (lv_at hl 2 rfl) ?_
  obtain ⟨st2, est2⟩ : ∃ y : CS, y = (s_cK_changedNode st1 x2) := ⟨_, rfl⟩
  have h := nx_k est2 h
  refine p_cK_changedNode E I est2 k_K_19 d_K_changeAt_7 (fun H locs I => ?_)
  cases h
  exact kr _ _ _ _ I d_K_changeAt_10
set_option maxHeartbeats 4000000 in
set_option maxRecDepth 100000 in
theorem k_K_changeAt {x1 : Int32} {x2 : Int32} {st t : CS} {r : Unit} (h : f_K_changeAt x1 x2 st = some (r, t)) : Cn l y_K_changeAt c_K_changeAt 3 none rm_K_changeAt D (tyL cs) (cwC A cs st) (cwC A cs t) [.ref (A 3), .int x1, .int x2] (none) := by
  refine cn_intro (by decide) (Nat.le_of_ble_eq_true rfl) ?_
  intro p e s m below meth c A0 Q ls E hr hlk hA hA0 hQ I hl
  exact w_K_changeAt E hA (rt_v E hr hlk hA0 hQ) x1 x2 st _ _ _ h I (lv_sub hl [0, 1, 2] rfl)
abbrev rm_K_unchange : Room := { frames := 0, cells := 0, slots := 0, locals := 0 }
noncomputable def f_K_unchange (st : CS) : Option (Unit × CS) :=
  nx (s_cK_changeKind st (-1 : Int32)) fun st1 =>
  nx (s_cK_changedNode st1 (-1 : Int32)) fun st2 =>
  some ((), st2)
set_option maxHeartbeats 4000000 in
set_option maxRecDepth 100000 in
theorem w_K_unchange  {r : Unit} {t : CS} (E : EC R_K c_K_unchange 1 p s m args c D (tyL cs)) (hA : ∀ q, H0.size ≤ q → A0 q) (kr : ∀ (H : Heap) (locs : List Loc) (pc : Nat) (ls : Array Slot), IW D (cwC A cs t) A0 H0 H locs → decode c_K_unchange pc = .ok (.return_, 1) → W p l e rm_K_unchange s m args below meth c H locs 0 0 Q (F0 m pc ls [])) : ∀ (st : CS) (H : Heap) (locs : List Loc) (ls : Array Slot), f_K_unchange st = some (r, t) → IW D (cwC A cs st) A0 H0 H locs → lv_has ls 1 [(0, .ref (A 3))] → W p l e rm_K_unchange s m args below meth c H locs 0 0 Q (F0 m 0 ls []) := by
  intro st H locs ls h I hl
  have hx := E.1
  have hb := E.2.1
  rw [f_K_unchange] at h
  refine lv_aload_n hx hb d_K_unchange_0 rfl (lv_at hl 0 rfl) ?_
  refine lv_iconst (v := -1) hx hb d_K_unchange_1 (by decide) ?_
  obtain ⟨st1, est1⟩ : ∃ y : CS, y = (s_cK_changeKind st (-1 : Int32)) := ⟨_, rfl⟩
  have h := nx_k est1 h
  refine p_cK_changeKind E I est1 k_K_15 d_K_unchange_2 (fun H locs I => ?_)
  refine lv_aload_n hx hb d_K_unchange_5 rfl (lv_at hl 0 rfl) ?_
  refine lv_iconst (v := -1) hx hb d_K_unchange_6 (by decide) ?_
  obtain ⟨st2, est2⟩ : ∃ y : CS, y = (s_cK_changedNode st1 (-1 : Int32)) := ⟨_, rfl⟩
  have h := nx_k est2 h
  refine p_cK_changedNode E I est2 k_K_19 d_K_unchange_7 (fun H locs I => ?_)
  cases h
  exact kr _ _ _ _ I d_K_unchange_10
set_option maxHeartbeats 4000000 in
set_option maxRecDepth 100000 in
theorem k_K_unchange {st t : CS} {r : Unit} (h : f_K_unchange st = some (r, t)) : Cn l y_K_unchange c_K_unchange 1 none rm_K_unchange D (tyL cs) (cwC A cs st) (cwC A cs t) [.ref (A 3)] (none) := by
  refine cn_intro (by decide) (Nat.le_of_ble_eq_true rfl) ?_
  intro p e s m below meth c A0 Q ls E hr hlk hA hA0 hQ I hl
  exact w_K_unchange E hA (rt_v E hr hlk hA0 hQ) st _ _ _ h I (lv_sub hl [0] rfl)
abbrev rm_U_judge : Room := { frames := 133, cells := 0, slots := 0, locals := 5287 }
noncomputable def f_U_judge (x1 : Int32) (x2 : Int32) (x3 : Int32) (x4 : Int32) (st : CS) : Option (Int32 × CS) :=
  bd (f_K_changeAt x2 x3 st) fun _ st1 =>
  ck x1 24 <|
  ck x1 24 <|
  bd (f_K_workOut (cU_roots st1 x1.toNatClampNeg) (cU_inputs st1 x1.toNatClampNeg) x4 st1) fun r7 st6 =>
  bd (f_K_unchange st6) fun _ st9 =>
  bd (f_K_isCut st9) fun r13 st12 =>
  if r13 = 0 then (
    ck x1 24 <|
    if r7 = (cU_wanted st12 x1.toNatClampNeg) then (
      some ((0 : Int32), st12)
    ) else (
      some ((1 : Int32), st12)
    )
  ) else (
    some ((2 : Int32), st12)
  )
set_option maxHeartbeats 4000000 in
set_option maxRecDepth 100000 in
theorem w_U_judge  {r : Int32} {t : CS} (E : EC R_U c_U_judge 7 p s m args c D (tyL cs)) (hA : ∀ q, H0.size ≤ q → A0 q) (kr : ∀ (H : Heap) (locs : List Loc) (pc : Nat) (ls : Array Slot), IW D (cwC A cs t) A0 H0 H locs → decode c_U_judge pc = .ok (.ireturn, 1) → W p l e rm_U_judge s m args below meth c H locs 0 0 Q (F0 m pc ls [.int r])) : ∀ (x1 : Int32) (x2 : Int32) (x3 : Int32) (x4 : Int32) (st : CS) (H : Heap) (locs : List Loc) (ls : Array Slot), f_U_judge x1 x2 x3 x4 st = some (r, t) → IW D (cwC A cs st) A0 H0 H locs → lv_has ls 7 [(0, .ref (A 2)), (1, .int x1), (2, .int x2), (3, .int x3), (4, .int x4)] → W p l e rm_U_judge s m args below meth c H locs 0 0 Q (F0 m 0 ls []) := by
  intro x1 x2 x3 x4 st H locs ls h I hl
  have hx := E.1
  have hb := E.2.1
  rw [f_U_judge] at h
  refine lv_aload_n hx hb d_U_judge_0 rfl (lv_at hl 0 rfl) ?_
  refine g_cU_worker E I k_U_14 d_U_judge_1 ?_
  refine lv_iload_n hx hb d_U_judge_4 rfl (lv_at hl 2 rfl) ?_
  refine lv_iload_n hx hb d_U_judge_5 rfl (lv_at hl 3 rfl) ?_
  obtain ⟨u3, st1, h2, h⟩ := bd_some h
  refine cV (As := [.int x2, .int x3]) (rest := []) E I hA (k_K_changeAt h2) g_U_52 ⟨rfl, rfl⟩ 3 rfl rfl rfl hl rfl (Nat.le_of_ble_eq_true rfl) ⟨Nat.le_of_ble_eq_true rfl, Nat.le_of_ble_eq_true rfl⟩ ⟨Nat.zero_le _, Nat.zero_le _⟩ d_U_judge_6 rfl (fun H locs I => ?_)
  refine lv_aload_n hx hb d_U_judge_9 rfl (lv_at hl 0 rfl) ?_
  refine g_cU_worker E I k_U_14 d_U_judge_10 ?_
  refine lv_aload_n hx hb d_U_judge_13 rfl (lv_at hl 0 rfl) ?_
  refine g_cU_roots E I k_U_20 d_U_judge_14 ?_
  refine lv_iload_n hx hb d_U_judge_17 rfl (lv_at hl 1 rfl) ?_
  obtain ⟨b4, h⟩ := ck_some h
  refine l_cU_roots E I b4 d_U_judge_18 ?_
  refine lv_aload_n hx hb d_U_judge_19 rfl (lv_at hl 0 rfl) ?_
  refine g_cU_inputs E I k_U_24 d_U_judge_20 ?_
  refine lv_iload_n hx hb d_U_judge_23 rfl (lv_at hl 1 rfl) ?_
  obtain ⟨b5, h⟩ := ck_some h
  refine l_cU_inputs E I b5 d_U_judge_24 ?_
  refine lv_iload hx hb d_U_judge_25 (lv_at hl 4 rfl) ?_
  obtain ⟨r7, st6, h8, h⟩ := bd_some h
  refine cV (As := [.int (cU_roots st1 x1.toNatClampNeg), .long (cU_inputs st1 x1.toNatClampNeg), .int x4]) (rest := []) E I hA (k_K_workOut h8) g_U_56 ⟨rfl, rfl⟩ 3 rfl rfl rfl hl rfl (Nat.le_of_ble_eq_true rfl) ⟨Nat.le_of_ble_eq_true rfl, Nat.le_of_ble_eq_true rfl⟩ ⟨Nat.zero_le _, Nat.zero_le _⟩ d_U_judge_27 rfl (fun H locs I => ?_)
  refine lv_lstore (lv' := [(5, .long r7), (0, .ref (A 2)), (1, .int x1), (2, .int x2), (3, .int x3), (4, .int x4)]) hx hb d_U_judge_30 hl (by decide) rfl (fun ls hl => ?_)
  refine lv_aload_n hx hb d_U_judge_32 rfl (lv_at hl 1 rfl) ?_
  refine g_cU_worker E I k_U_14 d_U_judge_33 ?_
  obtain ⟨u11, st9, h10, h⟩ := bd_some h
  refine cV (As := []) (rest := []) E I hA (k_K_unchange h10) g_U_60 ⟨rfl, rfl⟩ 3 rfl rfl rfl hl rfl (Nat.le_of_ble_eq_true rfl) ⟨Nat.le_of_ble_eq_true rfl, Nat.le_of_ble_eq_true rfl⟩ ⟨Nat.zero_le _, Nat.zero_le _⟩ d_U_judge_36 rfl (fun H locs I => ?_)
  refine lv_aload_n hx hb d_U_judge_39 rfl (lv_at hl 1 rfl) ?_
  refine g_cU_worker E I k_U_14 d_U_judge_40 ?_
  obtain ⟨r13, st12, h14, h⟩ := bd_some h
  refine cV (As := []) (rest := []) E I hA (k_K_isCut h14) g_U_63 ⟨rfl, rfl⟩ 3 rfl rfl rfl hl rfl (Nat.le_of_ble_eq_true rfl) ⟨Nat.le_of_ble_eq_true rfl, Nat.le_of_ble_eq_true rfl⟩ ⟨Nat.zero_le _, Nat.zero_le _⟩ d_U_judge_43 rfl (fun H locs I => ?_)
  refine lv_if_eq (tgt := 51) hx hb d_U_judge_46 (by decide) (fun c15 => ?_) (fun c15 => ?_)
  · have h := ifp c15 h
    refine lv_lload hx hb d_U_judge_51 (lv_at hl 0 rfl) ?_
    refine lv_aload_n hx hb d_U_judge_53 rfl (lv_at hl 1 rfl) ?_
    refine g_cU_wanted E I k_U_28 d_U_judge_54 ?_
    refine lv_iload_n hx hb d_U_judge_57 rfl (lv_at hl 2 rfl) ?_
    obtain ⟨b16, h⟩ := ck_some h
    refine l_cU_wanted E I b16 d_U_judge_58 ?_
    refine W.lcmp hx hb d_U_judge_59 ?_
    refine lv_if_ne (tgt := 67) hx hb d_U_judge_60 (by decide) (fun c17 => ?_) (fun c17 => ?_)
    · have c17 := mt (lg_cmp_eq _ _).mpr c17
      have h := ifn c17 h
      refine lv_iconst (v := 1) hx hb d_U_judge_67 (by decide) ?_
      cases h
      exact kr _ _ _ _ I d_U_judge_68
    · have c17 := (lg_cmp_eq _ _).mp c17
      have h := ifp c17 h
      refine lv_iconst (v := 0) hx hb d_U_judge_63 (by decide) ?_
      refine lv_goto (tgt := 68) hx hb d_U_judge_64 (by decide) ?_
      cases h
      exact kr _ _ _ _ I d_U_judge_68
  · have h := ifn c15 h
    refine lv_iconst (v := 2) hx hb d_U_judge_49 (by decide) ?_
    cases h
    exact kr _ _ _ _ I d_U_judge_50
set_option maxHeartbeats 4000000 in
set_option maxRecDepth 100000 in
theorem k_U_judge {x1 : Int32} {x2 : Int32} {x3 : Int32} {x4 : Int32} {st t : CS} {r : Int32} (h : f_U_judge x1 x2 x3 x4 st = some (r, t)) : Cn l y_U_judge c_U_judge 7 (some .int) rm_U_judge D (tyL cs) (cwC A cs st) (cwC A cs t) [.ref (A 2), .int x1, .int x2, .int x3, .int x4] (some (.int r)) := by
  refine cn_intro (by decide) (Nat.le_of_ble_eq_true rfl) ?_
  intro p e s m below meth c A0 Q ls E hr hlk hA hA0 hQ I hl
  exact w_U_judge E hA (rt_i E hr hlk hA0 hQ) x1 x2 x3 x4 st _ _ _ h I (lv_sub hl [0, 1, 2, 3, 4] rfl)
abbrev rm_M_run : Room := { frames := 134, cells := 0, slots := 0, locals := 5313 }
noncomputable def f_M_run_62 : Nat → Int32 → Int32 → Int32 → Int32 → Int32 → Int32 → Int32 → CS → Option (Int32 × CS)
  | 0, _, _, _, _, _, _, _, _ => none
  | n + 1, x1, x2, x3, x4, x5, x6, x7, st =>
    bd (f_G_size st) fun r2 st1 =>
    if r2 ≤ x7 then (
      bd (f_N_settle x1 x5 x6 st1) fun _ st5 =>
      some (x5, st5)
    ) else (
      if x5 = 0 then (
        bd (f_G_at x7 st1) fun r13 st12 =>
        bd (f_U_judge r13 x3 x4 x2 st12) fun r16 st15 =>
        if r16 = 0 then (
          nx (x7 + 1) fun x7_23 =>
          f_M_run_62 n x1 x2 x3 x4 r16 (-1 : Int32) x7_23 st15
        ) else (
          bd (f_G_at x7 st15) fun r20 st19 =>
          nx (x7 + 1) fun x7_22 =>
          f_M_run_62 n x1 x2 x3 x4 r16 r20 x7_22 st19
        )
      ) else (
        bd (f_N_settle x1 x5 x6 st1) fun _ st9 =>
        some (x5, st9)
      )
    )
noncomputable def f_M_run (x1 : Int32) (x2 : Int32) (st : CS) : Option (Int32 × CS) :=
  bd (f_N_has x1 st) fun r25 st24 =>
  if r25 = 0 then (
    some ((-1 : Int32), st24)
  ) else (
    if x2 < (1 : Int32) then (
      some ((-1 : Int32), st24)
    ) else (
      if x2 ≤ (5000 : Int32) then (
        bd (f_N_kindOf x1 st24) fun r31 st30 =>
        bd (f_N_nodeOf x1 st30) fun r34 st33 =>
        bd (f_G_gather r34 st33) fun _ st36 =>
        f_M_run_62 FU x1 x2 r31 r34 (0 : Int32) (-1 : Int32) (0 : Int32) st36
      ) else (
        some ((-1 : Int32), st24)
      )
    )
  )
set_option maxHeartbeats 4000000 in
set_option maxRecDepth 100000 in
theorem w_M_run_62  {r : Int32} {t : CS} (E : EC R_M c_M_run 8 p s m args c D (tyL cs)) (hA : ∀ q, H0.size ≤ q → A0 q) (kr : ∀ (H : Heap) (locs : List Loc) (pc : Nat) (ls : Array Slot), IW D (cwC A cs t) A0 H0 H locs → decode c_M_run pc = .ok (.ireturn, 1) → W p l e rm_M_run s m args below meth c H locs 0 0 Q (F0 m pc ls [.int r])) : ∀ (n : Nat), ∀ (x1 : Int32) (x2 : Int32) (x3 : Int32) (x4 : Int32) (x5 : Int32) (x6 : Int32) (x7 : Int32) (st : CS) (H : Heap) (locs : List Loc) (ls : Array Slot), f_M_run_62 n x1 x2 x3 x4 x5 x6 x7 st = some (r, t) → IW D (cwC A cs st) A0 H0 H locs → lv_has ls 8 [(0, .ref (A 0)), (1, .int x1), (2, .int x2), (3, .int x3), (4, .int x4), (5, .int x5), (6, .int x6), (7, .int x7)] → W p l e rm_M_run s m args below meth c H locs 0 0 Q (F0 m 62 ls []) := by
  intro n
  induction n with
  | zero => intro x1 x2 x3 x4 x5 x6 x7 st H locs ls h I hl; cases h
  | succ n ih =>
    intro x1 x2 x3 x4 x5 x6 x7 st H locs ls h I hl
    have hx := E.1
    have hb := E.2.1
    rw [f_M_run_62] at h
    refine lv_iload hx hb d_M_run_62 (lv_at hl 7 rfl) ?_
    refine lv_aload_n hx hb d_M_run_64 rfl (lv_at hl 0 rfl) ?_
    refine g_cM_lineup E I k_M_37 d_M_run_65 ?_
    obtain ⟨r2, st1, h3, h⟩ := bd_some h
    refine cV (As := []) (rest := [.int x7]) E I hA (k_G_size h3) g_M_121 ⟨rfl, rfl⟩ 5 rfl rfl rfl hl rfl (Nat.le_of_ble_eq_true rfl) ⟨Nat.le_of_ble_eq_true rfl, Nat.le_of_ble_eq_true rfl⟩ ⟨Nat.zero_le _, Nat.zero_le _⟩ d_M_run_68 rfl (fun H locs I => ?_)
    refine lv_icmp_ge (tgt := 127) hx hb d_M_run_71 (by decide) (fun c4 => ?_) (fun c4 => ?_)
    · have h := ifp c4 h
      refine lv_aload_n hx hb d_M_run_127 rfl (lv_at hl 0 rfl) ?_
      refine g_cM_mutants E I k_M_28 d_M_run_128 ?_
      refine lv_iload_n hx hb d_M_run_131 rfl (lv_at hl 1 rfl) ?_
      refine lv_iload hx hb d_M_run_132 (lv_at hl 5 rfl) ?_
      refine lv_iload hx hb d_M_run_134 (lv_at hl 6 rfl) ?_
      obtain ⟨u7, st5, h6, h⟩ := bd_some h
      refine cV (As := [.int x1, .int x5, .int x6]) (rest := []) E I hA (k_N_settle h6) g_M_129 ⟨rfl, rfl⟩ 4 rfl rfl rfl hl rfl (Nat.le_of_ble_eq_true rfl) ⟨Nat.le_of_ble_eq_true rfl, Nat.le_of_ble_eq_true rfl⟩ ⟨Nat.zero_le _, Nat.zero_le _⟩ d_M_run_136 rfl (fun H locs I => ?_)
      refine lv_iload hx hb d_M_run_139 (lv_at hl 5 rfl) ?_
      cases h
      exact kr _ _ _ _ I d_M_run_141
    · have h := ifn c4 h
      refine lv_iload hx hb d_M_run_74 (lv_at hl 5 rfl) ?_
      refine lv_if_ne (tgt := 127) hx hb d_M_run_76 (by decide) (fun c8 => ?_) (fun c8 => ?_)
      · have h := ifn c8 h
        refine lv_aload_n hx hb d_M_run_127 rfl (lv_at hl 0 rfl) ?_
        refine g_cM_mutants E I k_M_28 d_M_run_128 ?_
        refine lv_iload_n hx hb d_M_run_131 rfl (lv_at hl 1 rfl) ?_
        refine lv_iload hx hb d_M_run_132 (lv_at hl 5 rfl) ?_
        refine lv_iload hx hb d_M_run_134 (lv_at hl 6 rfl) ?_
        obtain ⟨u11, st9, h10, h⟩ := bd_some h
        refine cV (As := [.int x1, .int x5, .int x6]) (rest := []) E I hA (k_N_settle h10) g_M_129 ⟨rfl, rfl⟩ 4 rfl rfl rfl hl rfl (Nat.le_of_ble_eq_true rfl) ⟨Nat.le_of_ble_eq_true rfl, Nat.le_of_ble_eq_true rfl⟩ ⟨Nat.zero_le _, Nat.zero_le _⟩ d_M_run_136 rfl (fun H locs I => ?_)
        refine lv_iload hx hb d_M_run_139 (lv_at hl 5 rfl) ?_
        cases h
        exact kr _ _ _ _ I d_M_run_141
      · have h := ifp c8 h
        refine lv_aload_n hx hb d_M_run_79 rfl (lv_at hl 0 rfl) ?_
        refine g_cM_trials E I k_M_21 d_M_run_80 ?_
        refine lv_aload_n hx hb d_M_run_83 rfl (lv_at hl 0 rfl) ?_
        refine g_cM_lineup E I k_M_37 d_M_run_84 ?_
        refine lv_iload hx hb d_M_run_87 (lv_at hl 7 rfl) ?_
        obtain ⟨r13, st12, h14, h⟩ := bd_some h
        refine cV (As := [.int x7]) (rest := [.ref (A 2)]) E I hA (k_G_at h14) g_M_122 ⟨rfl, rfl⟩ 5 rfl rfl rfl hl rfl (Nat.le_of_ble_eq_true rfl) ⟨Nat.le_of_ble_eq_true rfl, Nat.le_of_ble_eq_true rfl⟩ ⟨Nat.zero_le _, Nat.zero_le _⟩ d_M_run_89 rfl (fun H locs I => ?_)
        refine lv_iload_n hx hb d_M_run_92 rfl (lv_at hl 3 rfl) ?_
        refine lv_iload hx hb d_M_run_93 (lv_at hl 4 rfl) ?_
        refine lv_iload_n hx hb d_M_run_95 rfl (lv_at hl 2 rfl) ?_
        obtain ⟨r16, st15, h17, h⟩ := bd_some h
        refine cV (As := [.int r13, .int x3, .int x4, .int x2]) (rest := []) E I hA (k_U_judge h17) g_M_125 ⟨rfl, rfl⟩ 2 rfl rfl rfl hl rfl (Nat.le_of_ble_eq_true rfl) ⟨Nat.le_of_ble_eq_true rfl, Nat.le_of_ble_eq_true rfl⟩ ⟨Nat.zero_le _, Nat.zero_le _⟩ d_M_run_96 rfl (fun H locs I => ?_)
        refine lv_istore (lv' := [(5, .int r16), (0, .ref (A 0)), (1, .int x1), (2, .int x2), (3, .int x3), (4, .int x4), (6, .int x6), (7, .int x7)]) hx hb d_M_run_99 hl (by decide) rfl (fun ls hl => ?_)
        refine lv_iload hx hb d_M_run_101 (lv_at hl 0 rfl) ?_
        refine lv_if_ne (tgt := 110) hx hb d_M_run_103 (by decide) (fun c18 => ?_) (fun c18 => ?_)
        · have h := ifn c18 h
          refine lv_aload_n hx hb d_M_run_110 rfl (lv_at hl 1 rfl) ?_
          refine g_cM_lineup E I k_M_37 d_M_run_111 ?_
          refine lv_iload hx hb d_M_run_114 (lv_at hl 7 rfl) ?_
          obtain ⟨r20, st19, h21, h⟩ := bd_some h
          refine cV (As := [.int x7]) (rest := []) E I hA (k_G_at h21) g_M_122 ⟨rfl, rfl⟩ 5 rfl rfl rfl hl rfl (Nat.le_of_ble_eq_true rfl) ⟨Nat.le_of_ble_eq_true rfl, Nat.le_of_ble_eq_true rfl⟩ ⟨Nat.zero_le _, Nat.zero_le _⟩ d_M_run_116 rfl (fun H locs I => ?_)
          refine lv_istore (lv' := [(6, .int r20), (5, .int r16), (0, .ref (A 0)), (1, .int x1), (2, .int x2), (3, .int x3), (4, .int x4), (7, .int x7)]) hx hb d_M_run_119 hl (by decide) rfl (fun ls hl => ?_)
          obtain ⟨x7_22, ex7_22⟩ : ∃ y : Int32, y = (x7 + 1) := ⟨_, rfl⟩
          have h := nx_k ex7_22 h
          refine lv_iinc (v := x7_22) (lv' := [(7, .int x7_22), (6, .int r20), (5, .int r16), (0, .ref (A 0)), (1, .int x1), (2, .int x2), (3, .int x3), (4, .int x4)]) hx hb d_M_run_121 hl (k := 7) rfl (by rw [ex7_22]; rfl) (by decide) rfl (fun ls hl => ?_)
          refine lv_goto (tgt := 62) hx hb d_M_run_124 (by decide) ?_
          exact ih x1 x2 x3 x4 r16 r20 x7_22 st19 _ _ _ h I (lv_sub hl [3, 4, 5, 6, 7, 2, 1, 0] rfl)
        · have h := ifp c18 h
          refine lv_iconst (v := -1) hx hb d_M_run_106 (by decide) ?_
          refine lv_goto (tgt := 119) hx hb d_M_run_107 (by decide) ?_
          refine lv_istore (lv' := [(6, .int (-1 : Int32)), (5, .int r16), (0, .ref (A 0)), (1, .int x1), (2, .int x2), (3, .int x3), (4, .int x4), (7, .int x7)]) hx hb d_M_run_119 hl (by decide) rfl (fun ls hl => ?_)
          obtain ⟨x7_23, ex7_23⟩ : ∃ y : Int32, y = (x7 + 1) := ⟨_, rfl⟩
          have h := nx_k ex7_23 h
          refine lv_iinc (v := x7_23) (lv' := [(7, .int x7_23), (6, .int (-1 : Int32)), (5, .int r16), (0, .ref (A 0)), (1, .int x1), (2, .int x2), (3, .int x3), (4, .int x4)]) hx hb d_M_run_121 hl (k := 7) rfl (by rw [ex7_23]; rfl) (by decide) rfl (fun ls hl => ?_)
          refine lv_goto (tgt := 62) hx hb d_M_run_124 (by decide) ?_
          exact ih x1 x2 x3 x4 r16 (-1 : Int32) x7_23 st15 _ _ _ h I (lv_sub hl [3, 4, 5, 6, 7, 2, 1, 0] rfl)
set_option maxHeartbeats 4000000 in
set_option maxRecDepth 100000 in
theorem w_M_run  {r : Int32} {t : CS} (E : EC R_M c_M_run 8 p s m args c D (tyL cs)) (hA : ∀ q, H0.size ≤ q → A0 q) (kr : ∀ (H : Heap) (locs : List Loc) (pc : Nat) (ls : Array Slot), IW D (cwC A cs t) A0 H0 H locs → decode c_M_run pc = .ok (.ireturn, 1) → W p l e rm_M_run s m args below meth c H locs 0 0 Q (F0 m pc ls [.int r])) : ∀ (x1 : Int32) (x2 : Int32) (st : CS) (H : Heap) (locs : List Loc) (ls : Array Slot), f_M_run x1 x2 st = some (r, t) → IW D (cwC A cs st) A0 H0 H locs → lv_has ls 8 [(0, .ref (A 0)), (1, .int x1), (2, .int x2)] → W p l e rm_M_run s m args below meth c H locs 0 0 Q (F0 m 0 ls []) := by
  intro x1 x2 st H locs ls h I hl
  have hx := E.1
  have hb := E.2.1
  rw [f_M_run] at h
  refine lv_aload_n hx hb d_M_run_0 rfl (lv_at hl 0 rfl) ?_
  refine g_cM_mutants E I k_M_28 d_M_run_1 ?_
  refine lv_iload_n hx hb d_M_run_4 rfl (lv_at hl 1 rfl) ?_
  obtain ⟨r25, st24, h26, h⟩ := bd_some h
  refine cV (As := [.int x1]) (rest := []) E I hA (k_N_has h26) g_M_103 ⟨rfl, rfl⟩ 4 rfl rfl rfl hl rfl (Nat.le_of_ble_eq_true rfl) ⟨Nat.le_of_ble_eq_true rfl, Nat.le_of_ble_eq_true rfl⟩ ⟨Nat.zero_le _, Nat.zero_le _⟩ d_M_run_5 rfl (fun H locs I => ?_)
  refine lv_if_eq (tgt := 23) hx hb d_M_run_8 (by decide) (fun c27 => ?_) (fun c27 => ?_)
  · have h := ifp c27 h
    refine lv_iconst (v := -1) hx hb d_M_run_23 (by decide) ?_
    cases h
    exact kr _ _ _ _ I d_M_run_24
  · have h := ifn c27 h
    refine lv_iload_n hx hb d_M_run_11 rfl (lv_at hl 2 rfl) ?_
    refine lv_iconst (v := 1) hx hb d_M_run_12 (by decide) ?_
    refine lv_icmp_lt (tgt := 23) hx hb d_M_run_13 (by decide) (fun c28 => ?_) (fun c28 => ?_)
    · have h := ifp c28 h
      refine lv_iconst (v := -1) hx hb d_M_run_23 (by decide) ?_
      cases h
      exact kr _ _ _ _ I d_M_run_24
    · have h := ifn c28 h
      refine lv_iload_n hx hb d_M_run_16 rfl (lv_at hl 2 rfl) ?_
      refine lv_sipush (v := 5000) hx hb d_M_run_17 (by decide) ?_
      refine lv_icmp_le (tgt := 25) hx hb d_M_run_20 (by decide) (fun c29 => ?_) (fun c29 => ?_)
      · have h := ifp c29 h
        refine lv_aload_n hx hb d_M_run_25 rfl (lv_at hl 0 rfl) ?_
        refine g_cM_mutants E I k_M_28 d_M_run_26 ?_
        refine lv_iload_n hx hb d_M_run_29 rfl (lv_at hl 1 rfl) ?_
        obtain ⟨r31, st30, h32, h⟩ := bd_some h
        refine cV (As := [.int x1]) (rest := []) E I hA (k_N_kindOf h32) g_M_104 ⟨rfl, rfl⟩ 4 rfl rfl rfl hl rfl (Nat.le_of_ble_eq_true rfl) ⟨Nat.le_of_ble_eq_true rfl, Nat.le_of_ble_eq_true rfl⟩ ⟨Nat.zero_le _, Nat.zero_le _⟩ d_M_run_30 rfl (fun H locs I => ?_)
        refine lv_istore_n (lv' := [(3, .int r31), (0, .ref (A 0)), (1, .int x1), (2, .int x2)]) hx hb d_M_run_33 rfl hl (by decide) rfl (fun ls hl => ?_)
        refine lv_aload_n hx hb d_M_run_34 rfl (lv_at hl 1 rfl) ?_
        refine g_cM_mutants E I k_M_28 d_M_run_35 ?_
        refine lv_iload_n hx hb d_M_run_38 rfl (lv_at hl 2 rfl) ?_
        obtain ⟨r34, st33, h35, h⟩ := bd_some h
        refine cV (As := [.int x1]) (rest := []) E I hA (k_N_nodeOf h35) g_M_105 ⟨rfl, rfl⟩ 4 rfl rfl rfl hl rfl (Nat.le_of_ble_eq_true rfl) ⟨Nat.le_of_ble_eq_true rfl, Nat.le_of_ble_eq_true rfl⟩ ⟨Nat.zero_le _, Nat.zero_le _⟩ d_M_run_39 rfl (fun H locs I => ?_)
        refine lv_istore (lv' := [(4, .int r34), (3, .int r31), (0, .ref (A 0)), (1, .int x1), (2, .int x2)]) hx hb d_M_run_42 hl (by decide) rfl (fun ls hl => ?_)
        refine lv_aload_n hx hb d_M_run_44 rfl (lv_at hl 2 rfl) ?_
        refine g_cM_lineup E I k_M_37 d_M_run_45 ?_
        refine lv_iload hx hb d_M_run_48 (lv_at hl 0 rfl) ?_
        obtain ⟨u38, st36, h37, h⟩ := bd_some h
        refine cV (As := [.int r34]) (rest := []) E I hA (k_G_gather h37) g_M_117 ⟨rfl, rfl⟩ 5 rfl rfl rfl hl rfl (Nat.le_of_ble_eq_true rfl) ⟨Nat.le_of_ble_eq_true rfl, Nat.le_of_ble_eq_true rfl⟩ ⟨Nat.zero_le _, Nat.zero_le _⟩ d_M_run_50 rfl (fun H locs I => ?_)
        refine lv_iconst (v := 0) hx hb d_M_run_53 (by decide) ?_
        refine lv_istore (lv' := [(5, .int (0 : Int32)), (4, .int r34), (3, .int r31), (0, .ref (A 0)), (1, .int x1), (2, .int x2)]) hx hb d_M_run_54 hl (by decide) rfl (fun ls hl => ?_)
        refine lv_iconst (v := -1) hx hb d_M_run_56 (by decide) ?_
        refine lv_istore (lv' := [(6, .int (-1 : Int32)), (5, .int (0 : Int32)), (4, .int r34), (3, .int r31), (0, .ref (A 0)), (1, .int x1), (2, .int x2)]) hx hb d_M_run_57 hl (by decide) rfl (fun ls hl => ?_)
        refine lv_iconst (v := 0) hx hb d_M_run_59 (by decide) ?_
        refine lv_istore (lv' := [(7, .int (0 : Int32)), (6, .int (-1 : Int32)), (5, .int (0 : Int32)), (4, .int r34), (3, .int r31), (0, .ref (A 0)), (1, .int x1), (2, .int x2)]) hx hb d_M_run_60 hl (by decide) rfl (fun ls hl => ?_)
        exact w_M_run_62 E hA kr FU x1 x2 r31 r34 (0 : Int32) (-1 : Int32) (0 : Int32) st36 _ _ _ h I (lv_sub hl [5, 6, 7, 4, 3, 2, 1, 0] rfl)
      · have h := ifn c29 h
        refine lv_iconst (v := -1) hx hb d_M_run_23 (by decide) ?_
        cases h
        exact kr _ _ _ _ I d_M_run_24
set_option maxHeartbeats 4000000 in
set_option maxRecDepth 100000 in
theorem k_M_run {x1 : Int32} {x2 : Int32} {st t : CS} {r : Int32} (h : f_M_run x1 x2 st = some (r, t)) : Cn l y_M_run c_M_run 8 (some .int) rm_M_run D (tyL cs) (cwC A cs st) (cwC A cs t) [.ref (A 0), .int x1, .int x2] (some (.int r)) := by
  refine cn_intro (by decide) (Nat.le_of_ble_eq_true rfl) ?_
  intro p e s m below meth c A0 Q ls E hr hlk hA hA0 hQ I hl
  exact w_M_run E hA (rt_i E hr hlk hA0 hQ) x1 x2 st _ _ _ h I (lv_sub hl [0, 1, 2] rfl)
end Mmc4
