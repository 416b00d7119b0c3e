section Mmc3
variable {p : Program} {l : Launch} {e : Env} {s : State} {m : MethodId} {args : Array Value} {below : List Frame} {meth : Method} {c : Code} {Q : State → Prop} {D : va_G} {A0 : Nat → Prop} {H0 : Heap} {A : Nat → Nat} {cs : ClassId × ClassId × ClassId}
abbrev rm_M_about : Room := { frames := 1, cells := 0, slots := 0, locals := 21 }
noncomputable def f_M_about (x1 : Int32) (x2 : Int32) (st : CS) : Option (Int32 × CS) :=
  bd (f_U_has x1 st) fun r2 st1 =>
  if r2 = 0 then (
    some ((-1 : Int32), st1)
  ) else (
    if x2 = 0 then (
      bd (f_U_stateOf x1 st1) fun r7 st6 =>
      some (r7, st6)
    ) else (
      if x2 = 1 then (
        bd (f_U_stepsOf x1 st1) fun r11 st10 =>
        some (r11, st10)
      ) else (
        if x2 = 2 then (
          bd (f_U_coveredBy x1 st1) fun r15 st14 =>
          bd (f_J_bitCount r15 st14) fun r18 st17 =>
          some (r18, st17)
        ) else (
          some ((-1 : Int32), st1)
        )
      )
    )
  )
set_option maxHeartbeats 4000000 in
set_option maxRecDepth 100000 in
theorem w_M_about  {r : Int32} {t : CS} (E : EC R_M c_M_about 3 p s m args c D (tyL cs)) (hA : ∀ q, H0.size ≤ q → A0 q) (kr : ∀ (H : Heap) (locs : List Loc) (pc : Nat) (ls : Array Slot), IW D (cwC A cs t) A0 H0 H locs → decode c_M_about pc = .ok (.ireturn, 1) → W p l e rm_M_about s m args below meth c H locs 0 0 Q (F0 m pc ls [.int r])) : ∀ (x1 : Int32) (x2 : Int32) (st : CS) (H : Heap) (locs : List Loc) (ls : Array Slot), f_M_about x1 x2 st = some (r, t) → IW D (cwC A cs st) A0 H0 H locs → lv_has ls 3 [(0, .ref (A 0)), (1, .int x1), (2, .int x2)] → W p l e rm_M_about s m args below meth c H locs 0 0 Q (F0 m 0 ls []) := by
  intro x1 x2 st H locs ls h I hl
  have hx := E.1
  have hb := E.2.1
  rw [f_M_about] at h
  refine lv_aload_n hx hb d_M_about_0 rfl (lv_at hl 0 rfl) ?_
  refine g_cM_trials E I k_M_21 d_M_about_1 ?_
  refine lv_iload_n hx hb d_M_about_4 rfl (lv_at hl 1 rfl) ?_
  obtain ⟨r2, st1, h3, h⟩ := bd_some h
  refine cV (As := [.int x1]) (rest := []) E I hA (k_U_has h3) g_M_60 ⟨rfl, rfl⟩ 2 rfl rfl rfl hl rfl (Nat.le_of_ble_eq_true rfl) ⟨Nat.le_of_ble_eq_true rfl, Nat.le_of_ble_eq_true rfl⟩ ⟨Nat.zero_le _, Nat.zero_le _⟩ d_M_about_5 rfl (fun H locs I => ?_)
  refine lv_if_ne (tgt := 13) hx hb d_M_about_8 (by decide) (fun c4 => ?_) (fun c4 => ?_)
  · have h := ifn c4 h
    refine lv_iload_n hx hb d_M_about_13 rfl (lv_at hl 2 rfl) ?_
    by_cases c5 : x2 = 0
    · have h := ifp c5 h
      refine lv_tableIn (off := 26) (tgt := 40) hx hb d_M_about_14 (by rw [c5]; decide) (by rw [c5]; decide) (by rw [c5]; rfl) (by decide) ?_
      refine lv_aload_n hx hb d_M_about_40 rfl (lv_at hl 0 rfl) ?_
      refine g_cM_trials E I k_M_21 d_M_about_41 ?_
      refine lv_iload_n hx hb d_M_about_44 rfl (lv_at hl 1 rfl) ?_
      obtain ⟨r7, st6, h8, h⟩ := bd_some h
      refine cV (As := [.int x1]) (rest := []) E I hA (k_U_stateOf h8) g_M_61 ⟨rfl, rfl⟩ 2 rfl rfl rfl hl rfl (Nat.le_of_ble_eq_true rfl) ⟨Nat.le_of_ble_eq_true rfl, Nat.le_of_ble_eq_true rfl⟩ ⟨Nat.zero_le _, Nat.zero_le _⟩ d_M_about_45 rfl (fun H locs I => ?_)
      cases h
      exact kr _ _ _ _ I d_M_about_48
    · have h := ifn c5 h
      by_cases c9 : x2 = 1
      · have h := ifp c9 h
        refine lv_tableIn (off := 35) (tgt := 49) hx hb d_M_about_14 (by rw [c9]; decide) (by rw [c9]; decide) (by rw [c9]; rfl) (by decide) ?_
        refine lv_aload_n hx hb d_M_about_49 rfl (lv_at hl 0 rfl) ?_
        refine g_cM_trials E I k_M_21 d_M_about_50 ?_
        refine lv_iload_n hx hb d_M_about_53 rfl (lv_at hl 1 rfl) ?_
        obtain ⟨r11, st10, h12, h⟩ := bd_some h
        refine cV (As := [.int x1]) (rest := []) E I hA (k_U_stepsOf h12) g_M_65 ⟨rfl, rfl⟩ 2 rfl rfl rfl hl rfl (Nat.le_of_ble_eq_true rfl) ⟨Nat.le_of_ble_eq_true rfl, Nat.le_of_ble_eq_true rfl⟩ ⟨Nat.zero_le _, Nat.zero_le _⟩ d_M_about_54 rfl (fun H locs I => ?_)
        cases h
        exact kr _ _ _ _ I d_M_about_57
      · have h := ifn c9 h
        by_cases c13 : x2 = 2
        · have h := ifp c13 h
          refine lv_tableIn (off := 44) (tgt := 58) hx hb d_M_about_14 (by rw [c13]; decide) (by rw [c13]; decide) (by rw [c13]; rfl) (by decide) ?_
          refine lv_aload_n hx hb d_M_about_58 rfl (lv_at hl 0 rfl) ?_
          refine g_cM_trials E I k_M_21 d_M_about_59 ?_
          refine lv_iload_n hx hb d_M_about_62 rfl (lv_at hl 1 rfl) ?_
          obtain ⟨r15, st14, h16, h⟩ := bd_some h
          refine cV (As := [.int x1]) (rest := []) E I hA (k_U_coveredBy h16) g_M_68 ⟨rfl, rfl⟩ 2 rfl rfl rfl hl rfl (Nat.le_of_ble_eq_true rfl) ⟨Nat.le_of_ble_eq_true rfl, Nat.le_of_ble_eq_true rfl⟩ ⟨Nat.zero_le _, Nat.zero_le _⟩ d_M_about_63 rfl (fun H locs I => ?_)
          obtain ⟨r18, st17, h19, h⟩ := bd_some h
          refine cS (As := [.long r15]) (rest := []) E I hA (k_J_bitCount h19) g_M_72 ⟨rfl, rfl⟩ rfl hl rfl (Nat.le_of_ble_eq_true rfl) ⟨Nat.le_of_ble_eq_true rfl, Nat.le_of_ble_eq_true rfl⟩ ⟨Nat.zero_le _, Nat.zero_le _⟩ d_M_about_66 rfl (fun H locs I => ?_)
          cases h
          exact kr _ _ _ _ I d_M_about_69
        · have h := ifn c13 h
          have tc5 := ne_ti (z := 0) (by decide) c5
          have tc9 := ne_ti (z := 1) (by decide) c9
          have tc13 := ne_ti (z := 2) (by decide) c13
          refine lv_tableOut (tgt := 70) hx hb d_M_about_14 (by omega) (by decide) ?_
          refine lv_iconst (v := -1) hx hb d_M_about_70 (by decide) ?_
          cases h
          exact kr _ _ _ _ I d_M_about_71
  · have h := ifp c4 h
    refine lv_iconst (v := -1) hx hb d_M_about_11 (by decide) ?_
    cases h
    exact kr _ _ _ _ I d_M_about_12
set_option maxHeartbeats 4000000 in
set_option maxRecDepth 100000 in
theorem k_M_about {x1 : Int32} {x2 : Int32} {st t : CS} {r : Int32} (h : f_M_about x1 x2 st = some (r, t)) : Cn l y_M_about c_M_about 3 (some .int) rm_M_about D (tyL cs) (cwC A cs st) (cwC A cs t) [.ref (A 0), .int x1, .int x2] (some (.int r)) := by
  refine cn_intro (by decide) (Nat.le_of_ble_eq_true rfl) ?_
  intro p e s m below meth c A0 Q ls E hr hlk hA hA0 hQ I hl
  exact w_M_about E hA (rt_i E hr hlk hA0 hQ) x1 x2 st _ _ _ h I (lv_sub hl [0, 1, 2] rfl)
abbrev rm_M_isMutantKind : Room := { frames := 0, cells := 0, slots := 0, locals := 0 }
noncomputable def f_M_isMutantKind (x0 : Int32) (st : CS) : Option (Int32 × CS) :=
  if x0 < 0 then (
    some ((0 : Int32), st)
  ) else (
    if (6 : Int32) ≤ x0 then (
      some ((0 : Int32), st)
    ) else (
      some ((1 : Int32), st)
    )
  )
set_option maxHeartbeats 4000000 in
set_option maxRecDepth 100000 in
theorem w_M_isMutantKind  {r : Int32} {t : CS} (E : EC R_M c_M_isMutantKind 1 p s m args c D (tyL cs)) (hA : ∀ q, H0.size ≤ q → A0 q) (kr : ∀ (H : Heap) (locs : List Loc) (pc : Nat) (ls : Array Slot), IW D (cwC A cs t) A0 H0 H locs → narrow .boolean (.int r) = .int r → decode c_M_isMutantKind pc = .ok (.ireturn, 1) → W p l e rm_M_isMutantKind s m args below meth c H locs 0 0 Q (F0 m pc ls [.int r])) : ∀ (x0 : Int32) (st : CS) (H : Heap) (locs : List Loc) (ls : Array Slot), f_M_isMutantKind x0 st = some (r, t) → IW D (cwC A cs st) A0 H0 H locs → lv_has ls 1 [(0, .int x0)] → W p l e rm_M_isMutantKind s m args below meth c H locs 0 0 Q (F0 m 0 ls []) := by
  intro x0 st H locs ls h I hl
  have hx := E.1
  have hb := E.2.1
  rw [f_M_isMutantKind] at h
  refine lv_iload_n hx hb d_M_isMutantKind_0 rfl (lv_at hl 0 rfl) ?_
  refine lv_if_lt (tgt := 14) hx hb d_M_isMutantKind_1 (by decide) (fun c1 => ?_) (fun c1 => ?_)
  · have h := ifp c1 h
    refine lv_iconst (v := 0) hx hb d_M_isMutantKind_14 (by decide) ?_
    cases h
    exact kr _ _ _ _ I (by decide) d_M_isMutantKind_15
  · have h := ifn c1 h
    refine lv_iload_n hx hb d_M_isMutantKind_4 rfl (lv_at hl 0 rfl) ?_
    refine lv_bipush (v := 6) hx hb d_M_isMutantKind_5 (by decide) ?_
    refine lv_icmp_ge (tgt := 14) hx hb d_M_isMutantKind_7 (by decide) (fun c2 => ?_) (fun c2 => ?_)
    · have h := ifp c2 h
      refine lv_iconst (v := 0) hx hb d_M_isMutantKind_14 (by decide) ?_
      cases h
      exact kr _ _ _ _ I (by decide) d_M_isMutantKind_15
    · have h := ifn c2 h
      refine lv_iconst (v := 1) hx hb d_M_isMutantKind_10 (by decide) ?_
      refine lv_goto (tgt := 15) hx hb d_M_isMutantKind_11 (by decide) ?_
      cases h
      exact kr _ _ _ _ I (by decide) d_M_isMutantKind_15
set_option maxHeartbeats 4000000 in
set_option maxRecDepth 100000 in
theorem k_M_isMutantKind {x0 : Int32} {st t : CS} {r : Int32} (h : f_M_isMutantKind x0 st = some (r, t)) : Cn l y_M_isMutantKind c_M_isMutantKind 1 (some .boolean) rm_M_isMutantKind D (tyL cs) (cwC A cs st) (cwC A cs t) [.int x0] (some (.int r)) := by
  refine cn_intro (by decide) (Nat.le_of_ble_eq_true rfl) ?_
  intro p e s m below meth c A0 Q ls E hr hlk hA hA0 hQ I hl
  exact w_M_isMutantKind E hA (rt_z E hr hlk hA0 hQ) x0 st _ _ _ h I (lv_sub hl [0] rfl)
abbrev rm_U_coveredByPassing : Room := { frames := 0, cells := 0, slots := 0, locals := 0 }
noncomputable def f_U_coveredByPassing_4 : Nat → Int64 → Int32 → CS → Option (Int64 × CS)
  | 0, _, _, _ => none
  | n + 1, x1, x3, st =>
    if (cU_size st) ≤ x3 then (
      some (x1, st)
    ) else (
      ck x3 24 <|
      if (cU_states st x3.toNatClampNeg) = (1 : Int32) then (
        ck x3 24 <|
        nx (x1 ||| (cU_covered st x3.toNatClampNeg)) fun x1_6 =>
        nx (x3 + 1) fun x3_7 =>
        f_U_coveredByPassing_4 n x1_6 x3_7 st
      ) else (
        nx (x3 + 1) fun x3_4 =>
        f_U_coveredByPassing_4 n x1 x3_4 st
      )
    )
noncomputable def f_U_coveredByPassing (st : CS) : Option (Int64 × CS) :=
  f_U_coveredByPassing_4 FU (0 : Int64) (0 : Int32) st
set_option maxHeartbeats 4000000 in
set_option maxRecDepth 100000 in
theorem w_U_coveredByPassing_4  {r : Int64} {t : CS} (E : EC R_U c_U_coveredByPassing 4 p s m args c D (tyL cs)) (hA : ∀ q, H0.size ≤ q → A0 q) (kr : ∀ (H : Heap) (locs : List Loc) (pc : Nat) (ls : Array Slot), IW D (cwC A cs t) A0 H0 H locs → decode c_U_coveredByPassing pc = .ok (.lreturn, 1) → W p l e rm_U_coveredByPassing s m args below meth c H locs 0 0 Q (F0 m pc ls [.long r])) : ∀ (n : Nat), ∀ (x1 : Int64) (x3 : Int32) (st : CS) (H : Heap) (locs : List Loc) (ls : Array Slot), f_U_coveredByPassing_4 n x1 x3 st = some (r, t) → IW D (cwC A cs st) A0 H0 H locs → lv_has ls 4 [(0, .ref (A 2)), (1, .long x1), (3, .int x3)] → W p l e rm_U_coveredByPassing s m args below meth c H locs 0 0 Q (F0 m 4 ls []) := by
  intro n
  induction n with
  | zero => intro x1 x3 st H locs ls h I hl; cases h
  | succ n ih =>
    intro x1 x3 st H locs ls h I hl
    have hx := E.1
    have hb := E.2.1
    rw [f_U_coveredByPassing_4] at h
    refine lv_iload_n hx hb d_U_coveredByPassing_4 rfl (lv_at hl 2 rfl) ?_
    refine lv_aload_n hx hb d_U_coveredByPassing_5 rfl (lv_at hl 0 rfl) ?_
    refine g_cU_size E I k_U_40 d_U_coveredByPassing_6 ?_
    refine lv_icmp_ge (tgt := 37) hx hb d_U_coveredByPassing_9 (by decide) (fun c1 => ?_) (fun c1 => ?_)
    · have h := ifp c1 h
      refine lv_lload_n hx hb d_U_coveredByPassing_37 rfl (lv_at hl 1 rfl) ?_
      cases h
      exact kr _ _ _ _ I d_U_coveredByPassing_38
    · have h := ifn c1 h
      refine lv_aload_n hx hb d_U_coveredByPassing_12 rfl (lv_at hl 0 rfl) ?_
      refine g_cU_states E I k_U_31 d_U_coveredByPassing_13 ?_
      refine lv_iload_n hx hb d_U_coveredByPassing_16 rfl (lv_at hl 2 rfl) ?_
      obtain ⟨b2, h⟩ := ck_some h
      refine l_cU_states E I b2 d_U_coveredByPassing_17 ?_
      refine lv_iconst (v := 1) hx hb d_U_coveredByPassing_18 (by decide) ?_
      refine lv_icmp_ne (tgt := 31) hx hb d_U_coveredByPassing_19 (by decide) (fun c3 => ?_) (fun c3 => ?_)
      · have h := ifn c3 h
        obtain ⟨x3_4, ex3_4⟩ : ∃ y : Int32, y = (x3 + 1) := ⟨_, rfl⟩
        have h := nx_k ex3_4 h
        refine lv_iinc (v := x3_4) (lv' := [(3, .int x3_4), (0, .ref (A 2)), (1, .long x1)]) hx hb d_U_coveredByPassing_31 hl (k := 2) rfl (by rw [ex3_4]; rfl) (by decide) rfl (fun ls hl => ?_)
        refine lv_goto (tgt := 4) hx hb d_U_coveredByPassing_34 (by decide) ?_
        exact ih x1 x3_4 st _ _ _ h I (lv_sub hl [1, 2, 0] rfl)
      · have h := ifp c3 h
        refine lv_lload_n hx hb d_U_coveredByPassing_22 rfl (lv_at hl 1 rfl) ?_
        refine lv_aload_n hx hb d_U_coveredByPassing_23 rfl (lv_at hl 0 rfl) ?_
        refine g_cU_covered E I k_U_37 d_U_coveredByPassing_24 ?_
        refine lv_iload_n hx hb d_U_coveredByPassing_27 rfl (lv_at hl 2 rfl) ?_
        obtain ⟨b5, h⟩ := ck_some h
        refine l_cU_covered E I b5 d_U_coveredByPassing_28 ?_
        refine lv_lor hx hb d_U_coveredByPassing_29 ?_
        refine lv_topl (fun x1_6 ex1_6 => ?_)
        have h := nx_k ex1_6 h
        refine lv_lstore_n (lv' := [(1, .long x1_6), (0, .ref (A 2)), (3, .int x3)]) hx hb d_U_coveredByPassing_30 rfl hl (by decide) rfl (fun ls hl => ?_)
        obtain ⟨x3_7, ex3_7⟩ : ∃ y : Int32, y = (x3 + 1) := ⟨_, rfl⟩
        have h := nx_k ex3_7 h
        refine lv_iinc (v := x3_7) (lv' := [(3, .int x3_7), (1, .long x1_6), (0, .ref (A 2))]) hx hb d_U_coveredByPassing_31 hl (k := 2) rfl (by rw [ex3_7]; rfl) (by decide) rfl (fun ls hl => ?_)
        refine lv_goto (tgt := 4) hx hb d_U_coveredByPassing_34 (by decide) ?_
        exact ih x1_6 x3_7 st _ _ _ h I (lv_sub hl [2, 1, 0] rfl)
set_option maxHeartbeats 4000000 in
set_option maxRecDepth 100000 in
theorem w_U_coveredByPassing  {r : Int64} {t : CS} (E : EC R_U c_U_coveredByPassing 4 p s m args c D (tyL cs)) (hA : ∀ q, H0.size ≤ q → A0 q) (kr : ∀ (H : Heap) (locs : List Loc) (pc : Nat) (ls : Array Slot), IW D (cwC A cs t) A0 H0 H locs → decode c_U_coveredByPassing pc = .ok (.lreturn, 1) → W p l e rm_U_coveredByPassing s m args below meth c H locs 0 0 Q (F0 m pc ls [.long r])) : ∀ (st : CS) (H : Heap) (locs : List Loc) (ls : Array Slot), f_U_coveredByPassing st = some (r, t) → IW D (cwC A cs st) A0 H0 H locs → lv_has ls 4 [(0, .ref (A 2))] → W p l e rm_U_coveredByPassing s m args below meth c H locs 0 0 Q (F0 m 0 ls []) := by
  intro st H locs ls h I hl
  have hx := E.1
  have hb := E.2.1
  rw [f_U_coveredByPassing] at h
  refine lv_lconst (v := 0) hx hb d_U_coveredByPassing_0 (by decide) ?_
  refine lv_lstore_n (lv' := [(1, .long (0 : Int64)), (0, .ref (A 2))]) hx hb d_U_coveredByPassing_1 rfl hl (by decide) rfl (fun ls hl => ?_)
  refine lv_iconst (v := 0) hx hb d_U_coveredByPassing_2 (by decide) ?_
  refine lv_istore_n (lv' := [(3, .int (0 : Int32)), (1, .long (0 : Int64)), (0, .ref (A 2))]) hx hb d_U_coveredByPassing_3 rfl hl (by decide) rfl (fun ls hl => ?_)
  exact w_U_coveredByPassing_4 E hA kr FU (0 : Int64) (0 : Int32) st _ _ _ h I (lv_sub hl [2, 1, 0] rfl)
set_option maxHeartbeats 4000000 in
set_option maxRecDepth 100000 in
theorem k_U_coveredByPassing {st t : CS} {r : Int64} (h : f_U_coveredByPassing st = some (r, t)) : Cn l y_U_coveredByPassing c_U_coveredByPassing 4 (some .long) rm_U_coveredByPassing D (tyL cs) (cwC A cs st) (cwC A cs t) [.ref (A 2)] (some (.long r)) := by
  refine cn_intro (by decide) (Nat.le_of_ble_eq_true rfl) ?_
  intro p e s m below meth c A0 Q ls E hr hlk hA hA0 hQ I hl
  exact w_U_coveredByPassing E hA (rt_l E hr hlk hA0 hQ) st _ _ _ h I (lv_sub hl [0] rfl)
abbrev rm_N_size : Room := { frames := 0, cells := 0, slots := 0, locals := 0 }
noncomputable def f_N_size (st : CS) : Option (Int32 × CS) :=
  some ((cN_size st), st)
set_option maxHeartbeats 4000000 in
set_option maxRecDepth 100000 in
theorem w_N_size  {r : Int32} {t : CS} (E : EC R_N c_N_size 1 p s m args c D (tyL cs)) (hA : ∀ q, H0.size ≤ q → A0 q) (kr : ∀ (H : Heap) (locs : List Loc) (pc : Nat) (ls : Array Slot), IW D (cwC A cs t) A0 H0 H locs → decode c_N_size pc = .ok (.ireturn, 1) → W p l e rm_N_size s m args below meth c H locs 0 0 Q (F0 m pc ls [.int r])) : ∀ (st : CS) (H : Heap) (locs : List Loc) (ls : Array Slot), f_N_size st = some (r, t) → IW D (cwC A cs st) A0 H0 H locs → lv_has ls 1 [(0, .ref (A 4))] → W p l e rm_N_size s m args below meth c H locs 0 0 Q (F0 m 0 ls []) := by
  intro st H locs ls h I hl
  have hx := E.1
  have hb := E.2.1
  rw [f_N_size] at h
  refine lv_aload_n hx hb d_N_size_0 rfl (lv_at hl 0 rfl) ?_
  refine g_cN_size E I k_N_32 d_N_size_1 ?_
  cases h
  exact kr _ _ _ _ I d_N_size_4
set_option maxHeartbeats 4000000 in
set_option maxRecDepth 100000 in
theorem k_N_size {st t : CS} {r : Int32} (h : f_N_size st = some (r, t)) : Cn l y_N_size c_N_size 1 (some .int) rm_N_size D (tyL cs) (cwC A cs st) (cwC A cs t) [.ref (A 4)] (some (.int r)) := by
  refine cn_intro (by decide) (Nat.le_of_ble_eq_true rfl) ?_
  intro p e s m below meth c A0 Q ls E hr hlk hA hA0 hQ I hl
  exact w_N_size E hA (rt_i E hr hlk hA0 hQ) st _ _ _ h I (lv_sub hl [0] rfl)
abbrev rm_T_size : Room := { frames := 0, cells := 0, slots := 0, locals := 0 }
noncomputable def f_T_size (st : CS) : Option (Int32 × CS) :=
  some ((cT_size st), st)
set_option maxHeartbeats 4000000 in
set_option maxRecDepth 100000 in
theorem w_T_size  {r : Int32} {t : CS} (E : EC R_T c_T_size 1 p s m args c D (tyL cs)) (hA : ∀ q, H0.size ≤ q → A0 q) (kr : ∀ (H : Heap) (locs : List Loc) (pc : Nat) (ls : Array Slot), IW D (cwC A cs t) A0 H0 H locs → decode c_T_size pc = .ok (.ireturn, 1) → W p l e rm_T_size s m args below meth c H locs 0 0 Q (F0 m pc ls [.int r])) : ∀ (st : CS) (H : Heap) (locs : List Loc) (ls : Array Slot), f_T_size st = some (r, t) → IW D (cwC A cs st) A0 H0 H locs → lv_has ls 1 [(0, .ref (A 1))] → W p l e rm_T_size s m args below meth c H locs 0 0 Q (F0 m 0 ls []) := by
  intro st H locs ls h I hl
  have hx := E.1
  have hb := E.2.1
  rw [f_T_size] at h
  refine lv_aload_n hx hb d_T_size_0 rfl (lv_at hl 0 rfl) ?_
  refine g_cT_size E I k_T_34 d_T_size_1 ?_
  cases h
  exact kr _ _ _ _ I d_T_size_4
set_option maxHeartbeats 4000000 in
set_option maxRecDepth 100000 in
theorem k_T_size {st t : CS} {r : Int32} (h : f_T_size st = some (r, t)) : Cn l y_T_size c_T_size 1 (some .int) rm_T_size D (tyL cs) (cwC A cs st) (cwC A cs t) [.ref (A 1)] (some (.int r)) := by
  refine cn_intro (by decide) (Nat.le_of_ble_eq_true rfl) ?_
  intro p e s m below meth c A0 Q ls E hr hlk hA hA0 hQ I hl
  exact w_T_size E hA (rt_i E hr hlk hA0 hQ) st _ _ _ h I (lv_sub hl [0] rfl)
abbrev rm_M_fits : Room := { frames := 0, cells := 0, slots := 0, locals := 0 }
noncomputable def f_M_fits (x0 : Int32) (x1 : Int32) (st : CS) : Option (Int32 × CS) :=
  if x0 = 0 then (
    if x1 = 0 then (
      some ((1 : Int32), st)
    ) else (
      some ((0 : Int32), st)
    )
  ) else (
    if x0 = 1 then (
      if x1 = (6 : Int32) then (
        some ((1 : Int32), st)
      ) else (
        some ((0 : Int32), st)
      )
    ) else (
      if x0 = 2 then (
        if x1 = (3 : Int32) then (
          some ((1 : Int32), st)
        ) else (
          if x1 = (4 : Int32) then (
            some ((1 : Int32), st)
          ) else (
            some ((0 : Int32), st)
          )
        )
      ) else (
        if x0 = 3 then (
          if x1 = (8 : Int32) then (
            some ((1 : Int32), st)
          ) else (
            some ((0 : Int32), st)
          )
        ) else (
          if x0 = 4 then (
            if x1 = (3 : Int32) then (
              some ((1 : Int32), st)
            ) else (
              if x1 = (4 : Int32) then (
                some ((1 : Int32), st)
              ) else (
                if x1 = (5 : Int32) then (
                  some ((1 : Int32), st)
                ) else (
                  some ((0 : Int32), st)
                )
              )
            )
          ) else (
            if x0 = 5 then (
              if x1 = (7 : Int32) then (
                some ((1 : Int32), st)
              ) else (
                some ((0 : Int32), st)
              )
            ) else (
              some ((0 : Int32), st)
            )
          )
        )
      )
    )
  )
set_option maxHeartbeats 4000000 in
set_option maxRecDepth 100000 in
theorem w_M_fits  {r : Int32} {t : CS} (E : EC R_M c_M_fits 2 p s m args c D (tyL cs)) (hA : ∀ q, H0.size ≤ q → A0 q) (kr : ∀ (H : Heap) (locs : List Loc) (pc : Nat) (ls : Array Slot), IW D (cwC A cs t) A0 H0 H locs → narrow .boolean (.int r) = .int r → decode c_M_fits pc = .ok (.ireturn, 1) → W p l e rm_M_fits s m args below meth c H locs 0 0 Q (F0 m pc ls [.int r])) : ∀ (x0 : Int32) (x1 : Int32) (st : CS) (H : Heap) (locs : List Loc) (ls : Array Slot), f_M_fits x0 x1 st = some (r, t) → IW D (cwC A cs st) A0 H0 H locs → lv_has ls 2 [(0, .int x0), (1, .int x1)] → W p l e rm_M_fits s m args below meth c H locs 0 0 Q (F0 m 0 ls []) := by
  intro x0 x1 st H locs ls h I hl
  have hx := E.1
  have hb := E.2.1
  rw [f_M_fits] at h
  refine lv_iload_n hx hb d_M_fits_0 rfl (lv_at hl 0 rfl) ?_
  by_cases c1 : x0 = 0
  · have h := ifp c1 h
    refine lv_tableIn (off := 39) (tgt := 40) hx hb d_M_fits_1 (by rw [c1]; decide) (by rw [c1]; decide) (by rw [c1]; rfl) (by decide) ?_
    refine lv_iload_n hx hb d_M_fits_40 rfl (lv_at hl 1 rfl) ?_
    refine lv_if_ne (tgt := 48) hx hb d_M_fits_41 (by decide) (fun c2 => ?_) (fun c2 => ?_)
    · have h := ifn c2 h
      refine lv_iconst (v := 0) hx hb d_M_fits_48 (by decide) ?_
      cases h
      exact kr _ _ _ _ I (by decide) d_M_fits_49
    · have h := ifp c2 h
      refine lv_iconst (v := 1) hx hb d_M_fits_44 (by decide) ?_
      refine lv_goto (tgt := 49) hx hb d_M_fits_45 (by decide) ?_
      cases h
      exact kr _ _ _ _ I (by decide) d_M_fits_49
  · have h := ifn c1 h
    by_cases c3 : x0 = 1
    · have h := ifp c3 h
      refine lv_tableIn (off := 49) (tgt := 50) hx hb d_M_fits_1 (by rw [c3]; decide) (by rw [c3]; decide) (by rw [c3]; rfl) (by decide) ?_
      refine lv_iload_n hx hb d_M_fits_50 rfl (lv_at hl 1 rfl) ?_
      refine lv_bipush (v := 6) hx hb d_M_fits_51 (by decide) ?_
      refine lv_icmp_ne (tgt := 60) hx hb d_M_fits_53 (by decide) (fun c4 => ?_) (fun c4 => ?_)
      · have h := ifn c4 h
        refine lv_iconst (v := 0) hx hb d_M_fits_60 (by decide) ?_
        cases h
        exact kr _ _ _ _ I (by decide) d_M_fits_61
      · have h := ifp c4 h
        refine lv_iconst (v := 1) hx hb d_M_fits_56 (by decide) ?_
        refine lv_goto (tgt := 61) hx hb d_M_fits_57 (by decide) ?_
        cases h
        exact kr _ _ _ _ I (by decide) d_M_fits_61
    · have h := ifn c3 h
      by_cases c5 : x0 = 2
      · have h := ifp c5 h
        refine lv_tableIn (off := 61) (tgt := 62) hx hb d_M_fits_1 (by rw [c5]; decide) (by rw [c5]; decide) (by rw [c5]; rfl) (by decide) ?_
        refine lv_iload_n hx hb d_M_fits_62 rfl (lv_at hl 1 rfl) ?_
        refine lv_iconst (v := 3) hx hb d_M_fits_63 (by decide) ?_
        refine lv_icmp_eq (tgt := 72) hx hb d_M_fits_64 (by decide) (fun c6 => ?_) (fun c6 => ?_)
        · have h := ifp c6 h
          refine lv_iconst (v := 1) hx hb d_M_fits_72 (by decide) ?_
          refine lv_goto (tgt := 77) hx hb d_M_fits_73 (by decide) ?_
          cases h
          exact kr _ _ _ _ I (by decide) d_M_fits_77
        · have h := ifn c6 h
          refine lv_iload_n hx hb d_M_fits_67 rfl (lv_at hl 1 rfl) ?_
          refine lv_iconst (v := 4) hx hb d_M_fits_68 (by decide) ?_
          refine lv_icmp_ne (tgt := 76) hx hb d_M_fits_69 (by decide) (fun c7 => ?_) (fun c7 => ?_)
          · have h := ifn c7 h
            refine lv_iconst (v := 0) hx hb d_M_fits_76 (by decide) ?_
            cases h
            exact kr _ _ _ _ I (by decide) d_M_fits_77
          · have h := ifp c7 h
            refine lv_iconst (v := 1) hx hb d_M_fits_72 (by decide) ?_
            refine lv_goto (tgt := 77) hx hb d_M_fits_73 (by decide) ?_
            cases h
            exact kr _ _ _ _ I (by decide) d_M_fits_77
      · have h := ifn c5 h
        by_cases c8 : x0 = 3
        · have h := ifp c8 h
          refine lv_tableIn (off := 77) (tgt := 78) hx hb d_M_fits_1 (by rw [c8]; decide) (by rw [c8]; decide) (by rw [c8]; rfl) (by decide) ?_
          refine lv_iload_n hx hb d_M_fits_78 rfl (lv_at hl 1 rfl) ?_
          refine lv_bipush (v := 8) hx hb d_M_fits_79 (by decide) ?_
          refine lv_icmp_ne (tgt := 88) hx hb d_M_fits_81 (by decide) (fun c9 => ?_) (fun c9 => ?_)
          · have h := ifn c9 h
            refine lv_iconst (v := 0) hx hb d_M_fits_88 (by decide) ?_
            cases h
            exact kr _ _ _ _ I (by decide) d_M_fits_89
          · have h := ifp c9 h
            refine lv_iconst (v := 1) hx hb d_M_fits_84 (by decide) ?_
            refine lv_goto (tgt := 89) hx hb d_M_fits_85 (by decide) ?_
            cases h
            exact kr _ _ _ _ I (by decide) d_M_fits_89
        · have h := ifn c8 h
          by_cases c10 : x0 = 4
          · have h := ifp c10 h
            refine lv_tableIn (off := 89) (tgt := 90) hx hb d_M_fits_1 (by rw [c10]; decide) (by rw [c10]; decide) (by rw [c10]; rfl) (by decide) ?_
            refine lv_iload_n hx hb d_M_fits_90 rfl (lv_at hl 1 rfl) ?_
            refine lv_iconst (v := 3) hx hb d_M_fits_91 (by decide) ?_
            refine lv_icmp_eq (tgt := 105) hx hb d_M_fits_92 (by decide) (fun c11 => ?_) (fun c11 => ?_)
            · have h := ifp c11 h
              refine lv_iconst (v := 1) hx hb d_M_fits_105 (by decide) ?_
              refine lv_goto (tgt := 110) hx hb d_M_fits_106 (by decide) ?_
              cases h
              exact kr _ _ _ _ I (by decide) d_M_fits_110
            · have h := ifn c11 h
              refine lv_iload_n hx hb d_M_fits_95 rfl (lv_at hl 1 rfl) ?_
              refine lv_iconst (v := 4) hx hb d_M_fits_96 (by decide) ?_
              refine lv_icmp_eq (tgt := 105) hx hb d_M_fits_97 (by decide) (fun c12 => ?_) (fun c12 => ?_)
              · have h := ifp c12 h
                refine lv_iconst (v := 1) hx hb d_M_fits_105 (by decide) ?_
                refine lv_goto (tgt := 110) hx hb d_M_fits_106 (by decide) ?_
                cases h
                exact kr _ _ _ _ I (by decide) d_M_fits_110
              · have h := ifn c12 h
                refine lv_iload_n hx hb d_M_fits_100 rfl (lv_at hl 1 rfl) ?_
                refine lv_iconst (v := 5) hx hb d_M_fits_101 (by decide) ?_
                refine lv_icmp_ne (tgt := 109) hx hb d_M_fits_102 (by decide) (fun c13 => ?_) (fun c13 => ?_)
                · have h := ifn c13 h
                  refine lv_iconst (v := 0) hx hb d_M_fits_109 (by decide) ?_
                  cases h
                  exact kr _ _ _ _ I (by decide) d_M_fits_110
                · have h := ifp c13 h
                  refine lv_iconst (v := 1) hx hb d_M_fits_105 (by decide) ?_
                  refine lv_goto (tgt := 110) hx hb d_M_fits_106 (by decide) ?_
                  cases h
                  exact kr _ _ _ _ I (by decide) d_M_fits_110
          · have h := ifn c10 h
            by_cases c14 : x0 = 5
            · have h := ifp c14 h
              refine lv_tableIn (off := 110) (tgt := 111) hx hb d_M_fits_1 (by rw [c14]; decide) (by rw [c14]; decide) (by rw [c14]; rfl) (by decide) ?_
              refine lv_iload_n hx hb d_M_fits_111 rfl (lv_at hl 1 rfl) ?_
              refine lv_bipush (v := 7) hx hb d_M_fits_112 (by decide) ?_
              refine lv_icmp_ne (tgt := 121) hx hb d_M_fits_114 (by decide) (fun c15 => ?_) (fun c15 => ?_)
              · have h := ifn c15 h
                refine lv_iconst (v := 0) hx hb d_M_fits_121 (by decide) ?_
                cases h
                exact kr _ _ _ _ I (by decide) d_M_fits_122
              · have h := ifp c15 h
                refine lv_iconst (v := 1) hx hb d_M_fits_117 (by decide) ?_
                refine lv_goto (tgt := 122) hx hb d_M_fits_118 (by decide) ?_
                cases h
                exact kr _ _ _ _ I (by decide) d_M_fits_122
            · have h := ifn c14 h
              have tc1 := ne_ti (z := 0) (by decide) c1
              have tc3 := ne_ti (z := 1) (by decide) c3
              have tc5 := ne_ti (z := 2) (by decide) c5
              have tc8 := ne_ti (z := 3) (by decide) c8
              have tc10 := ne_ti (z := 4) (by decide) c10
              have tc14 := ne_ti (z := 5) (by decide) c14
              refine lv_tableOut (tgt := 123) hx hb d_M_fits_1 (by omega) (by decide) ?_
              refine lv_iconst (v := 0) hx hb d_M_fits_123 (by decide) ?_
              cases h
              exact kr _ _ _ _ I (by decide) d_M_fits_124
set_option maxHeartbeats 4000000 in
set_option maxRecDepth 100000 in
theorem k_M_fits {x0 : Int32} {x1 : Int32} {st t : CS} {r : Int32} (h : f_M_fits x0 x1 st = some (r, t)) : Cn l y_M_fits c_M_fits 2 (some .boolean) rm_M_fits D (tyL cs) (cwC A cs st) (cwC A cs t) [.int x0, .int x1] (some (.int r)) := by
  refine cn_intro (by decide) (Nat.le_of_ble_eq_true rfl) ?_
  intro p e s m below meth c A0 Q ls E hr hlk hA hA0 hQ I hl
  exact w_M_fits E hA (rt_z E hr hlk hA0 hQ) x0 x1 st _ _ _ h I (lv_sub hl [0, 1] rfl)
abbrev rm_N_settle : Room := { frames := 0, cells := 0, slots := 0, locals := 0 }
noncomputable def f_N_settle (x1 : Int32) (x2 : Int32) (x3 : Int32) (st : CS) : Option (Unit × CS) :=
  ck x1 100 <|
  nx (s_cN_outcomes st x1.toNatClampNeg x2) fun st2 =>
  ck x1 100 <|
  nx (s_cN_enders st2 x1.toNatClampNeg x3) fun st4 =>
  some ((), st4)
set_option maxHeartbeats 4000000 in
set_option maxRecDepth 100000 in
theorem w_N_settle  {r : Unit} {t : CS} (E : EC R_N c_N_settle 4 p s m args c D (tyL cs)) (hA : ∀ q, H0.size ≤ q → A0 q) (kr : ∀ (H : Heap) (locs : List Loc) (pc : Nat) (ls : Array Slot), IW D (cwC A cs t) A0 H0 H locs → decode c_N_settle pc = .ok (.return_, 1) → W p l e rm_N_settle s m args below meth c H locs 0 0 Q (F0 m pc ls [])) : ∀ (x1 : Int32) (x2 : Int32) (x3 : Int32) (st : CS) (H : Heap) (locs : List Loc) (ls : Array Slot), f_N_settle x1 x2 x3 st = some (r, t) → IW D (cwC A cs st) A0 H0 H locs → lv_has ls 4 [(0, .ref (A 4)), (1, .int x1), (2, .int x2), (3, .int x3)] → W p l e rm_N_settle s m args below meth c H locs 0 0 Q (F0 m 0 ls []) := by
  intro x1 x2 x3 st H locs ls h I hl
  have hx := E.1
  have hb := E.2.1
  rw [f_N_settle] at h
  refine lv_aload_n hx hb d_N_settle_0 rfl (lv_at hl 0 rfl) ?_
  refine g_cN_outcomes E I k_N_22 d_N_settle_1 ?_
  refine lv_iload_n hx hb d_N_settle_4 rfl (lv_at hl 1 rfl) ?_
  refine lv_iload_n hx hb d_N_settle_5 rfl (lv_at hl 2 rfl) ?_
  obtain ⟨b1, h⟩ := ck_some h
  obtain ⟨st2, est2⟩ : ∃ y : CS, y = (s_cN_outcomes st x1.toNatClampNeg x2) := ⟨_, rfl⟩
  have h := nx_k est2 h
  refine p_cN_outcomes E I b1 est2 d_N_settle_6 (fun H locs I => ?_)
  refine lv_aload_n hx hb d_N_settle_7 rfl (lv_at hl 0 rfl) ?_
  refine g_cN_enders E I k_N_25 d_N_settle_8 ?_
  refine lv_iload_n hx hb d_N_settle_11 rfl (lv_at hl 1 rfl) ?_
  refine lv_iload_n hx hb d_N_settle_12 rfl (lv_at hl 3 rfl) ?_
  obtain ⟨b3, h⟩ := ck_some h
  obtain ⟨st4, est4⟩ : ∃ y : CS, y = (s_cN_enders st2 x1.toNatClampNeg x3) := ⟨_, rfl⟩
  have h := nx_k est4 h
  refine p_cN_enders E I b3 est4 d_N_settle_13 (fun H locs I => ?_)
  cases h
  exact kr _ _ _ _ I d_N_settle_14
set_option maxHeartbeats 4000000 in
set_option maxRecDepth 100000 in
theorem k_N_settle {x1 : Int32} {x2 : Int32} {x3 : Int32} {st t : CS} {r : Unit} (h : f_N_settle x1 x2 x3 st = some (r, t)) : Cn l y_N_settle c_N_settle 4 none rm_N_settle D (tyL cs) (cwC A cs st) (cwC A cs t) [.ref (A 4), .int x1, .int x2, .int x3] (none) := by
  refine cn_intro (by decide) (Nat.le_of_ble_eq_true rfl) ?_
  intro p e s m below meth c A0 Q ls E hr hlk hA hA0 hQ I hl
  exact w_N_settle E hA (rt_v E hr hlk hA0 hQ) x1 x2 x3 st _ _ _ h I (lv_sub hl [0, 1, 2, 3] rfl)
abbrev rm_N_add : Room := { frames := 1, cells := 0, slots := 0, locals := 23 }
noncomputable def f_N_add (x1 : Int32) (x2 : Int32) (st : CS) : Option (Unit × CS) :=
  if (100 : Int32) ≤ (cN_size st) then (
    some ((), st)
  ) else (
    ck x1 6 <|
    bd (f_M_bit x2 st) fun r4 st3 =>
    if ((cN_madeAt st x1.toNatClampNeg) &&& r4) = (0 : Int64) then (
      ck x1 6 <|
      bd (f_M_bit x2 st3) fun r9 st8 =>
      ck x1 6 <|
      nx (s_cN_madeAt st8 x1.toNatClampNeg ((cN_madeAt st3 x1.toNatClampNeg) ||| r9)) fun st12 =>
      ck (cN_size st12) 100 <|
      nx (s_cN_kinds st12 (cN_size st12).toNatClampNeg x1) fun st14 =>
      ck (cN_size st14) 100 <|
      nx (s_cN_nodes st14 (cN_size st14).toNatClampNeg x2) fun st16 =>
      bd (f_N_settle (cN_size st16) (-1 : Int32) (-1 : Int32) st16) fun _ st17 =>
      nx (s_cN_size st17 ((cN_size st17) + (1 : Int32))) fun st20 =>
      some ((), st20)
    ) else (
      some ((), st3)
    )
  )
set_option maxHeartbeats 4000000 in
set_option maxRecDepth 100000 in
theorem w_N_add  {r : Unit} {t : CS} (E : EC R_N c_N_add 3 p s m args c D (tyL cs)) (hA : ∀ q, H0.size ≤ q → A0 q) (kr : ∀ (H : Heap) (locs : List Loc) (pc : Nat) (ls : Array Slot), IW D (cwC A cs t) A0 H0 H locs → decode c_N_add pc = .ok (.return_, 1) → W p l e rm_N_add s m args below meth c H locs 0 0 Q (F0 m pc ls [])) : ∀ (x1 : Int32) (x2 : Int32) (st : CS) (H : Heap) (locs : List Loc) (ls : Array Slot), f_N_add x1 x2 st = some (r, t) → IW D (cwC A cs st) A0 H0 H locs → lv_has ls 3 [(0, .ref (A 4)), (1, .int x1), (2, .int x2)] → W p l e rm_N_add s m args below meth c H locs 0 0 Q (F0 m 0 ls []) := by
  intro x1 x2 st H locs ls h I hl
  have hx := E.1
  have hb := E.2.1
  rw [f_N_add] at h
  refine lv_aload_n hx hb d_N_add_0 rfl (lv_at hl 0 rfl) ?_
  refine g_cN_size E I k_N_32 d_N_add_1 ?_
  refine lv_bipush (v := 100) hx hb d_N_add_4 (by decide) ?_
  refine lv_icmp_ge (tgt := 25) hx hb d_N_add_6 (by decide) (fun c1 => ?_) (fun c1 => ?_)
  · have h := ifp c1 h
    cases h
    exact kr _ _ _ _ I d_N_add_25
  · have h := ifn c1 h
    refine lv_aload_n hx hb d_N_add_9 rfl (lv_at hl 0 rfl) ?_
    refine g_cN_madeAt E I k_N_28 d_N_add_10 ?_
    refine lv_iload_n hx hb d_N_add_13 rfl (lv_at hl 1 rfl) ?_
    obtain ⟨b2, h⟩ := ck_some h
    refine l_cN_madeAt E I b2 d_N_add_14 ?_
    refine lv_iload_n hx hb d_N_add_15 rfl (lv_at hl 2 rfl) ?_
    obtain ⟨r4, st3, h5, h⟩ := bd_some h
    refine cSN (As := [.int x2]) (rest := [.long (cN_madeAt st x1.toNatClampNeg)]) E I hA (k_M_bit h5) g_N_36 ⟨rfl, rfl⟩ rfl hl rfl (Nat.le_of_ble_eq_true rfl) ⟨Nat.le_of_ble_eq_true rfl, Nat.le_of_ble_eq_true rfl⟩ ⟨Nat.zero_le _, Nat.zero_le _⟩ d_N_add_16 rfl (fun H locs I => ?_)
    refine lv_land hx hb d_N_add_19 ?_
    refine lv_lconst (v := 0) hx hb d_N_add_20 (by decide) ?_
    refine W.lcmp hx hb d_N_add_21 ?_
    refine lv_if_eq (tgt := 26) hx hb d_N_add_22 (by decide) (fun c6 => ?_) (fun c6 => ?_)
    · have c6 := (lg_cmp_eq _ _).mp c6
      have h := ifp c6 h
      refine lv_aload_n hx hb d_N_add_26 rfl (lv_at hl 0 rfl) ?_
      refine g_cN_madeAt E I k_N_28 d_N_add_27 ?_
      refine lv_iload_n hx hb d_N_add_30 rfl (lv_at hl 1 rfl) ?_
      refine lv_dup2_11 hx hb d_N_add_31 rfl rfl ?_
      obtain ⟨b7, h⟩ := ck_some h
      refine l_cN_madeAt E I b7 d_N_add_32 ?_
      refine lv_iload_n hx hb d_N_add_33 rfl (lv_at hl 2 rfl) ?_
      obtain ⟨r9, st8, h10, h⟩ := bd_some h
      refine cSN (As := [.int x2]) (rest := [.long (cN_madeAt st3 x1.toNatClampNeg), .int x1, .ref (A 24)]) E I hA (k_M_bit h10) g_N_36 ⟨rfl, rfl⟩ rfl hl rfl (Nat.le_of_ble_eq_true rfl) ⟨Nat.le_of_ble_eq_true rfl, Nat.le_of_ble_eq_true rfl⟩ ⟨Nat.zero_le _, Nat.zero_le _⟩ d_N_add_34 rfl (fun H locs I => ?_)
      refine lv_lor hx hb d_N_add_37 ?_
      obtain ⟨b11, h⟩ := ck_some h
      obtain ⟨st12, est12⟩ : ∃ y : CS, y = (s_cN_madeAt st8 x1.toNatClampNeg ((cN_madeAt st3 x1.toNatClampNeg) ||| r9)) := ⟨_, rfl⟩
      have h := nx_k est12 h
      refine p_cN_madeAt E I b11 est12 d_N_add_38 (fun H locs I => ?_)
      refine lv_aload_n hx hb d_N_add_39 rfl (lv_at hl 0 rfl) ?_
      refine g_cN_kinds E I k_N_15 d_N_add_40 ?_
      refine lv_aload_n hx hb d_N_add_43 rfl (lv_at hl 0 rfl) ?_
      refine g_cN_size E I k_N_32 d_N_add_44 ?_
      refine lv_iload_n hx hb d_N_add_47 rfl (lv_at hl 1 rfl) ?_
      obtain ⟨b13, h⟩ := ck_some h
      obtain ⟨st14, est14⟩ : ∃ y : CS, y = (s_cN_kinds st12 (cN_size st12).toNatClampNeg x1) := ⟨_, rfl⟩
      have h := nx_k est14 h
      refine p_cN_kinds E I b13 est14 d_N_add_48 (fun H locs I => ?_)
      refine lv_aload_n hx hb d_N_add_49 rfl (lv_at hl 0 rfl) ?_
      refine g_cN_nodes E I k_N_19 d_N_add_50 ?_
      refine lv_aload_n hx hb d_N_add_53 rfl (lv_at hl 0 rfl) ?_
      refine g_cN_size E I k_N_32 d_N_add_54 ?_
      refine lv_iload_n hx hb d_N_add_57 rfl (lv_at hl 2 rfl) ?_
      obtain ⟨b15, h⟩ := ck_some h
      obtain ⟨st16, est16⟩ : ∃ y : CS, y = (s_cN_nodes st14 (cN_size st14).toNatClampNeg x2) := ⟨_, rfl⟩
      have h := nx_k est16 h
      refine p_cN_nodes E I b15 est16 d_N_add_58 (fun H locs I => ?_)
      refine lv_aload_n hx hb d_N_add_59 rfl (lv_at hl 0 rfl) ?_
      refine lv_aload_n hx hb d_N_add_60 rfl (lv_at hl 0 rfl) ?_
      refine g_cN_size E I k_N_32 d_N_add_61 ?_
      refine lv_iconst (v := -1) hx hb d_N_add_64 (by decide) ?_
      refine lv_iconst (v := -1) hx hb d_N_add_65 (by decide) ?_
      obtain ⟨u19, st17, h18, h⟩ := bd_some h
      refine cV (As := [.int (cN_size st16), .int (-1 : Int32), .int (-1 : Int32)]) (rest := []) E I hA (k_N_settle h18) g_N_40 ⟨rfl, rfl⟩ 4 rfl rfl rfl hl rfl (Nat.le_of_ble_eq_true rfl) ⟨Nat.le_of_ble_eq_true rfl, Nat.le_of_ble_eq_true rfl⟩ ⟨Nat.zero_le _, Nat.zero_le _⟩ d_N_add_66 rfl (fun H locs I => ?_)
      refine lv_aload_n hx hb d_N_add_69 rfl (lv_at hl 0 rfl) ?_
      refine lv_dup hx hb d_N_add_70 rfl ?_
      refine g_cN_size E I k_N_32 d_N_add_71 ?_
      refine lv_iconst (v := 1) hx hb d_N_add_74 (by decide) ?_
      refine lv_iadd hx hb d_N_add_75 ?_
      obtain ⟨st20, est20⟩ : ∃ y : CS, y = (s_cN_size st17 ((cN_size st17) + (1 : Int32))) := ⟨_, rfl⟩
      have h := nx_k est20 h
      refine p_cN_size E I est20 k_N_32 d_N_add_76 (fun H locs I => ?_)
      cases h
      exact kr _ _ _ _ I d_N_add_79
    · have c6 := mt (lg_cmp_eq _ _).mpr c6
      have h := ifn c6 h
      cases h
      exact kr _ _ _ _ I d_N_add_25
set_option maxHeartbeats 4000000 in
set_option maxRecDepth 100000 in
theorem k_N_add {x1 : Int32} {x2 : Int32} {st t : CS} {r : Unit} (h : f_N_add x1 x2 st = some (r, t)) : Cn l y_N_add c_N_add 3 none rm_N_add D (tyL cs) (cwC A cs st) (cwC A cs t) [.ref (A 4), .int x1, .int x2] (none) := by
  refine cn_intro (by decide) (Nat.le_of_ble_eq_true rfl) ?_
  intro p e s m below meth c A0 Q ls E hr hlk hA hA0 hQ I hl
  exact w_N_add E hA (rt_v E hr hlk hA0 hQ) x1 x2 st _ _ _ h I (lv_sub hl [0, 1, 2] rfl)
abbrev rm_M_make : Room := { frames := 2, cells := 0, slots := 0, locals := 45 }
noncomputable def f_M_make_29 : Nat → Int32 → Int64 → Int32 → Int32 → CS → Option (Int32 × CS)
  | 0, _, _, _, _, _ => none
  | n + 1, x1, x2, x4, x5, st =>
    bd (f_T_size st) fun r2 st1 =>
    if r2 ≤ x5 then (
      bd (f_N_size st1) fun r6 st5 =>
      some ((r6 - x4), st5)
    ) else (
      bd (f_M_bit x5 st1) fun r9 st8 =>
      if (x2 &&& r9) = (0 : Int64) then (
        nx (x5 + 1) fun x5_12 =>
        f_M_make_29 n x1 x2 x4 x5_12 st8
      ) else (
        bd (f_T_kindOf x5 st8) fun r14 st13 =>
        bd (f_M_fits x1 r14 st13) fun r17 st16 =>
        if r17 = 0 then (
          nx (x5 + 1) fun x5_20 =>
          f_M_make_29 n x1 x2 x4 x5_20 st16
        ) else (
          bd (f_N_add x1 x5 st16) fun _ st21 =>
          nx (x5 + 1) fun x5_24 =>
          f_M_make_29 n x1 x2 x4 x5_24 st21
        )
      )
    )
noncomputable def f_M_make (x1 : Int32) (st : CS) : Option (Int32 × CS) :=
  bd (f_M_isMutantKind x1 st) fun r26 st25 =>
  if r26 = 0 then (
    some ((-1 : Int32), st25)
  ) else (
    bd (f_U_coveredByPassing st25) fun r30 st29 =>
    bd (f_N_size st29) fun r33 st32 =>
    f_M_make_29 FU x1 r30 r33 (0 : Int32) st32
  )
set_option maxHeartbeats 4000000 in
set_option maxRecDepth 100000 in
theorem w_M_make_29  {r : Int32} {t : CS} (E : EC R_M c_M_make 6 p s m args c D (tyL cs)) (hA : ∀ q, H0.size ≤ q → A0 q) (kr : ∀ (H : Heap) (locs : List Loc) (pc : Nat) (ls : Array Slot), IW D (cwC A cs t) A0 H0 H locs → decode c_M_make pc = .ok (.ireturn, 1) → W p l e rm_M_make s m args below meth c H locs 0 0 Q (F0 m pc ls [.int r])) : ∀ (n : Nat), ∀ (x1 : Int32) (x2 : Int64) (x4 : Int32) (x5 : Int32) (st : CS) (H : Heap) (locs : List Loc) (ls : Array Slot), f_M_make_29 n x1 x2 x4 x5 st = some (r, t) → IW D (cwC A cs st) A0 H0 H locs → lv_has ls 6 [(0, .ref (A 0)), (1, .int x1), (2, .long x2), (4, .int x4), (5, .int x5)] → W p l e rm_M_make s m args below meth c H locs 0 0 Q (F0 m 29 ls []) := by
  intro n
  induction n with
  | zero => intro x1 x2 x4 x5 st H locs ls h I hl; cases h
  | succ n ih =>
    intro x1 x2 x4 x5 st H locs ls h I hl
    have hx := E.1
    have hb := E.2.1
    rw [f_M_make_29] at h
    refine lv_iload hx hb d_M_make_29 (lv_at hl 4 rfl) ?_
    refine lv_aload_n hx hb d_M_make_31 rfl (lv_at hl 0 rfl) ?_
    refine g_cM_trees E I k_M_10 d_M_make_32 ?_
    obtain ⟨r2, st1, h3, h⟩ := bd_some h
    refine cV (As := []) (rest := [.int x5]) E I hA (k_T_size h3) g_M_89 ⟨rfl, rfl⟩ 1 rfl rfl rfl hl rfl (Nat.le_of_ble_eq_true rfl) ⟨Nat.le_of_ble_eq_true rfl, Nat.le_of_ble_eq_true rfl⟩ ⟨Nat.zero_le _, Nat.zero_le _⟩ d_M_make_35 rfl (fun H locs I => ?_)
    refine lv_icmp_ge (tgt := 85) hx hb d_M_make_38 (by decide) (fun c4 => ?_) (fun c4 => ?_)
    · have h := ifp c4 h
      refine lv_aload_n hx hb d_M_make_85 rfl (lv_at hl 0 rfl) ?_
      refine g_cM_mutants E I k_M_28 d_M_make_86 ?_
      obtain ⟨r6, st5, h7, h⟩ := bd_some h
      refine cV (As := []) (rest := []) E I hA (k_N_size h7) g_M_85 ⟨rfl, rfl⟩ 4 rfl rfl rfl hl rfl (Nat.le_of_ble_eq_true rfl) ⟨Nat.le_of_ble_eq_true rfl, Nat.le_of_ble_eq_true rfl⟩ ⟨Nat.zero_le _, Nat.zero_le _⟩ d_M_make_89 rfl (fun H locs I => ?_)
      refine lv_iload hx hb d_M_make_92 (lv_at hl 3 rfl) ?_
      refine lv_isub hx hb d_M_make_94 ?_
      cases h
      exact kr _ _ _ _ I d_M_make_95
    · have h := ifn c4 h
      refine lv_lload_n hx hb d_M_make_41 rfl (lv_at hl 2 rfl) ?_
      refine lv_iload hx hb d_M_make_42 (lv_at hl 4 rfl) ?_
      obtain ⟨r9, st8, h10, h⟩ := bd_some h
      refine cS (As := [.int x5]) (rest := [.long x2]) E I hA (k_M_bit h10) g_M_90 ⟨rfl, rfl⟩ rfl hl rfl (Nat.le_of_ble_eq_true rfl) ⟨Nat.le_of_ble_eq_true rfl, Nat.le_of_ble_eq_true rfl⟩ ⟨Nat.zero_le _, Nat.zero_le _⟩ d_M_make_44 rfl (fun H locs I => ?_)
      refine lv_land hx hb d_M_make_47 ?_
      refine lv_lconst (v := 0) hx hb d_M_make_48 (by decide) ?_
      refine W.lcmp hx hb d_M_make_49 ?_
      refine lv_if_eq (tgt := 79) hx hb d_M_make_50 (by decide) (fun c11 => ?_) (fun c11 => ?_)
      · have c11 := (lg_cmp_eq _ _).mp c11
        have h := ifp c11 h
        obtain ⟨x5_12, ex5_12⟩ : ∃ y : Int32, y = (x5 + 1) := ⟨_, rfl⟩
        have h := nx_k ex5_12 h
        refine lv_iinc (v := x5_12) (lv' := [(5, .int x5_12), (0, .ref (A 0)), (1, .int x1), (2, .long x2), (4, .int x4)]) hx hb d_M_make_79 hl (k := 4) rfl (by rw [ex5_12]; rfl) (by decide) rfl (fun ls hl => ?_)
        refine lv_goto (tgt := 29) hx hb d_M_make_82 (by decide) ?_
        exact ih x1 x2 x4 x5_12 st8 _ _ _ h I (lv_sub hl [1, 2, 3, 4, 0] rfl)
      · have c11 := mt (lg_cmp_eq _ _).mpr c11
        have h := ifn c11 h
        refine lv_iload_n hx hb d_M_make_53 rfl (lv_at hl 1 rfl) ?_
        refine lv_aload_n hx hb d_M_make_54 rfl (lv_at hl 0 rfl) ?_
        refine g_cM_trees E I k_M_10 d_M_make_55 ?_
        refine lv_iload hx hb d_M_make_58 (lv_at hl 4 rfl) ?_
        obtain ⟨r14, st13, h15, h⟩ := bd_some h
        refine cV (As := [.int x5]) (rest := [.int x1]) E I hA (k_T_kindOf h15) g_M_93 ⟨rfl, rfl⟩ 1 rfl rfl rfl hl rfl (Nat.le_of_ble_eq_true rfl) ⟨Nat.le_of_ble_eq_true rfl, Nat.le_of_ble_eq_true rfl⟩ ⟨Nat.zero_le _, Nat.zero_le _⟩ d_M_make_60 rfl (fun H locs I => ?_)
        obtain ⟨r17, st16, h18, h⟩ := bd_some h
        refine cS (As := [.int x1, .int r14]) (rest := []) E I hA (k_M_fits h18) g_M_96 ⟨rfl, rfl⟩ rfl hl rfl (Nat.le_of_ble_eq_true rfl) ⟨Nat.le_of_ble_eq_true rfl, Nat.le_of_ble_eq_true rfl⟩ ⟨Nat.zero_le _, Nat.zero_le _⟩ d_M_make_63 rfl (fun H locs I => ?_)
        refine lv_if_eq (tgt := 79) hx hb d_M_make_66 (by decide) (fun c19 => ?_) (fun c19 => ?_)
        · have h := ifp c19 h
          obtain ⟨x5_20, ex5_20⟩ : ∃ y : Int32, y = (x5 + 1) := ⟨_, rfl⟩
          have h := nx_k ex5_20 h
          refine lv_iinc (v := x5_20) (lv' := [(5, .int x5_20), (0, .ref (A 0)), (1, .int x1), (2, .long x2), (4, .int x4)]) hx hb d_M_make_79 hl (k := 4) rfl (by rw [ex5_20]; rfl) (by decide) rfl (fun ls hl => ?_)
          refine lv_goto (tgt := 29) hx hb d_M_make_82 (by decide) ?_
          exact ih x1 x2 x4 x5_20 st16 _ _ _ h I (lv_sub hl [1, 2, 3, 4, 0] rfl)
        · have h := ifn c19 h
          refine lv_aload_n hx hb d_M_make_69 rfl (lv_at hl 0 rfl) ?_
          refine g_cM_mutants E I k_M_28 d_M_make_70 ?_
          refine lv_iload_n hx hb d_M_make_73 rfl (lv_at hl 1 rfl) ?_
          refine lv_iload hx hb d_M_make_74 (lv_at hl 4 rfl) ?_
          obtain ⟨u23, st21, h22, h⟩ := bd_some h
          refine cV (As := [.int x1, .int x5]) (rest := []) E I hA (k_N_add h22) g_M_100 ⟨rfl, rfl⟩ 4 rfl rfl rfl hl rfl (Nat.le_of_ble_eq_true rfl) ⟨Nat.le_of_ble_eq_true rfl, Nat.le_of_ble_eq_true rfl⟩ ⟨Nat.zero_le _, Nat.zero_le _⟩ d_M_make_76 rfl (fun H locs I => ?_)
          obtain ⟨x5_24, ex5_24⟩ : ∃ y : Int32, y = (x5 + 1) := ⟨_, rfl⟩
          have h := nx_k ex5_24 h
          refine lv_iinc (v := x5_24) (lv' := [(5, .int x5_24), (0, .ref (A 0)), (1, .int x1), (2, .long x2), (4, .int x4)]) hx hb d_M_make_79 hl (k := 4) rfl (by rw [ex5_24]; rfl) (by decide) rfl (fun ls hl => ?_)
          refine lv_goto (tgt := 29) hx hb d_M_make_82 (by decide) ?_
          exact ih x1 x2 x4 x5_24 st21 _ _ _ h I (lv_sub hl [1, 2, 3, 4, 0] rfl)
set_option maxHeartbeats 4000000 in
set_option maxRecDepth 100000 in
theorem w_M_make  {r : Int32} {t : CS} (E : EC R_M c_M_make 6 p s m args c D (tyL cs)) (hA : ∀ q, H0.size ≤ q → A0 q) (kr : ∀ (H : Heap) (locs : List Loc) (pc : Nat) (ls : Array Slot), IW D (cwC A cs t) A0 H0 H locs → decode c_M_make pc = .ok (.ireturn, 1) → W p l e rm_M_make s m args below meth c H locs 0 0 Q (F0 m pc ls [.int r])) : ∀ (x1 : Int32) (st : CS) (H : Heap) (locs : List Loc) (ls : Array Slot), f_M_make x1 st = some (r, t) → IW D (cwC A cs st) A0 H0 H locs → lv_has ls 6 [(0, .ref (A 0)), (1, .int x1)] → W p l e rm_M_make s m args below meth c H locs 0 0 Q (F0 m 0 ls []) := by
  intro x1 st H locs ls h I hl
  have hx := E.1
  have hb := E.2.1
  rw [f_M_make] at h
  refine lv_iload_n hx hb d_M_make_0 rfl (lv_at hl 1 rfl) ?_
  obtain ⟨r26, st25, h27, h⟩ := bd_some h
  refine cS (As := [.int x1]) (rest := []) E I hA (k_M_isMutantKind h27) g_M_78 ⟨rfl, rfl⟩ rfl hl rfl (Nat.le_of_ble_eq_true rfl) ⟨Nat.le_of_ble_eq_true rfl, Nat.le_of_ble_eq_true rfl⟩ ⟨Nat.zero_le _, Nat.zero_le _⟩ d_M_make_1 rfl (fun H locs I => ?_)
  refine lv_if_ne (tgt := 9) hx hb d_M_make_4 (by decide) (fun c28 => ?_) (fun c28 => ?_)
  · have h := ifn c28 h
    refine lv_aload_n hx hb d_M_make_9 rfl (lv_at hl 0 rfl) ?_
    refine g_cM_trials E I k_M_21 d_M_make_10 ?_
    obtain ⟨r30, st29, h31, h⟩ := bd_some h
    refine cV (As := []) (rest := []) E I hA (k_U_coveredByPassing h31) g_M_81 ⟨rfl, rfl⟩ 2 rfl rfl rfl hl rfl (Nat.le_of_ble_eq_true rfl) ⟨Nat.le_of_ble_eq_true rfl, Nat.le_of_ble_eq_true rfl⟩ ⟨Nat.zero_le _, Nat.zero_le _⟩ d_M_make_13 rfl (fun H locs I => ?_)
    refine lv_lstore_n (lv' := [(2, .long r30), (0, .ref (A 0)), (1, .int x1)]) hx hb d_M_make_16 rfl hl (by decide) rfl (fun ls hl => ?_)
    refine lv_aload_n hx hb d_M_make_17 rfl (lv_at hl 1 rfl) ?_
    refine g_cM_mutants E I k_M_28 d_M_make_18 ?_
    obtain ⟨r33, st32, h34, h⟩ := bd_some h
    refine cV (As := []) (rest := []) E I hA (k_N_size h34) g_M_85 ⟨rfl, rfl⟩ 4 rfl rfl rfl hl rfl (Nat.le_of_ble_eq_true rfl) ⟨Nat.le_of_ble_eq_true rfl, Nat.le_of_ble_eq_true rfl⟩ ⟨Nat.zero_le _, Nat.zero_le _⟩ d_M_make_21 rfl (fun H locs I => ?_)
    refine lv_istore (lv' := [(4, .int r33), (2, .long r30), (0, .ref (A 0)), (1, .int x1)]) hx hb d_M_make_24 hl (by decide) rfl (fun ls hl => ?_)
    refine lv_iconst (v := 0) hx hb d_M_make_26 (by decide) ?_
    refine lv_istore (lv' := [(5, .int (0 : Int32)), (4, .int r33), (2, .long r30), (0, .ref (A 0)), (1, .int x1)]) hx hb d_M_make_27 hl (by decide) rfl (fun ls hl => ?_)
    exact w_M_make_29 E hA kr FU x1 r30 r33 (0 : Int32) st32 _ _ _ h I (lv_sub hl [3, 4, 2, 1, 0] rfl)
  · have h := ifp c28 h
    refine lv_iconst (v := -1) hx hb d_M_make_7 (by decide) ?_
    cases h
    exact kr _ _ _ _ I d_M_make_8
set_option maxHeartbeats 4000000 in
set_option maxRecDepth 100000 in
theorem k_M_make {x1 : Int32} {st t : CS} {r : Int32} (h : f_M_make x1 st = some (r, t)) : Cn l y_M_make c_M_make 6 (some .int) rm_M_make D (tyL cs) (cwC A cs st) (cwC A cs t) [.ref (A 0), .int x1] (some (.int r)) := by
  refine cn_intro (by decide) (Nat.le_of_ble_eq_true rfl) ?_
  intro p e s m below meth c A0 Q ls E hr hlk hA hA0 hQ I hl
  exact w_M_make E hA (rt_i E hr hlk hA0 hQ) x1 st _ _ _ h I (lv_sub hl [0, 1] rfl)
abbrev rm_N_has : Room := { frames := 0, cells := 0, slots := 0, locals := 0 }
noncomputable def f_N_has (x1 : Int32) (st : CS) : Option (Int32 × CS) :=
  if x1 < 0 then (
    some ((0 : Int32), st)
  ) else (
    if (cN_size st) ≤ x1 then (
      some ((0 : Int32), st)
    ) else (
      some ((1 : Int32), st)
    )
  )
set_option maxHeartbeats 4000000 in
set_option maxRecDepth 100000 in
theorem w_N_has  {r : Int32} {t : CS} (E : EC R_N c_N_has 2 p s m args c D (tyL cs)) (hA : ∀ q, H0.size ≤ q → A0 q) (kr : ∀ (H : Heap) (locs : List Loc) (pc : Nat) (ls : Array Slot), IW D (cwC A cs t) A0 H0 H locs → narrow .boolean (.int r) = .int r → decode c_N_has pc = .ok (.ireturn, 1) → W p l e rm_N_has s m args below meth c H locs 0 0 Q (F0 m pc ls [.int r])) : ∀ (x1 : Int32) (st : CS) (H : Heap) (locs : List Loc) (ls : Array Slot), f_N_has x1 st = some (r, t) → IW D (cwC A cs st) A0 H0 H locs → lv_has ls 2 [(0, .ref (A 4)), (1, .int x1)] → W p l e rm_N_has s m args below meth c H locs 0 0 Q (F0 m 0 ls []) := by
  intro x1 st H locs ls h I hl
  have hx := E.1
  have hb := E.2.1
  rw [f_N_has] at h
  refine lv_iload_n hx hb d_N_has_0 rfl (lv_at hl 1 rfl) ?_
  refine lv_if_lt (tgt := 16) hx hb d_N_has_1 (by decide) (fun c1 => ?_) (fun c1 => ?_)
  · have h := ifp c1 h
    refine lv_iconst (v := 0) hx hb d_N_has_16 (by decide) ?_
    cases h
    exact kr _ _ _ _ I (by decide) d_N_has_17
  · have h := ifn c1 h
    refine lv_iload_n hx hb d_N_has_4 rfl (lv_at hl 1 rfl) ?_
    refine lv_aload_n hx hb d_N_has_5 rfl (lv_at hl 0 rfl) ?_
    refine g_cN_size E I k_N_32 d_N_has_6 ?_
    refine lv_icmp_ge (tgt := 16) hx hb d_N_has_9 (by decide) (fun c2 => ?_) (fun c2 => ?_)
    · have h := ifp c2 h
      refine lv_iconst (v := 0) hx hb d_N_has_16 (by decide) ?_
      cases h
      exact kr _ _ _ _ I (by decide) d_N_has_17
    · have h := ifn c2 h
      refine lv_iconst (v := 1) hx hb d_N_has_12 (by decide) ?_
      refine lv_goto (tgt := 17) hx hb d_N_has_13 (by decide) ?_
      cases h
      exact kr _ _ _ _ I (by decide) d_N_has_17
set_option maxHeartbeats 4000000 in
set_option maxRecDepth 100000 in
theorem k_N_has {x1 : Int32} {st t : CS} {r : Int32} (h : f_N_has x1 st = some (r, t)) : Cn l y_N_has c_N_has 2 (some .boolean) rm_N_has D (tyL cs) (cwC A cs st) (cwC A cs t) [.ref (A 4), .int x1] (some (.int r)) := by
  refine cn_intro (by decide) (Nat.le_of_ble_eq_true rfl) ?_
  intro p e s m below meth c A0 Q ls E hr hlk hA hA0 hQ I hl
  exact w_N_has E hA (rt_z E hr hlk hA0 hQ) x1 st _ _ _ h I (lv_sub hl [0, 1] rfl)
abbrev rm_N_kindOf : Room := { frames := 0, cells := 0, slots := 0, locals := 0 }
noncomputable def f_N_kindOf (x1 : Int32) (st : CS) : Option (Int32 × CS) :=
  ck x1 100 <|
  some ((cN_kinds st x1.toNatClampNeg), st)
set_option maxHeartbeats 4000000 in
set_option maxRecDepth 100000 in
theorem w_N_kindOf  {r : Int32} {t : CS} (E : EC R_N c_N_kindOf 2 p s m args c D (tyL cs)) (hA : ∀ q, H0.size ≤ q → A0 q) (kr : ∀ (H : Heap) (locs : List Loc) (pc : Nat) (ls : Array Slot), IW D (cwC A cs t) A0 H0 H locs → decode c_N_kindOf pc = .ok (.ireturn, 1) → W p l e rm_N_kindOf s m args below meth c H locs 0 0 Q (F0 m pc ls [.int r])) : ∀ (x1 : Int32) (st : CS) (H : Heap) (locs : List Loc) (ls : Array Slot), f_N_kindOf x1 st = some (r, t) → IW D (cwC A cs st) A0 H0 H locs → lv_has ls 2 [(0, .ref (A 4)), (1, .int x1)] → W p l e rm_N_kindOf s m args below meth c H locs 0 0 Q (F0 m 0 ls []) := by
  intro x1 st H locs ls h I hl
  have hx := E.1
  have hb := E.2.1
  rw [f_N_kindOf] at h
  refine lv_aload_n hx hb d_N_kindOf_0 rfl (lv_at hl 0 rfl) ?_
  refine g_cN_kinds E I k_N_15 d_N_kindOf_1 ?_
  refine lv_iload_n hx hb d_N_kindOf_4 rfl (lv_at hl 1 rfl) ?_
  obtain ⟨b1, h⟩ := ck_some h
  refine l_cN_kinds E I b1 d_N_kindOf_5 ?_
  cases h
  exact kr _ _ _ _ I d_N_kindOf_6
set_option maxHeartbeats 4000000 in
set_option maxRecDepth 100000 in
theorem k_N_kindOf {x1 : Int32} {st t : CS} {r : Int32} (h : f_N_kindOf x1 st = some (r, t)) : Cn l y_N_kindOf c_N_kindOf 2 (some .int) rm_N_kindOf D (tyL cs) (cwC A cs st) (cwC A cs t) [.ref (A 4), .int x1] (some (.int r)) := by
  refine cn_intro (by decide) (Nat.le_of_ble_eq_true rfl) ?_
  intro p e s m below meth c A0 Q ls E hr hlk hA hA0 hQ I hl
  exact w_N_kindOf E hA (rt_i E hr hlk hA0 hQ) x1 st _ _ _ h I (lv_sub hl [0, 1] rfl)
abbrev rm_N_nodeOf : Room := { frames := 0, cells := 0, slots := 0, locals := 0 }
noncomputable def f_N_nodeOf (x1 : Int32) (st : CS) : Option (Int32 × CS) :=
  ck x1 100 <|
  some ((cN_nodes st x1.toNatClampNeg), st)
set_option maxHeartbeats 4000000 in
set_option maxRecDepth 100000 in
theorem w_N_nodeOf  {r : Int32} {t : CS} (E : EC R_N c_N_nodeOf 2 p s m args c D (tyL cs)) (hA : ∀ q, H0.size ≤ q → A0 q) (kr : ∀ (H : Heap) (locs : List Loc) (pc : Nat) (ls : Array Slot), IW D (cwC A cs t) A0 H0 H locs → decode c_N_nodeOf pc = .ok (.ireturn, 1) → W p l e rm_N_nodeOf s m args below meth c H locs 0 0 Q (F0 m pc ls [.int r])) : ∀ (x1 : Int32) (st : CS) (H : Heap) (locs : List Loc) (ls : Array Slot), f_N_nodeOf x1 st = some (r, t) → IW D (cwC A cs st) A0 H0 H locs → lv_has ls 2 [(0, .ref (A 4)), (1, .int x1)] → W p l e rm_N_nodeOf s m args below meth c H locs 0 0 Q (F0 m 0 ls []) := by
  intro x1 st H locs ls h I hl
  have hx := E.1
  have hb := E.2.1
  rw [f_N_nodeOf] at h
  refine lv_aload_n hx hb d_N_nodeOf_0 rfl (lv_at hl 0 rfl) ?_
  refine g_cN_nodes E I k_N_19 d_N_nodeOf_1 ?_
  refine lv_iload_n hx hb d_N_nodeOf_4 rfl (lv_at hl 1 rfl) ?_
  obtain ⟨b1, h⟩ := ck_some h
  refine l_cN_nodes E I b1 d_N_nodeOf_5 ?_
  cases h
  exact kr _ _ _ _ I d_N_nodeOf_6
set_option maxHeartbeats 4000000 in
set_option maxRecDepth 100000 in
theorem k_N_nodeOf {x1 : Int32} {st t : CS} {r : Int32} (h : f_N_nodeOf x1 st = some (r, t)) : Cn l y_N_nodeOf c_N_nodeOf 2 (some .int) rm_N_nodeOf D (tyL cs) (cwC A cs st) (cwC A cs t) [.ref (A 4), .int x1] (some (.int r)) := by
  refine cn_intro (by decide) (Nat.le_of_ble_eq_true rfl) ?_
  intro p e s m below meth c A0 Q ls E hr hlk hA hA0 hQ I hl
  exact w_N_nodeOf E hA (rt_i E hr hlk hA0 hQ) x1 st _ _ _ h I (lv_sub hl [0, 1] rfl)
abbrev rm_N_outcomeOf : Room := { frames := 0, cells := 0, slots := 0, locals := 0 }
noncomputable def f_N_outcomeOf (x1 : Int32) (st : CS) : Option (Int32 × CS) :=
  ck x1 100 <|
  some ((cN_outcomes st x1.toNatClampNeg), st)
set_option maxHeartbeats 4000000 in
set_option maxRecDepth 100000 in
theorem w_N_outcomeOf  {r : Int32} {t : CS} (E : EC R_N c_N_outcomeOf 2 p s m args c D (tyL cs)) (hA : ∀ q, H0.size ≤ q → A0 q) (kr : ∀ (H : Heap) (locs : List Loc) (pc : Nat) (ls : Array Slot), IW D (cwC A cs t) A0 H0 H locs → decode c_N_outcomeOf pc = .ok (.ireturn, 1) → W p l e rm_N_outcomeOf s m args below meth c H locs 0 0 Q (F0 m pc ls [.int r])) : ∀ (x1 : Int32) (st : CS) (H : Heap) (locs : List Loc) (ls : Array Slot), f_N_outcomeOf x1 st = some (r, t) → IW D (cwC A cs st) A0 H0 H locs → lv_has ls 2 [(0, .ref (A 4)), (1, .int x1)] → W p l e rm_N_outcomeOf s m args below meth c H locs 0 0 Q (F0 m 0 ls []) := by
  intro x1 st H locs ls h I hl
  have hx := E.1
  have hb := E.2.1
  rw [f_N_outcomeOf] at h
  refine lv_aload_n hx hb d_N_outcomeOf_0 rfl (lv_at hl 0 rfl) ?_
  refine g_cN_outcomes E I k_N_22 d_N_outcomeOf_1 ?_
  refine lv_iload_n hx hb d_N_outcomeOf_4 rfl (lv_at hl 1 rfl) ?_
  obtain ⟨b1, h⟩ := ck_some h
  refine l_cN_outcomes E I b1 d_N_outcomeOf_5 ?_
  cases h
  exact kr _ _ _ _ I d_N_outcomeOf_6
set_option maxHeartbeats 4000000 in
set_option maxRecDepth 100000 in
theorem k_N_outcomeOf {x1 : Int32} {st t : CS} {r : Int32} (h : f_N_outcomeOf x1 st = some (r, t)) : Cn l y_N_outcomeOf c_N_outcomeOf 2 (some .int) rm_N_outcomeOf D (tyL cs) (cwC A cs st) (cwC A cs t) [.ref (A 4), .int x1] (some (.int r)) := by
  refine cn_intro (by decide) (Nat.le_of_ble_eq_true rfl) ?_
  intro p e s m below meth c A0 Q ls E hr hlk hA hA0 hQ I hl
  exact w_N_outcomeOf E hA (rt_i E hr hlk hA0 hQ) x1 st _ _ _ h I (lv_sub hl [0, 1] rfl)
abbrev rm_N_enderOf : Room := { frames := 0, cells := 0, slots := 0, locals := 0 }
noncomputable def f_N_enderOf (x1 : Int32) (st : CS) : Option (Int32 × CS) :=
  ck x1 100 <|
  some ((cN_enders st x1.toNatClampNeg), st)
set_option maxHeartbeats 4000000 in
set_option maxRecDepth 100000 in
theorem w_N_enderOf  {r : Int32} {t : CS} (E : EC R_N c_N_enderOf 2 p s m args c D (tyL cs)) (hA : ∀ q, H0.size ≤ q → A0 q) (kr : ∀ (H : Heap) (locs : List Loc) (pc : Nat) (ls : Array Slot), IW D (cwC A cs t) A0 H0 H locs → decode c_N_enderOf pc = .ok (.ireturn, 1) → W p l e rm_N_enderOf s m args below meth c H locs 0 0 Q (F0 m pc ls [.int r])) : ∀ (x1 : Int32) (st : CS) (H : Heap) (locs : List Loc) (ls : Array Slot), f_N_enderOf x1 st = some (r, t) → IW D (cwC A cs st) A0 H0 H locs → lv_has ls 2 [(0, .ref (A 4)), (1, .int x1)] → W p l e rm_N_enderOf s m args below meth c H locs 0 0 Q (F0 m 0 ls []) := by
  intro x1 st H locs ls h I hl
  have hx := E.1
  have hb := E.2.1
  rw [f_N_enderOf] at h
  refine lv_aload_n hx hb d_N_enderOf_0 rfl (lv_at hl 0 rfl) ?_
  refine g_cN_enders E I k_N_25 d_N_enderOf_1 ?_
  refine lv_iload_n hx hb d_N_enderOf_4 rfl (lv_at hl 1 rfl) ?_
  obtain ⟨b1, h⟩ := ck_some h
  refine l_cN_enders E I b1 d_N_enderOf_5 ?_
  cases h
  exact kr _ _ _ _ I d_N_enderOf_6
set_option maxHeartbeats 4000000 in
set_option maxRecDepth 100000 in
theorem k_N_enderOf {x1 : Int32} {st t : CS} {r : Int32} (h : f_N_enderOf x1 st = some (r, t)) : Cn l y_N_enderOf c_N_enderOf 2 (some .int) rm_N_enderOf D (tyL cs) (cwC A cs st) (cwC A cs t) [.ref (A 4), .int x1] (some (.int r)) := by
  refine cn_intro (by decide) (Nat.le_of_ble_eq_true rfl) ?_
  intro p e s m below meth c A0 Q ls E hr hlk hA hA0 hQ I hl
  exact w_N_enderOf E hA (rt_i E hr hlk hA0 hQ) x1 st _ _ _ h I (lv_sub hl [0, 1] rfl)
abbrev rm_N_isOfDifferentNumbers : Room := { frames := 1, cells := 0, slots := 0, locals := 21 }
noncomputable def f_N_isOfDifferentNumbers (x1 : Int32) (st : CS) : Option (Int32 × CS) :=
  bd (f_T_firstOf x1 st) fun r2 st1 =>
  bd (f_T_secondOf x1 st1) fun r5 st4 =>
  bd (f_T_kindOf r2 st4) fun r8 st7 =>
  if r8 = 0 then (
    bd (f_T_kindOf r5 st7) fun r12 st11 =>
    if r12 = 0 then (
      bd (f_T_numberOf r2 st11) fun r16 st15 =>
      bd (f_T_numberOf r5 st15) fun r19 st18 =>
      if r16 = r19 then (
        some ((0 : Int32), st18)
      ) else (
        some ((1 : Int32), st18)
      )
    ) else (
      some ((0 : Int32), st11)
    )
  ) else (
    some ((0 : Int32), st7)
  )
set_option maxHeartbeats 4000000 in
set_option maxRecDepth 100000 in
theorem w_N_isOfDifferentNumbers  {r : Int32} {t : CS} (E : EC R_N c_N_isOfDifferentNumbers 4 p s m args c D (tyL cs)) (hA : ∀ q, H0.size ≤ q → A0 q) (kr : ∀ (H : Heap) (locs : List Loc) (pc : Nat) (ls : Array Slot), IW D (cwC A cs t) A0 H0 H locs → narrow .boolean (.int r) = .int r → decode c_N_isOfDifferentNumbers pc = .ok (.ireturn, 1) → W p l e rm_N_isOfDifferentNumbers s m args below meth c H locs 0 0 Q (F0 m pc ls [.int r])) : ∀ (x1 : Int32) (st : CS) (H : Heap) (locs : List Loc) (ls : Array Slot), f_N_isOfDifferentNumbers x1 st = some (r, t) → IW D (cwC A cs st) A0 H0 H locs → lv_has ls 4 [(0, .ref (A 4)), (1, .int x1)] → W p l e rm_N_isOfDifferentNumbers s m args below meth c H locs 0 0 Q (F0 m 0 ls []) := by
  intro x1 st H locs ls h I hl
  have hx := E.1
  have hb := E.2.1
  rw [f_N_isOfDifferentNumbers] at h
  refine lv_aload_n hx hb d_N_isOfDifferentNumbers_0 rfl (lv_at hl 0 rfl) ?_
  refine g_cN_trees E I k_N_9 d_N_isOfDifferentNumbers_1 ?_
  refine lv_iload_n hx hb d_N_isOfDifferentNumbers_4 rfl (lv_at hl 1 rfl) ?_
  obtain ⟨r2, st1, h3, h⟩ := bd_some h
  refine cV (As := [.int x1]) (rest := []) E I hA (k_T_firstOf h3) g_N_71 ⟨rfl, rfl⟩ 1 rfl rfl rfl hl rfl (Nat.le_of_ble_eq_true rfl) ⟨Nat.le_of_ble_eq_true rfl, Nat.le_of_ble_eq_true rfl⟩ ⟨Nat.zero_le _, Nat.zero_le _⟩ d_N_isOfDifferentNumbers_5 rfl (fun H locs I => ?_)
  refine lv_istore_n (lv' := [(2, .int r2), (0, .ref (A 4)), (1, .int x1)]) hx hb d_N_isOfDifferentNumbers_8 rfl hl (by decide) rfl (fun ls hl => ?_)
  refine lv_aload_n hx hb d_N_isOfDifferentNumbers_9 rfl (lv_at hl 1 rfl) ?_
  refine g_cN_trees E I k_N_9 d_N_isOfDifferentNumbers_10 ?_
  refine lv_iload_n hx hb d_N_isOfDifferentNumbers_13 rfl (lv_at hl 2 rfl) ?_
  obtain ⟨r5, st4, h6, h⟩ := bd_some h
  refine cV (As := [.int x1]) (rest := []) E I hA (k_T_secondOf h6) g_N_51 ⟨rfl, rfl⟩ 1 rfl rfl rfl hl rfl (Nat.le_of_ble_eq_true rfl) ⟨Nat.le_of_ble_eq_true rfl, Nat.le_of_ble_eq_true rfl⟩ ⟨Nat.zero_le _, Nat.zero_le _⟩ d_N_isOfDifferentNumbers_14 rfl (fun H locs I => ?_)
  refine lv_istore_n (lv' := [(3, .int r5), (2, .int r2), (0, .ref (A 4)), (1, .int x1)]) hx hb d_N_isOfDifferentNumbers_17 rfl hl (by decide) rfl (fun ls hl => ?_)
  refine lv_aload_n hx hb d_N_isOfDifferentNumbers_18 rfl (lv_at hl 2 rfl) ?_
  refine g_cN_trees E I k_N_9 d_N_isOfDifferentNumbers_19 ?_
  refine lv_iload_n hx hb d_N_isOfDifferentNumbers_22 rfl (lv_at hl 1 rfl) ?_
  obtain ⟨r8, st7, h9, h⟩ := bd_some h
  refine cV (As := [.int r2]) (rest := []) E I hA (k_T_kindOf h9) g_N_68 ⟨rfl, rfl⟩ 1 rfl rfl rfl hl rfl (Nat.le_of_ble_eq_true rfl) ⟨Nat.le_of_ble_eq_true rfl, Nat.le_of_ble_eq_true rfl⟩ ⟨Nat.zero_le _, Nat.zero_le _⟩ d_N_isOfDifferentNumbers_23 rfl (fun H locs I => ?_)
  refine lv_if_ne (tgt := 64) hx hb d_N_isOfDifferentNumbers_26 (by decide) (fun c10 => ?_) (fun c10 => ?_)
  · have h := ifn c10 h
    refine lv_iconst (v := 0) hx hb d_N_isOfDifferentNumbers_64 (by decide) ?_
    cases h
    exact kr _ _ _ _ I (by decide) d_N_isOfDifferentNumbers_65
  · have h := ifp c10 h
    refine lv_aload_n hx hb d_N_isOfDifferentNumbers_29 rfl (lv_at hl 2 rfl) ?_
    refine g_cN_trees E I k_N_9 d_N_isOfDifferentNumbers_30 ?_
    refine lv_iload_n hx hb d_N_isOfDifferentNumbers_33 rfl (lv_at hl 0 rfl) ?_
    obtain ⟨r12, st11, h13, h⟩ := bd_some h
    refine cV (As := [.int r5]) (rest := []) E I hA (k_T_kindOf h13) g_N_68 ⟨rfl, rfl⟩ 1 rfl rfl rfl hl rfl (Nat.le_of_ble_eq_true rfl) ⟨Nat.le_of_ble_eq_true rfl, Nat.le_of_ble_eq_true rfl⟩ ⟨Nat.zero_le _, Nat.zero_le _⟩ d_N_isOfDifferentNumbers_34 rfl (fun H locs I => ?_)
    refine lv_if_ne (tgt := 64) hx hb d_N_isOfDifferentNumbers_37 (by decide) (fun c14 => ?_) (fun c14 => ?_)
    · have h := ifn c14 h
      refine lv_iconst (v := 0) hx hb d_N_isOfDifferentNumbers_64 (by decide) ?_
      cases h
      exact kr _ _ _ _ I (by decide) d_N_isOfDifferentNumbers_65
    · have h := ifp c14 h
      refine lv_aload_n hx hb d_N_isOfDifferentNumbers_40 rfl (lv_at hl 2 rfl) ?_
      refine g_cN_trees E I k_N_9 d_N_isOfDifferentNumbers_41 ?_
      refine lv_iload_n hx hb d_N_isOfDifferentNumbers_44 rfl (lv_at hl 1 rfl) ?_
      obtain ⟨r16, st15, h17, h⟩ := bd_some h
      refine cV (As := [.int r2]) (rest := []) E I hA (k_T_numberOf h17) g_N_74 ⟨rfl, rfl⟩ 1 rfl rfl rfl hl rfl (Nat.le_of_ble_eq_true rfl) ⟨Nat.le_of_ble_eq_true rfl, Nat.le_of_ble_eq_true rfl⟩ ⟨Nat.zero_le _, Nat.zero_le _⟩ d_N_isOfDifferentNumbers_45 rfl (fun H locs I => ?_)
      refine lv_aload_n hx hb d_N_isOfDifferentNumbers_48 rfl (lv_at hl 2 rfl) ?_
      refine g_cN_trees E I k_N_9 d_N_isOfDifferentNumbers_49 ?_
      refine lv_iload_n hx hb d_N_isOfDifferentNumbers_52 rfl (lv_at hl 0 rfl) ?_
      obtain ⟨r19, st18, h20, h⟩ := bd_some h
      refine cV (As := [.int r5]) (rest := [.long r16]) E I hA (k_T_numberOf h20) g_N_74 ⟨rfl, rfl⟩ 1 rfl rfl rfl hl rfl (Nat.le_of_ble_eq_true rfl) ⟨Nat.le_of_ble_eq_true rfl, Nat.le_of_ble_eq_true rfl⟩ ⟨Nat.zero_le _, Nat.zero_le _⟩ d_N_isOfDifferentNumbers_53 rfl (fun H locs I => ?_)
      refine W.lcmp hx hb d_N_isOfDifferentNumbers_56 ?_
      refine lv_if_eq (tgt := 64) hx hb d_N_isOfDifferentNumbers_57 (by decide) (fun c21 => ?_) (fun c21 => ?_)
      · have c21 := (lg_cmp_eq _ _).mp c21
        have h := ifp c21 h
        refine lv_iconst (v := 0) hx hb d_N_isOfDifferentNumbers_64 (by decide) ?_
        cases h
        exact kr _ _ _ _ I (by decide) d_N_isOfDifferentNumbers_65
      · have c21 := mt (lg_cmp_eq _ _).mpr c21
        have h := ifn c21 h
        refine lv_iconst (v := 1) hx hb d_N_isOfDifferentNumbers_60 (by decide) ?_
        refine lv_goto (tgt := 65) hx hb d_N_isOfDifferentNumbers_61 (by decide) ?_
        cases h
        exact kr _ _ _ _ I (by decide) d_N_isOfDifferentNumbers_65
set_option maxHeartbeats 4000000 in
set_option maxRecDepth 100000 in
theorem k_N_isOfDifferentNumbers {x1 : Int32} {st t : CS} {r : Int32} (h : f_N_isOfDifferentNumbers x1 st = some (r, t)) : Cn l y_N_isOfDifferentNumbers c_N_isOfDifferentNumbers 4 (some .boolean) rm_N_isOfDifferentNumbers D (tyL cs) (cwC A cs st) (cwC A cs t) [.ref (A 4), .int x1] (some (.int r)) := by
  refine cn_intro (by decide) (Nat.le_of_ble_eq_true rfl) ?_
  intro p e s m below meth c A0 Q ls E hr hlk hA hA0 hQ I hl
  exact w_N_isOfDifferentNumbers E hA (rt_z E hr hlk hA0 hQ) x1 st _ _ _ h I (lv_sub hl [0, 1] rfl)
abbrev rm_T_isNumber : Room := { frames := 0, cells := 0, slots := 0, locals := 0 }
noncomputable def f_T_isNumber (x1 : Int32) (x2 : Int64) (st : CS) : Option (Int32 × CS) :=
  ck x1 64 <|
  if (cT_kinds st x1.toNatClampNeg) = 0 then (
    ck x1 64 <|
    if (cT_numbers st x1.toNatClampNeg) = x2 then (
      some ((1 : Int32), st)
    ) else (
      some ((0 : Int32), st)
    )
  ) else (
    some ((0 : Int32), st)
  )
set_option maxHeartbeats 4000000 in
set_option maxRecDepth 100000 in
theorem w_T_isNumber  {r : Int32} {t : CS} (E : EC R_T c_T_isNumber 4 p s m args c D (tyL cs)) (hA : ∀ q, H0.size ≤ q → A0 q) (kr : ∀ (H : Heap) (locs : List Loc) (pc : Nat) (ls : Array Slot), IW D (cwC A cs t) A0 H0 H locs → narrow .boolean (.int r) = .int r → decode c_T_isNumber pc = .ok (.ireturn, 1) → W p l e rm_T_isNumber s m args below meth c H locs 0 0 Q (F0 m pc ls [.int r])) : ∀ (x1 : Int32) (x2 : Int64) (st : CS) (H : Heap) (locs : List Loc) (ls : Array Slot), f_T_isNumber x1 x2 st = some (r, t) → IW D (cwC A cs st) A0 H0 H locs → lv_has ls 4 [(0, .ref (A 1)), (1, .int x1), (2, .long x2)] → W p l e rm_T_isNumber s m args below meth c H locs 0 0 Q (F0 m 0 ls []) := by
  intro x1 x2 st H locs ls h I hl
  have hx := E.1
  have hb := E.2.1
  rw [f_T_isNumber] at h
  refine lv_aload_n hx hb d_T_isNumber_0 rfl (lv_at hl 0 rfl) ?_
  refine g_cT_kinds E I k_T_9 d_T_isNumber_1 ?_
  refine lv_iload_n hx hb d_T_isNumber_4 rfl (lv_at hl 1 rfl) ?_
  obtain ⟨b1, h⟩ := ck_some h
  refine l_cT_kinds E I b1 d_T_isNumber_5 ?_
  refine lv_if_ne (tgt := 24) hx hb d_T_isNumber_6 (by decide) (fun c2 => ?_) (fun c2 => ?_)
  · have h := ifn c2 h
    refine lv_iconst (v := 0) hx hb d_T_isNumber_24 (by decide) ?_
    cases h
    exact kr _ _ _ _ I (by decide) d_T_isNumber_25
  · have h := ifp c2 h
    refine lv_aload_n hx hb d_T_isNumber_9 rfl (lv_at hl 0 rfl) ?_
    refine g_cT_numbers E I k_T_15 d_T_isNumber_10 ?_
    refine lv_iload_n hx hb d_T_isNumber_13 rfl (lv_at hl 1 rfl) ?_
    obtain ⟨b3, h⟩ := ck_some h
    refine l_cT_numbers E I b3 d_T_isNumber_14 ?_
    refine lv_lload_n hx hb d_T_isNumber_15 rfl (lv_at hl 2 rfl) ?_
    refine W.lcmp hx hb d_T_isNumber_16 ?_
    refine lv_if_ne (tgt := 24) hx hb d_T_isNumber_17 (by decide) (fun c4 => ?_) (fun c4 => ?_)
    · have c4 := mt (lg_cmp_eq _ _).mpr c4
      have h := ifn c4 h
      refine lv_iconst (v := 0) hx hb d_T_isNumber_24 (by decide) ?_
      cases h
      exact kr _ _ _ _ I (by decide) d_T_isNumber_25
    · have c4 := (lg_cmp_eq _ _).mp c4
      have h := ifp c4 h
      refine lv_iconst (v := 1) hx hb d_T_isNumber_20 (by decide) ?_
      refine lv_goto (tgt := 25) hx hb d_T_isNumber_21 (by decide) ?_
      cases h
      exact kr _ _ _ _ I (by decide) d_T_isNumber_25
set_option maxHeartbeats 4000000 in
set_option maxRecDepth 100000 in
theorem k_T_isNumber {x1 : Int32} {x2 : Int64} {st t : CS} {r : Int32} (h : f_T_isNumber x1 x2 st = some (r, t)) : Cn l y_T_isNumber c_T_isNumber 4 (some .boolean) rm_T_isNumber D (tyL cs) (cwC A cs st) (cwC A cs t) [.ref (A 1), .int x1, .long x2] (some (.int r)) := by
  refine cn_intro (by decide) (Nat.le_of_ble_eq_true rfl) ?_
  intro p e s m below meth c A0 Q ls E hr hlk hA hA0 hQ I hl
  exact w_T_isNumber E hA (rt_z E hr hlk hA0 hQ) x1 x2 st _ _ _ h I (lv_sub hl [0, 1, 2] rfl)
abbrev rm_N_isAlike : Room := { frames := 2, cells := 0, slots := 0, locals := 44 }
noncomputable def f_N_isAlike (x1 : Int32) (st : CS) : Option (Int32 × CS) :=
  ck x1 100 <|
  nx (cN_nodes st x1.toNatClampNeg) fun x2_2 =>
  ck x1 100 <|
  if (cN_kinds st x1.toNatClampNeg) = 1 then (
    bd (f_N_isOfDifferentNumbers x2_2 st) fun r6 st5 =>
    zr r6 st5
  ) else (
    if (cN_kinds st x1.toNatClampNeg) = 2 then (
      bd (f_T_secondOf x2_2 st) fun r11 st10 =>
      bd (f_T_isNumber r11 (0 : Int64) st10) fun r14 st13 =>
      zr r14 st13
    ) else (
      if (cN_kinds st x1.toNatClampNeg) = 3 then (
        bd (f_T_secondOf x2_2 st) fun r19 st18 =>
        bd (f_T_thirdOf x2_2 st18) fun r22 st21 =>
        bd (f_T_areAlike r19 r22 st21) fun r25 st24 =>
        zr r25 st24
      ) else (
        if (cN_kinds st x1.toNatClampNeg) = 4 then (
          bd (f_T_secondOf x2_2 st) fun r30 st29 =>
          bd (f_T_kindOf x2_2 st29) fun r33 st32 =>
          if r33 = (5 : Int32) then (
            bd (f_T_isNumber r30 (1 : Int64) st32) fun r41 st40 =>
            zr r41 st40
          ) else (
            bd (f_T_isNumber r30 (0 : Int64) st32) fun r37 st36 =>
            zr r37 st36
          )
        ) else (
          some ((0 : Int32), st)
        )
      )
    )
  )
set_option maxHeartbeats 4000000 in
set_option maxRecDepth 100000 in
theorem w_N_isAlike  {r : Int32} {t : CS} (E : EC R_N c_N_isAlike 3 p s m args c D (tyL cs)) (hA : ∀ q, H0.size ≤ q → A0 q) (kr : ∀ (H : Heap) (locs : List Loc) (pc : Nat) (ls : Array Slot), IW D (cwC A cs t) A0 H0 H locs → narrow .boolean (.int r) = .int r → decode c_N_isAlike pc = .ok (.ireturn, 1) → W p l e rm_N_isAlike s m args below meth c H locs 0 0 Q (F0 m pc ls [.int r])) : ∀ (x1 : Int32) (st : CS) (H : Heap) (locs : List Loc) (ls : Array Slot), f_N_isAlike x1 st = some (r, t) → IW D (cwC A cs st) A0 H0 H locs → lv_has ls 3 [(0, .ref (A 4)), (1, .int x1)] → W p l e rm_N_isAlike s m args below meth c H locs 0 0 Q (F0 m 0 ls []) := by
  intro x1 st H locs ls h I hl
  have hx := E.1
  have hb := E.2.1
  rw [f_N_isAlike] at h
  refine lv_aload_n hx hb d_N_isAlike_0 rfl (lv_at hl 0 rfl) ?_
  refine g_cN_nodes E I k_N_19 d_N_isAlike_1 ?_
  refine lv_iload_n hx hb d_N_isAlike_4 rfl (lv_at hl 1 rfl) ?_
  obtain ⟨b1, h⟩ := ck_some h
  refine l_cN_nodes E I b1 d_N_isAlike_5 ?_
  refine lv_topi (fun x2_2 ex2_2 => ?_)
  have h := nx_k ex2_2 h
  refine lv_istore_n (lv' := [(2, .int x2_2), (0, .ref (A 4)), (1, .int x1)]) hx hb d_N_isAlike_6 rfl hl (by decide) rfl (fun ls hl => ?_)
  refine lv_aload_n hx hb d_N_isAlike_7 rfl (lv_at hl 1 rfl) ?_
  refine g_cN_kinds E I k_N_15 d_N_isAlike_8 ?_
  refine lv_iload_n hx hb d_N_isAlike_11 rfl (lv_at hl 2 rfl) ?_
  obtain ⟨b3, h⟩ := ck_some h
  refine l_cN_kinds E I b3 d_N_isAlike_12 ?_
  by_cases c4 : (cN_kinds st x1.toNatClampNeg) = 1
  · have h := ifp c4 h
    refine lv_tableIn (off := 31) (tgt := 44) hx hb d_N_isAlike_13 (by rw [c4]; decide) (by rw [c4]; decide) (by rw [c4]; rfl) (by decide) ?_
    refine lv_aload_n hx hb d_N_isAlike_44 rfl (lv_at hl 1 rfl) ?_
    refine lv_iload_n hx hb d_N_isAlike_45 rfl (lv_at hl 0 rfl) ?_
    obtain ⟨r6, st5, h7, h⟩ := bd_some h
    refine cV (As := [.int x2_2]) (rest := []) E I hA (k_N_isOfDifferentNumbers h7) g_N_48 ⟨rfl, rfl⟩ 4 rfl rfl rfl hl rfl (Nat.le_of_ble_eq_true rfl) ⟨Nat.le_of_ble_eq_true rfl, Nat.le_of_ble_eq_true rfl⟩ ⟨Nat.zero_le _, Nat.zero_le _⟩ d_N_isAlike_46 rfl (fun H locs I => ?_)
    obtain ⟨z8, h⟩ := zr_some h
    cases h
    exact kr _ _ _ _ I (zr_nar z8) d_N_isAlike_49
  · have h := ifn c4 h
    by_cases c9 : (cN_kinds st x1.toNatClampNeg) = 2
    · have h := ifp c9 h
      refine lv_tableIn (off := 37) (tgt := 50) hx hb d_N_isAlike_13 (by rw [c9]; decide) (by rw [c9]; decide) (by rw [c9]; rfl) (by decide) ?_
      refine lv_aload_n hx hb d_N_isAlike_50 rfl (lv_at hl 1 rfl) ?_
      refine g_cN_trees E I k_N_9 d_N_isAlike_51 ?_
      refine lv_aload_n hx hb d_N_isAlike_54 rfl (lv_at hl 1 rfl) ?_
      refine g_cN_trees E I k_N_9 d_N_isAlike_55 ?_
      refine lv_iload_n hx hb d_N_isAlike_58 rfl (lv_at hl 0 rfl) ?_
      obtain ⟨r11, st10, h12, h⟩ := bd_some h
      refine cV (As := [.int x2_2]) (rest := [.ref (A 1)]) E I hA (k_T_secondOf h12) g_N_51 ⟨rfl, rfl⟩ 1 rfl rfl rfl hl rfl (Nat.le_of_ble_eq_true rfl) ⟨Nat.le_of_ble_eq_true rfl, Nat.le_of_ble_eq_true rfl⟩ ⟨Nat.zero_le _, Nat.zero_le _⟩ d_N_isAlike_59 rfl (fun H locs I => ?_)
      refine lv_lconst (v := 0) hx hb d_N_isAlike_62 (by decide) ?_
      obtain ⟨r14, st13, h15, h⟩ := bd_some h
      refine cV (As := [.int r11, .long (0 : Int64)]) (rest := []) E I hA (k_T_isNumber h15) g_N_57 ⟨rfl, rfl⟩ 1 rfl rfl rfl hl rfl (Nat.le_of_ble_eq_true rfl) ⟨Nat.le_of_ble_eq_true rfl, Nat.le_of_ble_eq_true rfl⟩ ⟨Nat.zero_le _, Nat.zero_le _⟩ d_N_isAlike_63 rfl (fun H locs I => ?_)
      obtain ⟨z16, h⟩ := zr_some h
      cases h
      exact kr _ _ _ _ I (zr_nar z16) d_N_isAlike_66
    · have h := ifn c9 h
      by_cases c17 : (cN_kinds st x1.toNatClampNeg) = 3
      · have h := ifp c17 h
        refine lv_tableIn (off := 54) (tgt := 67) hx hb d_N_isAlike_13 (by rw [c17]; decide) (by rw [c17]; decide) (by rw [c17]; rfl) (by decide) ?_
        refine lv_aload_n hx hb d_N_isAlike_67 rfl (lv_at hl 1 rfl) ?_
        refine g_cN_trees E I k_N_9 d_N_isAlike_68 ?_
        refine lv_aload_n hx hb d_N_isAlike_71 rfl (lv_at hl 1 rfl) ?_
        refine g_cN_trees E I k_N_9 d_N_isAlike_72 ?_
        refine lv_iload_n hx hb d_N_isAlike_75 rfl (lv_at hl 0 rfl) ?_
        obtain ⟨r19, st18, h20, h⟩ := bd_some h
        refine cV (As := [.int x2_2]) (rest := [.ref (A 1)]) E I hA (k_T_secondOf h20) g_N_51 ⟨rfl, rfl⟩ 1 rfl rfl rfl hl rfl (Nat.le_of_ble_eq_true rfl) ⟨Nat.le_of_ble_eq_true rfl, Nat.le_of_ble_eq_true rfl⟩ ⟨Nat.zero_le _, Nat.zero_le _⟩ d_N_isAlike_76 rfl (fun H locs I => ?_)
        refine lv_aload_n hx hb d_N_isAlike_79 rfl (lv_at hl 1 rfl) ?_
        refine g_cN_trees E I k_N_9 d_N_isAlike_80 ?_
        refine lv_iload_n hx hb d_N_isAlike_83 rfl (lv_at hl 0 rfl) ?_
        obtain ⟨r22, st21, h23, h⟩ := bd_some h
        refine cV (As := [.int x2_2]) (rest := [.int r19, .ref (A 1)]) E I hA (k_T_thirdOf h23) g_N_61 ⟨rfl, rfl⟩ 1 rfl rfl rfl hl rfl (Nat.le_of_ble_eq_true rfl) ⟨Nat.le_of_ble_eq_true rfl, Nat.le_of_ble_eq_true rfl⟩ ⟨Nat.zero_le _, Nat.zero_le _⟩ d_N_isAlike_84 rfl (fun H locs I => ?_)
        obtain ⟨r25, st24, h26, h⟩ := bd_some h
        refine cV (As := [.int r19, .int r22]) (rest := []) E I hA (k_T_areAlike h26) g_N_64 ⟨rfl, rfl⟩ 1 rfl rfl rfl hl rfl (Nat.le_of_ble_eq_true rfl) ⟨Nat.le_of_ble_eq_true rfl, Nat.le_of_ble_eq_true rfl⟩ ⟨Nat.zero_le _, Nat.zero_le _⟩ d_N_isAlike_87 rfl (fun H locs I => ?_)
        obtain ⟨z27, h⟩ := zr_some h
        cases h
        exact kr _ _ _ _ I (zr_nar z27) d_N_isAlike_90
      · have h := ifn c17 h
        by_cases c28 : (cN_kinds st x1.toNatClampNeg) = 4
        · have h := ifp c28 h
          refine lv_tableIn (off := 78) (tgt := 91) hx hb d_N_isAlike_13 (by rw [c28]; decide) (by rw [c28]; decide) (by rw [c28]; rfl) (by decide) ?_
          refine lv_aload_n hx hb d_N_isAlike_91 rfl (lv_at hl 1 rfl) ?_
          refine g_cN_trees E I k_N_9 d_N_isAlike_92 ?_
          refine lv_aload_n hx hb d_N_isAlike_95 rfl (lv_at hl 1 rfl) ?_
          refine g_cN_trees E I k_N_9 d_N_isAlike_96 ?_
          refine lv_iload_n hx hb d_N_isAlike_99 rfl (lv_at hl 0 rfl) ?_
          obtain ⟨r30, st29, h31, h⟩ := bd_some h
          refine cV (As := [.int x2_2]) (rest := [.ref (A 1)]) E I hA (k_T_secondOf h31) g_N_51 ⟨rfl, rfl⟩ 1 rfl rfl rfl hl rfl (Nat.le_of_ble_eq_true rfl) ⟨Nat.le_of_ble_eq_true rfl, Nat.le_of_ble_eq_true rfl⟩ ⟨Nat.zero_le _, Nat.zero_le _⟩ d_N_isAlike_100 rfl (fun H locs I => ?_)
          refine lv_aload_n hx hb d_N_isAlike_103 rfl (lv_at hl 1 rfl) ?_
          refine g_cN_trees E I k_N_9 d_N_isAlike_104 ?_
          refine lv_iload_n hx hb d_N_isAlike_107 rfl (lv_at hl 0 rfl) ?_
          obtain ⟨r33, st32, h34, h⟩ := bd_some h
          refine cV (As := [.int x2_2]) (rest := [.int r30, .ref (A 1)]) E I hA (k_T_kindOf h34) g_N_68 ⟨rfl, rfl⟩ 1 rfl rfl rfl hl rfl (Nat.le_of_ble_eq_true rfl) ⟨Nat.le_of_ble_eq_true rfl, Nat.le_of_ble_eq_true rfl⟩ ⟨Nat.zero_le _, Nat.zero_le _⟩ d_N_isAlike_108 rfl (fun H locs I => ?_)
          refine lv_iconst (v := 5) hx hb d_N_isAlike_111 (by decide) ?_
          refine lv_icmp_ne (tgt := 119) hx hb d_N_isAlike_112 (by decide) (fun c35 => ?_) (fun c35 => ?_)
          · have h := ifn c35 h
            refine lv_lconst (v := 0) hx hb d_N_isAlike_119 (by decide) ?_
            obtain ⟨r37, st36, h38, h⟩ := bd_some h
            refine cV (As := [.int r30, .long (0 : Int64)]) (rest := []) E I hA (k_T_isNumber h38) g_N_57 ⟨rfl, rfl⟩ 1 rfl rfl rfl hl rfl (Nat.le_of_ble_eq_true rfl) ⟨Nat.le_of_ble_eq_true rfl, Nat.le_of_ble_eq_true rfl⟩ ⟨Nat.zero_le _, Nat.zero_le _⟩ d_N_isAlike_120 rfl (fun H locs I => ?_)
            obtain ⟨z39, h⟩ := zr_some h
            cases h
            exact kr _ _ _ _ I (zr_nar z39) d_N_isAlike_123
          · have h := ifp c35 h
            refine lv_lconst (v := 1) hx hb d_N_isAlike_115 (by decide) ?_
            refine lv_goto (tgt := 120) hx hb d_N_isAlike_116 (by decide) ?_
            obtain ⟨r41, st40, h42, h⟩ := bd_some h
            refine cV (As := [.int r30, .long (1 : Int64)]) (rest := []) E I hA (k_T_isNumber h42) g_N_57 ⟨rfl, rfl⟩ 1 rfl rfl rfl hl rfl (Nat.le_of_ble_eq_true rfl) ⟨Nat.le_of_ble_eq_true rfl, Nat.le_of_ble_eq_true rfl⟩ ⟨Nat.zero_le _, Nat.zero_le _⟩ d_N_isAlike_120 rfl (fun H locs I => ?_)
            obtain ⟨z43, h⟩ := zr_some h
            cases h
            exact kr _ _ _ _ I (zr_nar z43) d_N_isAlike_123
        · have h := ifn c28 h
          have tc4 := ne_ti (z := 1) (by decide) c4
          have tc9 := ne_ti (z := 2) (by decide) c9
          have tc17 := ne_ti (z := 3) (by decide) c17
          have tc28 := ne_ti (z := 4) (by decide) c28
          refine lv_tableOut (tgt := 124) hx hb d_N_isAlike_13 (by omega) (by decide) ?_
          refine lv_iconst (v := 0) hx hb d_N_isAlike_124 (by decide) ?_
          cases h
          exact kr _ _ _ _ I (by decide) d_N_isAlike_125
set_option maxHeartbeats 4000000 in
set_option maxRecDepth 100000 in
theorem k_N_isAlike {x1 : Int32} {st t : CS} {r : Int32} (h : f_N_isAlike x1 st = some (r, t)) : Cn l y_N_isAlike c_N_isAlike 3 (some .boolean) rm_N_isAlike D (tyL cs) (cwC A cs st) (cwC A cs t) [.ref (A 4), .int x1] (some (.int r)) := by
  refine cn_intro (by decide) (Nat.le_of_ble_eq_true rfl) ?_
  intro p e s m below meth c A0 Q ls E hr hlk hA hA0 hQ I hl
  exact w_N_isAlike E hA (rt_z E hr hlk hA0 hQ) x1 st _ _ _ h I (lv_sub hl [0, 1] rfl)
end Mmc3
