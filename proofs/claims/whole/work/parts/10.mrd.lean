section Mmr4
variable {p : Program} {l : Launch} {e : Env} {s : State} {m : MethodId} {args : Array Value} {below : List Frame} {meth : Method} {c : Code} {Q : State → Prop} {D : va_G} {A0 : Nat → Prop} {H0 : Heap} {A : Nat → Nat} {cs : ClassId × ClassId × ClassId}
abbrev rm_R_comeTo : Room := { frames := 0, cells := 0, slots := 0, locals := 0 }
noncomputable def f_R_comeTo (x1 : Int32) (x2 : Int32) (st : RS) : Option (Unit × RS) :=
  if x1 = (-1 : Int32) then (
    some ((), st)
  ) else (
    ck x1 64 <|
    if (r_far st x1.toNatClampNeg) = (-1 : Int32) then (
      ck x1 64 <|
      nx (s_r_far st x1.toNatClampNeg x2) fun st5 =>
      some ((), st5)
    ) else (
      ck x1 64 <|
      if (r_far st x1.toNatClampNeg) ≤ x2 then (
        some ((), st)
      ) else (
        ck x1 64 <|
        nx (s_r_far st x1.toNatClampNeg x2) fun st9 =>
        some ((), st9)
      )
    )
  )
set_option maxHeartbeats 4000000 in
set_option maxRecDepth 100000 in
theorem w_R_comeTo  {r : Unit} {t : RS} (E : EC R_R c_R_comeTo 3 p s m args c D (tyL cs)) (hA : ∀ q, H0.size ≤ q → A0 q) (kr : ∀ (H : Heap) (locs : List Loc) (pc : Nat) (ls : Array Slot), IW D (cwR A cs t) A0 H0 H locs → decode c_R_comeTo pc = .ok (.return_, 1) → W p l e rm_R_comeTo s m args below meth c H locs 0 0 Q (F0 m pc ls [])) : ∀ (x1 : Int32) (x2 : Int32) (st : RS) (H : Heap) (locs : List Loc) (ls : Array Slot), f_R_comeTo x1 x2 st = some (r, t) → IW D (cwR A cs st) A0 H0 H locs → lv_has ls 3 [(0, .ref (A 0)), (1, .int x1), (2, .int x2)] → W p l e rm_R_comeTo s m args below meth c H locs 0 0 Q (F0 m 0 ls []) := by
  intro x1 x2 st H locs ls h I hl
  have hx := E.1
  have hb := E.2.1
  rw [f_R_comeTo] at h
  refine lv_iload_n hx hb d_R_comeTo_0 rfl (lv_at hl 1 rfl) ?_
  refine lv_iconst (v := -1) hx hb d_R_comeTo_1 (by decide) ?_
  refine lv_icmp_eq (tgt := 32) hx hb d_R_comeTo_2 (by decide) (fun c1 => ?_) (fun c1 => ?_)
  · have h := ifp c1 h
    cases h
    exact kr _ _ _ _ I d_R_comeTo_32
  · have h := ifn c1 h
    refine lv_aload_n hx hb d_R_comeTo_5 rfl (lv_at hl 0 rfl) ?_
    refine g_rR_far E I k_R_82 d_R_comeTo_6 ?_
    refine lv_iload_n hx hb d_R_comeTo_9 rfl (lv_at hl 1 rfl) ?_
    obtain ⟨b2, h⟩ := ck_some h
    refine l_r_far E I b2 d_R_comeTo_10 ?_
    refine lv_iconst (v := -1) hx hb d_R_comeTo_11 (by decide) ?_
    refine lv_icmp_eq (tgt := 25) hx hb d_R_comeTo_12 (by decide) (fun c3 => ?_) (fun c3 => ?_)
    · have h := ifp c3 h
      refine lv_aload_n hx hb d_R_comeTo_25 rfl (lv_at hl 0 rfl) ?_
      refine g_rR_far E I k_R_82 d_R_comeTo_26 ?_
      refine lv_iload_n hx hb d_R_comeTo_29 rfl (lv_at hl 1 rfl) ?_
      refine lv_iload_n hx hb d_R_comeTo_30 rfl (lv_at hl 2 rfl) ?_
      obtain ⟨b4, h⟩ := ck_some h
      obtain ⟨st5, est5⟩ : ∃ y : RS, y = (s_r_far st x1.toNatClampNeg x2) := ⟨_, rfl⟩
      have h := nx_k est5 h
      refine p_r_far E I b4 est5 d_R_comeTo_31 (fun H locs I => ?_)
      cases h
      exact kr _ _ _ _ I d_R_comeTo_32
    · have h := ifn c3 h
      refine lv_aload_n hx hb d_R_comeTo_15 rfl (lv_at hl 0 rfl) ?_
      refine g_rR_far E I k_R_82 d_R_comeTo_16 ?_
      refine lv_iload_n hx hb d_R_comeTo_19 rfl (lv_at hl 1 rfl) ?_
      obtain ⟨b6, h⟩ := ck_some h
      refine l_r_far E I b6 d_R_comeTo_20 ?_
      refine lv_iload_n hx hb d_R_comeTo_21 rfl (lv_at hl 2 rfl) ?_
      refine lv_icmp_le (tgt := 32) hx hb d_R_comeTo_22 (by decide) (fun c7 => ?_) (fun c7 => ?_)
      · have h := ifp c7 h
        cases h
        exact kr _ _ _ _ I d_R_comeTo_32
      · have h := ifn c7 h
        refine lv_aload_n hx hb d_R_comeTo_25 rfl (lv_at hl 0 rfl) ?_
        refine g_rR_far E I k_R_82 d_R_comeTo_26 ?_
        refine lv_iload_n hx hb d_R_comeTo_29 rfl (lv_at hl 1 rfl) ?_
        refine lv_iload_n hx hb d_R_comeTo_30 rfl (lv_at hl 2 rfl) ?_
        obtain ⟨b8, h⟩ := ck_some h
        obtain ⟨st9, est9⟩ : ∃ y : RS, y = (s_r_far st x1.toNatClampNeg x2) := ⟨_, rfl⟩
        have h := nx_k est9 h
        refine p_r_far E I b8 est9 d_R_comeTo_31 (fun H locs I => ?_)
        cases h
        exact kr _ _ _ _ I d_R_comeTo_32
set_option maxHeartbeats 4000000 in
set_option maxRecDepth 100000 in
theorem k_R_comeTo {x1 : Int32} {x2 : Int32} {st t : RS} {r : Unit} (h : f_R_comeTo x1 x2 st = some (r, t)) : Cn l y_R_comeTo c_R_comeTo 3 none rm_R_comeTo D (tyL cs) (cwR A cs st) (cwR A cs t) [.ref (A 0), .int x1, .int x2] (none) := by
  refine cn_intro (by decide) (Nat.le_of_ble_eq_true rfl) ?_
  intro p e s m below meth c A0 Q ls E hr hlk hA hA0 hQ I hl
  exact w_R_comeTo E hA (rt_v E hr hlk hA0 hQ) x1 x2 st _ _ _ h I (lv_sub hl [0, 1, 2] rfl)
abbrev rm_R_layFar : Room := { frames := 1, cells := 0, slots := 0, locals := 22 }
noncomputable def f_R_layFar_30 : Nat → Int32 → RS → Option (Unit × RS)
  | 0, _, _ => none
  | n + 1, x2, st =>
    if x2 < 0 then (
      some ((), st)
    ) else (
      ck x2 64 <|
      if (r_far st x2.toNatClampNeg) = (-1 : Int32) then (
        nx (x2 + (-1)) fun x2_20 =>
        f_R_layFar_30 n x2_20 st
      ) else (
        ck x2 64 <|
        ck x2 64 <|
        bd (f_R_comeTo (r_partA st x2.toNatClampNeg) ((r_far st x2.toNatClampNeg) + (1 : Int32)) st) fun _ st6 =>
        ck x2 64 <|
        ck x2 64 <|
        bd (f_R_comeTo (r_partB st6 x2.toNatClampNeg) ((r_far st6 x2.toNatClampNeg) + (1 : Int32)) st6) fun _ st11 =>
        ck x2 64 <|
        ck x2 64 <|
        bd (f_R_comeTo (r_partC st11 x2.toNatClampNeg) ((r_far st11 x2.toNatClampNeg) + (1 : Int32)) st11) fun _ st16 =>
        nx (x2 + (-1)) fun x2_19 =>
        f_R_layFar_30 n x2_19 st16
      )
    )
noncomputable def f_R_layFar_2 : Nat → Int32 → Int32 → RS → Option (Unit × RS)
  | 0, _, _, _ => none
  | n + 1, x1, x2, st =>
    if (64 : Int32) ≤ x2 then (
      ck x1 64 <|
      nx (s_r_far st x1.toNatClampNeg (0 : Int32)) fun st23 =>
      f_R_layFar_30 FU x1 st23
    ) else (
      ck x2 64 <|
      nx (s_r_far st x2.toNatClampNeg (-1 : Int32)) fun st25 =>
      nx (x2 + 1) fun x2_26 =>
      f_R_layFar_2 n x1 x2_26 st25
    )
noncomputable def f_R_layFar (x1 : Int32) (st : RS) : Option (Unit × RS) :=
  f_R_layFar_2 FU x1 (0 : Int32) st
set_option maxHeartbeats 4000000 in
set_option maxRecDepth 100000 in
theorem w_R_layFar_30  {r : Unit} {t : RS} (E : EC R_R c_R_layFar 3 p s m args c D (tyL cs)) (hA : ∀ q, H0.size ≤ q → A0 q) (kr : ∀ (H : Heap) (locs : List Loc) (pc : Nat) (ls : Array Slot), IW D (cwR A cs t) A0 H0 H locs → decode c_R_layFar pc = .ok (.return_, 1) → W p l e rm_R_layFar s m args below meth c H locs 0 0 Q (F0 m pc ls [])) : ∀ (n : Nat), ∀ (x2 : Int32) (st : RS) (H : Heap) (locs : List Loc) (ls : Array Slot), f_R_layFar_30 n x2 st = some (r, t) → IW D (cwR A cs st) A0 H0 H locs → lv_has ls 3 [(0, .ref (A 0)), (2, .int x2)] → W p l e rm_R_layFar s m args below meth c H locs 0 0 Q (F0 m 30 ls []) := by
  intro n
  induction n with
  | zero => intro x2 st H locs ls h I hl; cases h
  | succ n ih =>
    intro x2 st H locs ls h I hl
    have hx := E.1
    have hb := E.2.1
    rw [f_R_layFar_30] at h
    refine lv_iload_n hx hb d_R_layFar_30 rfl (lv_at hl 1 rfl) ?_
    refine lv_if_lt (tgt := 107) hx hb d_R_layFar_31 (by decide) (fun c1 => ?_) (fun c1 => ?_)
    · have h := ifp c1 h
      cases h
      exact kr _ _ _ _ I d_R_layFar_107
    · have h := ifn c1 h
      refine lv_aload_n hx hb d_R_layFar_34 rfl (lv_at hl 0 rfl) ?_
      refine g_rR_far E I k_R_82 d_R_layFar_35 ?_
      refine lv_iload_n hx hb d_R_layFar_38 rfl (lv_at hl 1 rfl) ?_
      obtain ⟨b2, h⟩ := ck_some h
      refine l_r_far E I b2 d_R_layFar_39 ?_
      refine lv_iconst (v := -1) hx hb d_R_layFar_40 (by decide) ?_
      refine lv_icmp_ne (tgt := 47) hx hb d_R_layFar_41 (by decide) (fun c3 => ?_) (fun c3 => ?_)
      · have h := ifn c3 h
        refine lv_aload_n hx hb d_R_layFar_47 rfl (lv_at hl 0 rfl) ?_
        refine lv_aload_n hx hb d_R_layFar_48 rfl (lv_at hl 0 rfl) ?_
        refine g_rR_partA E I k_R_17 d_R_layFar_49 ?_
        refine lv_iload_n hx hb d_R_layFar_52 rfl (lv_at hl 1 rfl) ?_
        obtain ⟨b4, h⟩ := ck_some h
        refine l_r_partA E I b4 d_R_layFar_53 ?_
        refine lv_aload_n hx hb d_R_layFar_54 rfl (lv_at hl 0 rfl) ?_
        refine g_rR_far E I k_R_82 d_R_layFar_55 ?_
        refine lv_iload_n hx hb d_R_layFar_58 rfl (lv_at hl 1 rfl) ?_
        obtain ⟨b5, h⟩ := ck_some h
        refine l_r_far E I b5 d_R_layFar_59 ?_
        refine lv_iconst (v := 1) hx hb d_R_layFar_60 (by decide) ?_
        refine lv_iadd hx hb d_R_layFar_61 ?_
        obtain ⟨u8, st6, h7, h⟩ := bd_some h
        refine cV (As := [.int (r_partA st x2.toNatClampNeg), .int ((r_far st x2.toNatClampNeg) + (1 : Int32))]) (rest := []) E I hA (k_R_comeTo h7) g_R_200 ⟨rfl, rfl⟩ 0 rfl rfl rfl hl rfl (Nat.le_of_ble_eq_true rfl) ⟨Nat.le_of_ble_eq_true rfl, Nat.le_of_ble_eq_true rfl⟩ ⟨Nat.zero_le _, Nat.zero_le _⟩ d_R_layFar_62 rfl (fun H locs I => ?_)
        refine lv_aload_n hx hb d_R_layFar_65 rfl (lv_at hl 0 rfl) ?_
        refine lv_aload_n hx hb d_R_layFar_66 rfl (lv_at hl 0 rfl) ?_
        refine g_rR_partB E I k_R_20 d_R_layFar_67 ?_
        refine lv_iload_n hx hb d_R_layFar_70 rfl (lv_at hl 1 rfl) ?_
        obtain ⟨b9, h⟩ := ck_some h
        refine l_r_partB E I b9 d_R_layFar_71 ?_
        refine lv_aload_n hx hb d_R_layFar_72 rfl (lv_at hl 0 rfl) ?_
        refine g_rR_far E I k_R_82 d_R_layFar_73 ?_
        refine lv_iload_n hx hb d_R_layFar_76 rfl (lv_at hl 1 rfl) ?_
        obtain ⟨b10, h⟩ := ck_some h
        refine l_r_far E I b10 d_R_layFar_77 ?_
        refine lv_iconst (v := 1) hx hb d_R_layFar_78 (by decide) ?_
        refine lv_iadd hx hb d_R_layFar_79 ?_
        obtain ⟨u13, st11, h12, h⟩ := bd_some h
        refine cV (As := [.int (r_partB st6 x2.toNatClampNeg), .int ((r_far st6 x2.toNatClampNeg) + (1 : Int32))]) (rest := []) E I hA (k_R_comeTo h12) g_R_200 ⟨rfl, rfl⟩ 0 rfl rfl rfl hl rfl (Nat.le_of_ble_eq_true rfl) ⟨Nat.le_of_ble_eq_true rfl, Nat.le_of_ble_eq_true rfl⟩ ⟨Nat.zero_le _, Nat.zero_le _⟩ d_R_layFar_80 rfl (fun H locs I => ?_)
        refine lv_aload_n hx hb d_R_layFar_83 rfl (lv_at hl 0 rfl) ?_
        refine lv_aload_n hx hb d_R_layFar_84 rfl (lv_at hl 0 rfl) ?_
        refine g_rR_partC E I k_R_23 d_R_layFar_85 ?_
        refine lv_iload_n hx hb d_R_layFar_88 rfl (lv_at hl 1 rfl) ?_
        obtain ⟨b14, h⟩ := ck_some h
        refine l_r_partC E I b14 d_R_layFar_89 ?_
        refine lv_aload_n hx hb d_R_layFar_90 rfl (lv_at hl 0 rfl) ?_
        refine g_rR_far E I k_R_82 d_R_layFar_91 ?_
        refine lv_iload_n hx hb d_R_layFar_94 rfl (lv_at hl 1 rfl) ?_
        obtain ⟨b15, h⟩ := ck_some h
        refine l_r_far E I b15 d_R_layFar_95 ?_
        refine lv_iconst (v := 1) hx hb d_R_layFar_96 (by decide) ?_
        refine lv_iadd hx hb d_R_layFar_97 ?_
        obtain ⟨u18, st16, h17, h⟩ := bd_some h
        refine cV (As := [.int (r_partC st11 x2.toNatClampNeg), .int ((r_far st11 x2.toNatClampNeg) + (1 : Int32))]) (rest := []) E I hA (k_R_comeTo h17) g_R_200 ⟨rfl, rfl⟩ 0 rfl rfl rfl hl rfl (Nat.le_of_ble_eq_true rfl) ⟨Nat.le_of_ble_eq_true rfl, Nat.le_of_ble_eq_true rfl⟩ ⟨Nat.zero_le _, Nat.zero_le _⟩ d_R_layFar_98 rfl (fun H locs I => ?_)
        obtain ⟨x2_19, ex2_19⟩ : ∃ y : Int32, y = (x2 + (-1)) := ⟨_, rfl⟩
        have h := nx_k ex2_19 h
        refine lv_iinc (v := x2_19) (lv' := [(2, .int x2_19), (0, .ref (A 0))]) hx hb d_R_layFar_101 hl (k := 1) rfl (by rw [ex2_19]; rfl) (by decide) rfl (fun ls hl => ?_)
        refine lv_goto (tgt := 30) hx hb d_R_layFar_104 (by decide) ?_
        exact ih x2_19 st16 _ _ _ h I (lv_sub hl [1, 0] rfl)
      · have h := ifp c3 h
        refine lv_goto (tgt := 101) hx hb d_R_layFar_44 (by decide) ?_
        obtain ⟨x2_20, ex2_20⟩ : ∃ y : Int32, y = (x2 + (-1)) := ⟨_, rfl⟩
        have h := nx_k ex2_20 h
        refine lv_iinc (v := x2_20) (lv' := [(2, .int x2_20), (0, .ref (A 0))]) hx hb d_R_layFar_101 hl (k := 1) rfl (by rw [ex2_20]; rfl) (by decide) rfl (fun ls hl => ?_)
        refine lv_goto (tgt := 30) hx hb d_R_layFar_104 (by decide) ?_
        exact ih x2_20 st _ _ _ h I (lv_sub hl [1, 0] rfl)
set_option maxHeartbeats 4000000 in
set_option maxRecDepth 100000 in
theorem w_R_layFar_2  {r : Unit} {t : RS} (E : EC R_R c_R_layFar 3 p s m args c D (tyL cs)) (hA : ∀ q, H0.size ≤ q → A0 q) (kr : ∀ (H : Heap) (locs : List Loc) (pc : Nat) (ls : Array Slot), IW D (cwR A cs t) A0 H0 H locs → decode c_R_layFar pc = .ok (.return_, 1) → W p l e rm_R_layFar s m args below meth c H locs 0 0 Q (F0 m pc ls [])) : ∀ (n : Nat), ∀ (x1 : Int32) (x2 : Int32) (st : RS) (H : Heap) (locs : List Loc) (ls : Array Slot), f_R_layFar_2 n x1 x2 st = some (r, t) → IW D (cwR A cs st) A0 H0 H locs → lv_has ls 3 [(0, .ref (A 0)), (1, .int x1), (2, .int x2)] → W p l e rm_R_layFar s m args below meth c H locs 0 0 Q (F0 m 2 ls []) := by
  intro n
  induction n with
  | zero => intro x1 x2 st H locs ls h I hl; cases h
  | succ n ih =>
    intro x1 x2 st H locs ls h I hl
    have hx := E.1
    have hb := E.2.1
    rw [f_R_layFar_2] at h
    refine lv_iload_n hx hb d_R_layFar_2 rfl (lv_at hl 2 rfl) ?_
    refine lv_bipush (v := 64) hx hb d_R_layFar_3 (by decide) ?_
    refine lv_icmp_ge (tgt := 21) hx hb d_R_layFar_5 (by decide) (fun c21 => ?_) (fun c21 => ?_)
    · have h := ifp c21 h
      refine lv_aload_n hx hb d_R_layFar_21 rfl (lv_at hl 0 rfl) ?_
      refine g_rR_far E I k_R_82 d_R_layFar_22 ?_
      refine lv_iload_n hx hb d_R_layFar_25 rfl (lv_at hl 1 rfl) ?_
      refine lv_iconst (v := 0) hx hb d_R_layFar_26 (by decide) ?_
      obtain ⟨b22, h⟩ := ck_some h
      obtain ⟨st23, est23⟩ : ∃ y : RS, y = (s_r_far st x1.toNatClampNeg (0 : Int32)) := ⟨_, rfl⟩
      have h := nx_k est23 h
      refine p_r_far E I b22 est23 d_R_layFar_27 (fun H locs I => ?_)
      refine lv_iload_n hx hb d_R_layFar_28 rfl (lv_at hl 1 rfl) ?_
      refine lv_istore_n (lv' := [(2, .int x1), (0, .ref (A 0)), (1, .int x1)]) hx hb d_R_layFar_29 rfl hl (by decide) rfl (fun ls hl => ?_)
      exact w_R_layFar_30 E hA kr FU x1 st23 _ _ _ h I (lv_sub hl [1, 0] rfl)
    · have h := ifn c21 h
      refine lv_aload_n hx hb d_R_layFar_8 rfl (lv_at hl 0 rfl) ?_
      refine g_rR_far E I k_R_82 d_R_layFar_9 ?_
      refine lv_iload_n hx hb d_R_layFar_12 rfl (lv_at hl 2 rfl) ?_
      refine lv_iconst (v := -1) hx hb d_R_layFar_13 (by decide) ?_
      obtain ⟨b24, h⟩ := ck_some h
      obtain ⟨st25, est25⟩ : ∃ y : RS, y = (s_r_far st x2.toNatClampNeg (-1 : Int32)) := ⟨_, rfl⟩
      have h := nx_k est25 h
      refine p_r_far E I b24 est25 d_R_layFar_14 (fun H locs I => ?_)
      obtain ⟨x2_26, ex2_26⟩ : ∃ y : Int32, y = (x2 + 1) := ⟨_, rfl⟩
      have h := nx_k ex2_26 h
      refine lv_iinc (v := x2_26) (lv' := [(2, .int x2_26), (0, .ref (A 0)), (1, .int x1)]) hx hb d_R_layFar_15 hl (k := 2) rfl (by rw [ex2_26]; rfl) (by decide) rfl (fun ls hl => ?_)
      refine lv_goto (tgt := 2) hx hb d_R_layFar_18 (by decide) ?_
      exact ih x1 x2_26 st25 _ _ _ h I (lv_sub hl [1, 2, 0] rfl)
set_option maxHeartbeats 4000000 in
set_option maxRecDepth 100000 in
theorem w_R_layFar  {r : Unit} {t : RS} (E : EC R_R c_R_layFar 3 p s m args c D (tyL cs)) (hA : ∀ q, H0.size ≤ q → A0 q) (kr : ∀ (H : Heap) (locs : List Loc) (pc : Nat) (ls : Array Slot), IW D (cwR A cs t) A0 H0 H locs → decode c_R_layFar pc = .ok (.return_, 1) → W p l e rm_R_layFar s m args below meth c H locs 0 0 Q (F0 m pc ls [])) : ∀ (x1 : Int32) (st : RS) (H : Heap) (locs : List Loc) (ls : Array Slot), f_R_layFar x1 st = some (r, t) → IW D (cwR A cs st) A0 H0 H locs → lv_has ls 3 [(0, .ref (A 0)), (1, .int x1)] → W p l e rm_R_layFar s m args below meth c H locs 0 0 Q (F0 m 0 ls []) := by
  intro x1 st H locs ls h I hl
  have hx := E.1
  have hb := E.2.1
  rw [f_R_layFar] at h
  refine lv_iconst (v := 0) hx hb d_R_layFar_0 (by decide) ?_
  refine lv_istore_n (lv' := [(2, .int (0 : Int32)), (0, .ref (A 0)), (1, .int x1)]) hx hb d_R_layFar_1 rfl hl (by decide) rfl (fun ls hl => ?_)
  exact w_R_layFar_2 E hA kr FU x1 (0 : Int32) st _ _ _ h I (lv_sub hl [1, 2, 0] rfl)
set_option maxHeartbeats 4000000 in
set_option maxRecDepth 100000 in
theorem k_R_layFar {x1 : Int32} {st t : RS} {r : Unit} (h : f_R_layFar x1 st = some (r, t)) : Cn l y_R_layFar c_R_layFar 3 none rm_R_layFar D (tyL cs) (cwR A cs st) (cwR A cs t) [.ref (A 0), .int x1] (none) := by
  refine cn_intro (by decide) (Nat.le_of_ble_eq_true rfl) ?_
  intro p e s m below meth c A0 Q ls E hr hlk hA hA0 hQ I hl
  exact w_R_layFar E hA (rt_v E hr hlk hA0 hQ) x1 st _ _ _ h I (lv_sub hl [0, 1] rfl)
abbrev rm_R_layList : Room := { frames := 2, cells := 0, slots := 0, locals := 44 }
noncomputable def f_R_layList_23 (k14 : Int32 → Int32 → RS → Option (Unit × RS)) : Nat → Int32 → Int32 → Int32 → RS → Option (Unit × RS)
  | 0, _, _, _, _ => none
  | n + 1, x2, x3, x4, st =>
    if (r_tests st) ≤ x4 then (
      nx (x3 + 1) fun x3_2 =>
      k14 x2 x3_2 st
    ) else (
      ck x4 24 <|
      if (r_passes st x4.toNatClampNeg) = (1 : Int32) then (
        ck (((64 : Int32) * x4) + x2) 1536 <|
        if (r_covers st (((64 : Int32) * x4) + x2).toNatClampNeg) = 0 then (
          nx (x4 + 1) fun x4_19 =>
          f_R_layList_23 k14 n x2 x3 x4_19 st
        ) else (
          ck x4 24 <|
          bd (f_R_layFar (r_root st x4.toNatClampNeg) st) fun _ st9 =>
          ck x2 64 <|
          if (r_far st9 x2.toNatClampNeg) = x3 then (
            ck (r_listed st9) 24 <|
            nx (s_r_list st9 (r_listed st9).toNatClampNeg x4) fun st15 =>
            nx (s_r_listed st15 ((r_listed st15) + (1 : Int32))) fun st16 =>
            nx (x4 + 1) fun x4_17 =>
            f_R_layList_23 k14 n x2 x3 x4_17 st16
          ) else (
            nx (x4 + 1) fun x4_18 =>
            f_R_layList_23 k14 n x2 x3 x4_18 st9
          )
        )
      ) else (
        nx (x4 + 1) fun x4_5 =>
        f_R_layList_23 k14 n x2 x3 x4_5 st
      )
    )
noncomputable def f_R_layList_14 : Nat → Int32 → Int32 → RS → Option (Unit × RS)
  | 0, _, _, _ => none
  | n + 1, x2, x3, st =>
    if (64 : Int32) ≤ x3 then (
      some ((), st)
    ) else (
      f_R_layList_23 (f_R_layList_14 n) FU x2 x3 (0 : Int32) st
    )
noncomputable def f_R_layList (x1 : Int32) (st : RS) : Option (Unit × RS) :=
  nx (s_r_listed st (0 : Int32)) fun st21 =>
  ck x1 100 <|
  nx (r_nodeM st21 x1.toNatClampNeg) fun x2_23 =>
  f_R_layList_14 FU x2_23 (0 : Int32) st21
set_option maxHeartbeats 4000000 in
set_option maxRecDepth 100000 in
theorem w_R_layList_23  {r : Unit} {t : RS} (E : EC R_R c_R_layList 5 p s m args c D (tyL cs)) (hA : ∀ q, H0.size ≤ q → A0 q) (kr : ∀ (H : Heap) (locs : List Loc) (pc : Nat) (ls : Array Slot), IW D (cwR A cs t) A0 H0 H locs → decode c_R_layList pc = .ok (.return_, 1) → W p l e rm_R_layList s m args below meth c H locs 0 0 Q (F0 m pc ls [])) {k14 : Int32 → Int32 → RS → Option (Unit × RS)} (hk14 : ∀ (x2 : Int32) (x3 : Int32) (st : RS) (H : Heap) (locs : List Loc) (ls : Array Slot), k14 x2 x3 st = some (r, t) → IW D (cwR A cs st) A0 H0 H locs → lv_has ls 5 [(0, .ref (A 0)), (2, .int x2), (3, .int x3)] → W p l e rm_R_layList s m args below meth c H locs 0 0 Q (F0 m 14 ls [])) : ∀ (n : Nat), ∀ (x2 : Int32) (x3 : Int32) (x4 : Int32) (st : RS) (H : Heap) (locs : List Loc) (ls : Array Slot), f_R_layList_23 k14 n x2 x3 x4 st = some (r, t) → IW D (cwR A cs st) A0 H0 H locs → lv_has ls 5 [(0, .ref (A 0)), (2, .int x2), (3, .int x3), (4, .int x4)] → W p l e rm_R_layList s m args below meth c H locs 0 0 Q (F0 m 23 ls []) := by
  intro n
  induction n with
  | zero => intro x2 x3 x4 st H locs ls h I hl; cases h
  | succ n ih =>
    intro x2 x3 x4 st H locs ls h I hl
    have hx := E.1
    have hb := E.2.1
    rw [f_R_layList_23] at h
    refine lv_iload hx hb d_R_layList_23 (lv_at hl 3 rfl) ?_
    refine lv_aload_n hx hb d_R_layList_25 rfl (lv_at hl 0 rfl) ?_
    refine g_r_tests E I k_R_98 d_R_layList_26 ?_
    refine lv_icmp_ge (tgt := 112) hx hb d_R_layList_29 (by decide) (fun c1 => ?_) (fun c1 => ?_)
    · have h := ifp c1 h
      obtain ⟨x3_2, ex3_2⟩ : ∃ y : Int32, y = (x3 + 1) := ⟨_, rfl⟩
      have h := nx_k ex3_2 h
      refine lv_iinc (v := x3_2) (lv' := [(3, .int x3_2), (0, .ref (A 0)), (2, .int x2), (4, .int x4)]) hx hb d_R_layList_112 hl (k := 2) rfl (by rw [ex3_2]; rfl) (by decide) rfl (fun ls hl => ?_)
      refine lv_goto (tgt := 14) hx hb d_R_layList_115 (by decide) ?_
      exact hk14 x2 x3_2 st _ _ _ h I (lv_sub hl [1, 2, 0] rfl)
    · have h := ifn c1 h
      refine lv_aload_n hx hb d_R_layList_32 rfl (lv_at hl 0 rfl) ?_
      refine g_rR_passes E I k_R_35 d_R_layList_33 ?_
      refine lv_iload hx hb d_R_layList_36 (lv_at hl 3 rfl) ?_
      obtain ⟨b3, h⟩ := ck_some h
      refine l_r_passes E I b3 d_R_layList_38 ?_
      refine lv_iconst (v := 1) hx hb d_R_layList_39 (by decide) ?_
      refine lv_icmp_ne (tgt := 106) hx hb d_R_layList_40 (by decide) (fun c4 => ?_) (fun c4 => ?_)
      · have h := ifn c4 h
        obtain ⟨x4_5, ex4_5⟩ : ∃ y : Int32, y = (x4 + 1) := ⟨_, rfl⟩
        have h := nx_k ex4_5 h
        refine lv_iinc (v := x4_5) (lv' := [(4, .int x4_5), (0, .ref (A 0)), (2, .int x2), (3, .int x3)]) hx hb d_R_layList_106 hl (k := 3) rfl (by rw [ex4_5]; rfl) (by decide) rfl (fun ls hl => ?_)
        refine lv_goto (tgt := 23) hx hb d_R_layList_109 (by decide) ?_
        exact ih x2 x3 x4_5 st _ _ _ h I (lv_sub hl [1, 2, 3, 0] rfl)
      · have h := ifp c4 h
        refine lv_aload_n hx hb d_R_layList_43 rfl (lv_at hl 0 rfl) ?_
        refine g_rR_covers E I k_R_41 d_R_layList_44 ?_
        refine lv_bipush (v := 64) hx hb d_R_layList_47 (by decide) ?_
        refine lv_iload hx hb d_R_layList_49 (lv_at hl 3 rfl) ?_
        refine lv_imul hx hb d_R_layList_51 ?_
        refine lv_iload_n hx hb d_R_layList_52 rfl (lv_at hl 1 rfl) ?_
        refine lv_iadd hx hb d_R_layList_53 ?_
        obtain ⟨b6, h⟩ := ck_some h
        refine l_r_covers E I b6 d_R_layList_54 ?_
        refine lv_if_ne (tgt := 61) hx hb d_R_layList_55 (by decide) (fun c7 => ?_) (fun c7 => ?_)
        · have h := ifn c7 h
          refine lv_aload_n hx hb d_R_layList_61 rfl (lv_at hl 0 rfl) ?_
          refine lv_aload_n hx hb d_R_layList_62 rfl (lv_at hl 0 rfl) ?_
          refine g_rR_root E I k_R_26 d_R_layList_63 ?_
          refine lv_iload hx hb d_R_layList_66 (lv_at hl 3 rfl) ?_
          obtain ⟨b8, h⟩ := ck_some h
          refine l_r_root E I b8 d_R_layList_68 ?_
          obtain ⟨u11, st9, h10, h⟩ := bd_some h
          refine cV (As := [.int (r_root st x4.toNatClampNeg)]) (rest := []) E I hA (k_R_layFar h10) g_R_206 ⟨rfl, rfl⟩ 0 rfl rfl rfl hl rfl (Nat.le_of_ble_eq_true rfl) ⟨Nat.le_of_ble_eq_true rfl, Nat.le_of_ble_eq_true rfl⟩ ⟨Nat.zero_le _, Nat.zero_le _⟩ d_R_layList_69 rfl (fun H locs I => ?_)
          refine lv_aload_n hx hb d_R_layList_72 rfl (lv_at hl 0 rfl) ?_
          refine g_rR_far E I k_R_82 d_R_layList_73 ?_
          refine lv_iload_n hx hb d_R_layList_76 rfl (lv_at hl 1 rfl) ?_
          obtain ⟨b12, h⟩ := ck_some h
          refine l_r_far E I b12 d_R_layList_77 ?_
          refine lv_iload_n hx hb d_R_layList_78 rfl (lv_at hl 2 rfl) ?_
          refine lv_icmp_eq (tgt := 85) hx hb d_R_layList_79 (by decide) (fun c13 => ?_) (fun c13 => ?_)
          · have h := ifp c13 h
            refine lv_aload_n hx hb d_R_layList_85 rfl (lv_at hl 0 rfl) ?_
            refine g_rR_list E I k_R_85 d_R_layList_86 ?_
            refine lv_aload_n hx hb d_R_layList_89 rfl (lv_at hl 0 rfl) ?_
            refine g_r_listed E I k_R_203 d_R_layList_90 ?_
            refine lv_iload hx hb d_R_layList_93 (lv_at hl 3 rfl) ?_
            obtain ⟨b14, h⟩ := ck_some h
            obtain ⟨st15, est15⟩ : ∃ y : RS, y = (s_r_list st9 (r_listed st9).toNatClampNeg x4) := ⟨_, rfl⟩
            have h := nx_k est15 h
            refine p_r_list E I b14 est15 d_R_layList_95 (fun H locs I => ?_)
            refine lv_aload_n hx hb d_R_layList_96 rfl (lv_at hl 0 rfl) ?_
            refine lv_dup hx hb d_R_layList_97 rfl ?_
            refine g_r_listed E I k_R_203 d_R_layList_98 ?_
            refine lv_iconst (v := 1) hx hb d_R_layList_101 (by decide) ?_
            refine lv_iadd hx hb d_R_layList_102 ?_
            obtain ⟨st16, est16⟩ : ∃ y : RS, y = (s_r_listed st15 ((r_listed st15) + (1 : Int32))) := ⟨_, rfl⟩
            have h := nx_k est16 h
            refine p_r_listed E I est16 k_R_203 d_R_layList_103 (fun H locs I => ?_)
            obtain ⟨x4_17, ex4_17⟩ : ∃ y : Int32, y = (x4 + 1) := ⟨_, rfl⟩
            have h := nx_k ex4_17 h
            refine lv_iinc (v := x4_17) (lv' := [(4, .int x4_17), (0, .ref (A 0)), (2, .int x2), (3, .int x3)]) hx hb d_R_layList_106 hl (k := 3) rfl (by rw [ex4_17]; rfl) (by decide) rfl (fun ls hl => ?_)
            refine lv_goto (tgt := 23) hx hb d_R_layList_109 (by decide) ?_
            exact ih x2 x3 x4_17 st16 _ _ _ h I (lv_sub hl [1, 2, 3, 0] rfl)
          · have h := ifn c13 h
            refine lv_goto (tgt := 106) hx hb d_R_layList_82 (by decide) ?_
            obtain ⟨x4_18, ex4_18⟩ : ∃ y : Int32, y = (x4 + 1) := ⟨_, rfl⟩
            have h := nx_k ex4_18 h
            refine lv_iinc (v := x4_18) (lv' := [(4, .int x4_18), (0, .ref (A 0)), (2, .int x2), (3, .int x3)]) hx hb d_R_layList_106 hl (k := 3) rfl (by rw [ex4_18]; rfl) (by decide) rfl (fun ls hl => ?_)
            refine lv_goto (tgt := 23) hx hb d_R_layList_109 (by decide) ?_
            exact ih x2 x3 x4_18 st9 _ _ _ h I (lv_sub hl [1, 2, 3, 0] rfl)
        · have h := ifp c7 h
          refine lv_goto (tgt := 106) hx hb d_R_layList_58 (by decide) ?_
          obtain ⟨x4_19, ex4_19⟩ : ∃ y : Int32, y = (x4 + 1) := ⟨_, rfl⟩
          have h := nx_k ex4_19 h
          refine lv_iinc (v := x4_19) (lv' := [(4, .int x4_19), (0, .ref (A 0)), (2, .int x2), (3, .int x3)]) hx hb d_R_layList_106 hl (k := 3) rfl (by rw [ex4_19]; rfl) (by decide) rfl (fun ls hl => ?_)
          refine lv_goto (tgt := 23) hx hb d_R_layList_109 (by decide) ?_
          exact ih x2 x3 x4_19 st _ _ _ h I (lv_sub hl [1, 2, 3, 0] rfl)
set_option maxHeartbeats 4000000 in
set_option maxRecDepth 100000 in
theorem w_R_layList_14  {r : Unit} {t : RS} (E : EC R_R c_R_layList 5 p s m args c D (tyL cs)) (hA : ∀ q, H0.size ≤ q → A0 q) (kr : ∀ (H : Heap) (locs : List Loc) (pc : Nat) (ls : Array Slot), IW D (cwR A cs t) A0 H0 H locs → decode c_R_layList pc = .ok (.return_, 1) → W p l e rm_R_layList s m args below meth c H locs 0 0 Q (F0 m pc ls [])) : ∀ (n : Nat), ∀ (x2 : Int32) (x3 : Int32) (st : RS) (H : Heap) (locs : List Loc) (ls : Array Slot), f_R_layList_14 n x2 x3 st = some (r, t) → IW D (cwR A cs st) A0 H0 H locs → lv_has ls 5 [(0, .ref (A 0)), (2, .int x2), (3, .int x3)] → W p l e rm_R_layList s m args below meth c H locs 0 0 Q (F0 m 14 ls []) := by
  intro n
  induction n with
  | zero => intro x2 x3 st H locs ls h I hl; cases h
  | succ n ih =>
    intro x2 x3 st H locs ls h I hl
    have hx := E.1
    have hb := E.2.1
    rw [f_R_layList_14] at h
    refine lv_iload_n hx hb d_R_layList_14 rfl (lv_at hl 2 rfl) ?_
    refine lv_bipush (v := 64) hx hb d_R_layList_15 (by decide) ?_
    refine lv_icmp_ge (tgt := 118) hx hb d_R_layList_17 (by decide) (fun c20 => ?_) (fun c20 => ?_)
    · have h := ifp c20 h
      cases h
      exact kr _ _ _ _ I d_R_layList_118
    · have h := ifn c20 h
      refine lv_iconst (v := 0) hx hb d_R_layList_20 (by decide) ?_
      refine lv_istore (lv' := [(4, .int (0 : Int32)), (0, .ref (A 0)), (2, .int x2), (3, .int x3)]) hx hb d_R_layList_21 hl (by decide) rfl (fun ls hl => ?_)
      exact w_R_layList_23 E hA kr ih FU x2 x3 (0 : Int32) st _ _ _ h I (lv_sub hl [1, 2, 3, 0] rfl)
set_option maxHeartbeats 4000000 in
set_option maxRecDepth 100000 in
theorem w_R_layList  {r : Unit} {t : RS} (E : EC R_R c_R_layList 5 p s m args c D (tyL cs)) (hA : ∀ q, H0.size ≤ q → A0 q) (kr : ∀ (H : Heap) (locs : List Loc) (pc : Nat) (ls : Array Slot), IW D (cwR A cs t) A0 H0 H locs → decode c_R_layList pc = .ok (.return_, 1) → W p l e rm_R_layList s m args below meth c H locs 0 0 Q (F0 m pc ls [])) : ∀ (x1 : Int32) (st : RS) (H : Heap) (locs : List Loc) (ls : Array Slot), f_R_layList x1 st = some (r, t) → IW D (cwR A cs st) A0 H0 H locs → lv_has ls 5 [(0, .ref (A 0)), (1, .int x1)] → W p l e rm_R_layList s m args below meth c H locs 0 0 Q (F0 m 0 ls []) := by
  intro x1 st H locs ls h I hl
  have hx := E.1
  have hb := E.2.1
  rw [f_R_layList] at h
  refine lv_aload_n hx hb d_R_layList_0 rfl (lv_at hl 0 rfl) ?_
  refine lv_iconst (v := 0) hx hb d_R_layList_1 (by decide) ?_
  obtain ⟨st21, est21⟩ : ∃ y : RS, y = (s_r_listed st (0 : Int32)) := ⟨_, rfl⟩
  have h := nx_k est21 h
  refine p_r_listed E I est21 k_R_203 d_R_layList_2 (fun H locs I => ?_)
  refine lv_aload_n hx hb d_R_layList_5 rfl (lv_at hl 0 rfl) ?_
  refine g_rR_nodeM E I k_R_51 d_R_layList_6 ?_
  refine lv_iload_n hx hb d_R_layList_9 rfl (lv_at hl 1 rfl) ?_
  obtain ⟨b22, h⟩ := ck_some h
  refine l_r_nodeM E I b22 d_R_layList_10 ?_
  refine lv_topi (fun x2_23 ex2_23 => ?_)
  have h := nx_k ex2_23 h
  refine lv_istore_n (lv' := [(2, .int x2_23), (0, .ref (A 0)), (1, .int x1)]) hx hb d_R_layList_11 rfl hl (by decide) rfl (fun ls hl => ?_)
  refine lv_iconst (v := 0) hx hb d_R_layList_12 (by decide) ?_
  refine lv_istore_n (lv' := [(3, .int (0 : Int32)), (2, .int x2_23), (0, .ref (A 0)), (1, .int x1)]) hx hb d_R_layList_13 rfl hl (by decide) rfl (fun ls hl => ?_)
  exact w_R_layList_14 E hA kr FU x2_23 (0 : Int32) st21 _ _ _ h I (lv_sub hl [2, 1, 0] rfl)
set_option maxHeartbeats 4000000 in
set_option maxRecDepth 100000 in
theorem k_R_layList {x1 : Int32} {st t : RS} {r : Unit} (h : f_R_layList x1 st = some (r, t)) : Cn l y_R_layList c_R_layList 5 none rm_R_layList D (tyL cs) (cwR A cs st) (cwR A cs t) [.ref (A 0), .int x1] (none) := by
  refine cn_intro (by decide) (Nat.le_of_ble_eq_true rfl) ?_
  intro p e s m below meth c A0 Q ls E hr hlk hA hA0 hQ I hl
  exact w_R_layList E hA (rt_v E hr hlk hA0 hQ) x1 st _ _ _ h I (lv_sub hl [0, 1] rfl)
abbrev rm_R_run : Room := { frames := 5, cells := 0, slots := 0, locals := 120 }
noncomputable def f_R_run_143 (k63 : Int32 → Int32 → Int32 → RS → Option (Int32 × RS)) (x1 : Int32) (x2 : Int32) (x3 : Int32) (x4 : Int32) (s1 : Int32) (s2 : Int32) (st : RS) : Option (Int32 × RS) :=
  ck s1 100 <|
  nx (s_r_outcome st s1.toNatClampNeg s2) fun st2 =>
  ck x1 100 <|
  if (r_outcome st2 x1.toNatClampNeg) ≤ 0 then (
    ck x1 100 <|
    nx (s_r_ender st2 x1.toNatClampNeg (-1 : Int32)) fun st6 =>
    nx (x3 + 1) fun x3_7 =>
    k63 x1 x2 x3_7 st6
  ) else (
    ck x1 100 <|
    nx (s_r_ender st2 x1.toNatClampNeg x4) fun st9 =>
    nx (x3 + 1) fun x3_10 =>
    k63 x1 x2 x3_10 st9
  )
noncomputable def f_R_run_63 : Nat → Int32 → Int32 → Int32 → RS → Option (Int32 × RS)
  | 0, _, _, _, _ => none
  | n + 1, x1, x2, x3, st =>
    if (r_listed st) ≤ x3 then (
      ck x1 100 <|
      some ((r_outcome st x1.toNatClampNeg), st)
    ) else (
      ck x1 100 <|
      if (r_outcome st x1.toNatClampNeg) = 0 then (
        ck x3 24 <|
        nx (r_list st x3.toNatClampNeg) fun x4_17 =>
        ck x4_17 24 <|
        ck x4_17 24 <|
        bd (f_R_workOut (r_root st x4_17.toNatClampNeg) (r_input st x4_17.toNatClampNeg) x2 st) fun _ st20 =>
        if (r_isCut st20) = 0 then (
          ck x4_17 24 <|
          if (r_given st20) = (r_wanted st20 x4_17.toNatClampNeg) then (
            f_R_run_143 (f_R_run_63 n) x1 x2 x3 x4_17 x1 (0 : Int32) st20
          ) else (
            f_R_run_143 (f_R_run_63 n) x1 x2 x3 x4_17 x1 (1 : Int32) st20
          )
        ) else (
          f_R_run_143 (f_R_run_63 n) x1 x2 x3 x4_17 x1 (2 : Int32) st20
        )
      ) else (
        ck x1 100 <|
        some ((r_outcome st x1.toNatClampNeg), st)
      )
    )
noncomputable def f_R_run (x1 : Int32) (x2 : Int32) (st : RS) : Option (Int32 × RS) :=
  bd (f_R_isMutant x1 st) fun r27 st26 =>
  if r27 = 0 then (
    some ((-1 : Int32), st26)
  ) else (
    bd (f_R_in (x2.toInt64) (1 : Int64) (5000 : Int64) st26) fun r31 st30 =>
    if r31 = 0 then (
      some ((-1 : Int32), st30)
    ) else (
      bd (f_R_layList x1 st30) fun _ st34 =>
      ck x1 100 <|
      nx (s_r_outcome st34 x1.toNatClampNeg (0 : Int32)) fun st38 =>
      ck x1 100 <|
      nx (s_r_ender st38 x1.toNatClampNeg (-1 : Int32)) fun st40 =>
      ck x1 100 <|
      nx (s_r_changedKind st40 (r_kindM st40 x1.toNatClampNeg)) fun st42 =>
      ck x1 100 <|
      nx (s_r_changedNode st42 (r_nodeM st42 x1.toNatClampNeg)) fun st44 =>
      f_R_run_63 FU x1 x2 (0 : Int32) st44
    )
  )
set_option maxHeartbeats 4000000 in
set_option maxRecDepth 100000 in
theorem w_R_run_143  {r : Int32} {t : RS} (E : EC R_R c_R_run 5 p s m args c D (tyL cs)) (hA : ∀ q, H0.size ≤ q → A0 q) (kr : ∀ (H : Heap) (locs : List Loc) (pc : Nat) (ls : Array Slot), IW D (cwR A cs t) A0 H0 H locs → decode c_R_run pc = .ok (.ireturn, 1) → W p l e rm_R_run s m args below meth c H locs 0 0 Q (F0 m pc ls [.int r])) {k63 : Int32 → Int32 → Int32 → RS → Option (Int32 × RS)} (hk63 : ∀ (x1 : Int32) (x2 : Int32) (x3 : Int32) (st : RS) (H : Heap) (locs : List Loc) (ls : Array Slot), k63 x1 x2 x3 st = some (r, t) → IW D (cwR A cs st) A0 H0 H locs → lv_has ls 5 [(0, .ref (A 0)), (1, .int x1), (2, .int x2), (3, .int x3)] → W p l e rm_R_run s m args below meth c H locs 0 0 Q (F0 m 63 ls [])) : ∀ (x1 : Int32) (x2 : Int32) (x3 : Int32) (x4 : Int32) (s1 : Int32) (s2 : Int32) (st : RS) (H : Heap) (locs : List Loc) (ls : Array Slot), f_R_run_143 k63 x1 x2 x3 x4 s1 s2 st = some (r, t) → IW D (cwR A cs st) A0 H0 H locs → lv_has ls 5 [(0, .ref (A 0)), (1, .int x1), (2, .int x2), (3, .int x3), (4, .int x4)] → W p l e rm_R_run s m args below meth c H locs 0 0 Q (F0 m 143 ls [.int s2, .int s1, .ref (A 15)]) := by
  intro x1 x2 x3 x4 s1 s2 st H locs ls h I hl
  have hx := E.1
  have hb := E.2.1
  rw [f_R_run_143] at h
  obtain ⟨b1, h⟩ := ck_some h
  obtain ⟨st2, est2⟩ : ∃ y : RS, y = (s_r_outcome st s1.toNatClampNeg s2) := ⟨_, rfl⟩
  have h := nx_k est2 h
  refine p_r_outcome E I b1 est2 d_R_run_143 (fun H locs I => ?_)
  refine lv_aload_n hx hb d_R_run_144 rfl (lv_at hl 0 rfl) ?_
  refine g_rR_ender E I k_R_57 d_R_run_145 ?_
  refine lv_iload_n hx hb d_R_run_148 rfl (lv_at hl 1 rfl) ?_
  refine lv_aload_n hx hb d_R_run_149 rfl (lv_at hl 0 rfl) ?_
  refine g_rR_outcome E I k_R_54 d_R_run_150 ?_
  refine lv_iload_n hx hb d_R_run_153 rfl (lv_at hl 1 rfl) ?_
  obtain ⟨b3, h⟩ := ck_some h
  refine l_r_outcome E I b3 d_R_run_154 ?_
  refine lv_if_le (tgt := 163) hx hb d_R_run_155 (by decide) (fun c4 => ?_) (fun c4 => ?_)
  · have h := ifp c4 h
    refine lv_iconst (v := -1) hx hb d_R_run_163 (by decide) ?_
    obtain ⟨b5, h⟩ := ck_some h
    obtain ⟨st6, est6⟩ : ∃ y : RS, y = (s_r_ender st2 x1.toNatClampNeg (-1 : Int32)) := ⟨_, rfl⟩
    have h := nx_k est6 h
    refine p_r_ender E I b5 est6 d_R_run_164 (fun H locs I => ?_)
    obtain ⟨x3_7, ex3_7⟩ : ∃ y : Int32, y = (x3 + 1) := ⟨_, rfl⟩
    have h := nx_k ex3_7 h
    refine lv_iinc (v := x3_7) (lv' := [(3, .int x3_7), (0, .ref (A 0)), (1, .int x1), (2, .int x2), (4, .int x4)]) hx hb d_R_run_165 hl (k := 3) rfl (by rw [ex3_7]; rfl) (by decide) rfl (fun ls hl => ?_)
    refine lv_goto (tgt := 63) hx hb d_R_run_168 (by decide) ?_
    exact hk63 x1 x2 x3_7 st6 _ _ _ h I (lv_sub hl [1, 2, 3, 0] rfl)
  · have h := ifn c4 h
    refine lv_iload hx hb d_R_run_158 (lv_at hl 4 rfl) ?_
    refine lv_goto (tgt := 164) hx hb d_R_run_160 (by decide) ?_
    obtain ⟨b8, h⟩ := ck_some h
    obtain ⟨st9, est9⟩ : ∃ y : RS, y = (s_r_ender st2 x1.toNatClampNeg x4) := ⟨_, rfl⟩
    have h := nx_k est9 h
    refine p_r_ender E I b8 est9 d_R_run_164 (fun H locs I => ?_)
    obtain ⟨x3_10, ex3_10⟩ : ∃ y : Int32, y = (x3 + 1) := ⟨_, rfl⟩
    have h := nx_k ex3_10 h
    refine lv_iinc (v := x3_10) (lv' := [(3, .int x3_10), (0, .ref (A 0)), (1, .int x1), (2, .int x2), (4, .int x4)]) hx hb d_R_run_165 hl (k := 3) rfl (by rw [ex3_10]; rfl) (by decide) rfl (fun ls hl => ?_)
    refine lv_goto (tgt := 63) hx hb d_R_run_168 (by decide) ?_
    exact hk63 x1 x2 x3_10 st9 _ _ _ h I (lv_sub hl [1, 2, 3, 0] rfl)
set_option maxHeartbeats 4000000 in
set_option maxRecDepth 100000 in
theorem w_R_run_63  {r : Int32} {t : RS} (E : EC R_R c_R_run 5 p s m args c D (tyL cs)) (hA : ∀ q, H0.size ≤ q → A0 q) (kr : ∀ (H : Heap) (locs : List Loc) (pc : Nat) (ls : Array Slot), IW D (cwR A cs t) A0 H0 H locs → decode c_R_run pc = .ok (.ireturn, 1) → W p l e rm_R_run s m args below meth c H locs 0 0 Q (F0 m pc ls [.int r])) : ∀ (n : Nat), ∀ (x1 : Int32) (x2 : Int32) (x3 : Int32) (st : RS) (H : Heap) (locs : List Loc) (ls : Array Slot), f_R_run_63 n x1 x2 x3 st = some (r, t) → IW D (cwR A cs st) A0 H0 H locs → lv_has ls 5 [(0, .ref (A 0)), (1, .int x1), (2, .int x2), (3, .int x3)] → W p l e rm_R_run s m args below meth c H locs 0 0 Q (F0 m 63 ls []) := by
  intro n
  induction n with
  | zero => intro x1 x2 x3 st H locs ls h I hl; cases h
  | succ n ih =>
    intro x1 x2 x3 st H locs ls h I hl
    have hx := E.1
    have hb := E.2.1
    rw [f_R_run_63] at h
    refine lv_iload_n hx hb d_R_run_63 rfl (lv_at hl 3 rfl) ?_
    refine lv_aload_n hx hb d_R_run_64 rfl (lv_at hl 0 rfl) ?_
    refine g_r_listed E I k_R_203 d_R_run_65 ?_
    refine lv_icmp_ge (tgt := 171) hx hb d_R_run_68 (by decide) (fun c11 => ?_) (fun c11 => ?_)
    · have h := ifp c11 h
      refine lv_aload_n hx hb d_R_run_171 rfl (lv_at hl 0 rfl) ?_
      refine g_rR_outcome E I k_R_54 d_R_run_172 ?_
      refine lv_iload_n hx hb d_R_run_175 rfl (lv_at hl 1 rfl) ?_
      obtain ⟨b12, h⟩ := ck_some h
      refine l_r_outcome E I b12 d_R_run_176 ?_
      cases h
      exact kr _ _ _ _ I d_R_run_177
    · have h := ifn c11 h
      refine lv_aload_n hx hb d_R_run_71 rfl (lv_at hl 0 rfl) ?_
      refine g_rR_outcome E I k_R_54 d_R_run_72 ?_
      refine lv_iload_n hx hb d_R_run_75 rfl (lv_at hl 1 rfl) ?_
      obtain ⟨b13, h⟩ := ck_some h
      refine l_r_outcome E I b13 d_R_run_76 ?_
      refine lv_if_ne (tgt := 171) hx hb d_R_run_77 (by decide) (fun c14 => ?_) (fun c14 => ?_)
      · have h := ifn c14 h
        refine lv_aload_n hx hb d_R_run_171 rfl (lv_at hl 0 rfl) ?_
        refine g_rR_outcome E I k_R_54 d_R_run_172 ?_
        refine lv_iload_n hx hb d_R_run_175 rfl (lv_at hl 1 rfl) ?_
        obtain ⟨b15, h⟩ := ck_some h
        refine l_r_outcome E I b15 d_R_run_176 ?_
        cases h
        exact kr _ _ _ _ I d_R_run_177
      · have h := ifp c14 h
        refine lv_aload_n hx hb d_R_run_80 rfl (lv_at hl 0 rfl) ?_
        refine g_rR_list E I k_R_85 d_R_run_81 ?_
        refine lv_iload_n hx hb d_R_run_84 rfl (lv_at hl 3 rfl) ?_
        obtain ⟨b16, h⟩ := ck_some h
        refine l_r_list E I b16 d_R_run_85 ?_
        refine lv_topi (fun x4_17 ex4_17 => ?_)
        have h := nx_k ex4_17 h
        refine lv_istore (lv' := [(4, .int x4_17), (0, .ref (A 0)), (1, .int x1), (2, .int x2), (3, .int x3)]) hx hb d_R_run_86 hl (by decide) rfl (fun ls hl => ?_)
        refine lv_aload_n hx hb d_R_run_88 rfl (lv_at hl 1 rfl) ?_
        refine lv_aload_n hx hb d_R_run_89 rfl (lv_at hl 1 rfl) ?_
        refine g_rR_root E I k_R_26 d_R_run_90 ?_
        refine lv_iload hx hb d_R_run_93 (lv_at hl 0 rfl) ?_
        obtain ⟨b18, h⟩ := ck_some h
        refine l_r_root E I b18 d_R_run_95 ?_
        refine lv_aload_n hx hb d_R_run_96 rfl (lv_at hl 1 rfl) ?_
        refine g_rR_input E I k_R_29 d_R_run_97 ?_
        refine lv_iload hx hb d_R_run_100 (lv_at hl 0 rfl) ?_
        obtain ⟨b19, h⟩ := ck_some h
        refine l_r_input E I b19 d_R_run_102 ?_
        refine lv_iload_n hx hb d_R_run_103 rfl (lv_at hl 3 rfl) ?_
        obtain ⟨u22, st20, h21, h⟩ := bd_some h
        refine cV (As := [.int (r_root st x4_17.toNatClampNeg), .long (r_input st x4_17.toNatClampNeg), .int x2]) (rest := []) E I hA (k_R_workOut h21) g_R_161 ⟨rfl, rfl⟩ 0 rfl rfl rfl hl rfl (Nat.le_of_ble_eq_true rfl) ⟨Nat.le_of_ble_eq_true rfl, Nat.le_of_ble_eq_true rfl⟩ ⟨Nat.zero_le _, Nat.zero_le _⟩ d_R_run_104 rfl (fun H locs I => ?_)
        refine lv_aload_n hx hb d_R_run_107 rfl (lv_at hl 1 rfl) ?_
        refine g_rR_outcome E I k_R_54 d_R_run_108 ?_
        refine lv_iload_n hx hb d_R_run_111 rfl (lv_at hl 2 rfl) ?_
        refine lv_aload_n hx hb d_R_run_112 rfl (lv_at hl 1 rfl) ?_
        refine g_r_isCut E I k_R_117 d_R_run_113 ?_
        refine lv_if_eq (tgt := 123) hx hb d_R_run_116 (by decide) (fun c23 => ?_) (fun c23 => ?_)
        · have h := ifp c23 h
          refine lv_aload_n hx hb d_R_run_123 rfl (lv_at hl 1 rfl) ?_
          refine g_r_given E I k_R_124 d_R_run_124 ?_
          refine lv_aload_n hx hb d_R_run_127 rfl (lv_at hl 1 rfl) ?_
          refine g_rR_wanted E I k_R_32 d_R_run_128 ?_
          refine lv_iload hx hb d_R_run_131 (lv_at hl 0 rfl) ?_
          obtain ⟨b24, h⟩ := ck_some h
          refine l_r_wanted E I b24 d_R_run_133 ?_
          refine W.lcmp hx hb d_R_run_134 ?_
          refine lv_if_eq (tgt := 142) hx hb d_R_run_135 (by decide) (fun c25 => ?_) (fun c25 => ?_)
          · have c25 := (lg_cmp_eq _ _).mp c25
            have h := ifp c25 h
            refine lv_iconst (v := 0) hx hb d_R_run_142 (by decide) ?_
            exact w_R_run_143 E hA kr ih x1 x2 x3 x4_17 x1 (0 : Int32) st20 _ _ _ h I (lv_sub hl [1, 2, 3, 4, 0] rfl)
          · have c25 := mt (lg_cmp_eq _ _).mpr c25
            have h := ifn c25 h
            refine lv_iconst (v := 1) hx hb d_R_run_138 (by decide) ?_
            refine lv_goto (tgt := 143) hx hb d_R_run_139 (by decide) ?_
            exact w_R_run_143 E hA kr ih x1 x2 x3 x4_17 x1 (1 : Int32) st20 _ _ _ h I (lv_sub hl [1, 2, 3, 4, 0] rfl)
        · have h := ifn c23 h
          refine lv_iconst (v := 2) hx hb d_R_run_119 (by decide) ?_
          refine lv_goto (tgt := 143) hx hb d_R_run_120 (by decide) ?_
          exact w_R_run_143 E hA kr ih x1 x2 x3 x4_17 x1 (2 : Int32) st20 _ _ _ h I (lv_sub hl [1, 2, 3, 4, 0] rfl)
set_option maxHeartbeats 4000000 in
set_option maxRecDepth 100000 in
theorem w_R_run  {r : Int32} {t : RS} (E : EC R_R c_R_run 5 p s m args c D (tyL cs)) (hA : ∀ q, H0.size ≤ q → A0 q) (kr : ∀ (H : Heap) (locs : List Loc) (pc : Nat) (ls : Array Slot), IW D (cwR A cs t) A0 H0 H locs → decode c_R_run pc = .ok (.ireturn, 1) → W p l e rm_R_run s m args below meth c H locs 0 0 Q (F0 m pc ls [.int r])) : ∀ (x1 : Int32) (x2 : Int32) (st : RS) (H : Heap) (locs : List Loc) (ls : Array Slot), f_R_run x1 x2 st = some (r, t) → IW D (cwR A cs st) A0 H0 H locs → lv_has ls 5 [(0, .ref (A 0)), (1, .int x1), (2, .int x2)] → W p l e rm_R_run s m args below meth c H locs 0 0 Q (F0 m 0 ls []) := by
  intro x1 x2 st H locs ls h I hl
  have hx := E.1
  have hb := E.2.1
  rw [f_R_run] at h
  refine lv_aload_n hx hb d_R_run_0 rfl (lv_at hl 0 rfl) ?_
  refine lv_iload_n hx hb d_R_run_1 rfl (lv_at hl 1 rfl) ?_
  obtain ⟨r27, st26, h28, h⟩ := bd_some h
  refine cV (As := [.int x1]) (rest := []) E I hA (k_R_isMutant h28) g_R_194 ⟨rfl, rfl⟩ 0 rfl rfl rfl hl rfl (Nat.le_of_ble_eq_true rfl) ⟨Nat.le_of_ble_eq_true rfl, Nat.le_of_ble_eq_true rfl⟩ ⟨Nat.zero_le _, Nat.zero_le _⟩ d_R_run_2 rfl (fun H locs I => ?_)
  refine lv_if_eq (tgt := 20) hx hb d_R_run_5 (by decide) (fun c29 => ?_) (fun c29 => ?_)
  · have h := ifp c29 h
    refine lv_iconst (v := -1) hx hb d_R_run_20 (by decide) ?_
    cases h
    exact kr _ _ _ _ I d_R_run_21
  · have h := ifn c29 h
    refine lv_iload_n hx hb d_R_run_8 rfl (lv_at hl 2 rfl) ?_
    refine lv_i2l hx hb d_R_run_9 rfl ?_
    refine lv_lconst (v := 1) hx hb d_R_run_10 (by decide) ?_
    refine lv_ldc2 (v := 5000) hx hb E.2.2.2.1 (E.2.2.2.2.1 _ kl_R_209) d_R_run_11 ?_
    obtain ⟨r31, st30, h32, h⟩ := bd_some h
    refine cS (As := [.long x2.toInt64, .long (1 : Int64), .long (5000 : Int64)]) (rest := []) E I hA (k_R_in h32) g_R_94 ⟨rfl, rfl⟩ rfl hl rfl (Nat.le_of_ble_eq_true rfl) ⟨Nat.le_of_ble_eq_true rfl, Nat.le_of_ble_eq_true rfl⟩ ⟨Nat.zero_le _, Nat.zero_le _⟩ d_R_run_14 rfl (fun H locs I => ?_)
    refine lv_if_ne (tgt := 22) hx hb d_R_run_17 (by decide) (fun c33 => ?_) (fun c33 => ?_)
    · have h := ifn c33 h
      refine lv_aload_n hx hb d_R_run_22 rfl (lv_at hl 0 rfl) ?_
      refine lv_iload_n hx hb d_R_run_23 rfl (lv_at hl 1 rfl) ?_
      obtain ⟨u36, st34, h35, h⟩ := bd_some h
      refine cV (As := [.int x1]) (rest := []) E I hA (k_R_layList h35) g_R_211 ⟨rfl, rfl⟩ 0 rfl rfl rfl hl rfl (Nat.le_of_ble_eq_true rfl) ⟨Nat.le_of_ble_eq_true rfl, Nat.le_of_ble_eq_true rfl⟩ ⟨Nat.zero_le _, Nat.zero_le _⟩ d_R_run_24 rfl (fun H locs I => ?_)
      refine lv_aload_n hx hb d_R_run_27 rfl (lv_at hl 0 rfl) ?_
      refine g_rR_outcome E I k_R_54 d_R_run_28 ?_
      refine lv_iload_n hx hb d_R_run_31 rfl (lv_at hl 1 rfl) ?_
      refine lv_iconst (v := 0) hx hb d_R_run_32 (by decide) ?_
      obtain ⟨b37, h⟩ := ck_some h
      obtain ⟨st38, est38⟩ : ∃ y : RS, y = (s_r_outcome st34 x1.toNatClampNeg (0 : Int32)) := ⟨_, rfl⟩
      have h := nx_k est38 h
      refine p_r_outcome E I b37 est38 d_R_run_33 (fun H locs I => ?_)
      refine lv_aload_n hx hb d_R_run_34 rfl (lv_at hl 0 rfl) ?_
      refine g_rR_ender E I k_R_57 d_R_run_35 ?_
      refine lv_iload_n hx hb d_R_run_38 rfl (lv_at hl 1 rfl) ?_
      refine lv_iconst (v := -1) hx hb d_R_run_39 (by decide) ?_
      obtain ⟨b39, h⟩ := ck_some h
      obtain ⟨st40, est40⟩ : ∃ y : RS, y = (s_r_ender st38 x1.toNatClampNeg (-1 : Int32)) := ⟨_, rfl⟩
      have h := nx_k est40 h
      refine p_r_ender E I b39 est40 d_R_run_40 (fun H locs I => ?_)
      refine lv_aload_n hx hb d_R_run_41 rfl (lv_at hl 0 rfl) ?_
      refine lv_aload_n hx hb d_R_run_42 rfl (lv_at hl 0 rfl) ?_
      refine g_rR_kindM E I k_R_48 d_R_run_43 ?_
      refine lv_iload_n hx hb d_R_run_46 rfl (lv_at hl 1 rfl) ?_
      obtain ⟨b41, h⟩ := ck_some h
      refine l_r_kindM E I b41 d_R_run_47 ?_
      obtain ⟨st42, est42⟩ : ∃ y : RS, y = (s_r_changedKind st40 (r_kindM st40 x1.toNatClampNeg)) := ⟨_, rfl⟩
      have h := nx_k est42 h
      refine p_r_changedKind E I est42 k_R_63 d_R_run_48 (fun H locs I => ?_)
      refine lv_aload_n hx hb d_R_run_51 rfl (lv_at hl 0 rfl) ?_
      refine lv_aload_n hx hb d_R_run_52 rfl (lv_at hl 0 rfl) ?_
      refine g_rR_nodeM E I k_R_51 d_R_run_53 ?_
      refine lv_iload_n hx hb d_R_run_56 rfl (lv_at hl 1 rfl) ?_
      obtain ⟨b43, h⟩ := ck_some h
      refine l_r_nodeM E I b43 d_R_run_57 ?_
      obtain ⟨st44, est44⟩ : ∃ y : RS, y = (s_r_changedNode st42 (r_nodeM st42 x1.toNatClampNeg)) := ⟨_, rfl⟩
      have h := nx_k est44 h
      refine p_r_changedNode E I est44 k_R_67 d_R_run_58 (fun H locs I => ?_)
      refine lv_iconst (v := 0) hx hb d_R_run_61 (by decide) ?_
      refine lv_istore_n (lv' := [(3, .int (0 : Int32)), (0, .ref (A 0)), (1, .int x1), (2, .int x2)]) hx hb d_R_run_62 rfl hl (by decide) rfl (fun ls hl => ?_)
      exact w_R_run_63 E hA kr FU x1 x2 (0 : Int32) st44 _ _ _ h I (lv_sub hl [1, 2, 3, 0] rfl)
    · have h := ifp c33 h
      refine lv_iconst (v := -1) hx hb d_R_run_20 (by decide) ?_
      cases h
      exact kr _ _ _ _ I d_R_run_21
set_option maxHeartbeats 4000000 in
set_option maxRecDepth 100000 in
theorem k_R_run {x1 : Int32} {x2 : Int32} {st t : RS} {r : Int32} (h : f_R_run x1 x2 st = some (r, t)) : Cn l y_R_run c_R_run 5 (some .int) rm_R_run D (tyL cs) (cwR A cs st) (cwR A cs t) [.ref (A 0), .int x1, .int x2] (some (.int r)) := by
  refine cn_intro (by decide) (Nat.le_of_ble_eq_true rfl) ?_
  intro p e s m below meth c A0 Q ls E hr hlk hA hA0 hQ I hl
  exact w_R_run E hA (rt_i E hr hlk hA0 hQ) x1 x2 st _ _ _ h I (lv_sub hl [0, 1, 2] rfl)
abbrev rm_R_order : Room := { frames := 3, cells := 0, slots := 0, locals := 68 }
noncomputable def f_R_order (x1 : Int32) (x2 : Int32) (st : RS) : Option (Int32 × RS) :=
  bd (f_R_isMutant x1 st) fun r2 st1 =>
  if r2 = 0 then (
    some ((-1 : Int32), st1)
  ) else (
    bd (f_R_layList x1 st1) fun _ st5 =>
    bd (f_R_in (x2.toInt64) (0 : Int64) (((r_listed st5) - (1 : Int32)).toInt64) st5) fun r9 st8 =>
    if r9 = 0 then (
      some ((-1 : Int32), st8)
    ) else (
      ck x2 24 <|
      some ((r_list st8 x2.toNatClampNeg), st8)
    )
  )
set_option maxHeartbeats 4000000 in
set_option maxRecDepth 100000 in
theorem w_R_order  {r : Int32} {t : RS} (E : EC R_R c_R_order 3 p s m args c D (tyL cs)) (hA : ∀ q, H0.size ≤ q → A0 q) (kr : ∀ (H : Heap) (locs : List Loc) (pc : Nat) (ls : Array Slot), IW D (cwR A cs t) A0 H0 H locs → decode c_R_order pc = .ok (.ireturn, 1) → W p l e rm_R_order s m args below meth c H locs 0 0 Q (F0 m pc ls [.int r])) : ∀ (x1 : Int32) (x2 : Int32) (st : RS) (H : Heap) (locs : List Loc) (ls : Array Slot), f_R_order x1 x2 st = some (r, t) → IW D (cwR A cs st) A0 H0 H locs → lv_has ls 3 [(0, .ref (A 0)), (1, .int x1), (2, .int x2)] → W p l e rm_R_order s m args below meth c H locs 0 0 Q (F0 m 0 ls []) := by
  intro x1 x2 st H locs ls h I hl
  have hx := E.1
  have hb := E.2.1
  rw [f_R_order] at h
  refine lv_aload_n hx hb d_R_order_0 rfl (lv_at hl 0 rfl) ?_
  refine lv_iload_n hx hb d_R_order_1 rfl (lv_at hl 1 rfl) ?_
  obtain ⟨r2, st1, h3, h⟩ := bd_some h
  refine cV (As := [.int x1]) (rest := []) E I hA (k_R_isMutant h3) g_R_194 ⟨rfl, rfl⟩ 0 rfl rfl rfl hl rfl (Nat.le_of_ble_eq_true rfl) ⟨Nat.le_of_ble_eq_true rfl, Nat.le_of_ble_eq_true rfl⟩ ⟨Nat.zero_le _, Nat.zero_le _⟩ d_R_order_2 rfl (fun H locs I => ?_)
  refine lv_if_ne (tgt := 10) hx hb d_R_order_5 (by decide) (fun c4 => ?_) (fun c4 => ?_)
  · have h := ifn c4 h
    refine lv_aload_n hx hb d_R_order_10 rfl (lv_at hl 0 rfl) ?_
    refine lv_iload_n hx hb d_R_order_11 rfl (lv_at hl 1 rfl) ?_
    obtain ⟨u7, st5, h6, h⟩ := bd_some h
    refine cV (As := [.int x1]) (rest := []) E I hA (k_R_layList h6) g_R_211 ⟨rfl, rfl⟩ 0 rfl rfl rfl hl rfl (Nat.le_of_ble_eq_true rfl) ⟨Nat.le_of_ble_eq_true rfl, Nat.le_of_ble_eq_true rfl⟩ ⟨Nat.zero_le _, Nat.zero_le _⟩ d_R_order_12 rfl (fun H locs I => ?_)
    refine lv_iload_n hx hb d_R_order_15 rfl (lv_at hl 2 rfl) ?_
    refine lv_i2l hx hb d_R_order_16 rfl ?_
    refine lv_lconst (v := 0) hx hb d_R_order_17 (by decide) ?_
    refine lv_aload_n hx hb d_R_order_18 rfl (lv_at hl 0 rfl) ?_
    refine g_r_listed E I k_R_203 d_R_order_19 ?_
    refine lv_iconst (v := 1) hx hb d_R_order_22 (by decide) ?_
    refine lv_isub hx hb d_R_order_23 ?_
    refine lv_i2l hx hb d_R_order_24 rfl ?_
    obtain ⟨r9, st8, h10, h⟩ := bd_some h
    refine cS (As := [.long x2.toInt64, .long (0 : Int64), .long ((r_listed st5) - (1 : Int32)).toInt64]) (rest := []) E I hA (k_R_in h10) g_R_94 ⟨rfl, rfl⟩ rfl hl rfl (Nat.le_of_ble_eq_true rfl) ⟨Nat.le_of_ble_eq_true rfl, Nat.le_of_ble_eq_true rfl⟩ ⟨Nat.zero_le _, Nat.zero_le _⟩ d_R_order_25 rfl (fun H locs I => ?_)
    refine lv_if_eq (tgt := 40) hx hb d_R_order_28 (by decide) (fun c11 => ?_) (fun c11 => ?_)
    · have h := ifp c11 h
      refine lv_iconst (v := -1) hx hb d_R_order_40 (by decide) ?_
      cases h
      exact kr _ _ _ _ I d_R_order_41
    · have h := ifn c11 h
      refine lv_aload_n hx hb d_R_order_31 rfl (lv_at hl 0 rfl) ?_
      refine g_rR_list E I k_R_85 d_R_order_32 ?_
      refine lv_iload_n hx hb d_R_order_35 rfl (lv_at hl 2 rfl) ?_
      obtain ⟨b12, h⟩ := ck_some h
      refine l_r_list E I b12 d_R_order_36 ?_
      refine lv_goto (tgt := 41) hx hb d_R_order_37 (by decide) ?_
      cases h
      exact kr _ _ _ _ I d_R_order_41
  · have h := ifp c4 h
    refine lv_iconst (v := -1) hx hb d_R_order_8 (by decide) ?_
    cases h
    exact kr _ _ _ _ I d_R_order_9
set_option maxHeartbeats 4000000 in
set_option maxRecDepth 100000 in
theorem k_R_order {x1 : Int32} {x2 : Int32} {st t : RS} {r : Int32} (h : f_R_order x1 x2 st = some (r, t)) : Cn l y_R_order c_R_order 3 (some .int) rm_R_order D (tyL cs) (cwR A cs st) (cwR A cs t) [.ref (A 0), .int x1, .int x2] (some (.int r)) := by
  refine cn_intro (by decide) (Nat.le_of_ble_eq_true rfl) ?_
  intro p e s m below meth c A0 Q ls E hr hlk hA hA0 hQ I hl
  exact w_R_order E hA (rt_i E hr hlk hA0 hQ) x1 x2 st _ _ _ h I (lv_sub hl [0, 1, 2] rfl)
abbrev rm_R_distance : Room := { frames := 2, cells := 0, slots := 0, locals := 47 }
noncomputable def f_R_distance (x1 : Int32) (x2 : Int32) (st : RS) : Option (Int32 × RS) :=
  bd (f_R_isTest x1 st) fun r2 st1 =>
  if r2 = 0 then (
    some ((-1 : Int32), st1)
  ) else (
    bd (f_R_isNode (x2.toInt64) st1) fun r6 st5 =>
    if r6 = 0 then (
      some ((-1 : Int32), st5)
    ) else (
      ck x1 24 <|
      bd (f_R_layFar (r_root st5 x1.toNatClampNeg) st5) fun _ st10 =>
      ck x2 64 <|
      some ((r_far st10 x2.toNatClampNeg), st10)
    )
  )
set_option maxHeartbeats 4000000 in
set_option maxRecDepth 100000 in
theorem w_R_distance  {r : Int32} {t : RS} (E : EC R_R c_R_distance 3 p s m args c D (tyL cs)) (hA : ∀ q, H0.size ≤ q → A0 q) (kr : ∀ (H : Heap) (locs : List Loc) (pc : Nat) (ls : Array Slot), IW D (cwR A cs t) A0 H0 H locs → decode c_R_distance pc = .ok (.ireturn, 1) → W p l e rm_R_distance s m args below meth c H locs 0 0 Q (F0 m pc ls [.int r])) : ∀ (x1 : Int32) (x2 : Int32) (st : RS) (H : Heap) (locs : List Loc) (ls : Array Slot), f_R_distance x1 x2 st = some (r, t) → IW D (cwR A cs st) A0 H0 H locs → lv_has ls 3 [(0, .ref (A 0)), (1, .int x1), (2, .int x2)] → W p l e rm_R_distance s m args below meth c H locs 0 0 Q (F0 m 0 ls []) := by
  intro x1 x2 st H locs ls h I hl
  have hx := E.1
  have hb := E.2.1
  rw [f_R_distance] at h
  refine lv_aload_n hx hb d_R_distance_0 rfl (lv_at hl 0 rfl) ?_
  refine lv_iload_n hx hb d_R_distance_1 rfl (lv_at hl 1 rfl) ?_
  obtain ⟨r2, st1, h3, h⟩ := bd_some h
  refine cV (As := [.int x1]) (rest := []) E I hA (k_R_isTest h3) g_R_169 ⟨rfl, rfl⟩ 0 rfl rfl rfl hl rfl (Nat.le_of_ble_eq_true rfl) ⟨Nat.le_of_ble_eq_true rfl, Nat.le_of_ble_eq_true rfl⟩ ⟨Nat.zero_le _, Nat.zero_le _⟩ d_R_distance_2 rfl (fun H locs I => ?_)
  refine lv_if_eq (tgt := 17) hx hb d_R_distance_5 (by decide) (fun c4 => ?_) (fun c4 => ?_)
  · have h := ifp c4 h
    refine lv_iconst (v := -1) hx hb d_R_distance_17 (by decide) ?_
    cases h
    exact kr _ _ _ _ I d_R_distance_18
  · have h := ifn c4 h
    refine lv_aload_n hx hb d_R_distance_8 rfl (lv_at hl 0 rfl) ?_
    refine lv_iload_n hx hb d_R_distance_9 rfl (lv_at hl 2 rfl) ?_
    refine lv_i2l hx hb d_R_distance_10 rfl ?_
    obtain ⟨r6, st5, h7, h⟩ := bd_some h
    refine cV (As := [.long x2.toInt64]) (rest := []) E I hA (k_R_isNode h7) g_R_110 ⟨rfl, rfl⟩ 0 rfl rfl rfl hl rfl (Nat.le_of_ble_eq_true rfl) ⟨Nat.le_of_ble_eq_true rfl, Nat.le_of_ble_eq_true rfl⟩ ⟨Nat.zero_le _, Nat.zero_le _⟩ d_R_distance_11 rfl (fun H locs I => ?_)
    refine lv_if_ne (tgt := 19) hx hb d_R_distance_14 (by decide) (fun c8 => ?_) (fun c8 => ?_)
    · have h := ifn c8 h
      refine lv_aload_n hx hb d_R_distance_19 rfl (lv_at hl 0 rfl) ?_
      refine lv_aload_n hx hb d_R_distance_20 rfl (lv_at hl 0 rfl) ?_
      refine g_rR_root E I k_R_26 d_R_distance_21 ?_
      refine lv_iload_n hx hb d_R_distance_24 rfl (lv_at hl 1 rfl) ?_
      obtain ⟨b9, h⟩ := ck_some h
      refine l_r_root E I b9 d_R_distance_25 ?_
      obtain ⟨u12, st10, h11, h⟩ := bd_some h
      refine cV (As := [.int (r_root st5 x1.toNatClampNeg)]) (rest := []) E I hA (k_R_layFar h11) g_R_206 ⟨rfl, rfl⟩ 0 rfl rfl rfl hl rfl (Nat.le_of_ble_eq_true rfl) ⟨Nat.le_of_ble_eq_true rfl, Nat.le_of_ble_eq_true rfl⟩ ⟨Nat.zero_le _, Nat.zero_le _⟩ d_R_distance_26 rfl (fun H locs I => ?_)
      refine lv_aload_n hx hb d_R_distance_29 rfl (lv_at hl 0 rfl) ?_
      refine g_rR_far E I k_R_82 d_R_distance_30 ?_
      refine lv_iload_n hx hb d_R_distance_33 rfl (lv_at hl 2 rfl) ?_
      obtain ⟨b13, h⟩ := ck_some h
      refine l_r_far E I b13 d_R_distance_34 ?_
      cases h
      exact kr _ _ _ _ I d_R_distance_35
    · have h := ifp c8 h
      refine lv_iconst (v := -1) hx hb d_R_distance_17 (by decide) ?_
      cases h
      exact kr _ _ _ _ I d_R_distance_18
set_option maxHeartbeats 4000000 in
set_option maxRecDepth 100000 in
theorem k_R_distance {x1 : Int32} {x2 : Int32} {st t : RS} {r : Int32} (h : f_R_distance x1 x2 st = some (r, t)) : Cn l y_R_distance c_R_distance 3 (some .int) rm_R_distance D (tyL cs) (cwR A cs st) (cwR A cs t) [.ref (A 0), .int x1, .int x2] (some (.int r)) := by
  refine cn_intro (by decide) (Nat.le_of_ble_eq_true rfl) ?_
  intro p e s m below meth c A0 Q ls E hr hlk hA hA0 hQ I hl
  exact w_R_distance E hA (rt_i E hr hlk hA0 hQ) x1 x2 st _ _ _ h I (lv_sub hl [0, 1, 2] rfl)
abbrev rm_R_isTouched : Room := { frames := 0, cells := 0, slots := 0, locals := 0 }
noncomputable def f_R_isTouched_40 (k2 : Int32 → Int32 → Int32 → RS → Option (Int32 × RS)) (x1 : Int32) (x2 : Int32) (x3 : Int32) (x4 : Int32) (st : RS) : Option (Int32 × RS) :=
  ck (x4 + x2) 1536 <|
  if (r_covers st (x4 + x2).toNatClampNeg) = 0 then (
    ck (x4 + x2) 1536 <|
    if (r_covered st (x4 + x2).toNatClampNeg) = 0 then (
      nx (x3 + 1) fun x3_5 =>
      k2 x1 x2 x3_5 st
    ) else (
      some ((1 : Int32), st)
    )
  ) else (
    some ((1 : Int32), st)
  )
noncomputable def f_R_isTouched_2 : Nat → Int32 → Int32 → Int32 → RS → Option (Int32 × RS)
  | 0, _, _, _, _ => none
  | n + 1, x1, x2, x3, st =>
    if (r_tests st) ≤ x3 then (
      some ((0 : Int32), st)
    ) else (
      nx ((64 : Int32) * x3) fun x4_7 =>
      ck (x4_7 + x1) 1536 <|
      if (r_covers st (x4_7 + x1).toNatClampNeg) = 0 then (
        ck (x4_7 + x1) 1536 <|
        if (r_covered st (x4_7 + x1).toNatClampNeg) = 0 then (
          nx (x3 + 1) fun x3_12 =>
          f_R_isTouched_2 n x1 x2 x3_12 st
        ) else (
          f_R_isTouched_40 (f_R_isTouched_2 n) x1 x2 x3 x4_7 st
        )
      ) else (
        f_R_isTouched_40 (f_R_isTouched_2 n) x1 x2 x3 x4_7 st
      )
    )
noncomputable def f_R_isTouched (x1 : Int32) (x2 : Int32) (st : RS) : Option (Int32 × RS) :=
  f_R_isTouched_2 FU x1 x2 (0 : Int32) st
set_option maxHeartbeats 4000000 in
set_option maxRecDepth 100000 in
theorem w_R_isTouched_40  {r : Int32} {t : RS} (E : EC R_R c_R_isTouched 5 p s m args c D (tyL cs)) (hA : ∀ q, H0.size ≤ q → A0 q) (kr : ∀ (H : Heap) (locs : List Loc) (pc : Nat) (ls : Array Slot), IW D (cwR A cs t) A0 H0 H locs → narrow .boolean (.int r) = .int r → decode c_R_isTouched pc = .ok (.ireturn, 1) → W p l e rm_R_isTouched s m args below meth c H locs 0 0 Q (F0 m pc ls [.int r])) {k2 : Int32 → Int32 → Int32 → RS → Option (Int32 × RS)} (hk2 : ∀ (x1 : Int32) (x2 : Int32) (x3 : Int32) (st : RS) (H : Heap) (locs : List Loc) (ls : Array Slot), k2 x1 x2 x3 st = some (r, t) → IW D (cwR A cs st) A0 H0 H locs → lv_has ls 5 [(0, .ref (A 0)), (1, .int x1), (2, .int x2), (3, .int x3)] → W p l e rm_R_isTouched s m args below meth c H locs 0 0 Q (F0 m 2 ls [])) : ∀ (x1 : Int32) (x2 : Int32) (x3 : Int32) (x4 : Int32) (st : RS) (H : Heap) (locs : List Loc) (ls : Array Slot), f_R_isTouched_40 k2 x1 x2 x3 x4 st = some (r, t) → IW D (cwR A cs st) A0 H0 H locs → lv_has ls 5 [(0, .ref (A 0)), (1, .int x1), (2, .int x2), (3, .int x3), (4, .int x4)] → W p l e rm_R_isTouched s m args below meth c H locs 0 0 Q (F0 m 40 ls []) := by
  intro x1 x2 x3 x4 st H locs ls h I hl
  have hx := E.1
  have hb := E.2.1
  rw [f_R_isTouched_40] at h
  refine lv_aload_n hx hb d_R_isTouched_40 rfl (lv_at hl 0 rfl) ?_
  refine g_rR_covers E I k_R_41 d_R_isTouched_41 ?_
  refine lv_iload hx hb d_R_isTouched_44 (lv_at hl 4 rfl) ?_
  refine lv_iload_n hx hb d_R_isTouched_46 rfl (lv_at hl 2 rfl) ?_
  refine lv_iadd hx hb d_R_isTouched_47 ?_
  obtain ⟨b1, h⟩ := ck_some h
  refine l_r_covers E I b1 d_R_isTouched_48 ?_
  refine lv_if_ne (tgt := 64) hx hb d_R_isTouched_49 (by decide) (fun c2 => ?_) (fun c2 => ?_)
  · have h := ifn c2 h
    refine lv_iconst (v := 1) hx hb d_R_isTouched_64 (by decide) ?_
    cases h
    exact kr _ _ _ _ I (by decide) d_R_isTouched_65
  · have h := ifp c2 h
    refine lv_aload_n hx hb d_R_isTouched_52 rfl (lv_at hl 0 rfl) ?_
    refine g_rR_covered E I k_R_45 d_R_isTouched_53 ?_
    refine lv_iload hx hb d_R_isTouched_56 (lv_at hl 4 rfl) ?_
    refine lv_iload_n hx hb d_R_isTouched_58 rfl (lv_at hl 2 rfl) ?_
    refine lv_iadd hx hb d_R_isTouched_59 ?_
    obtain ⟨b3, h⟩ := ck_some h
    refine l_r_covered E I b3 d_R_isTouched_60 ?_
    refine lv_if_eq (tgt := 66) hx hb d_R_isTouched_61 (by decide) (fun c4 => ?_) (fun c4 => ?_)
    · have h := ifp c4 h
      obtain ⟨x3_5, ex3_5⟩ : ∃ y : Int32, y = (x3 + 1) := ⟨_, rfl⟩
      have h := nx_k ex3_5 h
      refine lv_iinc (v := x3_5) (lv' := [(3, .int x3_5), (0, .ref (A 0)), (1, .int x1), (2, .int x2), (4, .int x4)]) hx hb d_R_isTouched_66 hl (k := 3) rfl (by rw [ex3_5]; rfl) (by decide) rfl (fun ls hl => ?_)
      refine lv_goto (tgt := 2) hx hb d_R_isTouched_69 (by decide) ?_
      exact hk2 x1 x2 x3_5 st _ _ _ h I (lv_sub hl [1, 2, 3, 0] rfl)
    · have h := ifn c4 h
      refine lv_iconst (v := 1) hx hb d_R_isTouched_64 (by decide) ?_
      cases h
      exact kr _ _ _ _ I (by decide) d_R_isTouched_65
set_option maxHeartbeats 4000000 in
set_option maxRecDepth 100000 in
theorem w_R_isTouched_2  {r : Int32} {t : RS} (E : EC R_R c_R_isTouched 5 p s m args c D (tyL cs)) (hA : ∀ q, H0.size ≤ q → A0 q) (kr : ∀ (H : Heap) (locs : List Loc) (pc : Nat) (ls : Array Slot), IW D (cwR A cs t) A0 H0 H locs → narrow .boolean (.int r) = .int r → decode c_R_isTouched pc = .ok (.ireturn, 1) → W p l e rm_R_isTouched s m args below meth c H locs 0 0 Q (F0 m pc ls [.int r])) : ∀ (n : Nat), ∀ (x1 : Int32) (x2 : Int32) (x3 : Int32) (st : RS) (H : Heap) (locs : List Loc) (ls : Array Slot), f_R_isTouched_2 n x1 x2 x3 st = some (r, t) → IW D (cwR A cs st) A0 H0 H locs → lv_has ls 5 [(0, .ref (A 0)), (1, .int x1), (2, .int x2), (3, .int x3)] → W p l e rm_R_isTouched s m args below meth c H locs 0 0 Q (F0 m 2 ls []) := by
  intro n
  induction n with
  | zero => intro x1 x2 x3 st H locs ls h I hl; cases h
  | succ n ih =>
    intro x1 x2 x3 st H locs ls h I hl
    have hx := E.1
    have hb := E.2.1
    rw [f_R_isTouched_2] at h
    refine lv_iload_n hx hb d_R_isTouched_2 rfl (lv_at hl 3 rfl) ?_
    refine lv_aload_n hx hb d_R_isTouched_3 rfl (lv_at hl 0 rfl) ?_
    refine g_r_tests E I k_R_98 d_R_isTouched_4 ?_
    refine lv_icmp_ge (tgt := 72) hx hb d_R_isTouched_7 (by decide) (fun c6 => ?_) (fun c6 => ?_)
    · have h := ifp c6 h
      refine lv_iconst (v := 0) hx hb d_R_isTouched_72 (by decide) ?_
      cases h
      exact kr _ _ _ _ I (by decide) d_R_isTouched_73
    · have h := ifn c6 h
      refine lv_bipush (v := 64) hx hb d_R_isTouched_10 (by decide) ?_
      refine lv_iload_n hx hb d_R_isTouched_12 rfl (lv_at hl 3 rfl) ?_
      refine lv_imul hx hb d_R_isTouched_13 ?_
      refine lv_topi (fun x4_7 ex4_7 => ?_)
      have h := nx_k ex4_7 h
      refine lv_istore (lv' := [(4, .int x4_7), (0, .ref (A 0)), (1, .int x1), (2, .int x2), (3, .int x3)]) hx hb d_R_isTouched_14 hl (by decide) rfl (fun ls hl => ?_)
      refine lv_aload_n hx hb d_R_isTouched_16 rfl (lv_at hl 1 rfl) ?_
      refine g_rR_covers E I k_R_41 d_R_isTouched_17 ?_
      refine lv_iload hx hb d_R_isTouched_20 (lv_at hl 0 rfl) ?_
      refine lv_iload_n hx hb d_R_isTouched_22 rfl (lv_at hl 2 rfl) ?_
      refine lv_iadd hx hb d_R_isTouched_23 ?_
      obtain ⟨b8, h⟩ := ck_some h
      refine l_r_covers E I b8 d_R_isTouched_24 ?_
      refine lv_if_ne (tgt := 40) hx hb d_R_isTouched_25 (by decide) (fun c9 => ?_) (fun c9 => ?_)
      · have h := ifn c9 h
        exact w_R_isTouched_40 E hA kr ih x1 x2 x3 x4_7 st _ _ _ h I (lv_sub hl [1, 2, 3, 4, 0] rfl)
      · have h := ifp c9 h
        refine lv_aload_n hx hb d_R_isTouched_28 rfl (lv_at hl 1 rfl) ?_
        refine g_rR_covered E I k_R_45 d_R_isTouched_29 ?_
        refine lv_iload hx hb d_R_isTouched_32 (lv_at hl 0 rfl) ?_
        refine lv_iload_n hx hb d_R_isTouched_34 rfl (lv_at hl 2 rfl) ?_
        refine lv_iadd hx hb d_R_isTouched_35 ?_
        obtain ⟨b10, h⟩ := ck_some h
        refine l_r_covered E I b10 d_R_isTouched_36 ?_
        refine lv_if_eq (tgt := 66) hx hb d_R_isTouched_37 (by decide) (fun c11 => ?_) (fun c11 => ?_)
        · have h := ifp c11 h
          obtain ⟨x3_12, ex3_12⟩ : ∃ y : Int32, y = (x3 + 1) := ⟨_, rfl⟩
          have h := nx_k ex3_12 h
          refine lv_iinc (v := x3_12) (lv' := [(3, .int x3_12), (4, .int x4_7), (0, .ref (A 0)), (1, .int x1), (2, .int x2)]) hx hb d_R_isTouched_66 hl (k := 4) rfl (by rw [ex3_12]; rfl) (by decide) rfl (fun ls hl => ?_)
          refine lv_goto (tgt := 2) hx hb d_R_isTouched_69 (by decide) ?_
          exact ih x1 x2 x3_12 st _ _ _ h I (lv_sub hl [2, 3, 4, 0] rfl)
        · have h := ifn c11 h
          exact w_R_isTouched_40 E hA kr ih x1 x2 x3 x4_7 st _ _ _ h I (lv_sub hl [1, 2, 3, 4, 0] rfl)
set_option maxHeartbeats 4000000 in
set_option maxRecDepth 100000 in
theorem w_R_isTouched  {r : Int32} {t : RS} (E : EC R_R c_R_isTouched 5 p s m args c D (tyL cs)) (hA : ∀ q, H0.size ≤ q → A0 q) (kr : ∀ (H : Heap) (locs : List Loc) (pc : Nat) (ls : Array Slot), IW D (cwR A cs t) A0 H0 H locs → narrow .boolean (.int r) = .int r → decode c_R_isTouched pc = .ok (.ireturn, 1) → W p l e rm_R_isTouched s m args below meth c H locs 0 0 Q (F0 m pc ls [.int r])) : ∀ (x1 : Int32) (x2 : Int32) (st : RS) (H : Heap) (locs : List Loc) (ls : Array Slot), f_R_isTouched x1 x2 st = some (r, t) → IW D (cwR A cs st) A0 H0 H locs → lv_has ls 5 [(0, .ref (A 0)), (1, .int x1), (2, .int x2)] → W p l e rm_R_isTouched s m args below meth c H locs 0 0 Q (F0 m 0 ls []) := by
  intro x1 x2 st H locs ls h I hl
  have hx := E.1
  have hb := E.2.1
  rw [f_R_isTouched] at h
  refine lv_iconst (v := 0) hx hb d_R_isTouched_0 (by decide) ?_
  refine lv_istore_n (lv' := [(3, .int (0 : Int32)), (0, .ref (A 0)), (1, .int x1), (2, .int x2)]) hx hb d_R_isTouched_1 rfl hl (by decide) rfl (fun ls hl => ?_)
  exact w_R_isTouched_2 E hA kr FU x1 x2 (0 : Int32) st _ _ _ h I (lv_sub hl [1, 2, 3, 0] rfl)
set_option maxHeartbeats 4000000 in
set_option maxRecDepth 100000 in
theorem k_R_isTouched {x1 : Int32} {x2 : Int32} {st t : RS} {r : Int32} (h : f_R_isTouched x1 x2 st = some (r, t)) : Cn l y_R_isTouched c_R_isTouched 5 (some .boolean) rm_R_isTouched D (tyL cs) (cwR A cs st) (cwR A cs t) [.ref (A 0), .int x1, .int x2] (some (.int r)) := by
  refine cn_intro (by decide) (Nat.le_of_ble_eq_true rfl) ?_
  intro p e s m below meth c A0 Q ls E hr hlk hA hA0 hQ I hl
  exact w_R_isTouched E hA (rt_z E hr hlk hA0 hQ) x1 x2 st _ _ _ h I (lv_sub hl [0, 1, 2] rfl)
abbrev rm_R_change : Room := { frames := 6, cells := 0, slots := 0, locals := 142 }
noncomputable def f_R_change_169 : Nat → Int32 → Int32 → Int32 → RS → Option (Int32 × RS)
  | 0, _, _, _, _ => none
  | n + 1, x1, x4, x5, st =>
    if (r_mutants st) ≤ x5 then (
      some (x4, st)
    ) else (
      ck x5 100 <|
      bd (f_R_isTouched x1 (r_nodeM st x5.toNatClampNeg) st) fun r4 st3 =>
      if r4 = 0 then (
        nx (x5 + 1) fun x5_12 =>
        f_R_change_169 n x1 x4 x5_12 st3
      ) else (
        ck x5 100 <|
        nx (s_r_outcome st3 x5.toNatClampNeg (-1 : Int32)) fun st8 =>
        ck x5 100 <|
        nx (s_r_ender st8 x5.toNatClampNeg (-1 : Int32)) fun st10 =>
        nx (x5 + 1) fun x5_11 =>
        f_R_change_169 n x1 x4 x5_11 st10
      )
    )
noncomputable def f_R_change_124 : Nat → Int32 → Int32 → Int32 → RS → Option (Int32 × RS)
  | 0, _, _, _, _ => none
  | n + 1, x1, x4, x5, st =>
    if (r_tests st) ≤ x5 then (
      f_R_change_169 FU x1 x4 (0 : Int32) st
    ) else (
      bd (f_R_tryOut x5 st) fun _ st14 =>
      ck x5 24 <|
      if (r_passes st14 x5.toNatClampNeg) = (1 : Int32) then (
        nx (x4 + (1 : Int32)) fun x4_21 =>
        nx (x5 + 1) fun x5_22 =>
        f_R_change_124 n x1 x4_21 x5_22 st14
      ) else (
        nx (x4 + (0 : Int32)) fun x4_19 =>
        nx (x5 + 1) fun x5_20 =>
        f_R_change_124 n x1 x4_19 x5_20 st14
      )
    )
noncomputable def f_R_change_79 : Nat → Int32 → Int64 → Int32 → RS → Option (Int32 × RS)
  | 0, _, _, _, _ => none
  | n + 1, x1, x2, x5, st =>
    if ((64 : Int32) * (r_tests st)) ≤ x5 then (
      ck x1 64 <|
      nx (s_r_number st x1.toNatClampNeg x2) fun st25 =>
      f_R_change_124 FU x1 (0 : Int32) (0 : Int32) st25
    ) else (
      ck x5 1536 <|
      ck x5 1536 <|
      nx (s_r_covered st x5.toNatClampNeg (vp_nar .boolean (r_covers st x5.toNatClampNeg))) fun st28 =>
      nx (x5 + 1) fun x5_29 =>
      f_R_change_79 n x1 x2 x5_29 st28
    )
noncomputable def f_R_change_26 : Nat → Int32 → Int64 → Int32 → Int32 → RS → Option (Int32 × RS)
  | 0, _, _, _, _, _ => none
  | n + 1, x1, x2, x4, x5, st =>
    if (r_tests st) ≤ x5 then (
      ck x1 64 <|
      if (r_number st x1.toNatClampNeg) = x2 then (
        some (x4, st)
      ) else (
        f_R_change_79 FU x1 x2 (0 : Int32) st
      )
    ) else (
      ck x5 24 <|
      if (r_passes st x5.toNatClampNeg) = (1 : Int32) then (
        nx (x4 + (1 : Int32)) fun x4_37 =>
        nx (x5 + 1) fun x5_38 =>
        f_R_change_26 n x1 x2 x4_37 x5_38 st
      ) else (
        nx (x4 + (0 : Int32)) fun x4_35 =>
        nx (x5 + 1) fun x5_36 =>
        f_R_change_26 n x1 x2 x4_35 x5_36 st
      )
    )
noncomputable def f_R_change (x1 : Int32) (x2 : Int64) (st : RS) : Option (Int32 × RS) :=
  bd (f_R_isNode (x1.toInt64) st) fun r40 st39 =>
  if r40 = 0 then (
    some ((-1 : Int32), st39)
  ) else (
    ck x1 64 <|
    if (r_kindOf st39 x1.toNatClampNeg) = 0 then (
      f_R_change_26 FU x1 x2 (0 : Int32) (0 : Int32) st39
    ) else (
      some ((-1 : Int32), st39)
    )
  )
set_option maxHeartbeats 4000000 in
set_option maxRecDepth 100000 in
theorem w_R_change_169  {r : Int32} {t : RS} (E : EC R_R c_R_change 6 p s m args c D (tyL cs)) (hA : ∀ q, H0.size ≤ q → A0 q) (kr : ∀ (H : Heap) (locs : List Loc) (pc : Nat) (ls : Array Slot), IW D (cwR A cs t) A0 H0 H locs → decode c_R_change pc = .ok (.ireturn, 1) → W p l e rm_R_change s m args below meth c H locs 0 0 Q (F0 m pc ls [.int r])) : ∀ (n : Nat), ∀ (x1 : Int32) (x4 : Int32) (x5 : Int32) (st : RS) (H : Heap) (locs : List Loc) (ls : Array Slot), f_R_change_169 n x1 x4 x5 st = some (r, t) → IW D (cwR A cs st) A0 H0 H locs → lv_has ls 6 [(0, .ref (A 0)), (1, .int x1), (4, .int x4), (5, .int x5)] → W p l e rm_R_change s m args below meth c H locs 0 0 Q (F0 m 169 ls []) := by
  intro n
  induction n with
  | zero => intro x1 x4 x5 st H locs ls h I hl; cases h
  | succ n ih =>
    intro x1 x4 x5 st H locs ls h I hl
    have hx := E.1
    have hb := E.2.1
    rw [f_R_change_169] at h
    refine lv_iload hx hb d_R_change_169 (lv_at hl 3 rfl) ?_
    refine lv_aload_n hx hb d_R_change_171 rfl (lv_at hl 0 rfl) ?_
    refine g_r_mutants E I k_R_101 d_R_change_172 ?_
    refine lv_icmp_ge (tgt := 218) hx hb d_R_change_175 (by decide) (fun c1 => ?_) (fun c1 => ?_)
    · have h := ifp c1 h
      refine lv_iload hx hb d_R_change_218 (lv_at hl 2 rfl) ?_
      cases h
      exact kr _ _ _ _ I d_R_change_220
    · have h := ifn c1 h
      refine lv_aload_n hx hb d_R_change_178 rfl (lv_at hl 0 rfl) ?_
      refine lv_iload_n hx hb d_R_change_179 rfl (lv_at hl 1 rfl) ?_
      refine lv_aload_n hx hb d_R_change_180 rfl (lv_at hl 0 rfl) ?_
      refine g_rR_nodeM E I k_R_51 d_R_change_181 ?_
      refine lv_iload hx hb d_R_change_184 (lv_at hl 3 rfl) ?_
      obtain ⟨b2, h⟩ := ck_some h
      refine l_r_nodeM E I b2 d_R_change_186 ?_
      obtain ⟨r4, st3, h5, h⟩ := bd_some h
      refine cV (As := [.int x1, .int (r_nodeM st x5.toNatClampNeg)]) (rest := []) E I hA (k_R_isTouched h5) g_R_214 ⟨rfl, rfl⟩ 0 rfl rfl rfl hl rfl (Nat.le_of_ble_eq_true rfl) ⟨Nat.le_of_ble_eq_true rfl, Nat.le_of_ble_eq_true rfl⟩ ⟨Nat.zero_le _, Nat.zero_le _⟩ d_R_change_187 rfl (fun H locs I => ?_)
      refine lv_if_ne (tgt := 196) hx hb d_R_change_190 (by decide) (fun c6 => ?_) (fun c6 => ?_)
      · have h := ifn c6 h
        refine lv_aload_n hx hb d_R_change_196 rfl (lv_at hl 0 rfl) ?_
        refine g_rR_outcome E I k_R_54 d_R_change_197 ?_
        refine lv_iload hx hb d_R_change_200 (lv_at hl 3 rfl) ?_
        refine lv_iconst (v := -1) hx hb d_R_change_202 (by decide) ?_
        obtain ⟨b7, h⟩ := ck_some h
        obtain ⟨st8, est8⟩ : ∃ y : RS, y = (s_r_outcome st3 x5.toNatClampNeg (-1 : Int32)) := ⟨_, rfl⟩
        have h := nx_k est8 h
        refine p_r_outcome E I b7 est8 d_R_change_203 (fun H locs I => ?_)
        refine lv_aload_n hx hb d_R_change_204 rfl (lv_at hl 0 rfl) ?_
        refine g_rR_ender E I k_R_57 d_R_change_205 ?_
        refine lv_iload hx hb d_R_change_208 (lv_at hl 3 rfl) ?_
        refine lv_iconst (v := -1) hx hb d_R_change_210 (by decide) ?_
        obtain ⟨b9, h⟩ := ck_some h
        obtain ⟨st10, est10⟩ : ∃ y : RS, y = (s_r_ender st8 x5.toNatClampNeg (-1 : Int32)) := ⟨_, rfl⟩
        have h := nx_k est10 h
        refine p_r_ender E I b9 est10 d_R_change_211 (fun H locs I => ?_)
        obtain ⟨x5_11, ex5_11⟩ : ∃ y : Int32, y = (x5 + 1) := ⟨_, rfl⟩
        have h := nx_k ex5_11 h
        refine lv_iinc (v := x5_11) (lv' := [(5, .int x5_11), (0, .ref (A 0)), (1, .int x1), (4, .int x4)]) hx hb d_R_change_212 hl (k := 3) rfl (by rw [ex5_11]; rfl) (by decide) rfl (fun ls hl => ?_)
        refine lv_goto (tgt := 169) hx hb d_R_change_215 (by decide) ?_
        exact ih x1 x4 x5_11 st10 _ _ _ h I (lv_sub hl [1, 2, 3, 0] rfl)
      · have h := ifp c6 h
        refine lv_goto (tgt := 212) hx hb d_R_change_193 (by decide) ?_
        obtain ⟨x5_12, ex5_12⟩ : ∃ y : Int32, y = (x5 + 1) := ⟨_, rfl⟩
        have h := nx_k ex5_12 h
        refine lv_iinc (v := x5_12) (lv' := [(5, .int x5_12), (0, .ref (A 0)), (1, .int x1), (4, .int x4)]) hx hb d_R_change_212 hl (k := 3) rfl (by rw [ex5_12]; rfl) (by decide) rfl (fun ls hl => ?_)
        refine lv_goto (tgt := 169) hx hb d_R_change_215 (by decide) ?_
        exact ih x1 x4 x5_12 st3 _ _ _ h I (lv_sub hl [1, 2, 3, 0] rfl)
set_option maxHeartbeats 4000000 in
set_option maxRecDepth 100000 in
theorem w_R_change_124  {r : Int32} {t : RS} (E : EC R_R c_R_change 6 p s m args c D (tyL cs)) (hA : ∀ q, H0.size ≤ q → A0 q) (kr : ∀ (H : Heap) (locs : List Loc) (pc : Nat) (ls : Array Slot), IW D (cwR A cs t) A0 H0 H locs → decode c_R_change pc = .ok (.ireturn, 1) → W p l e rm_R_change s m args below meth c H locs 0 0 Q (F0 m pc ls [.int r])) : ∀ (n : Nat), ∀ (x1 : Int32) (x4 : Int32) (x5 : Int32) (st : RS) (H : Heap) (locs : List Loc) (ls : Array Slot), f_R_change_124 n x1 x4 x5 st = some (r, t) → IW D (cwR A cs st) A0 H0 H locs → lv_has ls 6 [(0, .ref (A 0)), (1, .int x1), (4, .int x4), (5, .int x5)] → W p l e rm_R_change s m args below meth c H locs 0 0 Q (F0 m 124 ls []) := by
  intro n
  induction n with
  | zero => intro x1 x4 x5 st H locs ls h I hl; cases h
  | succ n ih =>
    intro x1 x4 x5 st H locs ls h I hl
    have hx := E.1
    have hb := E.2.1
    rw [f_R_change_124] at h
    refine lv_iload hx hb d_R_change_124 (lv_at hl 3 rfl) ?_
    refine lv_aload_n hx hb d_R_change_126 rfl (lv_at hl 0 rfl) ?_
    refine g_r_tests E I k_R_98 d_R_change_127 ?_
    refine lv_icmp_ge (tgt := 166) hx hb d_R_change_130 (by decide) (fun c13 => ?_) (fun c13 => ?_)
    · have h := ifp c13 h
      refine lv_iconst (v := 0) hx hb d_R_change_166 (by decide) ?_
      refine lv_istore (lv' := [(5, .int (0 : Int32)), (0, .ref (A 0)), (1, .int x1), (4, .int x4)]) hx hb d_R_change_167 hl (by decide) rfl (fun ls hl => ?_)
      exact w_R_change_169 E hA kr FU x1 x4 (0 : Int32) st _ _ _ h I (lv_sub hl [1, 2, 3, 0] rfl)
    · have h := ifn c13 h
      refine lv_aload_n hx hb d_R_change_133 rfl (lv_at hl 0 rfl) ?_
      refine lv_iload hx hb d_R_change_134 (lv_at hl 3 rfl) ?_
      obtain ⟨u16, st14, h15, h⟩ := bd_some h
      refine cV (As := [.int x5]) (rest := []) E I hA (k_R_tryOut h15) g_R_165 ⟨rfl, rfl⟩ 0 rfl rfl rfl hl rfl (Nat.le_of_ble_eq_true rfl) ⟨Nat.le_of_ble_eq_true rfl, Nat.le_of_ble_eq_true rfl⟩ ⟨Nat.zero_le _, Nat.zero_le _⟩ d_R_change_136 rfl (fun H locs I => ?_)
      refine lv_iload hx hb d_R_change_139 (lv_at hl 2 rfl) ?_
      refine lv_aload_n hx hb d_R_change_141 rfl (lv_at hl 0 rfl) ?_
      refine g_rR_passes E I k_R_35 d_R_change_142 ?_
      refine lv_iload hx hb d_R_change_145 (lv_at hl 3 rfl) ?_
      obtain ⟨b17, h⟩ := ck_some h
      refine l_r_passes E I b17 d_R_change_147 ?_
      refine lv_iconst (v := 1) hx hb d_R_change_148 (by decide) ?_
      refine lv_icmp_ne (tgt := 156) hx hb d_R_change_149 (by decide) (fun c18 => ?_) (fun c18 => ?_)
      · have h := ifn c18 h
        refine lv_iconst (v := 0) hx hb d_R_change_156 (by decide) ?_
        refine lv_iadd hx hb d_R_change_157 ?_
        refine lv_topi (fun x4_19 ex4_19 => ?_)
        have h := nx_k ex4_19 h
        refine lv_istore (lv' := [(4, .int x4_19), (0, .ref (A 0)), (1, .int x1), (5, .int x5)]) hx hb d_R_change_158 hl (by decide) rfl (fun ls hl => ?_)
        obtain ⟨x5_20, ex5_20⟩ : ∃ y : Int32, y = (x5 + 1) := ⟨_, rfl⟩
        have h := nx_k ex5_20 h
        refine lv_iinc (v := x5_20) (lv' := [(5, .int x5_20), (4, .int x4_19), (0, .ref (A 0)), (1, .int x1)]) hx hb d_R_change_160 hl (k := 3) rfl (by rw [ex5_20]; rfl) (by decide) rfl (fun ls hl => ?_)
        refine lv_goto (tgt := 124) hx hb d_R_change_163 (by decide) ?_
        exact ih x1 x4_19 x5_20 st14 _ _ _ h I (lv_sub hl [2, 3, 1, 0] rfl)
      · have h := ifp c18 h
        refine lv_iconst (v := 1) hx hb d_R_change_152 (by decide) ?_
        refine lv_goto (tgt := 157) hx hb d_R_change_153 (by decide) ?_
        refine lv_iadd hx hb d_R_change_157 ?_
        refine lv_topi (fun x4_21 ex4_21 => ?_)
        have h := nx_k ex4_21 h
        refine lv_istore (lv' := [(4, .int x4_21), (0, .ref (A 0)), (1, .int x1), (5, .int x5)]) hx hb d_R_change_158 hl (by decide) rfl (fun ls hl => ?_)
        obtain ⟨x5_22, ex5_22⟩ : ∃ y : Int32, y = (x5 + 1) := ⟨_, rfl⟩
        have h := nx_k ex5_22 h
        refine lv_iinc (v := x5_22) (lv' := [(5, .int x5_22), (4, .int x4_21), (0, .ref (A 0)), (1, .int x1)]) hx hb d_R_change_160 hl (k := 3) rfl (by rw [ex5_22]; rfl) (by decide) rfl (fun ls hl => ?_)
        refine lv_goto (tgt := 124) hx hb d_R_change_163 (by decide) ?_
        exact ih x1 x4_21 x5_22 st14 _ _ _ h I (lv_sub hl [2, 3, 1, 0] rfl)
set_option maxHeartbeats 4000000 in
set_option maxRecDepth 100000 in
theorem w_R_change_79  {r : Int32} {t : RS} (E : EC R_R c_R_change 6 p s m args c D (tyL cs)) (hA : ∀ q, H0.size ≤ q → A0 q) (kr : ∀ (H : Heap) (locs : List Loc) (pc : Nat) (ls : Array Slot), IW D (cwR A cs t) A0 H0 H locs → decode c_R_change pc = .ok (.ireturn, 1) → W p l e rm_R_change s m args below meth c H locs 0 0 Q (F0 m pc ls [.int r])) : ∀ (n : Nat), ∀ (x1 : Int32) (x2 : Int64) (x5 : Int32) (st : RS) (H : Heap) (locs : List Loc) (ls : Array Slot), f_R_change_79 n x1 x2 x5 st = some (r, t) → IW D (cwR A cs st) A0 H0 H locs → lv_has ls 6 [(0, .ref (A 0)), (1, .int x1), (2, .long x2), (5, .int x5)] → W p l e rm_R_change s m args below meth c H locs 0 0 Q (F0 m 79 ls []) := by
  intro n
  induction n with
  | zero => intro x1 x2 x5 st H locs ls h I hl; cases h
  | succ n ih =>
    intro x1 x2 x5 st H locs ls h I hl
    have hx := E.1
    have hb := E.2.1
    rw [f_R_change_79] at h
    refine lv_iload hx hb d_R_change_79 (lv_at hl 3 rfl) ?_
    refine lv_bipush (v := 64) hx hb d_R_change_81 (by decide) ?_
    refine lv_aload_n hx hb d_R_change_83 rfl (lv_at hl 0 rfl) ?_
    refine g_r_tests E I k_R_98 d_R_change_84 ?_
    refine lv_imul hx hb d_R_change_87 ?_
    refine lv_icmp_ge (tgt := 111) hx hb d_R_change_88 (by decide) (fun c23 => ?_) (fun c23 => ?_)
    · have h := ifp c23 h
      refine lv_aload_n hx hb d_R_change_111 rfl (lv_at hl 0 rfl) ?_
      refine g_rR_number E I k_R_13 d_R_change_112 ?_
      refine lv_iload_n hx hb d_R_change_115 rfl (lv_at hl 1 rfl) ?_
      refine lv_lload_n hx hb d_R_change_116 rfl (lv_at hl 2 rfl) ?_
      obtain ⟨b24, h⟩ := ck_some h
      obtain ⟨st25, est25⟩ : ∃ y : RS, y = (s_r_number st x1.toNatClampNeg x2) := ⟨_, rfl⟩
      have h := nx_k est25 h
      refine p_r_number E I b24 est25 d_R_change_117 (fun H locs I => ?_)
      refine lv_iconst (v := 0) hx hb d_R_change_118 (by decide) ?_
      refine lv_istore (lv' := [(4, .int (0 : Int32)), (0, .ref (A 0)), (1, .int x1), (2, .long x2), (5, .int x5)]) hx hb d_R_change_119 hl (by decide) rfl (fun ls hl => ?_)
      refine lv_iconst (v := 0) hx hb d_R_change_121 (by decide) ?_
      refine lv_istore (lv' := [(5, .int (0 : Int32)), (4, .int (0 : Int32)), (0, .ref (A 0)), (1, .int x1), (2, .long x2)]) hx hb d_R_change_122 hl (by decide) rfl (fun ls hl => ?_)
      exact w_R_change_124 E hA kr FU x1 (0 : Int32) (0 : Int32) st25 _ _ _ h I (lv_sub hl [2, 3, 1, 0] rfl)
    · have h := ifn c23 h
      refine lv_aload_n hx hb d_R_change_91 rfl (lv_at hl 0 rfl) ?_
      refine g_rR_covered E I k_R_45 d_R_change_92 ?_
      refine lv_iload hx hb d_R_change_95 (lv_at hl 3 rfl) ?_
      refine lv_aload_n hx hb d_R_change_97 rfl (lv_at hl 0 rfl) ?_
      refine g_rR_covers E I k_R_41 d_R_change_98 ?_
      refine lv_iload hx hb d_R_change_101 (lv_at hl 3 rfl) ?_
      obtain ⟨b26, h⟩ := ck_some h
      refine l_r_covers E I b26 d_R_change_103 ?_
      obtain ⟨b27, h⟩ := ck_some h
      obtain ⟨st28, est28⟩ : ∃ y : RS, y = (s_r_covered st x5.toNatClampNeg (vp_nar .boolean (r_covers st x5.toNatClampNeg))) := ⟨_, rfl⟩
      have h := nx_k est28 h
      refine p_r_covered E I b27 est28 d_R_change_104 (fun H locs I => ?_)
      obtain ⟨x5_29, ex5_29⟩ : ∃ y : Int32, y = (x5 + 1) := ⟨_, rfl⟩
      have h := nx_k ex5_29 h
      refine lv_iinc (v := x5_29) (lv' := [(5, .int x5_29), (0, .ref (A 0)), (1, .int x1), (2, .long x2)]) hx hb d_R_change_105 hl (k := 3) rfl (by rw [ex5_29]; rfl) (by decide) rfl (fun ls hl => ?_)
      refine lv_goto (tgt := 79) hx hb d_R_change_108 (by decide) ?_
      exact ih x1 x2 x5_29 st28 _ _ _ h I (lv_sub hl [1, 2, 3, 0] rfl)
set_option maxHeartbeats 4000000 in
set_option maxRecDepth 100000 in
theorem w_R_change_26  {r : Int32} {t : RS} (E : EC R_R c_R_change 6 p s m args c D (tyL cs)) (hA : ∀ q, H0.size ≤ q → A0 q) (kr : ∀ (H : Heap) (locs : List Loc) (pc : Nat) (ls : Array Slot), IW D (cwR A cs t) A0 H0 H locs → decode c_R_change pc = .ok (.ireturn, 1) → W p l e rm_R_change s m args below meth c H locs 0 0 Q (F0 m pc ls [.int r])) : ∀ (n : Nat), ∀ (x1 : Int32) (x2 : Int64) (x4 : Int32) (x5 : Int32) (st : RS) (H : Heap) (locs : List Loc) (ls : Array Slot), f_R_change_26 n x1 x2 x4 x5 st = some (r, t) → IW D (cwR A cs st) A0 H0 H locs → lv_has ls 6 [(0, .ref (A 0)), (1, .int x1), (2, .long x2), (4, .int x4), (5, .int x5)] → W p l e rm_R_change s m args below meth c H locs 0 0 Q (F0 m 26 ls []) := by
  intro n
  induction n with
  | zero => intro x1 x2 x4 x5 st H locs ls h I hl; cases h
  | succ n ih =>
    intro x1 x2 x4 x5 st H locs ls h I hl
    have hx := E.1
    have hb := E.2.1
    rw [f_R_change_26] at h
    refine lv_iload hx hb d_R_change_26 (lv_at hl 4 rfl) ?_
    refine lv_aload_n hx hb d_R_change_28 rfl (lv_at hl 0 rfl) ?_
    refine g_r_tests E I k_R_98 d_R_change_29 ?_
    refine lv_icmp_ge (tgt := 62) hx hb d_R_change_32 (by decide) (fun c30 => ?_) (fun c30 => ?_)
    · have h := ifp c30 h
      refine lv_aload_n hx hb d_R_change_62 rfl (lv_at hl 0 rfl) ?_
      refine g_rR_number E I k_R_13 d_R_change_63 ?_
      refine lv_iload_n hx hb d_R_change_66 rfl (lv_at hl 1 rfl) ?_
      obtain ⟨b31, h⟩ := ck_some h
      refine l_r_number E I b31 d_R_change_67 ?_
      refine lv_lload_n hx hb d_R_change_68 rfl (lv_at hl 2 rfl) ?_
      refine W.lcmp hx hb d_R_change_69 ?_
      refine lv_if_ne (tgt := 76) hx hb d_R_change_70 (by decide) (fun c32 => ?_) (fun c32 => ?_)
      · have c32 := mt (lg_cmp_eq _ _).mpr c32
        have h := ifn c32 h
        refine lv_iconst (v := 0) hx hb d_R_change_76 (by decide) ?_
        refine lv_istore (lv' := [(5, .int (0 : Int32)), (0, .ref (A 0)), (1, .int x1), (2, .long x2), (4, .int x4)]) hx hb d_R_change_77 hl (by decide) rfl (fun ls hl => ?_)
        exact w_R_change_79 E hA kr FU x1 x2 (0 : Int32) st _ _ _ h I (lv_sub hl [1, 2, 3, 0] rfl)
      · have c32 := (lg_cmp_eq _ _).mp c32
        have h := ifp c32 h
        refine lv_iload hx hb d_R_change_73 (lv_at hl 3 rfl) ?_
        cases h
        exact kr _ _ _ _ I d_R_change_75
    · have h := ifn c30 h
      refine lv_iload hx hb d_R_change_35 (lv_at hl 3 rfl) ?_
      refine lv_aload_n hx hb d_R_change_37 rfl (lv_at hl 0 rfl) ?_
      refine g_rR_passes E I k_R_35 d_R_change_38 ?_
      refine lv_iload hx hb d_R_change_41 (lv_at hl 4 rfl) ?_
      obtain ⟨b33, h⟩ := ck_some h
      refine l_r_passes E I b33 d_R_change_43 ?_
      refine lv_iconst (v := 1) hx hb d_R_change_44 (by decide) ?_
      refine lv_icmp_ne (tgt := 52) hx hb d_R_change_45 (by decide) (fun c34 => ?_) (fun c34 => ?_)
      · have h := ifn c34 h
        refine lv_iconst (v := 0) hx hb d_R_change_52 (by decide) ?_
        refine lv_iadd hx hb d_R_change_53 ?_
        refine lv_topi (fun x4_35 ex4_35 => ?_)
        have h := nx_k ex4_35 h
        refine lv_istore (lv' := [(4, .int x4_35), (0, .ref (A 0)), (1, .int x1), (2, .long x2), (5, .int x5)]) hx hb d_R_change_54 hl (by decide) rfl (fun ls hl => ?_)
        obtain ⟨x5_36, ex5_36⟩ : ∃ y : Int32, y = (x5 + 1) := ⟨_, rfl⟩
        have h := nx_k ex5_36 h
        refine lv_iinc (v := x5_36) (lv' := [(5, .int x5_36), (4, .int x4_35), (0, .ref (A 0)), (1, .int x1), (2, .long x2)]) hx hb d_R_change_56 hl (k := 4) rfl (by rw [ex5_36]; rfl) (by decide) rfl (fun ls hl => ?_)
        refine lv_goto (tgt := 26) hx hb d_R_change_59 (by decide) ?_
        exact ih x1 x2 x4_35 x5_36 st _ _ _ h I (lv_sub hl [2, 3, 4, 1, 0] rfl)
      · have h := ifp c34 h
        refine lv_iconst (v := 1) hx hb d_R_change_48 (by decide) ?_
        refine lv_goto (tgt := 53) hx hb d_R_change_49 (by decide) ?_
        refine lv_iadd hx hb d_R_change_53 ?_
        refine lv_topi (fun x4_37 ex4_37 => ?_)
        have h := nx_k ex4_37 h
        refine lv_istore (lv' := [(4, .int x4_37), (0, .ref (A 0)), (1, .int x1), (2, .long x2), (5, .int x5)]) hx hb d_R_change_54 hl (by decide) rfl (fun ls hl => ?_)
        obtain ⟨x5_38, ex5_38⟩ : ∃ y : Int32, y = (x5 + 1) := ⟨_, rfl⟩
        have h := nx_k ex5_38 h
        refine lv_iinc (v := x5_38) (lv' := [(5, .int x5_38), (4, .int x4_37), (0, .ref (A 0)), (1, .int x1), (2, .long x2)]) hx hb d_R_change_56 hl (k := 4) rfl (by rw [ex5_38]; rfl) (by decide) rfl (fun ls hl => ?_)
        refine lv_goto (tgt := 26) hx hb d_R_change_59 (by decide) ?_
        exact ih x1 x2 x4_37 x5_38 st _ _ _ h I (lv_sub hl [2, 3, 4, 1, 0] rfl)
set_option maxHeartbeats 4000000 in
set_option maxRecDepth 100000 in
theorem w_R_change  {r : Int32} {t : RS} (E : EC R_R c_R_change 6 p s m args c D (tyL cs)) (hA : ∀ q, H0.size ≤ q → A0 q) (kr : ∀ (H : Heap) (locs : List Loc) (pc : Nat) (ls : Array Slot), IW D (cwR A cs t) A0 H0 H locs → decode c_R_change pc = .ok (.ireturn, 1) → W p l e rm_R_change s m args below meth c H locs 0 0 Q (F0 m pc ls [.int r])) : ∀ (x1 : Int32) (x2 : Int64) (st : RS) (H : Heap) (locs : List Loc) (ls : Array Slot), f_R_change x1 x2 st = some (r, t) → IW D (cwR A cs st) A0 H0 H locs → lv_has ls 6 [(0, .ref (A 0)), (1, .int x1), (2, .long x2)] → W p l e rm_R_change s m args below meth c H locs 0 0 Q (F0 m 0 ls []) := by
  intro x1 x2 st H locs ls h I hl
  have hx := E.1
  have hb := E.2.1
  rw [f_R_change] at h
  refine lv_aload_n hx hb d_R_change_0 rfl (lv_at hl 0 rfl) ?_
  refine lv_iload_n hx hb d_R_change_1 rfl (lv_at hl 1 rfl) ?_
  refine lv_i2l hx hb d_R_change_2 rfl ?_
  obtain ⟨r40, st39, h41, h⟩ := bd_some h
  refine cV (As := [.long x1.toInt64]) (rest := []) E I hA (k_R_isNode h41) g_R_110 ⟨rfl, rfl⟩ 0 rfl rfl rfl hl rfl (Nat.le_of_ble_eq_true rfl) ⟨Nat.le_of_ble_eq_true rfl, Nat.le_of_ble_eq_true rfl⟩ ⟨Nat.zero_le _, Nat.zero_le _⟩ d_R_change_3 rfl (fun H locs I => ?_)
  refine lv_if_eq (tgt := 18) hx hb d_R_change_6 (by decide) (fun c42 => ?_) (fun c42 => ?_)
  · have h := ifp c42 h
    refine lv_iconst (v := -1) hx hb d_R_change_18 (by decide) ?_
    cases h
    exact kr _ _ _ _ I d_R_change_19
  · have h := ifn c42 h
    refine lv_aload_n hx hb d_R_change_9 rfl (lv_at hl 0 rfl) ?_
    refine g_rR_kindOf E I k_R_7 d_R_change_10 ?_
    refine lv_iload_n hx hb d_R_change_13 rfl (lv_at hl 1 rfl) ?_
    obtain ⟨b43, h⟩ := ck_some h
    refine l_r_kindOf E I b43 d_R_change_14 ?_
    refine lv_if_eq (tgt := 20) hx hb d_R_change_15 (by decide) (fun c44 => ?_) (fun c44 => ?_)
    · have h := ifp c44 h
      refine lv_iconst (v := 0) hx hb d_R_change_20 (by decide) ?_
      refine lv_istore (lv' := [(4, .int (0 : Int32)), (0, .ref (A 0)), (1, .int x1), (2, .long x2)]) hx hb d_R_change_21 hl (by decide) rfl (fun ls hl => ?_)
      refine lv_iconst (v := 0) hx hb d_R_change_23 (by decide) ?_
      refine lv_istore (lv' := [(5, .int (0 : Int32)), (4, .int (0 : Int32)), (0, .ref (A 0)), (1, .int x1), (2, .long x2)]) hx hb d_R_change_24 hl (by decide) rfl (fun ls hl => ?_)
      exact w_R_change_26 E hA kr FU x1 x2 (0 : Int32) (0 : Int32) st39 _ _ _ h I (lv_sub hl [2, 3, 4, 1, 0] rfl)
    · have h := ifn c44 h
      refine lv_iconst (v := -1) hx hb d_R_change_18 (by decide) ?_
      cases h
      exact kr _ _ _ _ I d_R_change_19
set_option maxHeartbeats 4000000 in
set_option maxRecDepth 100000 in
theorem k_R_change {x1 : Int32} {x2 : Int64} {st t : RS} {r : Int32} (h : f_R_change x1 x2 st = some (r, t)) : Cn l y_R_change c_R_change 6 (some .int) rm_R_change D (tyL cs) (cwR A cs st) (cwR A cs t) [.ref (A 0), .int x1, .long x2] (some (.int r)) := by
  refine cn_intro (by decide) (Nat.le_of_ble_eq_true rfl) ?_
  intro p e s m below meth c A0 Q ls E hr hlk hA hA0 hQ I hl
  exact w_R_change E hA (rt_i E hr hlk hA0 hQ) x1 x2 st _ _ _ h I (lv_sub hl [0, 1, 2] rfl)
end Mmr4
