section Mmc6
variable {p : Program} {l : Launch} {e : Env} {s : State} {m : MethodId} {args : Array Value} {below : List Frame} {meth : Method} {c : Code} {Q : State → Prop} {D : va_G} {A0 : Nat → Prop} {H0 : Heap} {A : Nat → Nat} {cs : ClassId × ClassId × ClassId}
abbrev rm_M_miss : Room := { frames := 4, cells := 0, slots := 0, locals := 89 }
noncomputable def f_M_miss_4 : Nat → Int32 → Int32 → Int32 → CS → Option (Int32 × CS)
  | 0, _, _, _, _ => none
  | n + 1, x1, x2, x3, st =>
    bd (f_N_size st) fun r2 st1 =>
    if r2 ≤ x3 then (
      some ((-1 : Int32), st1)
    ) else (
      bd (f_N_isOnSide x3 (2 : Int32) st1) fun r6 st5 =>
      if r6 = 0 then (
        nx (x3 + 1) fun x3_9 =>
        f_M_miss_4 n x1 x2 x3_9 st5
      ) else (
        if x2 = x1 then (
          some (x3, st5)
        ) else (
          nx (x2 + 1) fun x2_11 =>
          nx (x3 + 1) fun x3_12 =>
          f_M_miss_4 n x1 x2_11 x3_12 st5
        )
      )
    )
noncomputable def f_M_miss (x1 : Int32) (st : CS) : Option (Int32 × CS) :=
  f_M_miss_4 FU x1 (0 : Int32) (0 : Int32) st
set_option maxHeartbeats 4000000 in
set_option maxRecDepth 100000 in
theorem w_M_miss_4  {r : Int32} {t : CS} (E : EC R_M c_M_miss 4 p s m args c D (tyL cs)) (hA : ∀ q, H0.size ≤ q → A0 q) (kr : ∀ (H : Heap) (locs : List Loc) (pc : Nat) (ls : Array Slot), IW D (cwC A cs t) A0 H0 H locs → decode c_M_miss pc = .ok (.ireturn, 1) → W p l e rm_M_miss s m args below meth c H locs 0 0 Q (F0 m pc ls [.int r])) : ∀ (n : Nat), ∀ (x1 : Int32) (x2 : Int32) (x3 : Int32) (st : CS) (H : Heap) (locs : List Loc) (ls : Array Slot), f_M_miss_4 n x1 x2 x3 st = some (r, t) → IW D (cwC A cs st) A0 H0 H locs → lv_has ls 4 [(0, .ref (A 0)), (1, .int x1), (2, .int x2), (3, .int x3)] → W p l e rm_M_miss s m args below meth c H locs 0 0 Q (F0 m 4 ls []) := by
  intro n
  induction n with
  | zero => intro x1 x2 x3 st H locs ls h I hl; cases h
  | succ n ih =>
    intro x1 x2 x3 st H locs ls h I hl
    have hx := E.1
    have hb := E.2.1
    rw [f_M_miss_4] at h
    refine lv_iload_n hx hb d_M_miss_4 rfl (lv_at hl 3 rfl) ?_
    refine lv_aload_n hx hb d_M_miss_5 rfl (lv_at hl 0 rfl) ?_
    refine g_cM_mutants E I k_M_28 d_M_miss_6 ?_
    obtain ⟨r2, st1, h3, h⟩ := bd_some h
    refine cV (As := []) (rest := [.int x3]) E I hA (k_N_size h3) g_M_85 ⟨rfl, rfl⟩ 4 rfl rfl rfl hl rfl (Nat.le_of_ble_eq_true rfl) ⟨Nat.le_of_ble_eq_true rfl, Nat.le_of_ble_eq_true rfl⟩ ⟨Nat.zero_le _, Nat.zero_le _⟩ d_M_miss_9 rfl (fun H locs I => ?_)
    refine lv_icmp_ge (tgt := 43) hx hb d_M_miss_12 (by decide) (fun c4 => ?_) (fun c4 => ?_)
    · have h := ifp c4 h
      refine lv_iconst (v := -1) hx hb d_M_miss_43 (by decide) ?_
      cases h
      exact kr _ _ _ _ I d_M_miss_44
    · have h := ifn c4 h
      refine lv_aload_n hx hb d_M_miss_15 rfl (lv_at hl 0 rfl) ?_
      refine g_cM_mutants E I k_M_28 d_M_miss_16 ?_
      refine lv_iload_n hx hb d_M_miss_19 rfl (lv_at hl 3 rfl) ?_
      refine lv_iconst (v := 2) hx hb d_M_miss_20 (by decide) ?_
      obtain ⟨r6, st5, h7, h⟩ := bd_some h
      refine cV (As := [.int x3, .int (2 : Int32)]) (rest := []) E I hA (k_N_isOnSide h7) g_M_162 ⟨rfl, rfl⟩ 4 rfl rfl rfl hl rfl (Nat.le_of_ble_eq_true rfl) ⟨Nat.le_of_ble_eq_true rfl, Nat.le_of_ble_eq_true rfl⟩ ⟨Nat.zero_le _, Nat.zero_le _⟩ d_M_miss_21 rfl (fun H locs I => ?_)
      refine lv_if_eq (tgt := 37) hx hb d_M_miss_24 (by decide) (fun c8 => ?_) (fun c8 => ?_)
      · have h := ifp c8 h
        obtain ⟨x3_9, ex3_9⟩ : ∃ y : Int32, y = (x3 + 1) := ⟨_, rfl⟩
        have h := nx_k ex3_9 h
        refine lv_iinc (v := x3_9) (lv' := [(3, .int x3_9), (0, .ref (A 0)), (1, .int x1), (2, .int x2)]) hx hb d_M_miss_37 hl (k := 3) rfl (by rw [ex3_9]; rfl) (by decide) rfl (fun ls hl => ?_)
        refine lv_goto (tgt := 4) hx hb d_M_miss_40 (by decide) ?_
        exact ih x1 x2 x3_9 st5 _ _ _ h I (lv_sub hl [1, 2, 3, 0] rfl)
      · have h := ifn c8 h
        refine lv_iload_n hx hb d_M_miss_27 rfl (lv_at hl 2 rfl) ?_
        refine lv_iload_n hx hb d_M_miss_28 rfl (lv_at hl 1 rfl) ?_
        refine lv_icmp_ne (tgt := 34) hx hb d_M_miss_29 (by decide) (fun c10 => ?_) (fun c10 => ?_)
        · have h := ifn c10 h
          obtain ⟨x2_11, ex2_11⟩ : ∃ y : Int32, y = (x2 + 1) := ⟨_, rfl⟩
          have h := nx_k ex2_11 h
          refine lv_iinc (v := x2_11) (lv' := [(2, .int x2_11), (0, .ref (A 0)), (1, .int x1), (3, .int x3)]) hx hb d_M_miss_34 hl (k := 2) rfl (by rw [ex2_11]; rfl) (by decide) rfl (fun ls hl => ?_)
          obtain ⟨x3_12, ex3_12⟩ : ∃ y : Int32, y = (x3 + 1) := ⟨_, rfl⟩
          have h := nx_k ex3_12 h
          refine lv_iinc (v := x3_12) (lv' := [(3, .int x3_12), (2, .int x2_11), (0, .ref (A 0)), (1, .int x1)]) hx hb d_M_miss_37 hl (k := 3) rfl (by rw [ex3_12]; rfl) (by decide) rfl (fun ls hl => ?_)
          refine lv_goto (tgt := 4) hx hb d_M_miss_40 (by decide) ?_
          exact ih x1 x2_11 x3_12 st5 _ _ _ h I (lv_sub hl [2, 3, 1, 0] rfl)
        · have h := ifp c10 h
          refine lv_iload_n hx hb d_M_miss_32 rfl (lv_at hl 3 rfl) ?_
          cases h
          exact kr _ _ _ _ I d_M_miss_33
set_option maxHeartbeats 4000000 in
set_option maxRecDepth 100000 in
theorem w_M_miss  {r : Int32} {t : CS} (E : EC R_M c_M_miss 4 p s m args c D (tyL cs)) (hA : ∀ q, H0.size ≤ q → A0 q) (kr : ∀ (H : Heap) (locs : List Loc) (pc : Nat) (ls : Array Slot), IW D (cwC A cs t) A0 H0 H locs → decode c_M_miss pc = .ok (.ireturn, 1) → W p l e rm_M_miss s m args below meth c H locs 0 0 Q (F0 m pc ls [.int r])) : ∀ (x1 : Int32) (st : CS) (H : Heap) (locs : List Loc) (ls : Array Slot), f_M_miss x1 st = some (r, t) → IW D (cwC A cs st) A0 H0 H locs → lv_has ls 4 [(0, .ref (A 0)), (1, .int x1)] → W p l e rm_M_miss s m args below meth c H locs 0 0 Q (F0 m 0 ls []) := by
  intro x1 st H locs ls h I hl
  have hx := E.1
  have hb := E.2.1
  rw [f_M_miss] at h
  refine lv_iconst (v := 0) hx hb d_M_miss_0 (by decide) ?_
  refine lv_istore_n (lv' := [(2, .int (0 : Int32)), (0, .ref (A 0)), (1, .int x1)]) hx hb d_M_miss_1 rfl hl (by decide) rfl (fun ls hl => ?_)
  refine lv_iconst (v := 0) hx hb d_M_miss_2 (by decide) ?_
  refine lv_istore_n (lv' := [(3, .int (0 : Int32)), (2, .int (0 : Int32)), (0, .ref (A 0)), (1, .int x1)]) hx hb d_M_miss_3 rfl hl (by decide) rfl (fun ls hl => ?_)
  exact w_M_miss_4 E hA kr FU x1 (0 : Int32) (0 : Int32) st _ _ _ h I (lv_sub hl [2, 3, 1, 0] rfl)
set_option maxHeartbeats 4000000 in
set_option maxRecDepth 100000 in
theorem k_M_miss {x1 : Int32} {st t : CS} {r : Int32} (h : f_M_miss x1 st = some (r, t)) : Cn l y_M_miss c_M_miss 4 (some .int) rm_M_miss D (tyL cs) (cwC A cs st) (cwC A cs t) [.ref (A 0), .int x1] (some (.int r)) := by
  refine cn_intro (by decide) (Nat.le_of_ble_eq_true rfl) ?_
  intro p e s m below meth c A0 Q ls E hr hlk hA hA0 hQ I hl
  exact w_M_miss E hA (rt_i E hr hlk hA0 hQ) x1 st _ _ _ h I (lv_sub hl [0, 1] rfl)
end Mmc6
