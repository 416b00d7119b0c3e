section Mmc2
variable {p : Program} {l : Launch} {e : Env} {s : State} {m : MethodId} {args : Array Value} {below : List Frame} {meth : Method} {c : Code} {Q : State → Prop} {D : va_G} {A0 : Nat → Prop} {H0 : Heap} {A : Nat → Nat} {cs : ClassId × ClassId × ClassId}
noncomputable def f_K_worthOfTwo_164 (fw : Int32 → CS → Option (Int64 × CS)) (x3 : Int32) (s0 : Int32) (st : CS) : Option (Int64 × CS) :=
  if x3 = (5 : Int32) then (
    if s0 = (1 : Int32) then (
      some ((0 : Int64), st)
    ) else (
      some ((1 : Int64), st)
    )
  ) else (
    if s0 = (0 : Int32) then (
      some ((0 : Int64), st)
    ) else (
      some ((1 : Int64), st)
    )
  )
noncomputable def f_K_worthOfTwo_46 (fw : Int32 → CS → Option (Int64 × CS)) (x2 : Int32) (x3 : Int32) (x4 : Int64) (x6 : Int64) (s0 : Int32) (st : CS) : Option (Int64 × CS) :=
  if x2 = 3 then (
    if s0 = 0 then (
      some ((x4 + x6), st)
    ) else (
      some ((x4 - x6), st)
    )
  ) else (
    if x2 = 4 then (
      if s0 = 0 then (
        some ((x4 - x6), st)
      ) else (
        some ((x4 + x6), st)
      )
    ) else (
      if x2 = 5 then (
        some ((x4 * x6), st)
      ) else (
        if x2 = 6 then (
          if x4 < x6 then (
            some ((1 : Int64), st)
          ) else (
            if x3 = (1 : Int32) then (
              if x4 = x6 then (
                some ((1 : Int64), st)
              ) else (
                some ((0 : Int64), st)
              )
            ) else (
              some ((0 : Int64), st)
            )
          )
        ) else (
          if x4 = x6 then (
            f_K_worthOfTwo_164 fw x3 (1 : Int32) st
          ) else (
            f_K_worthOfTwo_164 fw x3 (0 : Int32) st
          )
        )
      )
    )
  )
noncomputable def f_K_worthOfTwo (fw : Int32 → CS → Option (Int64 × CS)) (x1 : Int32) (x2 : Int32) (x3 : Int32) (st : CS) : Option (Int64 × CS) :=
  bd (f_T_firstOf x1 st) fun r15 st14 =>
  bd (fw r15 st14) fun r18 st17 =>
  if x3 = (4 : Int32) then (
    some (r18, st17)
  ) else (
    bd (f_T_secondOf x1 st17) fun r22 st21 =>
    bd (fw r22 st21) fun r25 st24 =>
    if x3 = (2 : Int32) then (
      f_K_worthOfTwo_46 fw x2 x3 r18 r25 (1 : Int32) st24
    ) else (
      f_K_worthOfTwo_46 fw x2 x3 r18 r25 (0 : Int32) st24
    )
  )
set_option maxHeartbeats 4000000 in
set_option maxRecDepth 100000 in
theorem w_K_worthOfTwo_164  {d : Nat} {fw : Int32 → CS → Option (Int64 × CS)} (hfw : ∀ (x1 : Int32) (st : CS) (r : Int64) (t : CS), fw x1 st = some (r, t) → Cn l y_K_worth c_K_worth 4 (some .long) (rm_K_worth d) D (tyL cs) (cwC A cs st) (cwC A cs t) [.ref (A 3), .int x1] (some (.long r))) {r : Int64} {t : CS} (E : EC R_K c_K_worthOfTwo 9 p s m args c D (tyL cs)) (hA : ∀ q, H0.size ≤ q → A0 q) (kr : ∀ (H : Heap) (locs : List Loc) (pc : Nat) (ls : Array Slot), IW D (cwC A cs t) A0 H0 H locs → decode c_K_worthOfTwo pc = .ok (.lreturn, 1) → W p l e (rm_K_worthOfTwo d) s m args below meth c H locs 0 0 Q (F0 m pc ls [.long r])) : ∀ (x3 : Int32) (s0 : Int32) (st : CS) (H : Heap) (locs : List Loc) (ls : Array Slot), f_K_worthOfTwo_164 fw x3 s0 st = some (r, t) → IW D (cwC A cs st) A0 H0 H locs → lv_has ls 9 [(3, .int x3)] → W p l e (rm_K_worthOfTwo d) s m args below meth c H locs 0 0 Q (F0 m 164 ls [.int s0]) := by
  intro x3 s0 st H locs ls h I hl
  have hx := E.1
  have hb := E.2.1
  rw [f_K_worthOfTwo_164] at h
  refine lv_iload_n hx hb d_K_worthOfTwo_164 rfl (lv_at hl 0 rfl) ?_
  refine lv_iconst (v := 5) hx hb d_K_worthOfTwo_165 (by decide) ?_
  refine lv_icmp_ne (tgt := 173) hx hb d_K_worthOfTwo_166 (by decide) (fun c1 => ?_) (fun c1 => ?_)
  · have h := ifn c1 h
    refine lv_iconst (v := 0) hx hb d_K_worthOfTwo_173 (by decide) ?_
    refine lv_icmp_eq (tgt := 181) hx hb d_K_worthOfTwo_174 (by decide) (fun c2 => ?_) (fun c2 => ?_)
    · have h := ifp c2 h
      refine lv_lconst (v := 0) hx hb d_K_worthOfTwo_181 (by decide) ?_
      cases h
      exact kr _ _ _ _ I d_K_worthOfTwo_182
    · have h := ifn c2 h
      refine lv_lconst (v := 1) hx hb d_K_worthOfTwo_177 (by decide) ?_
      refine lv_goto (tgt := 182) hx hb d_K_worthOfTwo_178 (by decide) ?_
      cases h
      exact kr _ _ _ _ I d_K_worthOfTwo_182
  · have h := ifp c1 h
    refine lv_iconst (v := 1) hx hb d_K_worthOfTwo_169 (by decide) ?_
    refine lv_goto (tgt := 174) hx hb d_K_worthOfTwo_170 (by decide) ?_
    refine lv_icmp_eq (tgt := 181) hx hb d_K_worthOfTwo_174 (by decide) (fun c3 => ?_) (fun c3 => ?_)
    · have h := ifp c3 h
      refine lv_lconst (v := 0) hx hb d_K_worthOfTwo_181 (by decide) ?_
      cases h
      exact kr _ _ _ _ I d_K_worthOfTwo_182
    · have h := ifn c3 h
      refine lv_lconst (v := 1) hx hb d_K_worthOfTwo_177 (by decide) ?_
      refine lv_goto (tgt := 182) hx hb d_K_worthOfTwo_178 (by decide) ?_
      cases h
      exact kr _ _ _ _ I d_K_worthOfTwo_182
set_option maxHeartbeats 4000000 in
set_option maxRecDepth 100000 in
theorem w_K_worthOfTwo_46  {d : Nat} {fw : Int32 → CS → Option (Int64 × CS)} (hfw : ∀ (x1 : Int32) (st : CS) (r : Int64) (t : CS), fw x1 st = some (r, t) → Cn l y_K_worth c_K_worth 4 (some .long) (rm_K_worth d) D (tyL cs) (cwC A cs st) (cwC A cs t) [.ref (A 3), .int x1] (some (.long r))) {r : Int64} {t : CS} (E : EC R_K c_K_worthOfTwo 9 p s m args c D (tyL cs)) (hA : ∀ q, H0.size ≤ q → A0 q) (kr : ∀ (H : Heap) (locs : List Loc) (pc : Nat) (ls : Array Slot), IW D (cwC A cs t) A0 H0 H locs → decode c_K_worthOfTwo pc = .ok (.lreturn, 1) → W p l e (rm_K_worthOfTwo d) s m args below meth c H locs 0 0 Q (F0 m pc ls [.long r])) : ∀ (x2 : Int32) (x3 : Int32) (x4 : Int64) (x6 : Int64) (s0 : Int32) (st : CS) (H : Heap) (locs : List Loc) (ls : Array Slot), f_K_worthOfTwo_46 fw x2 x3 x4 x6 s0 st = some (r, t) → IW D (cwC A cs st) A0 H0 H locs → lv_has ls 9 [(2, .int x2), (3, .int x3), (4, .long x4), (6, .long x6)] → W p l e (rm_K_worthOfTwo d) s m args below meth c H locs 0 0 Q (F0 m 46 ls [.int s0]) := by
  intro x2 x3 x4 x6 s0 st H locs ls h I hl
  have hx := E.1
  have hb := E.2.1
  rw [f_K_worthOfTwo_46] at h
  refine lv_istore (lv' := [(8, .int s0), (2, .int x2), (3, .int x3), (4, .long x4), (6, .long x6)]) hx hb d_K_worthOfTwo_46 hl (by decide) rfl (fun ls hl => ?_)
  refine lv_iload_n hx hb d_K_worthOfTwo_48 rfl (lv_at hl 1 rfl) ?_
  by_cases c4 : x2 = 3
  · have h := ifp c4 h
    refine lv_tableIn (off := 31) (tgt := 80) hx hb d_K_worthOfTwo_49 (by rw [c4]; decide) (by rw [c4]; decide) (by rw [c4]; rfl) (by decide) ?_
    refine lv_iload hx hb d_K_worthOfTwo_80 (lv_at hl 0 rfl) ?_
    refine lv_if_eq (tgt := 93) hx hb d_K_worthOfTwo_82 (by decide) (fun c5 => ?_) (fun c5 => ?_)
    · have h := ifp c5 h
      refine lv_lload hx hb d_K_worthOfTwo_93 (lv_at hl 3 rfl) ?_
      refine lv_lload hx hb d_K_worthOfTwo_95 (lv_at hl 4 rfl) ?_
      refine lv_ladd hx hb d_K_worthOfTwo_97 ?_
      cases h
      exact kr _ _ _ _ I d_K_worthOfTwo_98
    · have h := ifn c5 h
      refine lv_lload hx hb d_K_worthOfTwo_85 (lv_at hl 3 rfl) ?_
      refine lv_lload hx hb d_K_worthOfTwo_87 (lv_at hl 4 rfl) ?_
      refine lv_lsub hx hb d_K_worthOfTwo_89 ?_
      refine lv_goto (tgt := 98) hx hb d_K_worthOfTwo_90 (by decide) ?_
      cases h
      exact kr _ _ _ _ I d_K_worthOfTwo_98
  · have h := ifn c4 h
    by_cases c6 : x2 = 4
    · have h := ifp c6 h
      refine lv_tableIn (off := 50) (tgt := 99) hx hb d_K_worthOfTwo_49 (by rw [c6]; decide) (by rw [c6]; decide) (by rw [c6]; rfl) (by decide) ?_
      refine lv_iload hx hb d_K_worthOfTwo_99 (lv_at hl 0 rfl) ?_
      refine lv_if_eq (tgt := 112) hx hb d_K_worthOfTwo_101 (by decide) (fun c7 => ?_) (fun c7 => ?_)
      · have h := ifp c7 h
        refine lv_lload hx hb d_K_worthOfTwo_112 (lv_at hl 3 rfl) ?_
        refine lv_lload hx hb d_K_worthOfTwo_114 (lv_at hl 4 rfl) ?_
        refine lv_lsub hx hb d_K_worthOfTwo_116 ?_
        cases h
        exact kr _ _ _ _ I d_K_worthOfTwo_117
      · have h := ifn c7 h
        refine lv_lload hx hb d_K_worthOfTwo_104 (lv_at hl 3 rfl) ?_
        refine lv_lload hx hb d_K_worthOfTwo_106 (lv_at hl 4 rfl) ?_
        refine lv_ladd hx hb d_K_worthOfTwo_108 ?_
        refine lv_goto (tgt := 117) hx hb d_K_worthOfTwo_109 (by decide) ?_
        cases h
        exact kr _ _ _ _ I d_K_worthOfTwo_117
    · have h := ifn c6 h
      by_cases c8 : x2 = 5
      · have h := ifp c8 h
        refine lv_tableIn (off := 69) (tgt := 118) hx hb d_K_worthOfTwo_49 (by rw [c8]; decide) (by rw [c8]; decide) (by rw [c8]; rfl) (by decide) ?_
        refine lv_lload hx hb d_K_worthOfTwo_118 (lv_at hl 3 rfl) ?_
        refine lv_lload hx hb d_K_worthOfTwo_120 (lv_at hl 4 rfl) ?_
        refine lv_lmul hx hb d_K_worthOfTwo_122 ?_
        cases h
        exact kr _ _ _ _ I d_K_worthOfTwo_123
      · have h := ifn c8 h
        by_cases c9 : x2 = 6
        · have h := ifp c9 h
          refine lv_tableIn (off := 75) (tgt := 124) hx hb d_K_worthOfTwo_49 (by rw [c9]; decide) (by rw [c9]; decide) (by rw [c9]; rfl) (by decide) ?_
          refine lv_lload hx hb d_K_worthOfTwo_124 (lv_at hl 3 rfl) ?_
          refine lv_lload hx hb d_K_worthOfTwo_126 (lv_at hl 4 rfl) ?_
          refine W.lcmp hx hb d_K_worthOfTwo_128 ?_
          refine lv_if_lt (tgt := 145) hx hb d_K_worthOfTwo_129 (by decide) (fun c10 => ?_) (fun c10 => ?_)
          · have c10 := (lg_cmp_lt _ _).mp c10
            have h := ifp c10 h
            refine lv_lconst (v := 1) hx hb d_K_worthOfTwo_145 (by decide) ?_
            refine lv_goto (tgt := 150) hx hb d_K_worthOfTwo_146 (by decide) ?_
            cases h
            exact kr _ _ _ _ I d_K_worthOfTwo_150
          · have c10 := mt (lg_cmp_lt _ _).mpr c10
            have h := ifn c10 h
            refine lv_iload_n hx hb d_K_worthOfTwo_132 rfl (lv_at hl 2 rfl) ?_
            refine lv_iconst (v := 1) hx hb d_K_worthOfTwo_133 (by decide) ?_
            refine lv_icmp_ne (tgt := 149) hx hb d_K_worthOfTwo_134 (by decide) (fun c11 => ?_) (fun c11 => ?_)
            · have h := ifn c11 h
              refine lv_lconst (v := 0) hx hb d_K_worthOfTwo_149 (by decide) ?_
              cases h
              exact kr _ _ _ _ I d_K_worthOfTwo_150
            · have h := ifp c11 h
              refine lv_lload hx hb d_K_worthOfTwo_137 (lv_at hl 3 rfl) ?_
              refine lv_lload hx hb d_K_worthOfTwo_139 (lv_at hl 4 rfl) ?_
              refine W.lcmp hx hb d_K_worthOfTwo_141 ?_
              refine lv_if_ne (tgt := 149) hx hb d_K_worthOfTwo_142 (by decide) (fun c12 => ?_) (fun c12 => ?_)
              · have c12 := mt (lg_cmp_eq _ _).mpr c12
                have h := ifn c12 h
                refine lv_lconst (v := 0) hx hb d_K_worthOfTwo_149 (by decide) ?_
                cases h
                exact kr _ _ _ _ I d_K_worthOfTwo_150
              · have c12 := (lg_cmp_eq _ _).mp c12
                have h := ifp c12 h
                refine lv_lconst (v := 1) hx hb d_K_worthOfTwo_145 (by decide) ?_
                refine lv_goto (tgt := 150) hx hb d_K_worthOfTwo_146 (by decide) ?_
                cases h
                exact kr _ _ _ _ I d_K_worthOfTwo_150
        · have h := ifn c9 h
          have tc4 := ne_ti (z := 3) (by decide) c4
          have tc6 := ne_ti (z := 4) (by decide) c6
          have tc8 := ne_ti (z := 5) (by decide) c8
          have tc9 := ne_ti (z := 6) (by decide) c9
          refine lv_tableOut (tgt := 151) hx hb d_K_worthOfTwo_49 (by omega) (by decide) ?_
          refine lv_lload hx hb d_K_worthOfTwo_151 (lv_at hl 3 rfl) ?_
          refine lv_lload hx hb d_K_worthOfTwo_153 (lv_at hl 4 rfl) ?_
          refine W.lcmp hx hb d_K_worthOfTwo_155 ?_
          refine lv_if_ne (tgt := 163) hx hb d_K_worthOfTwo_156 (by decide) (fun c13 => ?_) (fun c13 => ?_)
          · have c13 := mt (lg_cmp_eq _ _).mpr c13
            have h := ifn c13 h
            refine lv_iconst (v := 0) hx hb d_K_worthOfTwo_163 (by decide) ?_
            exact w_K_worthOfTwo_164 hfw E hA kr x3 (0 : Int32) st _ _ _ h I (lv_sub hl [2] rfl)
          · have c13 := (lg_cmp_eq _ _).mp c13
            have h := ifp c13 h
            refine lv_iconst (v := 1) hx hb d_K_worthOfTwo_159 (by decide) ?_
            refine lv_goto (tgt := 164) hx hb d_K_worthOfTwo_160 (by decide) ?_
            exact w_K_worthOfTwo_164 hfw E hA kr x3 (1 : Int32) st _ _ _ h I (lv_sub hl [2] rfl)
set_option maxHeartbeats 4000000 in
set_option maxRecDepth 100000 in
theorem w_K_worthOfTwo  {d : Nat} {fw : Int32 → CS → Option (Int64 × CS)} (hfw : ∀ (x1 : Int32) (st : CS) (r : Int64) (t : CS), fw x1 st = some (r, t) → Cn l y_K_worth c_K_worth 4 (some .long) (rm_K_worth d) D (tyL cs) (cwC A cs st) (cwC A cs t) [.ref (A 3), .int x1] (some (.long r))) {r : Int64} {t : CS} (E : EC R_K c_K_worthOfTwo 9 p s m args c D (tyL cs)) (hA : ∀ q, H0.size ≤ q → A0 q) (kr : ∀ (H : Heap) (locs : List Loc) (pc : Nat) (ls : Array Slot), IW D (cwC A cs t) A0 H0 H locs → decode c_K_worthOfTwo pc = .ok (.lreturn, 1) → W p l e (rm_K_worthOfTwo d) s m args below meth c H locs 0 0 Q (F0 m pc ls [.long r])) : ∀ (x1 : Int32) (x2 : Int32) (x3 : Int32) (st : CS) (H : Heap) (locs : List Loc) (ls : Array Slot), f_K_worthOfTwo fw x1 x2 x3 st = some (r, t) → IW D (cwC A cs st) A0 H0 H locs → lv_has ls 9 [(0, .ref (A 3)), (1, .int x1), (2, .int x2), (3, .int x3)] → W p l e (rm_K_worthOfTwo d) s m args below meth c H locs 0 0 Q (F0 m 0 ls []) := by
  intro x1 x2 x3 st H locs ls h I hl
  have hx := E.1
  have hb := E.2.1
  rw [f_K_worthOfTwo] at h
  refine lv_aload_n hx hb d_K_worthOfTwo_0 rfl (lv_at hl 0 rfl) ?_
  refine lv_aload_n hx hb d_K_worthOfTwo_1 rfl (lv_at hl 0 rfl) ?_
  refine g_cK_trees E I k_K_9 d_K_worthOfTwo_2 ?_
  refine lv_iload_n hx hb d_K_worthOfTwo_5 rfl (lv_at hl 1 rfl) ?_
  obtain ⟨r15, st14, h16, h⟩ := bd_some h
  refine cV (As := [.int x1]) (rest := [.ref (A 3)]) E I hA (k_T_firstOf h16) g_K_69 ⟨rfl, rfl⟩ 1 rfl rfl rfl hl rfl (Nat.le_of_ble_eq_true rfl) ⟨by dsimp only [rm_K_worth, rm_K_worthOfChoice, rm_K_worthOfLoop, rm_K_worthOfTwo]; omega, by dsimp only [rm_K_worth, rm_K_worthOfChoice, rm_K_worthOfLoop, rm_K_worthOfTwo]; omega⟩ ⟨Nat.zero_le _, Nat.zero_le _⟩ d_K_worthOfTwo_6 rfl (fun H locs I => ?_)
  obtain ⟨r18, st17, h19, h⟩ := bd_some h
  refine cV (As := [.int r15]) (rest := []) E I hA (hfw _ _ _ _ h19) g_K_42 ⟨rfl, rfl⟩ 3 rfl rfl rfl hl rfl (Nat.le_of_ble_eq_true rfl) ⟨by dsimp only [rm_K_worth, rm_K_worthOfChoice, rm_K_worthOfLoop, rm_K_worthOfTwo]; omega, by dsimp only [rm_K_worth, rm_K_worthOfChoice, rm_K_worthOfLoop, rm_K_worthOfTwo]; omega⟩ ⟨Nat.zero_le _, Nat.zero_le _⟩ d_K_worthOfTwo_9 rfl (fun H locs I => ?_)
  refine lv_lstore (lv' := [(4, .long r18), (0, .ref (A 3)), (1, .int x1), (2, .int x2), (3, .int x3)]) hx hb d_K_worthOfTwo_12 hl (by decide) rfl (fun ls hl => ?_)
  refine lv_iload_n hx hb d_K_worthOfTwo_14 rfl (lv_at hl 4 rfl) ?_
  refine lv_iconst (v := 4) hx hb d_K_worthOfTwo_15 (by decide) ?_
  refine lv_icmp_ne (tgt := 22) hx hb d_K_worthOfTwo_16 (by decide) (fun c20 => ?_) (fun c20 => ?_)
  · have h := ifn c20 h
    refine lv_aload_n hx hb d_K_worthOfTwo_22 rfl (lv_at hl 1 rfl) ?_
    refine lv_aload_n hx hb d_K_worthOfTwo_23 rfl (lv_at hl 1 rfl) ?_
    refine g_cK_trees E I k_K_9 d_K_worthOfTwo_24 ?_
    refine lv_iload_n hx hb d_K_worthOfTwo_27 rfl (lv_at hl 2 rfl) ?_
    obtain ⟨r22, st21, h23, h⟩ := bd_some h
    refine cV (As := [.int x1]) (rest := [.ref (A 3)]) E I hA (k_T_secondOf h23) g_K_72 ⟨rfl, rfl⟩ 1 rfl rfl rfl hl rfl (Nat.le_of_ble_eq_true rfl) ⟨by dsimp only [rm_K_worth, rm_K_worthOfChoice, rm_K_worthOfLoop, rm_K_worthOfTwo]; omega, by dsimp only [rm_K_worth, rm_K_worthOfChoice, rm_K_worthOfLoop, rm_K_worthOfTwo]; omega⟩ ⟨Nat.zero_le _, Nat.zero_le _⟩ d_K_worthOfTwo_28 rfl (fun H locs I => ?_)
    obtain ⟨r25, st24, h26, h⟩ := bd_some h
    refine cV (As := [.int r22]) (rest := []) E I hA (hfw _ _ _ _ h26) g_K_42 ⟨rfl, rfl⟩ 3 rfl rfl rfl hl rfl (Nat.le_of_ble_eq_true rfl) ⟨by dsimp only [rm_K_worth, rm_K_worthOfChoice, rm_K_worthOfLoop, rm_K_worthOfTwo]; omega, by dsimp only [rm_K_worth, rm_K_worthOfChoice, rm_K_worthOfLoop, rm_K_worthOfTwo]; omega⟩ ⟨Nat.zero_le _, Nat.zero_le _⟩ d_K_worthOfTwo_31 rfl (fun H locs I => ?_)
    refine lv_lstore (lv' := [(6, .long r25), (4, .long r18), (0, .ref (A 3)), (1, .int x1), (2, .int x2), (3, .int x3)]) hx hb d_K_worthOfTwo_34 hl (by decide) rfl (fun ls hl => ?_)
    refine lv_iload_n hx hb d_K_worthOfTwo_36 rfl (lv_at hl 5 rfl) ?_
    refine lv_iconst (v := 2) hx hb d_K_worthOfTwo_37 (by decide) ?_
    refine lv_icmp_ne (tgt := 45) hx hb d_K_worthOfTwo_38 (by decide) (fun c27 => ?_) (fun c27 => ?_)
    · have h := ifn c27 h
      refine lv_iconst (v := 0) hx hb d_K_worthOfTwo_45 (by decide) ?_
      exact w_K_worthOfTwo_46 hfw E hA kr x2 x3 r18 r25 (0 : Int32) st24 _ _ _ h I (lv_sub hl [4, 5, 1, 0] rfl)
    · have h := ifp c27 h
      refine lv_iconst (v := 1) hx hb d_K_worthOfTwo_41 (by decide) ?_
      refine lv_goto (tgt := 46) hx hb d_K_worthOfTwo_42 (by decide) ?_
      exact w_K_worthOfTwo_46 hfw E hA kr x2 x3 r18 r25 (1 : Int32) st24 _ _ _ h I (lv_sub hl [4, 5, 1, 0] rfl)
  · have h := ifp c20 h
    refine lv_lload hx hb d_K_worthOfTwo_19 (lv_at hl 0 rfl) ?_
    cases h
    exact kr _ _ _ _ I d_K_worthOfTwo_21
set_option maxHeartbeats 4000000 in
set_option maxRecDepth 100000 in
theorem k_K_worthOfTwo {d : Nat} {fw : Int32 → CS → Option (Int64 × CS)} (hfw : ∀ (x1 : Int32) (st : CS) (r : Int64) (t : CS), fw x1 st = some (r, t) → Cn l y_K_worth c_K_worth 4 (some .long) (rm_K_worth d) D (tyL cs) (cwC A cs st) (cwC A cs t) [.ref (A 3), .int x1] (some (.long r))) {x1 : Int32} {x2 : Int32} {x3 : Int32} {st t : CS} {r : Int64} (h : f_K_worthOfTwo fw x1 x2 x3 st = some (r, t)) : Cn l y_K_worthOfTwo c_K_worthOfTwo 9 (some .long) (rm_K_worthOfTwo d) D (tyL cs) (cwC A cs st) (cwC A cs t) [.ref (A 3), .int x1, .int x2, .int x3] (some (.long r)) := by
  refine cn_intro (by decide) (Nat.le_of_ble_eq_true rfl) ?_
  intro p e s m below meth c A0 Q ls E hr hlk hA hA0 hQ I hl
  exact w_K_worthOfTwo hfw E hA (rt_l E hr hlk hA0 hQ) x1 x2 x3 st _ _ _ h I (lv_sub hl [0, 1, 2, 3] rfl)
noncomputable def f_K_worthB_66 (fw : Int32 → CS → Option (Int64 × CS)) (x1 : Int32) (x2 : Int32) (s0 : Int32) (st : CS) : Option (Int64 × CS) :=
  if x2 = 0 then (
    if s0 = 0 then (
      bd (f_T_numberOf x1 st) fun r7 st6 =>
      some ((r7 + (1 : Int64)), st6)
    ) else (
      bd (f_T_numberOf x1 st) fun r4 st3 =>
      some (r4, st3)
    )
  ) else (
    if x2 = 1 then (
      some ((cK_input st), st)
    ) else (
      if x2 = 2 then (
        some ((cK_acc st), st)
      ) else (
        if x2 = 8 then (
          bd (f_K_worthOfChoice fw x1 s0 st) fun r13 st12 =>
          some (r13, st12)
        ) else (
          if x2 = 9 then (
            bd (f_K_worthOfLoop fw x1 st) fun r17 st16 =>
            some (r17, st16)
          ) else (
            bd (f_K_worthOfTwo fw x1 x2 s0 st) fun r20 st19 =>
            some (r20, st19)
          )
        )
      )
    )
  )
noncomputable def f_K_worthB (fw : Int32 → CS → Option (Int64 × CS)) (x1 : Int32) (st : CS) : Option (Int64 × CS) :=
  if (cK_steps st) < (cK_bound st) then (
    nx (s_cK_steps st ((cK_steps st) + (1 : Int32))) fun st28 =>
    bd (f_M_bit x1 st28) fun r30 st29 =>
    nx (s_cK_covered st29 ((cK_covered st28) ||| r30)) fun st32 =>
    bd (f_T_kindOf x1 st32) fun r34 st33 =>
    if x1 = (cK_changedNode st33) then (
      f_K_worthB_66 fw x1 r34 (cK_changeKind st33) st33
    ) else (
      f_K_worthB_66 fw x1 r34 (-1 : Int32) st33
    )
  ) else (
    nx (s_cK_cut st (1 : Int32)) fun st37 =>
    some ((0 : Int64), st37)
  )
set_option maxHeartbeats 4000000 in
set_option maxRecDepth 100000 in
theorem w_K_worthB_66  {d : Nat} {fw : Int32 → CS → Option (Int64 × CS)} (hfw : ∀ (x1 : Int32) (st : CS) (r : Int64) (t : CS), fw x1 st = some (r, t) → Cn l y_K_worth c_K_worth 4 (some .long) (rm_K_worth d) D (tyL cs) (cwC A cs st) (cwC A cs t) [.ref (A 3), .int x1] (some (.long r))) {r : Int64} {t : CS} (E : EC R_K c_K_worth 4 p s m args c D (tyL cs)) (hA : ∀ q, H0.size ≤ q → A0 q) (kr : ∀ (H : Heap) (locs : List Loc) (pc : Nat) (ls : Array Slot), IW D (cwC A cs t) A0 H0 H locs → decode c_K_worth pc = .ok (.lreturn, 1) → W p l e (rm_K_worth (d + 1)) s m args below meth c H locs 0 0 Q (F0 m pc ls [.long r])) : ∀ (x1 : Int32) (x2 : Int32) (s0 : Int32) (st : CS) (H : Heap) (locs : List Loc) (ls : Array Slot), f_K_worthB_66 fw x1 x2 s0 st = some (r, t) → IW D (cwC A cs st) A0 H0 H locs → lv_has ls 4 [(0, .ref (A 3)), (1, .int x1), (2, .int x2)] → W p l e (rm_K_worth (d + 1)) s m args below meth c H locs 0 0 Q (F0 m 66 ls [.int s0]) := by
  intro x1 x2 s0 st H locs ls h I hl
  have hx := E.1
  have hb := E.2.1
  rw [f_K_worthB_66] at h
  refine lv_istore_n (lv' := [(3, .int s0), (0, .ref (A 3)), (1, .int x1), (2, .int x2)]) hx hb d_K_worth_66 rfl hl (by decide) rfl (fun ls hl => ?_)
  refine lv_iload_n hx hb d_K_worth_67 rfl (lv_at hl 3 rfl) ?_
  by_cases c1 : x2 = 0
  · have h := ifp c1 h
    refine lv_tableIn (off := 56) (tgt := 124) hx hb d_K_worth_68 (by rw [c1]; decide) (by rw [c1]; decide) (by rw [c1]; rfl) (by decide) ?_
    refine lv_iload_n hx hb d_K_worth_124 rfl (lv_at hl 0 rfl) ?_
    refine lv_if_ne (tgt := 141) hx hb d_K_worth_125 (by decide) (fun c2 => ?_) (fun c2 => ?_)
    · have h := ifn c2 h
      refine lv_aload_n hx hb d_K_worth_141 rfl (lv_at hl 1 rfl) ?_
      refine g_cK_trees E I k_K_9 d_K_worth_142 ?_
      refine lv_iload_n hx hb d_K_worth_145 rfl (lv_at hl 2 rfl) ?_
      obtain ⟨r4, st3, h5, h⟩ := bd_some h
      refine cV (As := [.int x1]) (rest := []) E I hA (k_T_numberOf h5) g_K_55 ⟨rfl, rfl⟩ 1 rfl rfl rfl hl rfl (Nat.le_of_ble_eq_true rfl) ⟨by dsimp only [rm_K_worth, rm_K_worthOfChoice, rm_K_worthOfLoop, rm_K_worthOfTwo]; omega, by dsimp only [rm_K_worth, rm_K_worthOfChoice, rm_K_worthOfLoop, rm_K_worthOfTwo]; omega⟩ ⟨Nat.zero_le _, Nat.zero_le _⟩ d_K_worth_146 rfl (fun H locs I => ?_)
      cases h
      exact kr _ _ _ _ I d_K_worth_149
    · have h := ifp c2 h
      refine lv_aload_n hx hb d_K_worth_128 rfl (lv_at hl 1 rfl) ?_
      refine g_cK_trees E I k_K_9 d_K_worth_129 ?_
      refine lv_iload_n hx hb d_K_worth_132 rfl (lv_at hl 2 rfl) ?_
      obtain ⟨r7, st6, h8, h⟩ := bd_some h
      refine cV (As := [.int x1]) (rest := []) E I hA (k_T_numberOf h8) g_K_55 ⟨rfl, rfl⟩ 1 rfl rfl rfl hl rfl (Nat.le_of_ble_eq_true rfl) ⟨by dsimp only [rm_K_worth, rm_K_worthOfChoice, rm_K_worthOfLoop, rm_K_worthOfTwo]; omega, by dsimp only [rm_K_worth, rm_K_worthOfChoice, rm_K_worthOfLoop, rm_K_worthOfTwo]; omega⟩ ⟨Nat.zero_le _, Nat.zero_le _⟩ d_K_worth_133 rfl (fun H locs I => ?_)
      refine lv_lconst (v := 1) hx hb d_K_worth_136 (by decide) ?_
      refine lv_ladd hx hb d_K_worth_137 ?_
      refine lv_goto (tgt := 149) hx hb d_K_worth_138 (by decide) ?_
      cases h
      exact kr _ _ _ _ I d_K_worth_149
  · have h := ifn c1 h
    by_cases c9 : x2 = 1
    · have h := ifp c9 h
      refine lv_tableIn (off := 82) (tgt := 150) hx hb d_K_worth_68 (by rw [c9]; decide) (by rw [c9]; decide) (by rw [c9]; rfl) (by decide) ?_
      refine lv_aload_n hx hb d_K_worth_150 rfl (lv_at hl 1 rfl) ?_
      refine g_cK_input E I k_K_33 d_K_worth_151 ?_
      cases h
      exact kr _ _ _ _ I d_K_worth_154
    · have h := ifn c9 h
      by_cases c10 : x2 = 2
      · have h := ifp c10 h
        refine lv_tableIn (off := 87) (tgt := 155) hx hb d_K_worth_68 (by rw [c10]; decide) (by rw [c10]; decide) (by rw [c10]; rfl) (by decide) ?_
        refine lv_aload_n hx hb d_K_worth_155 rfl (lv_at hl 1 rfl) ?_
        refine g_cK_acc E I k_K_39 d_K_worth_156 ?_
        cases h
        exact kr _ _ _ _ I d_K_worth_159
      · have h := ifn c10 h
        by_cases c11 : x2 = 8
        · have h := ifp c11 h
          refine lv_tableIn (off := 92) (tgt := 160) hx hb d_K_worth_68 (by rw [c11]; decide) (by rw [c11]; decide) (by rw [c11]; rfl) (by decide) ?_
          refine lv_aload_n hx hb d_K_worth_160 rfl (lv_at hl 1 rfl) ?_
          refine lv_iload_n hx hb d_K_worth_161 rfl (lv_at hl 2 rfl) ?_
          refine lv_iload_n hx hb d_K_worth_162 rfl (lv_at hl 0 rfl) ?_
          obtain ⟨r13, st12, h14, h⟩ := bd_some h
          refine cV (As := [.int x1, .int s0]) (rest := []) E I hA (k_K_worthOfChoice hfw h14) g_K_58 ⟨rfl, rfl⟩ 3 rfl rfl rfl hl rfl (Nat.le_of_ble_eq_true rfl) ⟨by dsimp only [rm_K_worth, rm_K_worthOfChoice, rm_K_worthOfLoop, rm_K_worthOfTwo]; omega, by dsimp only [rm_K_worth, rm_K_worthOfChoice, rm_K_worthOfLoop, rm_K_worthOfTwo]; omega⟩ ⟨Nat.zero_le _, Nat.zero_le _⟩ d_K_worth_163 rfl (fun H locs I => ?_)
          cases h
          exact kr _ _ _ _ I d_K_worth_166
        · have h := ifn c11 h
          by_cases c15 : x2 = 9
          · have h := ifp c15 h
            refine lv_tableIn (off := 99) (tgt := 167) hx hb d_K_worth_68 (by rw [c15]; decide) (by rw [c15]; decide) (by rw [c15]; rfl) (by decide) ?_
            refine lv_aload_n hx hb d_K_worth_167 rfl (lv_at hl 1 rfl) ?_
            refine lv_iload_n hx hb d_K_worth_168 rfl (lv_at hl 2 rfl) ?_
            obtain ⟨r17, st16, h18, h⟩ := bd_some h
            refine cV (As := [.int x1]) (rest := []) E I hA (k_K_worthOfLoop hfw h18) g_K_62 ⟨rfl, rfl⟩ 3 rfl rfl rfl hl rfl (Nat.le_of_ble_eq_true rfl) ⟨by dsimp only [rm_K_worth, rm_K_worthOfChoice, rm_K_worthOfLoop, rm_K_worthOfTwo]; omega, by dsimp only [rm_K_worth, rm_K_worthOfChoice, rm_K_worthOfLoop, rm_K_worthOfTwo]; omega⟩ ⟨Nat.zero_le _, Nat.zero_le _⟩ d_K_worth_169 rfl (fun H locs I => ?_)
            cases h
            exact kr _ _ _ _ I d_K_worth_172
          · have h := ifn c15 h
            by_cases c22 : x2 = 3
            · refine lv_tableIn (off := 105) (tgt := 173) hx hb d_K_worth_68 (by rw [c22]; decide) (by rw [c22]; decide) (by rw [c22]; rfl) (by decide) ?_
              refine lv_aload_n hx hb d_K_worth_173 rfl (lv_at hl 1 rfl) ?_
              refine lv_iload_n hx hb d_K_worth_174 rfl (lv_at hl 2 rfl) ?_
              refine lv_iload_n hx hb d_K_worth_175 rfl (lv_at hl 3 rfl) ?_
              refine lv_iload_n hx hb d_K_worth_176 rfl (lv_at hl 0 rfl) ?_
              obtain ⟨r20, st19, h21, h⟩ := bd_some h
              refine cV (As := [.int x1, .int x2, .int s0]) (rest := []) E I hA (k_K_worthOfTwo hfw h21) g_K_65 ⟨rfl, rfl⟩ 3 rfl rfl rfl hl rfl (Nat.le_of_ble_eq_true rfl) ⟨by dsimp only [rm_K_worth, rm_K_worthOfChoice, rm_K_worthOfLoop, rm_K_worthOfTwo]; omega, by dsimp only [rm_K_worth, rm_K_worthOfChoice, rm_K_worthOfLoop, rm_K_worthOfTwo]; omega⟩ ⟨Nat.zero_le _, Nat.zero_le _⟩ d_K_worth_177 rfl (fun H locs I => ?_)
              cases h
              exact kr _ _ _ _ I d_K_worth_180
            · by_cases c23 : x2 = 4
              · refine lv_tableIn (off := 105) (tgt := 173) hx hb d_K_worth_68 (by rw [c23]; decide) (by rw [c23]; decide) (by rw [c23]; rfl) (by decide) ?_
                refine lv_aload_n hx hb d_K_worth_173 rfl (lv_at hl 1 rfl) ?_
                refine lv_iload_n hx hb d_K_worth_174 rfl (lv_at hl 2 rfl) ?_
                refine lv_iload_n hx hb d_K_worth_175 rfl (lv_at hl 3 rfl) ?_
                refine lv_iload_n hx hb d_K_worth_176 rfl (lv_at hl 0 rfl) ?_
                obtain ⟨r20, st19, h21, h⟩ := bd_some h
                refine cV (As := [.int x1, .int x2, .int s0]) (rest := []) E I hA (k_K_worthOfTwo hfw h21) g_K_65 ⟨rfl, rfl⟩ 3 rfl rfl rfl hl rfl (Nat.le_of_ble_eq_true rfl) ⟨by dsimp only [rm_K_worth, rm_K_worthOfChoice, rm_K_worthOfLoop, rm_K_worthOfTwo]; omega, by dsimp only [rm_K_worth, rm_K_worthOfChoice, rm_K_worthOfLoop, rm_K_worthOfTwo]; omega⟩ ⟨Nat.zero_le _, Nat.zero_le _⟩ d_K_worth_177 rfl (fun H locs I => ?_)
                cases h
                exact kr _ _ _ _ I d_K_worth_180
              · by_cases c24 : x2 = 5
                · refine lv_tableIn (off := 105) (tgt := 173) hx hb d_K_worth_68 (by rw [c24]; decide) (by rw [c24]; decide) (by rw [c24]; rfl) (by decide) ?_
                  refine lv_aload_n hx hb d_K_worth_173 rfl (lv_at hl 1 rfl) ?_
                  refine lv_iload_n hx hb d_K_worth_174 rfl (lv_at hl 2 rfl) ?_
                  refine lv_iload_n hx hb d_K_worth_175 rfl (lv_at hl 3 rfl) ?_
                  refine lv_iload_n hx hb d_K_worth_176 rfl (lv_at hl 0 rfl) ?_
                  obtain ⟨r20, st19, h21, h⟩ := bd_some h
                  refine cV (As := [.int x1, .int x2, .int s0]) (rest := []) E I hA (k_K_worthOfTwo hfw h21) g_K_65 ⟨rfl, rfl⟩ 3 rfl rfl rfl hl rfl (Nat.le_of_ble_eq_true rfl) ⟨by dsimp only [rm_K_worth, rm_K_worthOfChoice, rm_K_worthOfLoop, rm_K_worthOfTwo]; omega, by dsimp only [rm_K_worth, rm_K_worthOfChoice, rm_K_worthOfLoop, rm_K_worthOfTwo]; omega⟩ ⟨Nat.zero_le _, Nat.zero_le _⟩ d_K_worth_177 rfl (fun H locs I => ?_)
                  cases h
                  exact kr _ _ _ _ I d_K_worth_180
                · by_cases c25 : x2 = 6
                  · refine lv_tableIn (off := 105) (tgt := 173) hx hb d_K_worth_68 (by rw [c25]; decide) (by rw [c25]; decide) (by rw [c25]; rfl) (by decide) ?_
                    refine lv_aload_n hx hb d_K_worth_173 rfl (lv_at hl 1 rfl) ?_
                    refine lv_iload_n hx hb d_K_worth_174 rfl (lv_at hl 2 rfl) ?_
                    refine lv_iload_n hx hb d_K_worth_175 rfl (lv_at hl 3 rfl) ?_
                    refine lv_iload_n hx hb d_K_worth_176 rfl (lv_at hl 0 rfl) ?_
                    obtain ⟨r20, st19, h21, h⟩ := bd_some h
                    refine cV (As := [.int x1, .int x2, .int s0]) (rest := []) E I hA (k_K_worthOfTwo hfw h21) g_K_65 ⟨rfl, rfl⟩ 3 rfl rfl rfl hl rfl (Nat.le_of_ble_eq_true rfl) ⟨by dsimp only [rm_K_worth, rm_K_worthOfChoice, rm_K_worthOfLoop, rm_K_worthOfTwo]; omega, by dsimp only [rm_K_worth, rm_K_worthOfChoice, rm_K_worthOfLoop, rm_K_worthOfTwo]; omega⟩ ⟨Nat.zero_le _, Nat.zero_le _⟩ d_K_worth_177 rfl (fun H locs I => ?_)
                    cases h
                    exact kr _ _ _ _ I d_K_worth_180
                  · by_cases c26 : x2 = 7
                    · refine lv_tableIn (off := 105) (tgt := 173) hx hb d_K_worth_68 (by rw [c26]; decide) (by rw [c26]; decide) (by rw [c26]; rfl) (by decide) ?_
                      refine lv_aload_n hx hb d_K_worth_173 rfl (lv_at hl 1 rfl) ?_
                      refine lv_iload_n hx hb d_K_worth_174 rfl (lv_at hl 2 rfl) ?_
                      refine lv_iload_n hx hb d_K_worth_175 rfl (lv_at hl 3 rfl) ?_
                      refine lv_iload_n hx hb d_K_worth_176 rfl (lv_at hl 0 rfl) ?_
                      obtain ⟨r20, st19, h21, h⟩ := bd_some h
                      refine cV (As := [.int x1, .int x2, .int s0]) (rest := []) E I hA (k_K_worthOfTwo hfw h21) g_K_65 ⟨rfl, rfl⟩ 3 rfl rfl rfl hl rfl (Nat.le_of_ble_eq_true rfl) ⟨by dsimp only [rm_K_worth, rm_K_worthOfChoice, rm_K_worthOfLoop, rm_K_worthOfTwo]; omega, by dsimp only [rm_K_worth, rm_K_worthOfChoice, rm_K_worthOfLoop, rm_K_worthOfTwo]; omega⟩ ⟨Nat.zero_le _, Nat.zero_le _⟩ d_K_worth_177 rfl (fun H locs I => ?_)
                      cases h
                      exact kr _ _ _ _ I d_K_worth_180
                    · have tc1 := ne_ti (z := 0) (by decide) c1
                      have tc9 := ne_ti (z := 1) (by decide) c9
                      have tc10 := ne_ti (z := 2) (by decide) c10
                      have tc11 := ne_ti (z := 8) (by decide) c11
                      have tc15 := ne_ti (z := 9) (by decide) c15
                      have tc22 := ne_ti (z := 3) (by decide) c22
                      have tc23 := ne_ti (z := 4) (by decide) c23
                      have tc24 := ne_ti (z := 5) (by decide) c24
                      have tc25 := ne_ti (z := 6) (by decide) c25
                      have tc26 := ne_ti (z := 7) (by decide) c26
                      refine lv_tableOut (tgt := 173) hx hb d_K_worth_68 (by omega) (by decide) ?_
                      refine lv_aload_n hx hb d_K_worth_173 rfl (lv_at hl 1 rfl) ?_
                      refine lv_iload_n hx hb d_K_worth_174 rfl (lv_at hl 2 rfl) ?_
                      refine lv_iload_n hx hb d_K_worth_175 rfl (lv_at hl 3 rfl) ?_
                      refine lv_iload_n hx hb d_K_worth_176 rfl (lv_at hl 0 rfl) ?_
                      obtain ⟨r20, st19, h21, h⟩ := bd_some h
                      refine cV (As := [.int x1, .int x2, .int s0]) (rest := []) E I hA (k_K_worthOfTwo hfw h21) g_K_65 ⟨rfl, rfl⟩ 3 rfl rfl rfl hl rfl (Nat.le_of_ble_eq_true rfl) ⟨by dsimp only [rm_K_worth, rm_K_worthOfChoice, rm_K_worthOfLoop, rm_K_worthOfTwo]; omega, by dsimp only [rm_K_worth, rm_K_worthOfChoice, rm_K_worthOfLoop, rm_K_worthOfTwo]; omega⟩ ⟨Nat.zero_le _, Nat.zero_le _⟩ d_K_worth_177 rfl (fun H locs I => ?_)
                      cases h
                      exact kr _ _ _ _ I d_K_worth_180
set_option maxHeartbeats 4000000 in
set_option maxRecDepth 100000 in
theorem w_K_worthB  {d : Nat} {fw : Int32 → CS → Option (Int64 × CS)} (hfw : ∀ (x1 : Int32) (st : CS) (r : Int64) (t : CS), fw x1 st = some (r, t) → Cn l y_K_worth c_K_worth 4 (some .long) (rm_K_worth d) D (tyL cs) (cwC A cs st) (cwC A cs t) [.ref (A 3), .int x1] (some (.long r))) {r : Int64} {t : CS} (E : EC R_K c_K_worth 4 p s m args c D (tyL cs)) (hA : ∀ q, H0.size ≤ q → A0 q) (kr : ∀ (H : Heap) (locs : List Loc) (pc : Nat) (ls : Array Slot), IW D (cwC A cs t) A0 H0 H locs → decode c_K_worth pc = .ok (.lreturn, 1) → W p l e (rm_K_worth (d + 1)) s m args below meth c H locs 0 0 Q (F0 m pc ls [.long r])) : ∀ (x1 : Int32) (st : CS) (H : Heap) (locs : List Loc) (ls : Array Slot), f_K_worthB fw x1 st = some (r, t) → IW D (cwC A cs st) A0 H0 H locs → lv_has ls 4 [(0, .ref (A 3)), (1, .int x1)] → W p l e (rm_K_worth (d + 1)) s m args below meth c H locs 0 0 Q (F0 m 0 ls []) := by
  intro x1 st H locs ls h I hl
  have hx := E.1
  have hb := E.2.1
  rw [f_K_worthB] at h
  refine lv_aload_n hx hb d_K_worth_0 rfl (lv_at hl 0 rfl) ?_
  refine g_cK_steps E I k_K_22 d_K_worth_1 ?_
  refine lv_aload_n hx hb d_K_worth_4 rfl (lv_at hl 0 rfl) ?_
  refine g_cK_bound E I k_K_36 d_K_worth_5 ?_
  refine lv_icmp_lt (tgt := 18) hx hb d_K_worth_8 (by decide) (fun c27 => ?_) (fun c27 => ?_)
  · have h := ifp c27 h
    refine lv_aload_n hx hb d_K_worth_18 rfl (lv_at hl 0 rfl) ?_
    refine lv_dup hx hb d_K_worth_19 rfl ?_
    refine g_cK_steps E I k_K_22 d_K_worth_20 ?_
    refine lv_iconst (v := 1) hx hb d_K_worth_23 (by decide) ?_
    refine lv_iadd hx hb d_K_worth_24 ?_
    obtain ⟨st28, est28⟩ : ∃ y : CS, y = (s_cK_steps st ((cK_steps st) + (1 : Int32))) := ⟨_, rfl⟩
    have h := nx_k est28 h
    refine p_cK_steps E I est28 k_K_22 d_K_worth_25 (fun H locs I => ?_)
    refine lv_aload_n hx hb d_K_worth_28 rfl (lv_at hl 0 rfl) ?_
    refine lv_dup hx hb d_K_worth_29 rfl ?_
    refine g_cK_covered E I k_K_29 d_K_worth_30 ?_
    refine lv_iload_n hx hb d_K_worth_33 rfl (lv_at hl 1 rfl) ?_
    obtain ⟨r30, st29, h31, h⟩ := bd_some h
    refine cSN (As := [.int x1]) (rest := [.long (cK_covered st28), .ref (A 3)]) E I hA (k_M_bit h31) g_K_46 ⟨rfl, rfl⟩ rfl hl rfl (Nat.le_of_ble_eq_true rfl) ⟨by dsimp only [rm_K_worth, rm_K_worthOfChoice, rm_K_worthOfLoop, rm_K_worthOfTwo]; omega, by dsimp only [rm_K_worth, rm_K_worthOfChoice, rm_K_worthOfLoop, rm_K_worthOfTwo]; omega⟩ ⟨Nat.zero_le _, Nat.zero_le _⟩ d_K_worth_34 rfl (fun H locs I => ?_)
    refine lv_lor hx hb d_K_worth_37 ?_
    obtain ⟨st32, est32⟩ : ∃ y : CS, y = (s_cK_covered st29 ((cK_covered st28) ||| r30)) := ⟨_, rfl⟩
    have h := nx_k est32 h
    refine p_cK_covered E I est32 k_K_29 d_K_worth_38 (fun H locs I => ?_)
    refine lv_aload_n hx hb d_K_worth_41 rfl (lv_at hl 0 rfl) ?_
    refine g_cK_trees E I k_K_9 d_K_worth_42 ?_
    refine lv_iload_n hx hb d_K_worth_45 rfl (lv_at hl 1 rfl) ?_
    obtain ⟨r34, st33, h35, h⟩ := bd_some h
    refine cV (As := [.int x1]) (rest := []) E I hA (k_T_kindOf h35) g_K_49 ⟨rfl, rfl⟩ 1 rfl rfl rfl hl rfl (Nat.le_of_ble_eq_true rfl) ⟨by dsimp only [rm_K_worth, rm_K_worthOfChoice, rm_K_worthOfLoop, rm_K_worthOfTwo]; omega, by dsimp only [rm_K_worth, rm_K_worthOfChoice, rm_K_worthOfLoop, rm_K_worthOfTwo]; omega⟩ ⟨Nat.zero_le _, Nat.zero_le _⟩ d_K_worth_46 rfl (fun H locs I => ?_)
    refine lv_istore_n (lv' := [(2, .int r34), (0, .ref (A 3)), (1, .int x1)]) hx hb d_K_worth_49 rfl hl (by decide) rfl (fun ls hl => ?_)
    refine lv_iload_n hx hb d_K_worth_50 rfl (lv_at hl 2 rfl) ?_
    refine lv_aload_n hx hb d_K_worth_51 rfl (lv_at hl 1 rfl) ?_
    refine g_cK_changedNode E I k_K_19 d_K_worth_52 ?_
    refine lv_icmp_ne (tgt := 65) hx hb d_K_worth_55 (by decide) (fun c36 => ?_) (fun c36 => ?_)
    · have h := ifn c36 h
      refine lv_iconst (v := -1) hx hb d_K_worth_65 (by decide) ?_
      exact w_K_worthB_66 hfw E hA kr x1 r34 (-1 : Int32) st33 _ _ _ h I (lv_sub hl [1, 2, 0] rfl)
    · have h := ifp c36 h
      refine lv_aload_n hx hb d_K_worth_58 rfl (lv_at hl 1 rfl) ?_
      refine g_cK_changeKind E I k_K_15 d_K_worth_59 ?_
      refine lv_goto (tgt := 66) hx hb d_K_worth_62 (by decide) ?_
      exact w_K_worthB_66 hfw E hA kr x1 r34 (cK_changeKind st33) st33 _ _ _ h I (lv_sub hl [1, 2, 0] rfl)
  · have h := ifn c27 h
    refine lv_aload_n hx hb d_K_worth_11 rfl (lv_at hl 0 rfl) ?_
    refine lv_iconst (v := 1) hx hb d_K_worth_12 (by decide) ?_
    obtain ⟨st37, est37⟩ : ∃ y : CS, y = (s_cK_cut st (1 : Int32)) := ⟨_, rfl⟩
    have h := nx_k est37 h
    refine p_cK_cut E I est37 k_K_25 (by decide) d_K_worth_13 (fun H locs I => ?_)
    refine lv_lconst (v := 0) hx hb d_K_worth_16 (by decide) ?_
    cases h
    exact kr _ _ _ _ I d_K_worth_17
set_option maxHeartbeats 4000000 in
set_option maxRecDepth 100000 in
theorem k_K_worthB {d : Nat} {fw : Int32 → CS → Option (Int64 × CS)} (hfw : ∀ (x1 : Int32) (st : CS) (r : Int64) (t : CS), fw x1 st = some (r, t) → Cn l y_K_worth c_K_worth 4 (some .long) (rm_K_worth d) D (tyL cs) (cwC A cs st) (cwC A cs t) [.ref (A 3), .int x1] (some (.long r))) {x1 : Int32} {st t : CS} {r : Int64} (h : f_K_worthB fw x1 st = some (r, t)) : Cn l y_K_worth c_K_worth 4 (some .long) (rm_K_worth (d + 1)) D (tyL cs) (cwC A cs st) (cwC A cs t) [.ref (A 3), .int x1] (some (.long r)) := by
  refine cn_intro (by decide) (Nat.le_of_ble_eq_true rfl) ?_
  intro p e s m below meth c A0 Q ls E hr hlk hA hA0 hQ I hl
  exact w_K_worthB hfw E hA (rt_l E hr hlk hA0 hQ) x1 st _ _ _ h I (lv_sub hl [0, 1] rfl)
/-- deeper than any tree is -/
def DP : Nat := 65
noncomputable def f_K_worth : Nat → Int32 → CS → Option (Int64 × CS)
  | 0, _, _ => none
  | d + 1, x1, st => f_K_worthB (f_K_worth d) x1 st
theorem k_K_worth : ∀ (d : Nat) (x1 : Int32) (st : CS) (r : Int64) (t : CS), f_K_worth d x1 st = some (r, t) → Cn l y_K_worth c_K_worth 4 (some .long) (rm_K_worth d) D (tyL cs) (cwC A cs st) (cwC A cs t) [.ref (A 3), .int x1] (some (.long r)) := by
  intro d
  induction d with
  | zero => intro x1 st r t h; cases h
  | succ d ih => intro x1 st r t h; exact k_K_worthB ih h
abbrev rm_K_workOut : Room := { frames := 132, cells := 0, slots := 0, locals := 5263 }
noncomputable def f_K_workOut (x1 : Int32) (x2 : Int64) (x4 : Int32) (st : CS) : Option (Int64 × CS) :=
  nx (s_cK_input st x2) fun st1 =>
  nx (s_cK_bound st1 x4) fun st2 =>
  nx (s_cK_steps st2 (0 : Int32)) fun st3 =>
  nx (s_cK_cut st3 (0 : Int32)) fun st4 =>
  nx (s_cK_covered st4 (0 : Int64)) fun st5 =>
  nx (s_cK_acc st5 (0 : Int64)) fun st6 =>
  bd (f_K_worth DP x1 st6) fun r8 st7 =>
  some (r8, st7)
set_option maxHeartbeats 4000000 in
set_option maxRecDepth 100000 in
theorem w_K_workOut  {r : Int64} {t : CS} (E : EC R_K c_K_workOut 5 p s m args c D (tyL cs)) (hA : ∀ q, H0.size ≤ q → A0 q) (kr : ∀ (H : Heap) (locs : List Loc) (pc : Nat) (ls : Array Slot), IW D (cwC A cs t) A0 H0 H locs → decode c_K_workOut pc = .ok (.lreturn, 1) → W p l e rm_K_workOut s m args below meth c H locs 0 0 Q (F0 m pc ls [.long r])) : ∀ (x1 : Int32) (x2 : Int64) (x4 : Int32) (st : CS) (H : Heap) (locs : List Loc) (ls : Array Slot), f_K_workOut x1 x2 x4 st = some (r, t) → IW D (cwC A cs st) A0 H0 H locs → lv_has ls 5 [(0, .ref (A 3)), (1, .int x1), (2, .long x2), (4, .int x4)] → W p l e rm_K_workOut s m args below meth c H locs 0 0 Q (F0 m 0 ls []) := by
  intro x1 x2 x4 st H locs ls h I hl
  have hx := E.1
  have hb := E.2.1
  rw [f_K_workOut] at h
  refine lv_aload_n hx hb d_K_workOut_0 rfl (lv_at hl 0 rfl) ?_
  refine lv_lload_n hx hb d_K_workOut_1 rfl (lv_at hl 2 rfl) ?_
  obtain ⟨st1, est1⟩ : ∃ y : CS, y = (s_cK_input st x2) := ⟨_, rfl⟩
  have h := nx_k est1 h
  refine p_cK_input E I est1 k_K_33 d_K_workOut_2 (fun H locs I => ?_)
  refine lv_aload_n hx hb d_K_workOut_5 rfl (lv_at hl 0 rfl) ?_
  refine lv_iload hx hb d_K_workOut_6 (lv_at hl 3 rfl) ?_
  obtain ⟨st2, est2⟩ : ∃ y : CS, y = (s_cK_bound st1 x4) := ⟨_, rfl⟩
  have h := nx_k est2 h
  refine p_cK_bound E I est2 k_K_36 d_K_workOut_8 (fun H locs I => ?_)
  refine lv_aload_n hx hb d_K_workOut_11 rfl (lv_at hl 0 rfl) ?_
  refine lv_iconst (v := 0) hx hb d_K_workOut_12 (by decide) ?_
  obtain ⟨st3, est3⟩ : ∃ y : CS, y = (s_cK_steps st2 (0 : Int32)) := ⟨_, rfl⟩
  have h := nx_k est3 h
  refine p_cK_steps E I est3 k_K_22 d_K_workOut_13 (fun H locs I => ?_)
  refine lv_aload_n hx hb d_K_workOut_16 rfl (lv_at hl 0 rfl) ?_
  refine lv_iconst (v := 0) hx hb d_K_workOut_17 (by decide) ?_
  obtain ⟨st4, est4⟩ : ∃ y : CS, y = (s_cK_cut st3 (0 : Int32)) := ⟨_, rfl⟩
  have h := nx_k est4 h
  refine p_cK_cut E I est4 k_K_25 (by decide) d_K_workOut_18 (fun H locs I => ?_)
  refine lv_aload_n hx hb d_K_workOut_21 rfl (lv_at hl 0 rfl) ?_
  refine lv_lconst (v := 0) hx hb d_K_workOut_22 (by decide) ?_
  obtain ⟨st5, est5⟩ : ∃ y : CS, y = (s_cK_covered st4 (0 : Int64)) := ⟨_, rfl⟩
  have h := nx_k est5 h
  refine p_cK_covered E I est5 k_K_29 d_K_workOut_23 (fun H locs I => ?_)
  refine lv_aload_n hx hb d_K_workOut_26 rfl (lv_at hl 0 rfl) ?_
  refine lv_lconst (v := 0) hx hb d_K_workOut_27 (by decide) ?_
  obtain ⟨st6, est6⟩ : ∃ y : CS, y = (s_cK_acc st5 (0 : Int64)) := ⟨_, rfl⟩
  have h := nx_k est6 h
  refine p_cK_acc E I est6 k_K_39 d_K_workOut_28 (fun H locs I => ?_)
  refine lv_aload_n hx hb d_K_workOut_31 rfl (lv_at hl 0 rfl) ?_
  refine lv_iload_n hx hb d_K_workOut_32 rfl (lv_at hl 1 rfl) ?_
  obtain ⟨r8, st7, h9, h⟩ := bd_some h
  refine cV (As := [.int x1]) (rest := []) E I hA (k_K_worth DP _ _ _ _ h9) g_K_42 ⟨rfl, rfl⟩ 3 rfl rfl rfl hl rfl (Nat.le_of_ble_eq_true rfl) ⟨Nat.le_of_ble_eq_true rfl, Nat.le_of_ble_eq_true rfl⟩ ⟨Nat.zero_le _, Nat.zero_le _⟩ d_K_workOut_33 rfl (fun H locs I => ?_)
  cases h
  exact kr _ _ _ _ I d_K_workOut_36
set_option maxHeartbeats 4000000 in
set_option maxRecDepth 100000 in
theorem k_K_workOut {x1 : Int32} {x2 : Int64} {x4 : Int32} {st t : CS} {r : Int64} (h : f_K_workOut x1 x2 x4 st = some (r, t)) : Cn l y_K_workOut c_K_workOut 5 (some .long) rm_K_workOut D (tyL cs) (cwC A cs st) (cwC A cs t) [.ref (A 3), .int x1, .long x2, .int x4] (some (.long r)) := by
  refine cn_intro (by decide) (Nat.le_of_ble_eq_true rfl) ?_
  intro p e s m below meth c A0 Q ls E hr hlk hA hA0 hQ I hl
  exact w_K_workOut E hA (rt_l E hr hlk hA0 hQ) x1 x2 x4 st _ _ _ h I (lv_sub hl [0, 1, 2, 3] rfl)
abbrev rm_K_isCut : Room := { frames := 0, cells := 0, slots := 0, locals := 0 }
noncomputable def f_K_isCut (st : CS) : Option (Int32 × CS) :=
  zr (cK_cut st) st
set_option maxHeartbeats 4000000 in
set_option maxRecDepth 100000 in
theorem w_K_isCut  {r : Int32} {t : CS} (E : EC R_K c_K_isCut 1 p s m args c D (tyL cs)) (hA : ∀ q, H0.size ≤ q → A0 q) (kr : ∀ (H : Heap) (locs : List Loc) (pc : Nat) (ls : Array Slot), IW D (cwC A cs t) A0 H0 H locs → narrow .boolean (.int r) = .int r → decode c_K_isCut pc = .ok (.ireturn, 1) → W p l e rm_K_isCut s m args below meth c H locs 0 0 Q (F0 m pc ls [.int r])) : ∀ (st : CS) (H : Heap) (locs : List Loc) (ls : Array Slot), f_K_isCut st = some (r, t) → IW D (cwC A cs st) A0 H0 H locs → lv_has ls 1 [(0, .ref (A 3))] → W p l e rm_K_isCut s m args below meth c H locs 0 0 Q (F0 m 0 ls []) := by
  intro st H locs ls h I hl
  have hx := E.1
  have hb := E.2.1
  rw [f_K_isCut] at h
  refine lv_aload_n hx hb d_K_isCut_0 rfl (lv_at hl 0 rfl) ?_
  refine g_cK_cut E I k_K_25 d_K_isCut_1 ?_
  obtain ⟨z1, h⟩ := zr_some h
  cases h
  exact kr _ _ _ _ I (zr_nar z1) d_K_isCut_4
set_option maxHeartbeats 4000000 in
set_option maxRecDepth 100000 in
theorem k_K_isCut {st t : CS} {r : Int32} (h : f_K_isCut st = some (r, t)) : Cn l y_K_isCut c_K_isCut 1 (some .boolean) rm_K_isCut D (tyL cs) (cwC A cs st) (cwC A cs t) [.ref (A 3)] (some (.int r)) := by
  refine cn_intro (by decide) (Nat.le_of_ble_eq_true rfl) ?_
  intro p e s m below meth c A0 Q ls E hr hlk hA hA0 hQ I hl
  exact w_K_isCut E hA (rt_z E hr hlk hA0 hQ) st _ _ _ h I (lv_sub hl [0] rfl)
abbrev rm_K_steps : Room := { frames := 0, cells := 0, slots := 0, locals := 0 }
noncomputable def f_K_steps (st : CS) : Option (Int32 × CS) :=
  some ((cK_steps st), st)
set_option maxHeartbeats 4000000 in
set_option maxRecDepth 100000 in
theorem w_K_steps  {r : Int32} {t : CS} (E : EC R_K c_K_steps 1 p s m args c D (tyL cs)) (hA : ∀ q, H0.size ≤ q → A0 q) (kr : ∀ (H : Heap) (locs : List Loc) (pc : Nat) (ls : Array Slot), IW D (cwC A cs t) A0 H0 H locs → decode c_K_steps pc = .ok (.ireturn, 1) → W p l e rm_K_steps s m args below meth c H locs 0 0 Q (F0 m pc ls [.int r])) : ∀ (st : CS) (H : Heap) (locs : List Loc) (ls : Array Slot), f_K_steps st = some (r, t) → IW D (cwC A cs st) A0 H0 H locs → lv_has ls 1 [(0, .ref (A 3))] → W p l e rm_K_steps s m args below meth c H locs 0 0 Q (F0 m 0 ls []) := by
  intro st H locs ls h I hl
  have hx := E.1
  have hb := E.2.1
  rw [f_K_steps] at h
  refine lv_aload_n hx hb d_K_steps_0 rfl (lv_at hl 0 rfl) ?_
  refine g_cK_steps E I k_K_22 d_K_steps_1 ?_
  cases h
  exact kr _ _ _ _ I d_K_steps_4
set_option maxHeartbeats 4000000 in
set_option maxRecDepth 100000 in
theorem k_K_steps {st t : CS} {r : Int32} (h : f_K_steps st = some (r, t)) : Cn l y_K_steps c_K_steps 1 (some .int) rm_K_steps D (tyL cs) (cwC A cs st) (cwC A cs t) [.ref (A 3)] (some (.int r)) := by
  refine cn_intro (by decide) (Nat.le_of_ble_eq_true rfl) ?_
  intro p e s m below meth c A0 Q ls E hr hlk hA hA0 hQ I hl
  exact w_K_steps E hA (rt_i E hr hlk hA0 hQ) st _ _ _ h I (lv_sub hl [0] rfl)
abbrev rm_K_covered : Room := { frames := 0, cells := 0, slots := 0, locals := 0 }
noncomputable def f_K_covered (st : CS) : Option (Int64 × CS) :=
  some ((cK_covered st), st)
set_option maxHeartbeats 4000000 in
set_option maxRecDepth 100000 in
theorem w_K_covered  {r : Int64} {t : CS} (E : EC R_K c_K_covered 1 p s m args c D (tyL cs)) (hA : ∀ q, H0.size ≤ q → A0 q) (kr : ∀ (H : Heap) (locs : List Loc) (pc : Nat) (ls : Array Slot), IW D (cwC A cs t) A0 H0 H locs → decode c_K_covered pc = .ok (.lreturn, 1) → W p l e rm_K_covered s m args below meth c H locs 0 0 Q (F0 m pc ls [.long r])) : ∀ (st : CS) (H : Heap) (locs : List Loc) (ls : Array Slot), f_K_covered st = some (r, t) → IW D (cwC A cs st) A0 H0 H locs → lv_has ls 1 [(0, .ref (A 3))] → W p l e rm_K_covered s m args below meth c H locs 0 0 Q (F0 m 0 ls []) := by
  intro st H locs ls h I hl
  have hx := E.1
  have hb := E.2.1
  rw [f_K_covered] at h
  refine lv_aload_n hx hb d_K_covered_0 rfl (lv_at hl 0 rfl) ?_
  refine g_cK_covered E I k_K_29 d_K_covered_1 ?_
  cases h
  exact kr _ _ _ _ I d_K_covered_4
set_option maxHeartbeats 4000000 in
set_option maxRecDepth 100000 in
theorem k_K_covered {st t : CS} {r : Int64} (h : f_K_covered st = some (r, t)) : Cn l y_K_covered c_K_covered 1 (some .long) rm_K_covered D (tyL cs) (cwC A cs st) (cwC A cs t) [.ref (A 3)] (some (.long r)) := by
  refine cn_intro (by decide) (Nat.le_of_ble_eq_true rfl) ?_
  intro p e s m below meth c A0 Q ls E hr hlk hA hA0 hQ I hl
  exact w_K_covered E hA (rt_l E hr hlk hA0 hQ) st _ _ _ h I (lv_sub hl [0] rfl)
abbrev rm_U_attempt : Room := { frames := 133, cells := 0, slots := 0, locals := 5287 }
noncomputable def f_U_attempt_66 (x1 : Int32) (st : CS) : Option (Unit × CS) :=
  bd (f_K_steps st) fun r2 st1 =>
  ck x1 24 <|
  nx (s_cU_steps st1 x1.toNatClampNeg r2) fun st5 =>
  bd (f_K_covered st5) fun r7 st6 =>
  ck x1 24 <|
  nx (s_cU_covered st6 x1.toNatClampNeg r7) fun st10 =>
  some ((), st10)
noncomputable def f_U_attempt (x1 : Int32) (st : CS) : Option (Unit × CS) :=
  ck x1 24 <|
  ck x1 24 <|
  bd (f_K_workOut (cU_roots st x1.toNatClampNeg) (cU_inputs st x1.toNatClampNeg) (3000 : Int32) st) fun r14 st13 =>
  bd (f_K_isCut st13) fun r17 st16 =>
  if r17 = 0 then (
    ck x1 24 <|
    if r14 = (cU_wanted st16 x1.toNatClampNeg) then (
      ck x1 24 <|
      nx (s_cU_states st16 x1.toNatClampNeg (1 : Int32)) fun st25 =>
      f_U_attempt_66 x1 st25
    ) else (
      ck x1 24 <|
      nx (s_cU_states st16 x1.toNatClampNeg (0 : Int32)) fun st23 =>
      f_U_attempt_66 x1 st23
    )
  ) else (
    ck x1 24 <|
    nx (s_cU_states st16 x1.toNatClampNeg (-2 : Int32)) fun st27 =>
    f_U_attempt_66 x1 st27
  )
set_option maxHeartbeats 4000000 in
set_option maxRecDepth 100000 in
theorem w_U_attempt_66  {r : Unit} {t : CS} (E : EC R_U c_U_attempt 4 p s m args c D (tyL cs)) (hA : ∀ q, H0.size ≤ q → A0 q) (kr : ∀ (H : Heap) (locs : List Loc) (pc : Nat) (ls : Array Slot), IW D (cwC A cs t) A0 H0 H locs → decode c_U_attempt pc = .ok (.return_, 1) → W p l e rm_U_attempt s m args below meth c H locs 0 0 Q (F0 m pc ls [])) : ∀ (x1 : Int32) (st : CS) (H : Heap) (locs : List Loc) (ls : Array Slot), f_U_attempt_66 x1 st = some (r, t) → IW D (cwC A cs st) A0 H0 H locs → lv_has ls 4 [(0, .ref (A 2)), (1, .int x1)] → W p l e rm_U_attempt s m args below meth c H locs 0 0 Q (F0 m 66 ls []) := by
  intro x1 st H locs ls h I hl
  have hx := E.1
  have hb := E.2.1
  rw [f_U_attempt_66] at h
  refine lv_aload_n hx hb d_U_attempt_66 rfl (lv_at hl 0 rfl) ?_
  refine g_cU_steps E I k_U_34 d_U_attempt_67 ?_
  refine lv_iload_n hx hb d_U_attempt_70 rfl (lv_at hl 1 rfl) ?_
  refine lv_aload_n hx hb d_U_attempt_71 rfl (lv_at hl 0 rfl) ?_
  refine g_cU_worker E I k_U_14 d_U_attempt_72 ?_
  obtain ⟨r2, st1, h3, h⟩ := bd_some h
  refine cV (As := []) (rest := [.int x1, .ref (A 18)]) E I hA (k_K_steps h3) g_U_67 ⟨rfl, rfl⟩ 3 rfl rfl rfl hl rfl (Nat.le_of_ble_eq_true rfl) ⟨Nat.le_of_ble_eq_true rfl, Nat.le_of_ble_eq_true rfl⟩ ⟨Nat.zero_le _, Nat.zero_le _⟩ d_U_attempt_75 rfl (fun H locs I => ?_)
  obtain ⟨b4, h⟩ := ck_some h
  obtain ⟨st5, est5⟩ : ∃ y : CS, y = (s_cU_steps st1 x1.toNatClampNeg r2) := ⟨_, rfl⟩
  have h := nx_k est5 h
  refine p_cU_steps E I b4 est5 d_U_attempt_78 (fun H locs I => ?_)
  refine lv_aload_n hx hb d_U_attempt_79 rfl (lv_at hl 0 rfl) ?_
  refine g_cU_covered E I k_U_37 d_U_attempt_80 ?_
  refine lv_iload_n hx hb d_U_attempt_83 rfl (lv_at hl 1 rfl) ?_
  refine lv_aload_n hx hb d_U_attempt_84 rfl (lv_at hl 0 rfl) ?_
  refine g_cU_worker E I k_U_14 d_U_attempt_85 ?_
  obtain ⟨r7, st6, h8, h⟩ := bd_some h
  refine cV (As := []) (rest := [.int x1, .ref (A 19)]) E I hA (k_K_covered h8) g_U_70 ⟨rfl, rfl⟩ 3 rfl rfl rfl hl rfl (Nat.le_of_ble_eq_true rfl) ⟨Nat.le_of_ble_eq_true rfl, Nat.le_of_ble_eq_true rfl⟩ ⟨Nat.zero_le _, Nat.zero_le _⟩ d_U_attempt_88 rfl (fun H locs I => ?_)
  obtain ⟨b9, h⟩ := ck_some h
  obtain ⟨st10, est10⟩ : ∃ y : CS, y = (s_cU_covered st6 x1.toNatClampNeg r7) := ⟨_, rfl⟩
  have h := nx_k est10 h
  refine p_cU_covered E I b9 est10 d_U_attempt_91 (fun H locs I => ?_)
  cases h
  exact kr _ _ _ _ I d_U_attempt_92
set_option maxHeartbeats 4000000 in
set_option maxRecDepth 100000 in
theorem w_U_attempt  {r : Unit} {t : CS} (E : EC R_U c_U_attempt 4 p s m args c D (tyL cs)) (hA : ∀ q, H0.size ≤ q → A0 q) (kr : ∀ (H : Heap) (locs : List Loc) (pc : Nat) (ls : Array Slot), IW D (cwC A cs t) A0 H0 H locs → decode c_U_attempt pc = .ok (.return_, 1) → W p l e rm_U_attempt s m args below meth c H locs 0 0 Q (F0 m pc ls [])) : ∀ (x1 : Int32) (st : CS) (H : Heap) (locs : List Loc) (ls : Array Slot), f_U_attempt x1 st = some (r, t) → IW D (cwC A cs st) A0 H0 H locs → lv_has ls 4 [(0, .ref (A 2)), (1, .int x1)] → W p l e rm_U_attempt s m args below meth c H locs 0 0 Q (F0 m 0 ls []) := by
  intro x1 st H locs ls h I hl
  have hx := E.1
  have hb := E.2.1
  rw [f_U_attempt] at h
  refine lv_aload_n hx hb d_U_attempt_0 rfl (lv_at hl 0 rfl) ?_
  refine g_cU_worker E I k_U_14 d_U_attempt_1 ?_
  refine lv_aload_n hx hb d_U_attempt_4 rfl (lv_at hl 0 rfl) ?_
  refine g_cU_roots E I k_U_20 d_U_attempt_5 ?_
  refine lv_iload_n hx hb d_U_attempt_8 rfl (lv_at hl 1 rfl) ?_
  obtain ⟨b11, h⟩ := ck_some h
  refine l_cU_roots E I b11 d_U_attempt_9 ?_
  refine lv_aload_n hx hb d_U_attempt_10 rfl (lv_at hl 0 rfl) ?_
  refine g_cU_inputs E I k_U_24 d_U_attempt_11 ?_
  refine lv_iload_n hx hb d_U_attempt_14 rfl (lv_at hl 1 rfl) ?_
  obtain ⟨b12, h⟩ := ck_some h
  refine l_cU_inputs E I b12 d_U_attempt_15 ?_
  refine lv_sipush (v := 3000) hx hb d_U_attempt_16 (by decide) ?_
  obtain ⟨r14, st13, h15, h⟩ := bd_some h
  refine cV (As := [.int (cU_roots st x1.toNatClampNeg), .long (cU_inputs st x1.toNatClampNeg), .int (3000 : Int32)]) (rest := []) E I hA (k_K_workOut h15) g_U_56 ⟨rfl, rfl⟩ 3 rfl rfl rfl hl rfl (Nat.le_of_ble_eq_true rfl) ⟨Nat.le_of_ble_eq_true rfl, Nat.le_of_ble_eq_true rfl⟩ ⟨Nat.zero_le _, Nat.zero_le _⟩ d_U_attempt_19 rfl (fun H locs I => ?_)
  refine lv_lstore_n (lv' := [(2, .long r14), (0, .ref (A 2)), (1, .int x1)]) hx hb d_U_attempt_22 rfl hl (by decide) rfl (fun ls hl => ?_)
  refine lv_aload_n hx hb d_U_attempt_23 rfl (lv_at hl 1 rfl) ?_
  refine g_cU_worker E I k_U_14 d_U_attempt_24 ?_
  obtain ⟨r17, st16, h18, h⟩ := bd_some h
  refine cV (As := []) (rest := []) E I hA (k_K_isCut h18) g_U_63 ⟨rfl, rfl⟩ 3 rfl rfl rfl hl rfl (Nat.le_of_ble_eq_true rfl) ⟨Nat.le_of_ble_eq_true rfl, Nat.le_of_ble_eq_true rfl⟩ ⟨Nat.zero_le _, Nat.zero_le _⟩ d_U_attempt_27 rfl (fun H locs I => ?_)
  refine lv_if_eq (tgt := 44) hx hb d_U_attempt_30 (by decide) (fun c19 => ?_) (fun c19 => ?_)
  · have h := ifp c19 h
    refine lv_aload_n hx hb d_U_attempt_44 rfl (lv_at hl 1 rfl) ?_
    refine g_cU_states E I k_U_31 d_U_attempt_45 ?_
    refine lv_iload_n hx hb d_U_attempt_48 rfl (lv_at hl 2 rfl) ?_
    refine lv_lload_n hx hb d_U_attempt_49 rfl (lv_at hl 0 rfl) ?_
    refine lv_aload_n hx hb d_U_attempt_50 rfl (lv_at hl 1 rfl) ?_
    refine g_cU_wanted E I k_U_28 d_U_attempt_51 ?_
    refine lv_iload_n hx hb d_U_attempt_54 rfl (lv_at hl 2 rfl) ?_
    obtain ⟨b20, h⟩ := ck_some h
    refine l_cU_wanted E I b20 d_U_attempt_55 ?_
    refine W.lcmp hx hb d_U_attempt_56 ?_
    refine lv_if_ne (tgt := 64) hx hb d_U_attempt_57 (by decide) (fun c21 => ?_) (fun c21 => ?_)
    · have c21 := mt (lg_cmp_eq _ _).mpr c21
      have h := ifn c21 h
      refine lv_iconst (v := 0) hx hb d_U_attempt_64 (by decide) ?_
      obtain ⟨b22, h⟩ := ck_some h
      obtain ⟨st23, est23⟩ : ∃ y : CS, y = (s_cU_states st16 x1.toNatClampNeg (0 : Int32)) := ⟨_, rfl⟩
      have h := nx_k est23 h
      refine p_cU_states E I b22 est23 d_U_attempt_65 (fun H locs I => ?_)
      exact w_U_attempt_66 E hA kr x1 st23 _ _ _ h I (lv_sub hl [1, 2] rfl)
    · have c21 := (lg_cmp_eq _ _).mp c21
      have h := ifp c21 h
      refine lv_iconst (v := 1) hx hb d_U_attempt_60 (by decide) ?_
      refine lv_goto (tgt := 65) hx hb d_U_attempt_61 (by decide) ?_
      obtain ⟨b24, h⟩ := ck_some h
      obtain ⟨st25, est25⟩ : ∃ y : CS, y = (s_cU_states st16 x1.toNatClampNeg (1 : Int32)) := ⟨_, rfl⟩
      have h := nx_k est25 h
      refine p_cU_states E I b24 est25 d_U_attempt_65 (fun H locs I => ?_)
      exact w_U_attempt_66 E hA kr x1 st25 _ _ _ h I (lv_sub hl [1, 2] rfl)
  · have h := ifn c19 h
    refine lv_aload_n hx hb d_U_attempt_33 rfl (lv_at hl 1 rfl) ?_
    refine g_cU_states E I k_U_31 d_U_attempt_34 ?_
    refine lv_iload_n hx hb d_U_attempt_37 rfl (lv_at hl 2 rfl) ?_
    refine lv_bipush (v := -2) hx hb d_U_attempt_38 (by decide) ?_
    obtain ⟨b26, h⟩ := ck_some h
    obtain ⟨st27, est27⟩ : ∃ y : CS, y = (s_cU_states st16 x1.toNatClampNeg (-2 : Int32)) := ⟨_, rfl⟩
    have h := nx_k est27 h
    refine p_cU_states E I b26 est27 d_U_attempt_40 (fun H locs I => ?_)
    refine lv_goto (tgt := 66) hx hb d_U_attempt_41 (by decide) ?_
    exact w_U_attempt_66 E hA kr x1 st27 _ _ _ h I (lv_sub hl [1, 2] rfl)
set_option maxHeartbeats 4000000 in
set_option maxRecDepth 100000 in
theorem k_U_attempt {x1 : Int32} {st t : CS} {r : Unit} (h : f_U_attempt x1 st = some (r, t)) : Cn l y_U_attempt c_U_attempt 4 none rm_U_attempt D (tyL cs) (cwC A cs st) (cwC A cs t) [.ref (A 2), .int x1] (none) := by
  refine cn_intro (by decide) (Nat.le_of_ble_eq_true rfl) ?_
  intro p e s m below meth c A0 Q ls E hr hlk hA hA0 hQ I hl
  exact w_U_attempt E hA (rt_v E hr hlk hA0 hQ) x1 st _ _ _ h I (lv_sub hl [0, 1] rfl)
abbrev rm_U_add : Room := { frames := 134, cells := 0, slots := 0, locals := 5310 }
noncomputable def f_U_add (x1 : Int32) (x2 : Int64) (x4 : Int64) (st : CS) : Option (Int32 × CS) :=
  if (cU_size st) < (24 : Int32) then (
    nx (cU_size st) fun x6_2 =>
    nx (s_cU_size st ((cU_size st) + (1 : Int32))) fun st3 =>
    ck x6_2 24 <|
    nx (s_cU_roots st3 x6_2.toNatClampNeg x1) fun st5 =>
    ck x6_2 24 <|
    nx (s_cU_inputs st5 x6_2.toNatClampNeg x2) fun st7 =>
    ck x6_2 24 <|
    nx (s_cU_wanted st7 x6_2.toNatClampNeg x4) fun st9 =>
    bd (f_U_attempt x6_2 st9) fun _ st10 =>
    some (x6_2, st10)
  ) else (
    some ((-1 : Int32), st)
  )
set_option maxHeartbeats 4000000 in
set_option maxRecDepth 100000 in
theorem w_U_add  {r : Int32} {t : CS} (E : EC R_U c_U_add 7 p s m args c D (tyL cs)) (hA : ∀ q, H0.size ≤ q → A0 q) (kr : ∀ (H : Heap) (locs : List Loc) (pc : Nat) (ls : Array Slot), IW D (cwC A cs t) A0 H0 H locs → decode c_U_add pc = .ok (.ireturn, 1) → W p l e rm_U_add s m args below meth c H locs 0 0 Q (F0 m pc ls [.int r])) : ∀ (x1 : Int32) (x2 : Int64) (x4 : Int64) (st : CS) (H : Heap) (locs : List Loc) (ls : Array Slot), f_U_add x1 x2 x4 st = some (r, t) → IW D (cwC A cs st) A0 H0 H locs → lv_has ls 7 [(0, .ref (A 2)), (1, .int x1), (2, .long x2), (4, .long x4)] → W p l e rm_U_add s m args below meth c H locs 0 0 Q (F0 m 0 ls []) := by
  intro x1 x2 x4 st H locs ls h I hl
  have hx := E.1
  have hb := E.2.1
  rw [f_U_add] at h
  refine lv_aload_n hx hb d_U_add_0 rfl (lv_at hl 0 rfl) ?_
  refine g_cU_size E I k_U_40 d_U_add_1 ?_
  refine lv_bipush (v := 24) hx hb d_U_add_4 (by decide) ?_
  refine lv_icmp_lt (tgt := 11) hx hb d_U_add_6 (by decide) (fun c1 => ?_) (fun c1 => ?_)
  · have h := ifp c1 h
    refine lv_aload_n hx hb d_U_add_11 rfl (lv_at hl 0 rfl) ?_
    refine g_cU_size E I k_U_40 d_U_add_12 ?_
    refine lv_topi (fun x6_2 ex6_2 => ?_)
    have h := nx_k ex6_2 h
    refine lv_istore (lv' := [(6, .int x6_2), (0, .ref (A 2)), (1, .int x1), (2, .long x2), (4, .long x4)]) hx hb d_U_add_15 hl (by decide) rfl (fun ls hl => ?_)
    refine lv_aload_n hx hb d_U_add_17 rfl (lv_at hl 1 rfl) ?_
    refine lv_dup hx hb d_U_add_18 rfl ?_
    refine g_cU_size E I k_U_40 d_U_add_19 ?_
    refine lv_iconst (v := 1) hx hb d_U_add_22 (by decide) ?_
    refine lv_iadd hx hb d_U_add_23 ?_
    obtain ⟨st3, est3⟩ : ∃ y : CS, y = (s_cU_size st ((cU_size st) + (1 : Int32))) := ⟨_, rfl⟩
    have h := nx_k est3 h
    refine p_cU_size E I est3 k_U_40 d_U_add_24 (fun H locs I => ?_)
    refine lv_aload_n hx hb d_U_add_27 rfl (lv_at hl 1 rfl) ?_
    refine g_cU_roots E I k_U_20 d_U_add_28 ?_
    refine lv_iload hx hb d_U_add_31 (lv_at hl 0 rfl) ?_
    refine lv_iload_n hx hb d_U_add_33 rfl (lv_at hl 2 rfl) ?_
    obtain ⟨b4, h⟩ := ck_some h
    obtain ⟨st5, est5⟩ : ∃ y : CS, y = (s_cU_roots st3 x6_2.toNatClampNeg x1) := ⟨_, rfl⟩
    have h := nx_k est5 h
    refine p_cU_roots E I b4 est5 d_U_add_34 (fun H locs I => ?_)
    refine lv_aload_n hx hb d_U_add_35 rfl (lv_at hl 1 rfl) ?_
    refine g_cU_inputs E I k_U_24 d_U_add_36 ?_
    refine lv_iload hx hb d_U_add_39 (lv_at hl 0 rfl) ?_
    refine lv_lload_n hx hb d_U_add_41 rfl (lv_at hl 3 rfl) ?_
    obtain ⟨b6, h⟩ := ck_some h
    obtain ⟨st7, est7⟩ : ∃ y : CS, y = (s_cU_inputs st5 x6_2.toNatClampNeg x2) := ⟨_, rfl⟩
    have h := nx_k est7 h
    refine p_cU_inputs E I b6 est7 d_U_add_42 (fun H locs I => ?_)
    refine lv_aload_n hx hb d_U_add_43 rfl (lv_at hl 1 rfl) ?_
    refine g_cU_wanted E I k_U_28 d_U_add_44 ?_
    refine lv_iload hx hb d_U_add_47 (lv_at hl 0 rfl) ?_
    refine lv_lload hx hb d_U_add_49 (lv_at hl 4 rfl) ?_
    obtain ⟨b8, h⟩ := ck_some h
    obtain ⟨st9, est9⟩ : ∃ y : CS, y = (s_cU_wanted st7 x6_2.toNatClampNeg x4) := ⟨_, rfl⟩
    have h := nx_k est9 h
    refine p_cU_wanted E I b8 est9 d_U_add_51 (fun H locs I => ?_)
    refine lv_aload_n hx hb d_U_add_52 rfl (lv_at hl 1 rfl) ?_
    refine lv_iload hx hb d_U_add_53 (lv_at hl 0 rfl) ?_
    obtain ⟨u12, st10, h11, h⟩ := bd_some h
    refine cV (As := [.int x6_2]) (rest := []) E I hA (k_U_attempt h11) g_U_48 ⟨rfl, rfl⟩ 2 rfl rfl rfl hl rfl (Nat.le_of_ble_eq_true rfl) ⟨Nat.le_of_ble_eq_true rfl, Nat.le_of_ble_eq_true rfl⟩ ⟨Nat.zero_le _, Nat.zero_le _⟩ d_U_add_55 rfl (fun H locs I => ?_)
    refine lv_iload hx hb d_U_add_58 (lv_at hl 0 rfl) ?_
    cases h
    exact kr _ _ _ _ I d_U_add_60
  · have h := ifn c1 h
    refine lv_iconst (v := -1) hx hb d_U_add_9 (by decide) ?_
    cases h
    exact kr _ _ _ _ I d_U_add_10
set_option maxHeartbeats 4000000 in
set_option maxRecDepth 100000 in
theorem k_U_add {x1 : Int32} {x2 : Int64} {x4 : Int64} {st t : CS} {r : Int32} (h : f_U_add x1 x2 x4 st = some (r, t)) : Cn l y_U_add c_U_add 7 (some .int) rm_U_add D (tyL cs) (cwC A cs st) (cwC A cs t) [.ref (A 2), .int x1, .long x2, .long x4] (some (.int r)) := by
  refine cn_intro (by decide) (Nat.le_of_ble_eq_true rfl) ?_
  intro p e s m below meth c A0 Q ls E hr hlk hA hA0 hQ I hl
  exact w_U_add E hA (rt_i E hr hlk hA0 hQ) x1 x2 x4 st _ _ _ h I (lv_sub hl [0, 1, 2, 3] rfl)
abbrev rm_M_test : Room := { frames := 135, cells := 0, slots := 0, locals := 5336 }
noncomputable def f_M_test (x1 : Int32) (x2 : Int64) (x4 : Int64) (st : CS) : Option (Int32 × CS) :=
  bd (f_T_has x1 st) fun r2 st1 =>
  if r2 = 0 then (
    some ((-1 : Int32), st1)
  ) else (
    bd (f_U_add x1 x2 x4 st1) fun r6 st5 =>
    some (r6, st5)
  )
set_option maxHeartbeats 4000000 in
set_option maxRecDepth 100000 in
theorem w_M_test  {r : Int32} {t : CS} (E : EC R_M c_M_test 6 p s m args c D (tyL cs)) (hA : ∀ q, H0.size ≤ q → A0 q) (kr : ∀ (H : Heap) (locs : List Loc) (pc : Nat) (ls : Array Slot), IW D (cwC A cs t) A0 H0 H locs → decode c_M_test pc = .ok (.ireturn, 1) → W p l e rm_M_test s m args below meth c H locs 0 0 Q (F0 m pc ls [.int r])) : ∀ (x1 : Int32) (x2 : Int64) (x4 : Int64) (st : CS) (H : Heap) (locs : List Loc) (ls : Array Slot), f_M_test x1 x2 x4 st = some (r, t) → IW D (cwC A cs st) A0 H0 H locs → lv_has ls 6 [(0, .ref (A 0)), (1, .int x1), (2, .long x2), (4, .long x4)] → W p l e rm_M_test s m args below meth c H locs 0 0 Q (F0 m 0 ls []) := by
  intro x1 x2 x4 st H locs ls h I hl
  have hx := E.1
  have hb := E.2.1
  rw [f_M_test] at h
  refine lv_aload_n hx hb d_M_test_0 rfl (lv_at hl 0 rfl) ?_
  refine g_cM_trees E I k_M_10 d_M_test_1 ?_
  refine lv_iload_n hx hb d_M_test_4 rfl (lv_at hl 1 rfl) ?_
  obtain ⟨r2, st1, h3, h⟩ := bd_some h
  refine cV (As := [.int x1]) (rest := []) E I hA (k_T_has h3) g_M_52 ⟨rfl, rfl⟩ 1 rfl rfl rfl hl rfl (Nat.le_of_ble_eq_true rfl) ⟨Nat.le_of_ble_eq_true rfl, Nat.le_of_ble_eq_true rfl⟩ ⟨Nat.zero_le _, Nat.zero_le _⟩ d_M_test_5 rfl (fun H locs I => ?_)
  refine lv_if_ne (tgt := 13) hx hb d_M_test_8 (by decide) (fun c4 => ?_) (fun c4 => ?_)
  · have h := ifn c4 h
    refine lv_aload_n hx hb d_M_test_13 rfl (lv_at hl 0 rfl) ?_
    refine g_cM_trials E I k_M_21 d_M_test_14 ?_
    refine lv_iload_n hx hb d_M_test_17 rfl (lv_at hl 1 rfl) ?_
    refine lv_lload_n hx hb d_M_test_18 rfl (lv_at hl 2 rfl) ?_
    refine lv_lload hx hb d_M_test_19 (lv_at hl 3 rfl) ?_
    obtain ⟨r6, st5, h7, h⟩ := bd_some h
    refine cV (As := [.int x1, .long x2, .long x4]) (rest := []) E I hA (k_U_add h7) g_M_56 ⟨rfl, rfl⟩ 2 rfl rfl rfl hl rfl (Nat.le_of_ble_eq_true rfl) ⟨Nat.le_of_ble_eq_true rfl, Nat.le_of_ble_eq_true rfl⟩ ⟨Nat.zero_le _, Nat.zero_le _⟩ d_M_test_21 rfl (fun H locs I => ?_)
    cases h
    exact kr _ _ _ _ I d_M_test_24
  · have h := ifp c4 h
    refine lv_iconst (v := -1) hx hb d_M_test_11 (by decide) ?_
    cases h
    exact kr _ _ _ _ I d_M_test_12
set_option maxHeartbeats 4000000 in
set_option maxRecDepth 100000 in
theorem k_M_test {x1 : Int32} {x2 : Int64} {x4 : Int64} {st t : CS} {r : Int32} (h : f_M_test x1 x2 x4 st = some (r, t)) : Cn l y_M_test c_M_test 6 (some .int) rm_M_test D (tyL cs) (cwC A cs st) (cwC A cs t) [.ref (A 0), .int x1, .long x2, .long x4] (some (.int r)) := by
  refine cn_intro (by decide) (Nat.le_of_ble_eq_true rfl) ?_
  intro p e s m below meth c A0 Q ls E hr hlk hA hA0 hQ I hl
  exact w_M_test E hA (rt_i E hr hlk hA0 hQ) x1 x2 x4 st _ _ _ h I (lv_sub hl [0, 1, 2, 3] rfl)
abbrev rm_U_has : Room := { frames := 0, cells := 0, slots := 0, locals := 0 }
noncomputable def f_U_has (x1 : Int32) (st : CS) : Option (Int32 × CS) :=
  if x1 < 0 then (
    some ((0 : Int32), st)
  ) else (
    if (cU_size st) ≤ x1 then (
      some ((0 : Int32), st)
    ) else (
      some ((1 : Int32), st)
    )
  )
set_option maxHeartbeats 4000000 in
set_option maxRecDepth 100000 in
theorem w_U_has  {r : Int32} {t : CS} (E : EC R_U c_U_has 2 p s m args c D (tyL cs)) (hA : ∀ q, H0.size ≤ q → A0 q) (kr : ∀ (H : Heap) (locs : List Loc) (pc : Nat) (ls : Array Slot), IW D (cwC A cs t) A0 H0 H locs → narrow .boolean (.int r) = .int r → decode c_U_has pc = .ok (.ireturn, 1) → W p l e rm_U_has s m args below meth c H locs 0 0 Q (F0 m pc ls [.int r])) : ∀ (x1 : Int32) (st : CS) (H : Heap) (locs : List Loc) (ls : Array Slot), f_U_has x1 st = some (r, t) → IW D (cwC A cs st) A0 H0 H locs → lv_has ls 2 [(0, .ref (A 2)), (1, .int x1)] → W p l e rm_U_has s m args below meth c H locs 0 0 Q (F0 m 0 ls []) := by
  intro x1 st H locs ls h I hl
  have hx := E.1
  have hb := E.2.1
  rw [f_U_has] at h
  refine lv_iload_n hx hb d_U_has_0 rfl (lv_at hl 1 rfl) ?_
  refine lv_if_lt (tgt := 16) hx hb d_U_has_1 (by decide) (fun c1 => ?_) (fun c1 => ?_)
  · have h := ifp c1 h
    refine lv_iconst (v := 0) hx hb d_U_has_16 (by decide) ?_
    cases h
    exact kr _ _ _ _ I (by decide) d_U_has_17
  · have h := ifn c1 h
    refine lv_iload_n hx hb d_U_has_4 rfl (lv_at hl 1 rfl) ?_
    refine lv_aload_n hx hb d_U_has_5 rfl (lv_at hl 0 rfl) ?_
    refine g_cU_size E I k_U_40 d_U_has_6 ?_
    refine lv_icmp_ge (tgt := 16) hx hb d_U_has_9 (by decide) (fun c2 => ?_) (fun c2 => ?_)
    · have h := ifp c2 h
      refine lv_iconst (v := 0) hx hb d_U_has_16 (by decide) ?_
      cases h
      exact kr _ _ _ _ I (by decide) d_U_has_17
    · have h := ifn c2 h
      refine lv_iconst (v := 1) hx hb d_U_has_12 (by decide) ?_
      refine lv_goto (tgt := 17) hx hb d_U_has_13 (by decide) ?_
      cases h
      exact kr _ _ _ _ I (by decide) d_U_has_17
set_option maxHeartbeats 4000000 in
set_option maxRecDepth 100000 in
theorem k_U_has {x1 : Int32} {st t : CS} {r : Int32} (h : f_U_has x1 st = some (r, t)) : Cn l y_U_has c_U_has 2 (some .boolean) rm_U_has D (tyL cs) (cwC A cs st) (cwC A cs t) [.ref (A 2), .int x1] (some (.int r)) := by
  refine cn_intro (by decide) (Nat.le_of_ble_eq_true rfl) ?_
  intro p e s m below meth c A0 Q ls E hr hlk hA hA0 hQ I hl
  exact w_U_has E hA (rt_z E hr hlk hA0 hQ) x1 st _ _ _ h I (lv_sub hl [0, 1] rfl)
abbrev rm_U_stateOf : Room := { frames := 0, cells := 0, slots := 0, locals := 0 }
noncomputable def f_U_stateOf (x1 : Int32) (st : CS) : Option (Int32 × CS) :=
  ck x1 24 <|
  some ((cU_states st x1.toNatClampNeg), st)
set_option maxHeartbeats 4000000 in
set_option maxRecDepth 100000 in
theorem w_U_stateOf  {r : Int32} {t : CS} (E : EC R_U c_U_stateOf 2 p s m args c D (tyL cs)) (hA : ∀ q, H0.size ≤ q → A0 q) (kr : ∀ (H : Heap) (locs : List Loc) (pc : Nat) (ls : Array Slot), IW D (cwC A cs t) A0 H0 H locs → decode c_U_stateOf pc = .ok (.ireturn, 1) → W p l e rm_U_stateOf s m args below meth c H locs 0 0 Q (F0 m pc ls [.int r])) : ∀ (x1 : Int32) (st : CS) (H : Heap) (locs : List Loc) (ls : Array Slot), f_U_stateOf x1 st = some (r, t) → IW D (cwC A cs st) A0 H0 H locs → lv_has ls 2 [(0, .ref (A 2)), (1, .int x1)] → W p l e rm_U_stateOf s m args below meth c H locs 0 0 Q (F0 m 0 ls []) := by
  intro x1 st H locs ls h I hl
  have hx := E.1
  have hb := E.2.1
  rw [f_U_stateOf] at h
  refine lv_aload_n hx hb d_U_stateOf_0 rfl (lv_at hl 0 rfl) ?_
  refine g_cU_states E I k_U_31 d_U_stateOf_1 ?_
  refine lv_iload_n hx hb d_U_stateOf_4 rfl (lv_at hl 1 rfl) ?_
  obtain ⟨b1, h⟩ := ck_some h
  refine l_cU_states E I b1 d_U_stateOf_5 ?_
  cases h
  exact kr _ _ _ _ I d_U_stateOf_6
set_option maxHeartbeats 4000000 in
set_option maxRecDepth 100000 in
theorem k_U_stateOf {x1 : Int32} {st t : CS} {r : Int32} (h : f_U_stateOf x1 st = some (r, t)) : Cn l y_U_stateOf c_U_stateOf 2 (some .int) rm_U_stateOf D (tyL cs) (cwC A cs st) (cwC A cs t) [.ref (A 2), .int x1] (some (.int r)) := by
  refine cn_intro (by decide) (Nat.le_of_ble_eq_true rfl) ?_
  intro p e s m below meth c A0 Q ls E hr hlk hA hA0 hQ I hl
  exact w_U_stateOf E hA (rt_i E hr hlk hA0 hQ) x1 st _ _ _ h I (lv_sub hl [0, 1] rfl)
abbrev rm_U_stepsOf : Room := { frames := 0, cells := 0, slots := 0, locals := 0 }
noncomputable def f_U_stepsOf (x1 : Int32) (st : CS) : Option (Int32 × CS) :=
  ck x1 24 <|
  some ((cU_steps st x1.toNatClampNeg), st)
set_option maxHeartbeats 4000000 in
set_option maxRecDepth 100000 in
theorem w_U_stepsOf  {r : Int32} {t : CS} (E : EC R_U c_U_stepsOf 2 p s m args c D (tyL cs)) (hA : ∀ q, H0.size ≤ q → A0 q) (kr : ∀ (H : Heap) (locs : List Loc) (pc : Nat) (ls : Array Slot), IW D (cwC A cs t) A0 H0 H locs → decode c_U_stepsOf pc = .ok (.ireturn, 1) → W p l e rm_U_stepsOf s m args below meth c H locs 0 0 Q (F0 m pc ls [.int r])) : ∀ (x1 : Int32) (st : CS) (H : Heap) (locs : List Loc) (ls : Array Slot), f_U_stepsOf x1 st = some (r, t) → IW D (cwC A cs st) A0 H0 H locs → lv_has ls 2 [(0, .ref (A 2)), (1, .int x1)] → W p l e rm_U_stepsOf s m args below meth c H locs 0 0 Q (F0 m 0 ls []) := by
  intro x1 st H locs ls h I hl
  have hx := E.1
  have hb := E.2.1
  rw [f_U_stepsOf] at h
  refine lv_aload_n hx hb d_U_stepsOf_0 rfl (lv_at hl 0 rfl) ?_
  refine g_cU_steps E I k_U_34 d_U_stepsOf_1 ?_
  refine lv_iload_n hx hb d_U_stepsOf_4 rfl (lv_at hl 1 rfl) ?_
  obtain ⟨b1, h⟩ := ck_some h
  refine l_cU_steps E I b1 d_U_stepsOf_5 ?_
  cases h
  exact kr _ _ _ _ I d_U_stepsOf_6
set_option maxHeartbeats 4000000 in
set_option maxRecDepth 100000 in
theorem k_U_stepsOf {x1 : Int32} {st t : CS} {r : Int32} (h : f_U_stepsOf x1 st = some (r, t)) : Cn l y_U_stepsOf c_U_stepsOf 2 (some .int) rm_U_stepsOf D (tyL cs) (cwC A cs st) (cwC A cs t) [.ref (A 2), .int x1] (some (.int r)) := by
  refine cn_intro (by decide) (Nat.le_of_ble_eq_true rfl) ?_
  intro p e s m below meth c A0 Q ls E hr hlk hA hA0 hQ I hl
  exact w_U_stepsOf E hA (rt_i E hr hlk hA0 hQ) x1 st _ _ _ h I (lv_sub hl [0, 1] rfl)
abbrev rm_U_coveredBy : Room := { frames := 0, cells := 0, slots := 0, locals := 0 }
noncomputable def f_U_coveredBy (x1 : Int32) (st : CS) : Option (Int64 × CS) :=
  ck x1 24 <|
  some ((cU_covered st x1.toNatClampNeg), st)
set_option maxHeartbeats 4000000 in
set_option maxRecDepth 100000 in
theorem w_U_coveredBy  {r : Int64} {t : CS} (E : EC R_U c_U_coveredBy 2 p s m args c D (tyL cs)) (hA : ∀ q, H0.size ≤ q → A0 q) (kr : ∀ (H : Heap) (locs : List Loc) (pc : Nat) (ls : Array Slot), IW D (cwC A cs t) A0 H0 H locs → decode c_U_coveredBy pc = .ok (.lreturn, 1) → W p l e rm_U_coveredBy s m args below meth c H locs 0 0 Q (F0 m pc ls [.long r])) : ∀ (x1 : Int32) (st : CS) (H : Heap) (locs : List Loc) (ls : Array Slot), f_U_coveredBy x1 st = some (r, t) → IW D (cwC A cs st) A0 H0 H locs → lv_has ls 2 [(0, .ref (A 2)), (1, .int x1)] → W p l e rm_U_coveredBy s m args below meth c H locs 0 0 Q (F0 m 0 ls []) := by
  intro x1 st H locs ls h I hl
  have hx := E.1
  have hb := E.2.1
  rw [f_U_coveredBy] at h
  refine lv_aload_n hx hb d_U_coveredBy_0 rfl (lv_at hl 0 rfl) ?_
  refine g_cU_covered E I k_U_37 d_U_coveredBy_1 ?_
  refine lv_iload_n hx hb d_U_coveredBy_4 rfl (lv_at hl 1 rfl) ?_
  obtain ⟨b1, h⟩ := ck_some h
  refine l_cU_covered E I b1 d_U_coveredBy_5 ?_
  cases h
  exact kr _ _ _ _ I d_U_coveredBy_6
set_option maxHeartbeats 4000000 in
set_option maxRecDepth 100000 in
theorem k_U_coveredBy {x1 : Int32} {st t : CS} {r : Int64} (h : f_U_coveredBy x1 st = some (r, t)) : Cn l y_U_coveredBy c_U_coveredBy 2 (some .long) rm_U_coveredBy D (tyL cs) (cwC A cs st) (cwC A cs t) [.ref (A 2), .int x1] (some (.long r)) := by
  refine cn_intro (by decide) (Nat.le_of_ble_eq_true rfl) ?_
  intro p e s m below meth c A0 Q ls E hr hlk hA hA0 hQ I hl
  exact w_U_coveredBy E hA (rt_l E hr hlk hA0 hQ) x1 st _ _ _ h I (lv_sub hl [0, 1] rfl)
abbrev rm_J_bitCount : Room := { frames := 0, cells := 0, slots := 0, locals := 0 }
noncomputable def f_J_bitCount (x0 : Int64) (st : CS) : Option (Int32 × CS) :=
  nx (x0 - ((x0.toUInt64 >>> ((1 : Int32).toInt64.toUInt64 &&& Int64.toUInt64 63)).toInt64 &&& (6148914691236517205 : Int64))) fun x0_1 =>
  nx ((x0_1 &&& (3689348814741910323 : Int64)) + ((x0_1.toUInt64 >>> ((2 : Int32).toInt64.toUInt64 &&& Int64.toUInt64 63)).toInt64 &&& (3689348814741910323 : Int64))) fun x0_2 =>
  nx ((x0_2 + (x0_2.toUInt64 >>> ((4 : Int32).toInt64.toUInt64 &&& Int64.toUInt64 63)).toInt64) &&& (1085102592571150095 : Int64)) fun x0_3 =>
  nx (x0_3 + (x0_3.toUInt64 >>> ((8 : Int32).toInt64.toUInt64 &&& Int64.toUInt64 63)).toInt64) fun x0_4 =>
  nx (x0_4 + (x0_4.toUInt64 >>> ((16 : Int32).toInt64.toUInt64 &&& Int64.toUInt64 63)).toInt64) fun x0_5 =>
  nx (x0_5 + (x0_5.toUInt64 >>> ((32 : Int32).toInt64.toUInt64 &&& Int64.toUInt64 63)).toInt64) fun x0_6 =>
  some ((x0_6.toInt32 &&& (127 : Int32)), st)
set_option maxHeartbeats 4000000 in
set_option maxRecDepth 100000 in
theorem w_J_bitCount  {r : Int32} {t : CS} (E : EC R_J c_J_bitCount 2 p s m args c D (tyL cs)) (hA : ∀ q, H0.size ≤ q → A0 q) (kr : ∀ (H : Heap) (locs : List Loc) (pc : Nat) (ls : Array Slot), IW D (cwC A cs t) A0 H0 H locs → decode c_J_bitCount pc = .ok (.ireturn, 1) → W p l e rm_J_bitCount s m args below meth c H locs 0 0 Q (F0 m pc ls [.int r])) : ∀ (x0 : Int64) (st : CS) (H : Heap) (locs : List Loc) (ls : Array Slot), f_J_bitCount x0 st = some (r, t) → IW D (cwC A cs st) A0 H0 H locs → lv_has ls 2 [(0, .long x0)] → W p l e rm_J_bitCount s m args below meth c H locs 0 0 Q (F0 m 0 ls []) := by
  intro x0 st H locs ls h I hl
  have hx := E.1
  have hb := E.2.1
  rw [f_J_bitCount] at h
  refine lv_lload_n hx hb d_J_bitCount_0 rfl (lv_at hl 0 rfl) ?_
  refine lv_lload_n hx hb d_J_bitCount_1 rfl (lv_at hl 0 rfl) ?_
  refine lv_iconst (v := 1) hx hb d_J_bitCount_2 (by decide) ?_
  refine lv_lushr hx hb d_J_bitCount_3 rfl ?_
  refine lv_ldc2 (v := 6148914691236517205) hx hb E.2.2.2.1 (E.2.2.2.2.1 _ kl_J_314) d_J_bitCount_4 ?_
  refine lv_land hx hb d_J_bitCount_7 ?_
  refine lv_lsub hx hb d_J_bitCount_8 ?_
  refine lv_topl (fun x0_1 ex0_1 => ?_)
  have h := nx_k ex0_1 h
  refine lv_lstore_n (lv' := [(0, .long x0_1)]) hx hb d_J_bitCount_9 rfl hl (by decide) rfl (fun ls hl => ?_)
  refine lv_lload_n hx hb d_J_bitCount_10 rfl (lv_at hl 0 rfl) ?_
  refine lv_ldc2 (v := 3689348814741910323) hx hb E.2.2.2.1 (E.2.2.2.2.1 _ kl_J_316) d_J_bitCount_11 ?_
  refine lv_land hx hb d_J_bitCount_14 ?_
  refine lv_lload_n hx hb d_J_bitCount_15 rfl (lv_at hl 0 rfl) ?_
  refine lv_iconst (v := 2) hx hb d_J_bitCount_16 (by decide) ?_
  refine lv_lushr hx hb d_J_bitCount_17 rfl ?_
  refine lv_ldc2 (v := 3689348814741910323) hx hb E.2.2.2.1 (E.2.2.2.2.1 _ kl_J_316) d_J_bitCount_18 ?_
  refine lv_land hx hb d_J_bitCount_21 ?_
  refine lv_ladd hx hb d_J_bitCount_22 ?_
  refine lv_topl (fun x0_2 ex0_2 => ?_)
  have h := nx_k ex0_2 h
  refine lv_lstore_n (lv' := [(0, .long x0_2)]) hx hb d_J_bitCount_23 rfl hl (by decide) rfl (fun ls hl => ?_)
  refine lv_lload_n hx hb d_J_bitCount_24 rfl (lv_at hl 0 rfl) ?_
  refine lv_lload_n hx hb d_J_bitCount_25 rfl (lv_at hl 0 rfl) ?_
  refine lv_iconst (v := 4) hx hb d_J_bitCount_26 (by decide) ?_
  refine lv_lushr hx hb d_J_bitCount_27 rfl ?_
  refine lv_ladd hx hb d_J_bitCount_28 ?_
  refine lv_ldc2 (v := 1085102592571150095) hx hb E.2.2.2.1 (E.2.2.2.2.1 _ kl_J_318) d_J_bitCount_29 ?_
  refine lv_land hx hb d_J_bitCount_32 ?_
  refine lv_topl (fun x0_3 ex0_3 => ?_)
  have h := nx_k ex0_3 h
  refine lv_lstore_n (lv' := [(0, .long x0_3)]) hx hb d_J_bitCount_33 rfl hl (by decide) rfl (fun ls hl => ?_)
  refine lv_lload_n hx hb d_J_bitCount_34 rfl (lv_at hl 0 rfl) ?_
  refine lv_lload_n hx hb d_J_bitCount_35 rfl (lv_at hl 0 rfl) ?_
  refine lv_bipush (v := 8) hx hb d_J_bitCount_36 (by decide) ?_
  refine lv_lushr hx hb d_J_bitCount_38 rfl ?_
  refine lv_ladd hx hb d_J_bitCount_39 ?_
  refine lv_topl (fun x0_4 ex0_4 => ?_)
  have h := nx_k ex0_4 h
  refine lv_lstore_n (lv' := [(0, .long x0_4)]) hx hb d_J_bitCount_40 rfl hl (by decide) rfl (fun ls hl => ?_)
  refine lv_lload_n hx hb d_J_bitCount_41 rfl (lv_at hl 0 rfl) ?_
  refine lv_lload_n hx hb d_J_bitCount_42 rfl (lv_at hl 0 rfl) ?_
  refine lv_bipush (v := 16) hx hb d_J_bitCount_43 (by decide) ?_
  refine lv_lushr hx hb d_J_bitCount_45 rfl ?_
  refine lv_ladd hx hb d_J_bitCount_46 ?_
  refine lv_topl (fun x0_5 ex0_5 => ?_)
  have h := nx_k ex0_5 h
  refine lv_lstore_n (lv' := [(0, .long x0_5)]) hx hb d_J_bitCount_47 rfl hl (by decide) rfl (fun ls hl => ?_)
  refine lv_lload_n hx hb d_J_bitCount_48 rfl (lv_at hl 0 rfl) ?_
  refine lv_lload_n hx hb d_J_bitCount_49 rfl (lv_at hl 0 rfl) ?_
  refine lv_bipush (v := 32) hx hb d_J_bitCount_50 (by decide) ?_
  refine lv_lushr hx hb d_J_bitCount_52 rfl ?_
  refine lv_ladd hx hb d_J_bitCount_53 ?_
  refine lv_topl (fun x0_6 ex0_6 => ?_)
  have h := nx_k ex0_6 h
  refine lv_lstore_n (lv' := [(0, .long x0_6)]) hx hb d_J_bitCount_54 rfl hl (by decide) rfl (fun ls hl => ?_)
  refine lv_lload_n hx hb d_J_bitCount_55 rfl (lv_at hl 0 rfl) ?_
  refine lv_l2i hx hb d_J_bitCount_56 rfl ?_
  refine lv_bipush (v := 127) hx hb d_J_bitCount_57 (by decide) ?_
  refine lv_iand hx hb d_J_bitCount_59 ?_
  cases h
  exact kr _ _ _ _ I d_J_bitCount_60
set_option maxHeartbeats 4000000 in
set_option maxRecDepth 100000 in
theorem k_J_bitCount {x0 : Int64} {st t : CS} {r : Int32} (h : f_J_bitCount x0 st = some (r, t)) : Cn l y_J_bitCount c_J_bitCount 2 (some .int) rm_J_bitCount D (tyL cs) (cwC A cs st) (cwC A cs t) [.long x0] (some (.int r)) := by
  refine cn_intro (by decide) (Nat.le_of_ble_eq_true rfl) ?_
  intro p e s m below meth c A0 Q ls E hr hlk hA hA0 hQ I hl
  exact w_J_bitCount E hA (rt_i E hr hlk hA0 hQ) x0 st _ _ _ h I (lv_sub hl [0] rfl)
end Mmc2
