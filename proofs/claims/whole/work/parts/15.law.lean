section LAW
variable {p : Program} {l : Launch} {e : Env} {s : State} {m : MethodId} {args : Array Value} {below : List Frame} {meth : Method} {c : Code} {Q : State → Prop} {D : va_G} {A0 : Nat → Prop} {H0 : Heap} {A B : Nat → Nat} {cs : ClassId × ClassId × ClassId}
noncomputable def f_L_law_18 (L : Nat) (xs : Nat → Int32) : Nat → Int32 → PSt → Option (Int32 × PSt)
  | 0, _, _ => none
  | n + 1, x3, st =>
    if ((Int32.ofNat L) - (6 : Int32)) < x3 then (
      some ((1 : Int32), st)
    ) else (
      ck x3 L <|
      if ((xs x3.toNatClampNeg) &&& (15 : Int32)) = 0 then (
        ck (x3 + (1 : Int32)) L <|
        ck (x3 + (2 : Int32)) L <|
        ck (x3 + (3 : Int32)) L <|
        ck (x3 + (4 : Int32)) L <|
        ck (x3 + (5 : Int32)) L <|
        bd (lC (f_M_node (xs (x3 + (1 : Int32)).toNatClampNeg) (((xs (x3 + (2 : Int32)).toNatClampNeg).toInt64 <<< ((32 : Int32).toInt64 &&& 63)) ||| ((xs (x3 + (3 : Int32)).toNatClampNeg).toInt64 &&& (4294967295 : Int64))) (xs (x3 + (4 : Int32)).toNatClampNeg) (xs (x3 + (5 : Int32)).toNatClampNeg)) st) fun r10 st9 =>
        ck (x3 + (1 : Int32)) L <|
        ck (x3 + (2 : Int32)) L <|
        ck (x3 + (3 : Int32)) L <|
        ck (x3 + (4 : Int32)) L <|
        ck (x3 + (5 : Int32)) L <|
        bd (lR (f_R_node (xs (x3 + (1 : Int32)).toNatClampNeg) (((xs (x3 + (2 : Int32)).toNatClampNeg).toInt64 <<< ((32 : Int32).toInt64 &&& 63)) ||| ((xs (x3 + (3 : Int32)).toNatClampNeg).toInt64 &&& (4294967295 : Int64))) (xs (x3 + (4 : Int32)).toNatClampNeg) (xs (x3 + (5 : Int32)).toNatClampNeg)) st9) fun r18 st17 =>
        if r10 = r18 then (
          nx (x3 + 6) fun x3_21 =>
          f_L_law_18 L xs n x3_21 st17
        ) else (
          some ((0 : Int32), st17)
        )
      ) else (
        if ((xs x3.toNatClampNeg) &&& (15 : Int32)) = 1 then (
          ck (x3 + (1 : Int32)) L <|
          ck (x3 + (2 : Int32)) L <|
          ck (x3 + (3 : Int32)) L <|
          ck (x3 + (4 : Int32)) L <|
          ck (x3 + (5 : Int32)) L <|
          bd (lC (f_M_test (xs (x3 + (1 : Int32)).toNatClampNeg) (((xs (x3 + (2 : Int32)).toNatClampNeg).toInt64 <<< ((32 : Int32).toInt64 &&& 63)) ||| ((xs (x3 + (3 : Int32)).toNatClampNeg).toInt64 &&& (4294967295 : Int64))) (((xs (x3 + (4 : Int32)).toNatClampNeg).toInt64 <<< ((32 : Int32).toInt64 &&& 63)) ||| ((xs (x3 + (5 : Int32)).toNatClampNeg).toInt64 &&& (4294967295 : Int64)))) st) fun r29 st28 =>
          ck (x3 + (1 : Int32)) L <|
          ck (x3 + (2 : Int32)) L <|
          ck (x3 + (3 : Int32)) L <|
          ck (x3 + (4 : Int32)) L <|
          ck (x3 + (5 : Int32)) L <|
          bd (lR (f_R_test (xs (x3 + (1 : Int32)).toNatClampNeg) (((xs (x3 + (2 : Int32)).toNatClampNeg).toInt64 <<< ((32 : Int32).toInt64 &&& 63)) ||| ((xs (x3 + (3 : Int32)).toNatClampNeg).toInt64 &&& (4294967295 : Int64))) (((xs (x3 + (4 : Int32)).toNatClampNeg).toInt64 <<< ((32 : Int32).toInt64 &&& 63)) ||| ((xs (x3 + (5 : Int32)).toNatClampNeg).toInt64 &&& (4294967295 : Int64)))) st28) fun r37 st36 =>
          if r29 = r37 then (
            nx (x3 + 6) fun x3_40 =>
            f_L_law_18 L xs n x3_40 st36
          ) else (
            some ((0 : Int32), st36)
          )
        ) else (
          if ((xs x3.toNatClampNeg) &&& (15 : Int32)) = 2 then (
            ck (x3 + (1 : Int32)) L <|
            ck (x3 + (2 : Int32)) L <|
            bd (lC (f_M_about (xs (x3 + (1 : Int32)).toNatClampNeg) (xs (x3 + (2 : Int32)).toNatClampNeg)) st) fun r45 st44 =>
            ck (x3 + (1 : Int32)) L <|
            ck (x3 + (2 : Int32)) L <|
            bd (lR (f_R_about (xs (x3 + (1 : Int32)).toNatClampNeg) (xs (x3 + (2 : Int32)).toNatClampNeg)) st44) fun r50 st49 =>
            if r45 = r50 then (
              nx (x3 + 6) fun x3_53 =>
              f_L_law_18 L xs n x3_53 st49
            ) else (
              some ((0 : Int32), st49)
            )
          ) else (
            if ((xs x3.toNatClampNeg) &&& (15 : Int32)) = 3 then (
              ck (x3 + (1 : Int32)) L <|
              bd (lC (f_M_make (xs (x3 + (1 : Int32)).toNatClampNeg)) st) fun r57 st56 =>
              ck (x3 + (1 : Int32)) L <|
              bd (lR (f_R_make (xs (x3 + (1 : Int32)).toNatClampNeg)) st56) fun r61 st60 =>
              if r57 = r61 then (
                nx (x3 + 6) fun x3_64 =>
                f_L_law_18 L xs n x3_64 st60
              ) else (
                some ((0 : Int32), st60)
              )
            ) else (
              if ((xs x3.toNatClampNeg) &&& (15 : Int32)) = 4 then (
                ck (x3 + (1 : Int32)) L <|
                ck (x3 + (2 : Int32)) L <|
                bd (lC (f_M_mutant (xs (x3 + (1 : Int32)).toNatClampNeg) (xs (x3 + (2 : Int32)).toNatClampNeg)) st) fun r69 st68 =>
                ck (x3 + (1 : Int32)) L <|
                ck (x3 + (2 : Int32)) L <|
                bd (lR (f_R_mutant (xs (x3 + (1 : Int32)).toNatClampNeg) (xs (x3 + (2 : Int32)).toNatClampNeg)) st68) fun r74 st73 =>
                if r69 = r74 then (
                  nx (x3 + 6) fun x3_77 =>
                  f_L_law_18 L xs n x3_77 st73
                ) else (
                  some ((0 : Int32), st73)
                )
              ) else (
                if ((xs x3.toNatClampNeg) &&& (15 : Int32)) = 5 then (
                  ck (x3 + (1 : Int32)) L <|
                  ck (x3 + (2 : Int32)) L <|
                  bd (lC (f_M_run (xs (x3 + (1 : Int32)).toNatClampNeg) (xs (x3 + (2 : Int32)).toNatClampNeg)) st) fun r82 st81 =>
                  ck (x3 + (1 : Int32)) L <|
                  ck (x3 + (2 : Int32)) L <|
                  bd (lR (f_R_run (xs (x3 + (1 : Int32)).toNatClampNeg) (xs (x3 + (2 : Int32)).toNatClampNeg)) st81) fun r87 st86 =>
                  if r82 = r87 then (
                    nx (x3 + 6) fun x3_90 =>
                    f_L_law_18 L xs n x3_90 st86
                  ) else (
                    some ((0 : Int32), st86)
                  )
                ) else (
                  if ((xs x3.toNatClampNeg) &&& (15 : Int32)) = 6 then (
                    ck (x3 + (1 : Int32)) L <|
                    ck (x3 + (2 : Int32)) L <|
                    bd (lC (f_M_order (xs (x3 + (1 : Int32)).toNatClampNeg) (xs (x3 + (2 : Int32)).toNatClampNeg)) st) fun r95 st94 =>
                    ck (x3 + (1 : Int32)) L <|
                    ck (x3 + (2 : Int32)) L <|
                    bd (lR (f_R_order (xs (x3 + (1 : Int32)).toNatClampNeg) (xs (x3 + (2 : Int32)).toNatClampNeg)) st94) fun r100 st99 =>
                    if r95 = r100 then (
                      nx (x3 + 6) fun x3_103 =>
                      f_L_law_18 L xs n x3_103 st99
                    ) else (
                      some ((0 : Int32), st99)
                    )
                  ) else (
                    if ((xs x3.toNatClampNeg) &&& (15 : Int32)) = 7 then (
                      ck (x3 + (1 : Int32)) L <|
                      ck (x3 + (2 : Int32)) L <|
                      bd (lC (f_M_distance (xs (x3 + (1 : Int32)).toNatClampNeg) (xs (x3 + (2 : Int32)).toNatClampNeg)) st) fun r108 st107 =>
                      ck (x3 + (1 : Int32)) L <|
                      ck (x3 + (2 : Int32)) L <|
                      bd (lR (f_R_distance (xs (x3 + (1 : Int32)).toNatClampNeg) (xs (x3 + (2 : Int32)).toNatClampNeg)) st107) fun r113 st112 =>
                      if r108 = r113 then (
                        nx (x3 + 6) fun x3_116 =>
                        f_L_law_18 L xs n x3_116 st112
                      ) else (
                        some ((0 : Int32), st112)
                      )
                    ) else (
                      if ((xs x3.toNatClampNeg) &&& (15 : Int32)) = 8 then (
                        ck (x3 + (1 : Int32)) L <|
                        ck (x3 + (2 : Int32)) L <|
                        ck (x3 + (3 : Int32)) L <|
                        bd (lC (f_M_change (xs (x3 + (1 : Int32)).toNatClampNeg) (((xs (x3 + (2 : Int32)).toNatClampNeg).toInt64 <<< ((32 : Int32).toInt64 &&& 63)) ||| ((xs (x3 + (3 : Int32)).toNatClampNeg).toInt64 &&& (4294967295 : Int64)))) st) fun r122 st121 =>
                        ck (x3 + (1 : Int32)) L <|
                        ck (x3 + (2 : Int32)) L <|
                        ck (x3 + (3 : Int32)) L <|
                        bd (lR (f_R_change (xs (x3 + (1 : Int32)).toNatClampNeg) (((xs (x3 + (2 : Int32)).toNatClampNeg).toInt64 <<< ((32 : Int32).toInt64 &&& 63)) ||| ((xs (x3 + (3 : Int32)).toNatClampNeg).toInt64 &&& (4294967295 : Int64)))) st121) fun r128 st127 =>
                        if r122 = r128 then (
                          nx (x3 + 6) fun x3_131 =>
                          f_L_law_18 L xs n x3_131 st127
                        ) else (
                          some ((0 : Int32), st127)
                        )
                      ) else (
                        if ((xs x3.toNatClampNeg) &&& (15 : Int32)) = 9 then (
                          ck (x3 + (1 : Int32)) L <|
                          ck (x3 + (2 : Int32)) L <|
                          ck (x3 + (3 : Int32)) L <|
                          bd (lC (f_M_sample (((xs (x3 + (1 : Int32)).toNatClampNeg).toInt64 <<< ((32 : Int32).toInt64 &&& 63)) ||| ((xs (x3 + (2 : Int32)).toNatClampNeg).toInt64 &&& (4294967295 : Int64))) (xs (x3 + (3 : Int32)).toNatClampNeg)) st) fun r137 st136 =>
                          ck (x3 + (1 : Int32)) L <|
                          ck (x3 + (2 : Int32)) L <|
                          ck (x3 + (3 : Int32)) L <|
                          bd (lR (f_R_sample (((xs (x3 + (1 : Int32)).toNatClampNeg).toInt64 <<< ((32 : Int32).toInt64 &&& 63)) ||| ((xs (x3 + (2 : Int32)).toNatClampNeg).toInt64 &&& (4294967295 : Int64))) (xs (x3 + (3 : Int32)).toNatClampNeg)) st136) fun r143 st142 =>
                          if r137 = r143 then (
                            nx (x3 + 6) fun x3_146 =>
                            f_L_law_18 L xs n x3_146 st142
                          ) else (
                            some ((0 : Int32), st142)
                          )
                        ) else (
                          if ((xs x3.toNatClampNeg) &&& (15 : Int32)) = 10 then (
                            ck (x3 + (1 : Int32)) L <|
                            bd (lC (f_M_sampled (xs (x3 + (1 : Int32)).toNatClampNeg)) st) fun r150 st149 =>
                            ck (x3 + (1 : Int32)) L <|
                            bd (lR (f_R_sampled (xs (x3 + (1 : Int32)).toNatClampNeg)) st149) fun r154 st153 =>
                            if r150 = r154 then (
                              nx (x3 + 6) fun x3_157 =>
                              f_L_law_18 L xs n x3_157 st153
                            ) else (
                              some ((0 : Int32), st153)
                            )
                          ) else (
                            if ((xs x3.toNatClampNeg) &&& (15 : Int32)) = 11 then (
                              ck (x3 + (1 : Int32)) L <|
                              ck (x3 + (2 : Int32)) L <|
                              bd (lC (f_M_score (xs (x3 + (1 : Int32)).toNatClampNeg) (xs (x3 + (2 : Int32)).toNatClampNeg)) st) fun r162 st161 =>
                              ck (x3 + (1 : Int32)) L <|
                              ck (x3 + (2 : Int32)) L <|
                              bd (lR (f_R_score (xs (x3 + (1 : Int32)).toNatClampNeg) (xs (x3 + (2 : Int32)).toNatClampNeg)) st161) fun r167 st166 =>
                              if r162 = r167 then (
                                nx (x3 + 6) fun x3_170 =>
                                f_L_law_18 L xs n x3_170 st166
                              ) else (
                                some ((0 : Int32), st166)
                              )
                            ) else (
                              if ((xs x3.toNatClampNeg) &&& (15 : Int32)) = 12 then (
                                ck (x3 + (1 : Int32)) L <|
                                bd (lC (f_M_miss (xs (x3 + (1 : Int32)).toNatClampNeg)) st) fun r174 st173 =>
                                ck (x3 + (1 : Int32)) L <|
                                bd (lR (f_R_miss (xs (x3 + (1 : Int32)).toNatClampNeg)) st173) fun r178 st177 =>
                                if r174 = r178 then (
                                  nx (x3 + 6) fun x3_181 =>
                                  f_L_law_18 L xs n x3_181 st177
                                ) else (
                                  some ((0 : Int32), st177)
                                )
                              ) else (
                                nx (x3 + 6) fun x3_182 =>
                                f_L_law_18 L xs n x3_182 st
                              )
                            )
                          )
                        )
                      )
                    )
                  )
                )
              )
            )
          )
        )
      )
    )
set_option maxHeartbeats 4000000 in
set_option maxRecDepth 100000 in
theorem w_L_law_18  {b L : Nat} {xs : Nat → Int32} (hX : va_X b L xs s H0) (hbl : b < H0.size) (hbA : ¬ A0 b) {r : Int32} {t : PSt} (E : EC R_L code 4 p s m args c D (tyL cs)) (hA : ∀ q, H0.size ≤ q → A0 q) (kr : ∀ (H : Heap) (locs : List Loc) (pc : Nat) (ls : Array Slot), IW D (cwC A cs t.1 ++ cwR B cs t.2) A0 H0 H locs → narrow .boolean (.int r) = .int r → decode code pc = .ok (.ireturn, 1) → W p l e room_1 s m args below meth c H locs 600000 7302250 Q (F0 m pc ls [.int r])) : ∀ (n : Nat), ∀ (x3 : Int32) (st : PSt) (H : Heap) (locs : List Loc) (ls : Array Slot), f_L_law_18 L xs n x3 st = some (r, t) → IW D (cwC A cs st.1 ++ cwR B cs st.2) A0 H0 H locs → lv_has ls 4 [(0, .ref b), (1, .ref (A 0)), (2, .ref (B 0)), (3, .int x3)] → W p l e room_1 s m args below meth c H locs 600000 7302250 Q (F0 m 18 ls []) := by
  intro n
  induction n with
  | zero => intro x3 st H locs ls h I hl; cases h
  | succ n ih =>
    intro x3 st H locs ls h I hl
    have hx := E.1
    have hb := E.2.1
    rw [f_L_law_18] at h
    refine lv_iload_n hx hb d_L_law_18 rfl (lv_at hl 3 rfl) ?_
    refine lv_aload_n hx hb d_L_law_19 rfl (lv_at hl 0 rfl) ?_
    refine va_slen hx hb hX hbl hbA I.2.2 d_L_law_20 ?_
    refine lv_bipush (v := 6) hx hb d_L_law_21 (by decide) ?_
    refine lv_isub hx hb d_L_law_23 ?_
    refine lv_icmp_gt (tgt := 685) hx hb d_L_law_24 (by decide) (fun c1 => ?_) (fun c1 => ?_)
    · have h := ifp c1 h
      refine lv_iconst (v := 1) hx hb d_L_law_685 (by decide) ?_
      cases h
      exact kr _ _ _ _ I (by decide) d_L_law_686
    · have h := ifn c1 h
      refine lv_aload_n hx hb d_L_law_27 rfl (lv_at hl 0 rfl) ?_
      refine lv_iload_n hx hb d_L_law_28 rfl (lv_at hl 3 rfl) ?_
      obtain ⟨b2, h⟩ := ck_some h
      refine va_sld hx hb hX hbl hbA I.2.2 b2 d_L_law_29 ?_
      refine lv_bipush (v := 15) hx hb d_L_law_30 (by decide) ?_
      refine lv_iand hx hb d_L_law_32 ?_
      by_cases c3 : ((xs x3.toNatClampNeg) &&& (15 : Int32)) = 0
      · have h := ifp c3 h
        refine lv_tableIn (off := 67) (tgt := 100) hx hb d_L_law_33 (by rw [c3]; decide) (by rw [c3]; decide) (by rw [c3]; rfl) (by decide) ?_
        refine lv_aload_n hx hb d_L_law_100 rfl (lv_at hl 1 rfl) ?_
        refine lv_aload_n hx hb d_L_law_101 rfl (lv_at hl 0 rfl) ?_
        refine lv_iload_n hx hb d_L_law_102 rfl (lv_at hl 3 rfl) ?_
        refine lv_iconst (v := 1) hx hb d_L_law_103 (by decide) ?_
        refine lv_iadd hx hb d_L_law_104 ?_
        obtain ⟨b4, h⟩ := ck_some h
        refine va_sld hx hb hX hbl hbA I.2.2 b4 d_L_law_105 ?_
        refine lv_aload_n hx hb d_L_law_106 rfl (lv_at hl 0 rfl) ?_
        refine lv_iload_n hx hb d_L_law_107 rfl (lv_at hl 3 rfl) ?_
        refine lv_iconst (v := 2) hx hb d_L_law_108 (by decide) ?_
        refine lv_iadd hx hb d_L_law_109 ?_
        obtain ⟨b5, h⟩ := ck_some h
        refine va_sld hx hb hX hbl hbA I.2.2 b5 d_L_law_110 ?_
        refine lv_i2l hx hb d_L_law_111 rfl ?_
        refine lv_bipush (v := 32) hx hb d_L_law_112 (by decide) ?_
        refine lv_lshl hx hb d_L_law_114 rfl ?_
        refine lv_aload_n hx hb d_L_law_115 rfl (lv_at hl 0 rfl) ?_
        refine lv_iload_n hx hb d_L_law_116 rfl (lv_at hl 3 rfl) ?_
        refine lv_iconst (v := 3) hx hb d_L_law_117 (by decide) ?_
        refine lv_iadd hx hb d_L_law_118 ?_
        obtain ⟨b6, h⟩ := ck_some h
        refine va_sld hx hb hX hbl hbA I.2.2 b6 d_L_law_119 ?_
        refine lv_i2l hx hb d_L_law_120 rfl ?_
        refine lv_ldc2 (v := 4294967295) hx hb E.2.2.2.1 (E.2.2.2.2.1 _ kl_L_13) d_L_law_121 ?_
        refine lv_land hx hb d_L_law_124 ?_
        refine lv_lor hx hb d_L_law_125 ?_
        refine lv_aload_n hx hb d_L_law_126 rfl (lv_at hl 0 rfl) ?_
        refine lv_iload_n hx hb d_L_law_127 rfl (lv_at hl 3 rfl) ?_
        refine lv_iconst (v := 4) hx hb d_L_law_128 (by decide) ?_
        refine lv_iadd hx hb d_L_law_129 ?_
        obtain ⟨b7, h⟩ := ck_some h
        refine va_sld hx hb hX hbl hbA I.2.2 b7 d_L_law_130 ?_
        refine lv_aload_n hx hb d_L_law_131 rfl (lv_at hl 0 rfl) ?_
        refine lv_iload_n hx hb d_L_law_132 rfl (lv_at hl 3 rfl) ?_
        refine lv_iconst (v := 5) hx hb d_L_law_133 (by decide) ?_
        refine lv_iadd hx hb d_L_law_134 ?_
        obtain ⟨b8, h⟩ := ck_some h
        refine va_sld hx hb hX hbl hbA I.2.2 b8 d_L_law_135 ?_
        obtain ⟨r10, st9, h11, h⟩ := bd_some h
        refine cLC (As := [.int (xs (x3 + (1 : Int32)).toNatClampNeg), .long (((xs (x3 + (2 : Int32)).toNatClampNeg).toInt64 <<< ((32 : Int32).toInt64 &&& 63)) ||| ((xs (x3 + (3 : Int32)).toNatClampNeg).toInt64 &&& (4294967295 : Int64))), .int (xs (x3 + (4 : Int32)).toNatClampNeg), .int (xs (x3 + (5 : Int32)).toNatClampNeg)]) (rest := []) E I hA (k_M_node (lC_some h11).1) (lC_some h11).2 g_L_15 ⟨rfl, rfl, rfl⟩ rfl hl rfl (Nat.le_of_ble_eq_true rfl) ⟨Nat.le_of_ble_eq_true rfl, Nat.le_of_ble_eq_true rfl⟩ ⟨Nat.le_refl _, Nat.le_refl _⟩ d_L_law_136 rfl (fun H locs I => ?_)
        refine lv_aload_n hx hb d_L_law_139 rfl (lv_at hl 2 rfl) ?_
        refine lv_aload_n hx hb d_L_law_140 rfl (lv_at hl 0 rfl) ?_
        refine lv_iload_n hx hb d_L_law_141 rfl (lv_at hl 3 rfl) ?_
        refine lv_iconst (v := 1) hx hb d_L_law_142 (by decide) ?_
        refine lv_iadd hx hb d_L_law_143 ?_
        obtain ⟨b12, h⟩ := ck_some h
        refine va_sld hx hb hX hbl hbA I.2.2 b12 d_L_law_144 ?_
        refine lv_aload_n hx hb d_L_law_145 rfl (lv_at hl 0 rfl) ?_
        refine lv_iload_n hx hb d_L_law_146 rfl (lv_at hl 3 rfl) ?_
        refine lv_iconst (v := 2) hx hb d_L_law_147 (by decide) ?_
        refine lv_iadd hx hb d_L_law_148 ?_
        obtain ⟨b13, h⟩ := ck_some h
        refine va_sld hx hb hX hbl hbA I.2.2 b13 d_L_law_149 ?_
        refine lv_i2l hx hb d_L_law_150 rfl ?_
        refine lv_bipush (v := 32) hx hb d_L_law_151 (by decide) ?_
        refine lv_lshl hx hb d_L_law_153 rfl ?_
        refine lv_aload_n hx hb d_L_law_154 rfl (lv_at hl 0 rfl) ?_
        refine lv_iload_n hx hb d_L_law_155 rfl (lv_at hl 3 rfl) ?_
        refine lv_iconst (v := 3) hx hb d_L_law_156 (by decide) ?_
        refine lv_iadd hx hb d_L_law_157 ?_
        obtain ⟨b14, h⟩ := ck_some h
        refine va_sld hx hb hX hbl hbA I.2.2 b14 d_L_law_158 ?_
        refine lv_i2l hx hb d_L_law_159 rfl ?_
        refine lv_ldc2 (v := 4294967295) hx hb E.2.2.2.1 (E.2.2.2.2.1 _ kl_L_13) d_L_law_160 ?_
        refine lv_land hx hb d_L_law_163 ?_
        refine lv_lor hx hb d_L_law_164 ?_
        refine lv_aload_n hx hb d_L_law_165 rfl (lv_at hl 0 rfl) ?_
        refine lv_iload_n hx hb d_L_law_166 rfl (lv_at hl 3 rfl) ?_
        refine lv_iconst (v := 4) hx hb d_L_law_167 (by decide) ?_
        refine lv_iadd hx hb d_L_law_168 ?_
        obtain ⟨b15, h⟩ := ck_some h
        refine va_sld hx hb hX hbl hbA I.2.2 b15 d_L_law_169 ?_
        refine lv_aload_n hx hb d_L_law_170 rfl (lv_at hl 0 rfl) ?_
        refine lv_iload_n hx hb d_L_law_171 rfl (lv_at hl 3 rfl) ?_
        refine lv_iconst (v := 5) hx hb d_L_law_172 (by decide) ?_
        refine lv_iadd hx hb d_L_law_173 ?_
        obtain ⟨b16, h⟩ := ck_some h
        refine va_sld hx hb hX hbl hbA I.2.2 b16 d_L_law_174 ?_
        obtain ⟨r18, st17, h19, h⟩ := bd_some h
        refine cLR (As := [.int (xs (x3 + (1 : Int32)).toNatClampNeg), .long (((xs (x3 + (2 : Int32)).toNatClampNeg).toInt64 <<< ((32 : Int32).toInt64 &&& 63)) ||| ((xs (x3 + (3 : Int32)).toNatClampNeg).toInt64 &&& (4294967295 : Int64))), .int (xs (x3 + (4 : Int32)).toNatClampNeg), .int (xs (x3 + (5 : Int32)).toNatClampNeg)]) (rest := [.int r10]) E I hA (k_R_node (lR_some h19).1) (lR_some h19).2 g_L_19 ⟨rfl, rfl, rfl⟩ rfl hl rfl (Nat.le_of_ble_eq_true rfl) ⟨Nat.le_of_ble_eq_true rfl, Nat.le_of_ble_eq_true rfl⟩ ⟨Nat.le_refl _, Nat.le_refl _⟩ d_L_law_175 rfl (fun H locs I => ?_)
        refine lv_icmp_eq (tgt := 679) hx hb d_L_law_178 (by decide) (fun c20 => ?_) (fun c20 => ?_)
        · have h := ifp c20 h
          obtain ⟨x3_21, ex3_21⟩ : ∃ y : Int32, y = (x3 + 6) := ⟨_, rfl⟩
          have h := nx_k ex3_21 h
          refine lv_iinc (v := x3_21) (lv' := [(3, .int x3_21), (0, .ref b), (1, .ref (A 0)), (2, .ref (B 0))]) hx hb d_L_law_679 hl (k := 3) rfl (by rw [ex3_21]; rfl) (by decide) rfl (fun ls hl => ?_)
          refine lv_goto (tgt := 18) hx hb d_L_law_682 (by decide) ?_
          exact ih x3_21 st17 _ _ _ h I (lv_sub hl [1, 2, 3, 0] rfl)
        · have h := ifn c20 h
          refine lv_iconst (v := 0) hx hb d_L_law_181 (by decide) ?_
          cases h
          exact kr _ _ _ _ I (by decide) d_L_law_182
      · have h := ifn c3 h
        by_cases c22 : ((xs x3.toNatClampNeg) &&& (15 : Int32)) = 1
        · have h := ifp c22 h
          refine lv_tableIn (off := 150) (tgt := 183) hx hb d_L_law_33 (by rw [c22]; decide) (by rw [c22]; decide) (by rw [c22]; rfl) (by decide) ?_
          refine lv_aload_n hx hb d_L_law_183 rfl (lv_at hl 1 rfl) ?_
          refine lv_aload_n hx hb d_L_law_184 rfl (lv_at hl 0 rfl) ?_
          refine lv_iload_n hx hb d_L_law_185 rfl (lv_at hl 3 rfl) ?_
          refine lv_iconst (v := 1) hx hb d_L_law_186 (by decide) ?_
          refine lv_iadd hx hb d_L_law_187 ?_
          obtain ⟨b23, h⟩ := ck_some h
          refine va_sld hx hb hX hbl hbA I.2.2 b23 d_L_law_188 ?_
          refine lv_aload_n hx hb d_L_law_189 rfl (lv_at hl 0 rfl) ?_
          refine lv_iload_n hx hb d_L_law_190 rfl (lv_at hl 3 rfl) ?_
          refine lv_iconst (v := 2) hx hb d_L_law_191 (by decide) ?_
          refine lv_iadd hx hb d_L_law_192 ?_
          obtain ⟨b24, h⟩ := ck_some h
          refine va_sld hx hb hX hbl hbA I.2.2 b24 d_L_law_193 ?_
          refine lv_i2l hx hb d_L_law_194 rfl ?_
          refine lv_bipush (v := 32) hx hb d_L_law_195 (by decide) ?_
          refine lv_lshl hx hb d_L_law_197 rfl ?_
          refine lv_aload_n hx hb d_L_law_198 rfl (lv_at hl 0 rfl) ?_
          refine lv_iload_n hx hb d_L_law_199 rfl (lv_at hl 3 rfl) ?_
          refine lv_iconst (v := 3) hx hb d_L_law_200 (by decide) ?_
          refine lv_iadd hx hb d_L_law_201 ?_
          obtain ⟨b25, h⟩ := ck_some h
          refine va_sld hx hb hX hbl hbA I.2.2 b25 d_L_law_202 ?_
          refine lv_i2l hx hb d_L_law_203 rfl ?_
          refine lv_ldc2 (v := 4294967295) hx hb E.2.2.2.1 (E.2.2.2.2.1 _ kl_L_13) d_L_law_204 ?_
          refine lv_land hx hb d_L_law_207 ?_
          refine lv_lor hx hb d_L_law_208 ?_
          refine lv_aload_n hx hb d_L_law_209 rfl (lv_at hl 0 rfl) ?_
          refine lv_iload_n hx hb d_L_law_210 rfl (lv_at hl 3 rfl) ?_
          refine lv_iconst (v := 4) hx hb d_L_law_211 (by decide) ?_
          refine lv_iadd hx hb d_L_law_212 ?_
          obtain ⟨b26, h⟩ := ck_some h
          refine va_sld hx hb hX hbl hbA I.2.2 b26 d_L_law_213 ?_
          refine lv_i2l hx hb d_L_law_214 rfl ?_
          refine lv_bipush (v := 32) hx hb d_L_law_215 (by decide) ?_
          refine lv_lshl hx hb d_L_law_217 rfl ?_
          refine lv_aload_n hx hb d_L_law_218 rfl (lv_at hl 0 rfl) ?_
          refine lv_iload_n hx hb d_L_law_219 rfl (lv_at hl 3 rfl) ?_
          refine lv_iconst (v := 5) hx hb d_L_law_220 (by decide) ?_
          refine lv_iadd hx hb d_L_law_221 ?_
          obtain ⟨b27, h⟩ := ck_some h
          refine va_sld hx hb hX hbl hbA I.2.2 b27 d_L_law_222 ?_
          refine lv_i2l hx hb d_L_law_223 rfl ?_
          refine lv_ldc2 (v := 4294967295) hx hb E.2.2.2.1 (E.2.2.2.2.1 _ kl_L_13) d_L_law_224 ?_
          refine lv_land hx hb d_L_law_227 ?_
          refine lv_lor hx hb d_L_law_228 ?_
          obtain ⟨r29, st28, h30, h⟩ := bd_some h
          refine cLC (As := [.int (xs (x3 + (1 : Int32)).toNatClampNeg), .long (((xs (x3 + (2 : Int32)).toNatClampNeg).toInt64 <<< ((32 : Int32).toInt64 &&& 63)) ||| ((xs (x3 + (3 : Int32)).toNatClampNeg).toInt64 &&& (4294967295 : Int64))), .long (((xs (x3 + (4 : Int32)).toNatClampNeg).toInt64 <<< ((32 : Int32).toInt64 &&& 63)) ||| ((xs (x3 + (5 : Int32)).toNatClampNeg).toInt64 &&& (4294967295 : Int64)))]) (rest := []) E I hA (k_M_test (lC_some h30).1) (lC_some h30).2 g_L_20 ⟨rfl, rfl, rfl⟩ rfl hl rfl (Nat.le_of_ble_eq_true rfl) ⟨Nat.le_of_ble_eq_true rfl, Nat.le_of_ble_eq_true rfl⟩ ⟨Nat.le_refl _, Nat.le_refl _⟩ d_L_law_229 rfl (fun H locs I => ?_)
          refine lv_aload_n hx hb d_L_law_232 rfl (lv_at hl 2 rfl) ?_
          refine lv_aload_n hx hb d_L_law_233 rfl (lv_at hl 0 rfl) ?_
          refine lv_iload_n hx hb d_L_law_234 rfl (lv_at hl 3 rfl) ?_
          refine lv_iconst (v := 1) hx hb d_L_law_235 (by decide) ?_
          refine lv_iadd hx hb d_L_law_236 ?_
          obtain ⟨b31, h⟩ := ck_some h
          refine va_sld hx hb hX hbl hbA I.2.2 b31 d_L_law_237 ?_
          refine lv_aload_n hx hb d_L_law_238 rfl (lv_at hl 0 rfl) ?_
          refine lv_iload_n hx hb d_L_law_239 rfl (lv_at hl 3 rfl) ?_
          refine lv_iconst (v := 2) hx hb d_L_law_240 (by decide) ?_
          refine lv_iadd hx hb d_L_law_241 ?_
          obtain ⟨b32, h⟩ := ck_some h
          refine va_sld hx hb hX hbl hbA I.2.2 b32 d_L_law_242 ?_
          refine lv_i2l hx hb d_L_law_243 rfl ?_
          refine lv_bipush (v := 32) hx hb d_L_law_244 (by decide) ?_
          refine lv_lshl hx hb d_L_law_246 rfl ?_
          refine lv_aload_n hx hb d_L_law_247 rfl (lv_at hl 0 rfl) ?_
          refine lv_iload_n hx hb d_L_law_248 rfl (lv_at hl 3 rfl) ?_
          refine lv_iconst (v := 3) hx hb d_L_law_249 (by decide) ?_
          refine lv_iadd hx hb d_L_law_250 ?_
          obtain ⟨b33, h⟩ := ck_some h
          refine va_sld hx hb hX hbl hbA I.2.2 b33 d_L_law_251 ?_
          refine lv_i2l hx hb d_L_law_252 rfl ?_
          refine lv_ldc2 (v := 4294967295) hx hb E.2.2.2.1 (E.2.2.2.2.1 _ kl_L_13) d_L_law_253 ?_
          refine lv_land hx hb d_L_law_256 ?_
          refine lv_lor hx hb d_L_law_257 ?_
          refine lv_aload_n hx hb d_L_law_258 rfl (lv_at hl 0 rfl) ?_
          refine lv_iload_n hx hb d_L_law_259 rfl (lv_at hl 3 rfl) ?_
          refine lv_iconst (v := 4) hx hb d_L_law_260 (by decide) ?_
          refine lv_iadd hx hb d_L_law_261 ?_
          obtain ⟨b34, h⟩ := ck_some h
          refine va_sld hx hb hX hbl hbA I.2.2 b34 d_L_law_262 ?_
          refine lv_i2l hx hb d_L_law_263 rfl ?_
          refine lv_bipush (v := 32) hx hb d_L_law_264 (by decide) ?_
          refine lv_lshl hx hb d_L_law_266 rfl ?_
          refine lv_aload_n hx hb d_L_law_267 rfl (lv_at hl 0 rfl) ?_
          refine lv_iload_n hx hb d_L_law_268 rfl (lv_at hl 3 rfl) ?_
          refine lv_iconst (v := 5) hx hb d_L_law_269 (by decide) ?_
          refine lv_iadd hx hb d_L_law_270 ?_
          obtain ⟨b35, h⟩ := ck_some h
          refine va_sld hx hb hX hbl hbA I.2.2 b35 d_L_law_271 ?_
          refine lv_i2l hx hb d_L_law_272 rfl ?_
          refine lv_ldc2 (v := 4294967295) hx hb E.2.2.2.1 (E.2.2.2.2.1 _ kl_L_13) d_L_law_273 ?_
          refine lv_land hx hb d_L_law_276 ?_
          refine lv_lor hx hb d_L_law_277 ?_
          obtain ⟨r37, st36, h38, h⟩ := bd_some h
          refine cLR (As := [.int (xs (x3 + (1 : Int32)).toNatClampNeg), .long (((xs (x3 + (2 : Int32)).toNatClampNeg).toInt64 <<< ((32 : Int32).toInt64 &&& 63)) ||| ((xs (x3 + (3 : Int32)).toNatClampNeg).toInt64 &&& (4294967295 : Int64))), .long (((xs (x3 + (4 : Int32)).toNatClampNeg).toInt64 <<< ((32 : Int32).toInt64 &&& 63)) ||| ((xs (x3 + (5 : Int32)).toNatClampNeg).toInt64 &&& (4294967295 : Int64)))]) (rest := [.int r29]) E I hA (k_R_test (lR_some h38).1) (lR_some h38).2 g_L_24 ⟨rfl, rfl, rfl⟩ rfl hl rfl (Nat.le_of_ble_eq_true rfl) ⟨Nat.le_of_ble_eq_true rfl, Nat.le_of_ble_eq_true rfl⟩ ⟨Nat.le_refl _, Nat.le_refl _⟩ d_L_law_278 rfl (fun H locs I => ?_)
          refine lv_icmp_eq (tgt := 679) hx hb d_L_law_281 (by decide) (fun c39 => ?_) (fun c39 => ?_)
          · have h := ifp c39 h
            obtain ⟨x3_40, ex3_40⟩ : ∃ y : Int32, y = (x3 + 6) := ⟨_, rfl⟩
            have h := nx_k ex3_40 h
            refine lv_iinc (v := x3_40) (lv' := [(3, .int x3_40), (0, .ref b), (1, .ref (A 0)), (2, .ref (B 0))]) hx hb d_L_law_679 hl (k := 3) rfl (by rw [ex3_40]; rfl) (by decide) rfl (fun ls hl => ?_)
            refine lv_goto (tgt := 18) hx hb d_L_law_682 (by decide) ?_
            exact ih x3_40 st36 _ _ _ h I (lv_sub hl [1, 2, 3, 0] rfl)
          · have h := ifn c39 h
            refine lv_iconst (v := 0) hx hb d_L_law_284 (by decide) ?_
            cases h
            exact kr _ _ _ _ I (by decide) d_L_law_285
        · have h := ifn c22 h
          by_cases c41 : ((xs x3.toNatClampNeg) &&& (15 : Int32)) = 2
          · have h := ifp c41 h
            refine lv_tableIn (off := 253) (tgt := 286) hx hb d_L_law_33 (by rw [c41]; decide) (by rw [c41]; decide) (by rw [c41]; rfl) (by decide) ?_
            refine lv_aload_n hx hb d_L_law_286 rfl (lv_at hl 1 rfl) ?_
            refine lv_aload_n hx hb d_L_law_287 rfl (lv_at hl 0 rfl) ?_
            refine lv_iload_n hx hb d_L_law_288 rfl (lv_at hl 3 rfl) ?_
            refine lv_iconst (v := 1) hx hb d_L_law_289 (by decide) ?_
            refine lv_iadd hx hb d_L_law_290 ?_
            obtain ⟨b42, h⟩ := ck_some h
            refine va_sld hx hb hX hbl hbA I.2.2 b42 d_L_law_291 ?_
            refine lv_aload_n hx hb d_L_law_292 rfl (lv_at hl 0 rfl) ?_
            refine lv_iload_n hx hb d_L_law_293 rfl (lv_at hl 3 rfl) ?_
            refine lv_iconst (v := 2) hx hb d_L_law_294 (by decide) ?_
            refine lv_iadd hx hb d_L_law_295 ?_
            obtain ⟨b43, h⟩ := ck_some h
            refine va_sld hx hb hX hbl hbA I.2.2 b43 d_L_law_296 ?_
            obtain ⟨r45, st44, h46, h⟩ := bd_some h
            refine cLC (As := [.int (xs (x3 + (1 : Int32)).toNatClampNeg), .int (xs (x3 + (2 : Int32)).toNatClampNeg)]) (rest := []) E I hA (k_M_about (lC_some h46).1) (lC_some h46).2 g_L_25 ⟨rfl, rfl, rfl⟩ rfl hl rfl (Nat.le_of_ble_eq_true rfl) ⟨Nat.le_of_ble_eq_true rfl, Nat.le_of_ble_eq_true rfl⟩ ⟨Nat.le_refl _, Nat.le_refl _⟩ d_L_law_297 rfl (fun H locs I => ?_)
            refine lv_aload_n hx hb d_L_law_300 rfl (lv_at hl 2 rfl) ?_
            refine lv_aload_n hx hb d_L_law_301 rfl (lv_at hl 0 rfl) ?_
            refine lv_iload_n hx hb d_L_law_302 rfl (lv_at hl 3 rfl) ?_
            refine lv_iconst (v := 1) hx hb d_L_law_303 (by decide) ?_
            refine lv_iadd hx hb d_L_law_304 ?_
            obtain ⟨b47, h⟩ := ck_some h
            refine va_sld hx hb hX hbl hbA I.2.2 b47 d_L_law_305 ?_
            refine lv_aload_n hx hb d_L_law_306 rfl (lv_at hl 0 rfl) ?_
            refine lv_iload_n hx hb d_L_law_307 rfl (lv_at hl 3 rfl) ?_
            refine lv_iconst (v := 2) hx hb d_L_law_308 (by decide) ?_
            refine lv_iadd hx hb d_L_law_309 ?_
            obtain ⟨b48, h⟩ := ck_some h
            refine va_sld hx hb hX hbl hbA I.2.2 b48 d_L_law_310 ?_
            obtain ⟨r50, st49, h51, h⟩ := bd_some h
            refine cLR (As := [.int (xs (x3 + (1 : Int32)).toNatClampNeg), .int (xs (x3 + (2 : Int32)).toNatClampNeg)]) (rest := [.int r45]) E I hA (k_R_about (lR_some h51).1) (lR_some h51).2 g_L_29 ⟨rfl, rfl, rfl⟩ rfl hl rfl (Nat.le_of_ble_eq_true rfl) ⟨Nat.le_of_ble_eq_true rfl, Nat.le_of_ble_eq_true rfl⟩ ⟨Nat.le_refl _, Nat.le_refl _⟩ d_L_law_311 rfl (fun H locs I => ?_)
            refine lv_icmp_eq (tgt := 679) hx hb d_L_law_314 (by decide) (fun c52 => ?_) (fun c52 => ?_)
            · have h := ifp c52 h
              obtain ⟨x3_53, ex3_53⟩ : ∃ y : Int32, y = (x3 + 6) := ⟨_, rfl⟩
              have h := nx_k ex3_53 h
              refine lv_iinc (v := x3_53) (lv' := [(3, .int x3_53), (0, .ref b), (1, .ref (A 0)), (2, .ref (B 0))]) hx hb d_L_law_679 hl (k := 3) rfl (by rw [ex3_53]; rfl) (by decide) rfl (fun ls hl => ?_)
              refine lv_goto (tgt := 18) hx hb d_L_law_682 (by decide) ?_
              exact ih x3_53 st49 _ _ _ h I (lv_sub hl [1, 2, 3, 0] rfl)
            · have h := ifn c52 h
              refine lv_iconst (v := 0) hx hb d_L_law_317 (by decide) ?_
              cases h
              exact kr _ _ _ _ I (by decide) d_L_law_318
          · have h := ifn c41 h
            by_cases c54 : ((xs x3.toNatClampNeg) &&& (15 : Int32)) = 3
            · have h := ifp c54 h
              refine lv_tableIn (off := 286) (tgt := 319) hx hb d_L_law_33 (by rw [c54]; decide) (by rw [c54]; decide) (by rw [c54]; rfl) (by decide) ?_
              refine lv_aload_n hx hb d_L_law_319 rfl (lv_at hl 1 rfl) ?_
              refine lv_aload_n hx hb d_L_law_320 rfl (lv_at hl 0 rfl) ?_
              refine lv_iload_n hx hb d_L_law_321 rfl (lv_at hl 3 rfl) ?_
              refine lv_iconst (v := 1) hx hb d_L_law_322 (by decide) ?_
              refine lv_iadd hx hb d_L_law_323 ?_
              obtain ⟨b55, h⟩ := ck_some h
              refine va_sld hx hb hX hbl hbA I.2.2 b55 d_L_law_324 ?_
              obtain ⟨r57, st56, h58, h⟩ := bd_some h
              refine cLC (As := [.int (xs (x3 + (1 : Int32)).toNatClampNeg)]) (rest := []) E I hA (k_M_make (lC_some h58).1) (lC_some h58).2 g_L_30 ⟨rfl, rfl, rfl⟩ rfl hl rfl (Nat.le_of_ble_eq_true rfl) ⟨Nat.le_of_ble_eq_true rfl, Nat.le_of_ble_eq_true rfl⟩ ⟨Nat.le_refl _, Nat.le_refl _⟩ d_L_law_325 rfl (fun H locs I => ?_)
              refine lv_aload_n hx hb d_L_law_328 rfl (lv_at hl 2 rfl) ?_
              refine lv_aload_n hx hb d_L_law_329 rfl (lv_at hl 0 rfl) ?_
              refine lv_iload_n hx hb d_L_law_330 rfl (lv_at hl 3 rfl) ?_
              refine lv_iconst (v := 1) hx hb d_L_law_331 (by decide) ?_
              refine lv_iadd hx hb d_L_law_332 ?_
              obtain ⟨b59, h⟩ := ck_some h
              refine va_sld hx hb hX hbl hbA I.2.2 b59 d_L_law_333 ?_
              obtain ⟨r61, st60, h62, h⟩ := bd_some h
              refine cLR (As := [.int (xs (x3 + (1 : Int32)).toNatClampNeg)]) (rest := [.int r57]) E I hA (k_R_make (lR_some h62).1) (lR_some h62).2 g_L_34 ⟨rfl, rfl, rfl⟩ rfl hl rfl (Nat.le_of_ble_eq_true rfl) ⟨Nat.le_of_ble_eq_true rfl, Nat.le_of_ble_eq_true rfl⟩ ⟨Nat.le_refl _, Nat.le_refl _⟩ d_L_law_334 rfl (fun H locs I => ?_)
              refine lv_icmp_eq (tgt := 679) hx hb d_L_law_337 (by decide) (fun c63 => ?_) (fun c63 => ?_)
              · have h := ifp c63 h
                obtain ⟨x3_64, ex3_64⟩ : ∃ y : Int32, y = (x3 + 6) := ⟨_, rfl⟩
                have h := nx_k ex3_64 h
                refine lv_iinc (v := x3_64) (lv' := [(3, .int x3_64), (0, .ref b), (1, .ref (A 0)), (2, .ref (B 0))]) hx hb d_L_law_679 hl (k := 3) rfl (by rw [ex3_64]; rfl) (by decide) rfl (fun ls hl => ?_)
                refine lv_goto (tgt := 18) hx hb d_L_law_682 (by decide) ?_
                exact ih x3_64 st60 _ _ _ h I (lv_sub hl [1, 2, 3, 0] rfl)
              · have h := ifn c63 h
                refine lv_iconst (v := 0) hx hb d_L_law_340 (by decide) ?_
                cases h
                exact kr _ _ _ _ I (by decide) d_L_law_341
            · have h := ifn c54 h
              by_cases c65 : ((xs x3.toNatClampNeg) &&& (15 : Int32)) = 4
              · have h := ifp c65 h
                refine lv_tableIn (off := 309) (tgt := 342) hx hb d_L_law_33 (by rw [c65]; decide) (by rw [c65]; decide) (by rw [c65]; rfl) (by decide) ?_
                refine lv_aload_n hx hb d_L_law_342 rfl (lv_at hl 1 rfl) ?_
                refine lv_aload_n hx hb d_L_law_343 rfl (lv_at hl 0 rfl) ?_
                refine lv_iload_n hx hb d_L_law_344 rfl (lv_at hl 3 rfl) ?_
                refine lv_iconst (v := 1) hx hb d_L_law_345 (by decide) ?_
                refine lv_iadd hx hb d_L_law_346 ?_
                obtain ⟨b66, h⟩ := ck_some h
                refine va_sld hx hb hX hbl hbA I.2.2 b66 d_L_law_347 ?_
                refine lv_aload_n hx hb d_L_law_348 rfl (lv_at hl 0 rfl) ?_
                refine lv_iload_n hx hb d_L_law_349 rfl (lv_at hl 3 rfl) ?_
                refine lv_iconst (v := 2) hx hb d_L_law_350 (by decide) ?_
                refine lv_iadd hx hb d_L_law_351 ?_
                obtain ⟨b67, h⟩ := ck_some h
                refine va_sld hx hb hX hbl hbA I.2.2 b67 d_L_law_352 ?_
                obtain ⟨r69, st68, h70, h⟩ := bd_some h
                refine cLC (As := [.int (xs (x3 + (1 : Int32)).toNatClampNeg), .int (xs (x3 + (2 : Int32)).toNatClampNeg)]) (rest := []) E I hA (k_M_mutant (lC_some h70).1) (lC_some h70).2 g_L_35 ⟨rfl, rfl, rfl⟩ rfl hl rfl (Nat.le_of_ble_eq_true rfl) ⟨Nat.le_of_ble_eq_true rfl, Nat.le_of_ble_eq_true rfl⟩ ⟨Nat.le_refl _, Nat.le_refl _⟩ d_L_law_353 rfl (fun H locs I => ?_)
                refine lv_aload_n hx hb d_L_law_356 rfl (lv_at hl 2 rfl) ?_
                refine lv_aload_n hx hb d_L_law_357 rfl (lv_at hl 0 rfl) ?_
                refine lv_iload_n hx hb d_L_law_358 rfl (lv_at hl 3 rfl) ?_
                refine lv_iconst (v := 1) hx hb d_L_law_359 (by decide) ?_
                refine lv_iadd hx hb d_L_law_360 ?_
                obtain ⟨b71, h⟩ := ck_some h
                refine va_sld hx hb hX hbl hbA I.2.2 b71 d_L_law_361 ?_
                refine lv_aload_n hx hb d_L_law_362 rfl (lv_at hl 0 rfl) ?_
                refine lv_iload_n hx hb d_L_law_363 rfl (lv_at hl 3 rfl) ?_
                refine lv_iconst (v := 2) hx hb d_L_law_364 (by decide) ?_
                refine lv_iadd hx hb d_L_law_365 ?_
                obtain ⟨b72, h⟩ := ck_some h
                refine va_sld hx hb hX hbl hbA I.2.2 b72 d_L_law_366 ?_
                obtain ⟨r74, st73, h75, h⟩ := bd_some h
                refine cLR (As := [.int (xs (x3 + (1 : Int32)).toNatClampNeg), .int (xs (x3 + (2 : Int32)).toNatClampNeg)]) (rest := [.int r69]) E I hA (k_R_mutant (lR_some h75).1) (lR_some h75).2 g_L_38 ⟨rfl, rfl, rfl⟩ rfl hl rfl (Nat.le_of_ble_eq_true rfl) ⟨Nat.le_of_ble_eq_true rfl, Nat.le_of_ble_eq_true rfl⟩ ⟨Nat.le_refl _, Nat.le_refl _⟩ d_L_law_367 rfl (fun H locs I => ?_)
                refine lv_icmp_eq (tgt := 679) hx hb d_L_law_370 (by decide) (fun c76 => ?_) (fun c76 => ?_)
                · have h := ifp c76 h
                  obtain ⟨x3_77, ex3_77⟩ : ∃ y : Int32, y = (x3 + 6) := ⟨_, rfl⟩
                  have h := nx_k ex3_77 h
                  refine lv_iinc (v := x3_77) (lv' := [(3, .int x3_77), (0, .ref b), (1, .ref (A 0)), (2, .ref (B 0))]) hx hb d_L_law_679 hl (k := 3) rfl (by rw [ex3_77]; rfl) (by decide) rfl (fun ls hl => ?_)
                  refine lv_goto (tgt := 18) hx hb d_L_law_682 (by decide) ?_
                  exact ih x3_77 st73 _ _ _ h I (lv_sub hl [1, 2, 3, 0] rfl)
                · have h := ifn c76 h
                  refine lv_iconst (v := 0) hx hb d_L_law_373 (by decide) ?_
                  cases h
                  exact kr _ _ _ _ I (by decide) d_L_law_374
              · have h := ifn c65 h
                by_cases c78 : ((xs x3.toNatClampNeg) &&& (15 : Int32)) = 5
                · have h := ifp c78 h
                  refine lv_tableIn (off := 342) (tgt := 375) hx hb d_L_law_33 (by rw [c78]; decide) (by rw [c78]; decide) (by rw [c78]; rfl) (by decide) ?_
                  refine lv_aload_n hx hb d_L_law_375 rfl (lv_at hl 1 rfl) ?_
                  refine lv_aload_n hx hb d_L_law_376 rfl (lv_at hl 0 rfl) ?_
                  refine lv_iload_n hx hb d_L_law_377 rfl (lv_at hl 3 rfl) ?_
                  refine lv_iconst (v := 1) hx hb d_L_law_378 (by decide) ?_
                  refine lv_iadd hx hb d_L_law_379 ?_
                  obtain ⟨b79, h⟩ := ck_some h
                  refine va_sld hx hb hX hbl hbA I.2.2 b79 d_L_law_380 ?_
                  refine lv_aload_n hx hb d_L_law_381 rfl (lv_at hl 0 rfl) ?_
                  refine lv_iload_n hx hb d_L_law_382 rfl (lv_at hl 3 rfl) ?_
                  refine lv_iconst (v := 2) hx hb d_L_law_383 (by decide) ?_
                  refine lv_iadd hx hb d_L_law_384 ?_
                  obtain ⟨b80, h⟩ := ck_some h
                  refine va_sld hx hb hX hbl hbA I.2.2 b80 d_L_law_385 ?_
                  obtain ⟨r82, st81, h83, h⟩ := bd_some h
                  refine cLC (As := [.int (xs (x3 + (1 : Int32)).toNatClampNeg), .int (xs (x3 + (2 : Int32)).toNatClampNeg)]) (rest := []) E I hA (k_M_run (lC_some h83).1) (lC_some h83).2 g_L_39 ⟨rfl, rfl, rfl⟩ rfl hl rfl (Nat.le_of_ble_eq_true rfl) ⟨Nat.le_of_ble_eq_true rfl, Nat.le_of_ble_eq_true rfl⟩ ⟨Nat.le_refl _, Nat.le_refl _⟩ d_L_law_386 rfl (fun H locs I => ?_)
                  refine lv_aload_n hx hb d_L_law_389 rfl (lv_at hl 2 rfl) ?_
                  refine lv_aload_n hx hb d_L_law_390 rfl (lv_at hl 0 rfl) ?_
                  refine lv_iload_n hx hb d_L_law_391 rfl (lv_at hl 3 rfl) ?_
                  refine lv_iconst (v := 1) hx hb d_L_law_392 (by decide) ?_
                  refine lv_iadd hx hb d_L_law_393 ?_
                  obtain ⟨b84, h⟩ := ck_some h
                  refine va_sld hx hb hX hbl hbA I.2.2 b84 d_L_law_394 ?_
                  refine lv_aload_n hx hb d_L_law_395 rfl (lv_at hl 0 rfl) ?_
                  refine lv_iload_n hx hb d_L_law_396 rfl (lv_at hl 3 rfl) ?_
                  refine lv_iconst (v := 2) hx hb d_L_law_397 (by decide) ?_
                  refine lv_iadd hx hb d_L_law_398 ?_
                  obtain ⟨b85, h⟩ := ck_some h
                  refine va_sld hx hb hX hbl hbA I.2.2 b85 d_L_law_399 ?_
                  obtain ⟨r87, st86, h88, h⟩ := bd_some h
                  refine cLR (As := [.int (xs (x3 + (1 : Int32)).toNatClampNeg), .int (xs (x3 + (2 : Int32)).toNatClampNeg)]) (rest := [.int r82]) E I hA (k_R_run (lR_some h88).1) (lR_some h88).2 g_L_42 ⟨rfl, rfl, rfl⟩ rfl hl rfl (Nat.le_of_ble_eq_true rfl) ⟨Nat.le_of_ble_eq_true rfl, Nat.le_of_ble_eq_true rfl⟩ ⟨Nat.le_refl _, Nat.le_refl _⟩ d_L_law_400 rfl (fun H locs I => ?_)
                  refine lv_icmp_eq (tgt := 679) hx hb d_L_law_403 (by decide) (fun c89 => ?_) (fun c89 => ?_)
                  · have h := ifp c89 h
                    obtain ⟨x3_90, ex3_90⟩ : ∃ y : Int32, y = (x3 + 6) := ⟨_, rfl⟩
                    have h := nx_k ex3_90 h
                    refine lv_iinc (v := x3_90) (lv' := [(3, .int x3_90), (0, .ref b), (1, .ref (A 0)), (2, .ref (B 0))]) hx hb d_L_law_679 hl (k := 3) rfl (by rw [ex3_90]; rfl) (by decide) rfl (fun ls hl => ?_)
                    refine lv_goto (tgt := 18) hx hb d_L_law_682 (by decide) ?_
                    exact ih x3_90 st86 _ _ _ h I (lv_sub hl [1, 2, 3, 0] rfl)
                  · have h := ifn c89 h
                    refine lv_iconst (v := 0) hx hb d_L_law_406 (by decide) ?_
                    cases h
                    exact kr _ _ _ _ I (by decide) d_L_law_407
                · have h := ifn c78 h
                  by_cases c91 : ((xs x3.toNatClampNeg) &&& (15 : Int32)) = 6
                  · have h := ifp c91 h
                    refine lv_tableIn (off := 375) (tgt := 408) hx hb d_L_law_33 (by rw [c91]; decide) (by rw [c91]; decide) (by rw [c91]; rfl) (by decide) ?_
                    refine lv_aload_n hx hb d_L_law_408 rfl (lv_at hl 1 rfl) ?_
                    refine lv_aload_n hx hb d_L_law_409 rfl (lv_at hl 0 rfl) ?_
                    refine lv_iload_n hx hb d_L_law_410 rfl (lv_at hl 3 rfl) ?_
                    refine lv_iconst (v := 1) hx hb d_L_law_411 (by decide) ?_
                    refine lv_iadd hx hb d_L_law_412 ?_
                    obtain ⟨b92, h⟩ := ck_some h
                    refine va_sld hx hb hX hbl hbA I.2.2 b92 d_L_law_413 ?_
                    refine lv_aload_n hx hb d_L_law_414 rfl (lv_at hl 0 rfl) ?_
                    refine lv_iload_n hx hb d_L_law_415 rfl (lv_at hl 3 rfl) ?_
                    refine lv_iconst (v := 2) hx hb d_L_law_416 (by decide) ?_
                    refine lv_iadd hx hb d_L_law_417 ?_
                    obtain ⟨b93, h⟩ := ck_some h
                    refine va_sld hx hb hX hbl hbA I.2.2 b93 d_L_law_418 ?_
                    obtain ⟨r95, st94, h96, h⟩ := bd_some h
                    refine cLC (As := [.int (xs (x3 + (1 : Int32)).toNatClampNeg), .int (xs (x3 + (2 : Int32)).toNatClampNeg)]) (rest := []) E I hA (k_M_order (lC_some h96).1) (lC_some h96).2 g_L_43 ⟨rfl, rfl, rfl⟩ rfl hl rfl (Nat.le_of_ble_eq_true rfl) ⟨Nat.le_of_ble_eq_true rfl, Nat.le_of_ble_eq_true rfl⟩ ⟨Nat.le_refl _, Nat.le_refl _⟩ d_L_law_419 rfl (fun H locs I => ?_)
                    refine lv_aload_n hx hb d_L_law_422 rfl (lv_at hl 2 rfl) ?_
                    refine lv_aload_n hx hb d_L_law_423 rfl (lv_at hl 0 rfl) ?_
                    refine lv_iload_n hx hb d_L_law_424 rfl (lv_at hl 3 rfl) ?_
                    refine lv_iconst (v := 1) hx hb d_L_law_425 (by decide) ?_
                    refine lv_iadd hx hb d_L_law_426 ?_
                    obtain ⟨b97, h⟩ := ck_some h
                    refine va_sld hx hb hX hbl hbA I.2.2 b97 d_L_law_427 ?_
                    refine lv_aload_n hx hb d_L_law_428 rfl (lv_at hl 0 rfl) ?_
                    refine lv_iload_n hx hb d_L_law_429 rfl (lv_at hl 3 rfl) ?_
                    refine lv_iconst (v := 2) hx hb d_L_law_430 (by decide) ?_
                    refine lv_iadd hx hb d_L_law_431 ?_
                    obtain ⟨b98, h⟩ := ck_some h
                    refine va_sld hx hb hX hbl hbA I.2.2 b98 d_L_law_432 ?_
                    obtain ⟨r100, st99, h101, h⟩ := bd_some h
                    refine cLR (As := [.int (xs (x3 + (1 : Int32)).toNatClampNeg), .int (xs (x3 + (2 : Int32)).toNatClampNeg)]) (rest := [.int r95]) E I hA (k_R_order (lR_some h101).1) (lR_some h101).2 g_L_46 ⟨rfl, rfl, rfl⟩ rfl hl rfl (Nat.le_of_ble_eq_true rfl) ⟨Nat.le_of_ble_eq_true rfl, Nat.le_of_ble_eq_true rfl⟩ ⟨Nat.le_refl _, Nat.le_refl _⟩ d_L_law_433 rfl (fun H locs I => ?_)
                    refine lv_icmp_eq (tgt := 679) hx hb d_L_law_436 (by decide) (fun c102 => ?_) (fun c102 => ?_)
                    · have h := ifp c102 h
                      obtain ⟨x3_103, ex3_103⟩ : ∃ y : Int32, y = (x3 + 6) := ⟨_, rfl⟩
                      have h := nx_k ex3_103 h
                      refine lv_iinc (v := x3_103) (lv' := [(3, .int x3_103), (0, .ref b), (1, .ref (A 0)), (2, .ref (B 0))]) hx hb d_L_law_679 hl (k := 3) rfl (by rw [ex3_103]; rfl) (by decide) rfl (fun ls hl => ?_)
                      refine lv_goto (tgt := 18) hx hb d_L_law_682 (by decide) ?_
                      exact ih x3_103 st99 _ _ _ h I (lv_sub hl [1, 2, 3, 0] rfl)
                    · have h := ifn c102 h
                      refine lv_iconst (v := 0) hx hb d_L_law_439 (by decide) ?_
                      cases h
                      exact kr _ _ _ _ I (by decide) d_L_law_440
                  · have h := ifn c91 h
                    by_cases c104 : ((xs x3.toNatClampNeg) &&& (15 : Int32)) = 7
                    · have h := ifp c104 h
                      refine lv_tableIn (off := 408) (tgt := 441) hx hb d_L_law_33 (by rw [c104]; decide) (by rw [c104]; decide) (by rw [c104]; rfl) (by decide) ?_
                      refine lv_aload_n hx hb d_L_law_441 rfl (lv_at hl 1 rfl) ?_
                      refine lv_aload_n hx hb d_L_law_442 rfl (lv_at hl 0 rfl) ?_
                      refine lv_iload_n hx hb d_L_law_443 rfl (lv_at hl 3 rfl) ?_
                      refine lv_iconst (v := 1) hx hb d_L_law_444 (by decide) ?_
                      refine lv_iadd hx hb d_L_law_445 ?_
                      obtain ⟨b105, h⟩ := ck_some h
                      refine va_sld hx hb hX hbl hbA I.2.2 b105 d_L_law_446 ?_
                      refine lv_aload_n hx hb d_L_law_447 rfl (lv_at hl 0 rfl) ?_
                      refine lv_iload_n hx hb d_L_law_448 rfl (lv_at hl 3 rfl) ?_
                      refine lv_iconst (v := 2) hx hb d_L_law_449 (by decide) ?_
                      refine lv_iadd hx hb d_L_law_450 ?_
                      obtain ⟨b106, h⟩ := ck_some h
                      refine va_sld hx hb hX hbl hbA I.2.2 b106 d_L_law_451 ?_
                      obtain ⟨r108, st107, h109, h⟩ := bd_some h
                      refine cLC (As := [.int (xs (x3 + (1 : Int32)).toNatClampNeg), .int (xs (x3 + (2 : Int32)).toNatClampNeg)]) (rest := []) E I hA (k_M_distance (lC_some h109).1) (lC_some h109).2 g_L_47 ⟨rfl, rfl, rfl⟩ rfl hl rfl (Nat.le_of_ble_eq_true rfl) ⟨Nat.le_of_ble_eq_true rfl, Nat.le_of_ble_eq_true rfl⟩ ⟨Nat.le_refl _, Nat.le_refl _⟩ d_L_law_452 rfl (fun H locs I => ?_)
                      refine lv_aload_n hx hb d_L_law_455 rfl (lv_at hl 2 rfl) ?_
                      refine lv_aload_n hx hb d_L_law_456 rfl (lv_at hl 0 rfl) ?_
                      refine lv_iload_n hx hb d_L_law_457 rfl (lv_at hl 3 rfl) ?_
                      refine lv_iconst (v := 1) hx hb d_L_law_458 (by decide) ?_
                      refine lv_iadd hx hb d_L_law_459 ?_
                      obtain ⟨b110, h⟩ := ck_some h
                      refine va_sld hx hb hX hbl hbA I.2.2 b110 d_L_law_460 ?_
                      refine lv_aload_n hx hb d_L_law_461 rfl (lv_at hl 0 rfl) ?_
                      refine lv_iload_n hx hb d_L_law_462 rfl (lv_at hl 3 rfl) ?_
                      refine lv_iconst (v := 2) hx hb d_L_law_463 (by decide) ?_
                      refine lv_iadd hx hb d_L_law_464 ?_
                      obtain ⟨b111, h⟩ := ck_some h
                      refine va_sld hx hb hX hbl hbA I.2.2 b111 d_L_law_465 ?_
                      obtain ⟨r113, st112, h114, h⟩ := bd_some h
                      refine cLR (As := [.int (xs (x3 + (1 : Int32)).toNatClampNeg), .int (xs (x3 + (2 : Int32)).toNatClampNeg)]) (rest := [.int r108]) E I hA (k_R_distance (lR_some h114).1) (lR_some h114).2 g_L_50 ⟨rfl, rfl, rfl⟩ rfl hl rfl (Nat.le_of_ble_eq_true rfl) ⟨Nat.le_of_ble_eq_true rfl, Nat.le_of_ble_eq_true rfl⟩ ⟨Nat.le_refl _, Nat.le_refl _⟩ d_L_law_466 rfl (fun H locs I => ?_)
                      refine lv_icmp_eq (tgt := 679) hx hb d_L_law_469 (by decide) (fun c115 => ?_) (fun c115 => ?_)
                      · have h := ifp c115 h
                        obtain ⟨x3_116, ex3_116⟩ : ∃ y : Int32, y = (x3 + 6) := ⟨_, rfl⟩
                        have h := nx_k ex3_116 h
                        refine lv_iinc (v := x3_116) (lv' := [(3, .int x3_116), (0, .ref b), (1, .ref (A 0)), (2, .ref (B 0))]) hx hb d_L_law_679 hl (k := 3) rfl (by rw [ex3_116]; rfl) (by decide) rfl (fun ls hl => ?_)
                        refine lv_goto (tgt := 18) hx hb d_L_law_682 (by decide) ?_
                        exact ih x3_116 st112 _ _ _ h I (lv_sub hl [1, 2, 3, 0] rfl)
                      · have h := ifn c115 h
                        refine lv_iconst (v := 0) hx hb d_L_law_472 (by decide) ?_
                        cases h
                        exact kr _ _ _ _ I (by decide) d_L_law_473
                    · have h := ifn c104 h
                      by_cases c117 : ((xs x3.toNatClampNeg) &&& (15 : Int32)) = 8
                      · have h := ifp c117 h
                        refine lv_tableIn (off := 441) (tgt := 474) hx hb d_L_law_33 (by rw [c117]; decide) (by rw [c117]; decide) (by rw [c117]; rfl) (by decide) ?_
                        refine lv_aload_n hx hb d_L_law_474 rfl (lv_at hl 1 rfl) ?_
                        refine lv_aload_n hx hb d_L_law_475 rfl (lv_at hl 0 rfl) ?_
                        refine lv_iload_n hx hb d_L_law_476 rfl (lv_at hl 3 rfl) ?_
                        refine lv_iconst (v := 1) hx hb d_L_law_477 (by decide) ?_
                        refine lv_iadd hx hb d_L_law_478 ?_
                        obtain ⟨b118, h⟩ := ck_some h
                        refine va_sld hx hb hX hbl hbA I.2.2 b118 d_L_law_479 ?_
                        refine lv_aload_n hx hb d_L_law_480 rfl (lv_at hl 0 rfl) ?_
                        refine lv_iload_n hx hb d_L_law_481 rfl (lv_at hl 3 rfl) ?_
                        refine lv_iconst (v := 2) hx hb d_L_law_482 (by decide) ?_
                        refine lv_iadd hx hb d_L_law_483 ?_
                        obtain ⟨b119, h⟩ := ck_some h
                        refine va_sld hx hb hX hbl hbA I.2.2 b119 d_L_law_484 ?_
                        refine lv_i2l hx hb d_L_law_485 rfl ?_
                        refine lv_bipush (v := 32) hx hb d_L_law_486 (by decide) ?_
                        refine lv_lshl hx hb d_L_law_488 rfl ?_
                        refine lv_aload_n hx hb d_L_law_489 rfl (lv_at hl 0 rfl) ?_
                        refine lv_iload_n hx hb d_L_law_490 rfl (lv_at hl 3 rfl) ?_
                        refine lv_iconst (v := 3) hx hb d_L_law_491 (by decide) ?_
                        refine lv_iadd hx hb d_L_law_492 ?_
                        obtain ⟨b120, h⟩ := ck_some h
                        refine va_sld hx hb hX hbl hbA I.2.2 b120 d_L_law_493 ?_
                        refine lv_i2l hx hb d_L_law_494 rfl ?_
                        refine lv_ldc2 (v := 4294967295) hx hb E.2.2.2.1 (E.2.2.2.2.1 _ kl_L_13) d_L_law_495 ?_
                        refine lv_land hx hb d_L_law_498 ?_
                        refine lv_lor hx hb d_L_law_499 ?_
                        obtain ⟨r122, st121, h123, h⟩ := bd_some h
                        refine cLC (As := [.int (xs (x3 + (1 : Int32)).toNatClampNeg), .long (((xs (x3 + (2 : Int32)).toNatClampNeg).toInt64 <<< ((32 : Int32).toInt64 &&& 63)) ||| ((xs (x3 + (3 : Int32)).toNatClampNeg).toInt64 &&& (4294967295 : Int64)))]) (rest := []) E I hA (k_M_change (lC_some h123).1) (lC_some h123).2 g_L_51 ⟨rfl, rfl, rfl⟩ rfl hl rfl (Nat.le_of_ble_eq_true rfl) ⟨Nat.le_of_ble_eq_true rfl, Nat.le_of_ble_eq_true rfl⟩ ⟨Nat.le_refl _, Nat.le_refl _⟩ d_L_law_500 rfl (fun H locs I => ?_)
                        refine lv_aload_n hx hb d_L_law_503 rfl (lv_at hl 2 rfl) ?_
                        refine lv_aload_n hx hb d_L_law_504 rfl (lv_at hl 0 rfl) ?_
                        refine lv_iload_n hx hb d_L_law_505 rfl (lv_at hl 3 rfl) ?_
                        refine lv_iconst (v := 1) hx hb d_L_law_506 (by decide) ?_
                        refine lv_iadd hx hb d_L_law_507 ?_
                        obtain ⟨b124, h⟩ := ck_some h
                        refine va_sld hx hb hX hbl hbA I.2.2 b124 d_L_law_508 ?_
                        refine lv_aload_n hx hb d_L_law_509 rfl (lv_at hl 0 rfl) ?_
                        refine lv_iload_n hx hb d_L_law_510 rfl (lv_at hl 3 rfl) ?_
                        refine lv_iconst (v := 2) hx hb d_L_law_511 (by decide) ?_
                        refine lv_iadd hx hb d_L_law_512 ?_
                        obtain ⟨b125, h⟩ := ck_some h
                        refine va_sld hx hb hX hbl hbA I.2.2 b125 d_L_law_513 ?_
                        refine lv_i2l hx hb d_L_law_514 rfl ?_
                        refine lv_bipush (v := 32) hx hb d_L_law_515 (by decide) ?_
                        refine lv_lshl hx hb d_L_law_517 rfl ?_
                        refine lv_aload_n hx hb d_L_law_518 rfl (lv_at hl 0 rfl) ?_
                        refine lv_iload_n hx hb d_L_law_519 rfl (lv_at hl 3 rfl) ?_
                        refine lv_iconst (v := 3) hx hb d_L_law_520 (by decide) ?_
                        refine lv_iadd hx hb d_L_law_521 ?_
                        obtain ⟨b126, h⟩ := ck_some h
                        refine va_sld hx hb hX hbl hbA I.2.2 b126 d_L_law_522 ?_
                        refine lv_i2l hx hb d_L_law_523 rfl ?_
                        refine lv_ldc2 (v := 4294967295) hx hb E.2.2.2.1 (E.2.2.2.2.1 _ kl_L_13) d_L_law_524 ?_
                        refine lv_land hx hb d_L_law_527 ?_
                        refine lv_lor hx hb d_L_law_528 ?_
                        obtain ⟨r128, st127, h129, h⟩ := bd_some h
                        refine cLR (As := [.int (xs (x3 + (1 : Int32)).toNatClampNeg), .long (((xs (x3 + (2 : Int32)).toNatClampNeg).toInt64 <<< ((32 : Int32).toInt64 &&& 63)) ||| ((xs (x3 + (3 : Int32)).toNatClampNeg).toInt64 &&& (4294967295 : Int64)))]) (rest := [.int r122]) E I hA (k_R_change (lR_some h129).1) (lR_some h129).2 g_L_55 ⟨rfl, rfl, rfl⟩ rfl hl rfl (Nat.le_of_ble_eq_true rfl) ⟨Nat.le_of_ble_eq_true rfl, Nat.le_of_ble_eq_true rfl⟩ ⟨Nat.le_refl _, Nat.le_refl _⟩ d_L_law_529 rfl (fun H locs I => ?_)
                        refine lv_icmp_eq (tgt := 679) hx hb d_L_law_532 (by decide) (fun c130 => ?_) (fun c130 => ?_)
                        · have h := ifp c130 h
                          obtain ⟨x3_131, ex3_131⟩ : ∃ y : Int32, y = (x3 + 6) := ⟨_, rfl⟩
                          have h := nx_k ex3_131 h
                          refine lv_iinc (v := x3_131) (lv' := [(3, .int x3_131), (0, .ref b), (1, .ref (A 0)), (2, .ref (B 0))]) hx hb d_L_law_679 hl (k := 3) rfl (by rw [ex3_131]; rfl) (by decide) rfl (fun ls hl => ?_)
                          refine lv_goto (tgt := 18) hx hb d_L_law_682 (by decide) ?_
                          exact ih x3_131 st127 _ _ _ h I (lv_sub hl [1, 2, 3, 0] rfl)
                        · have h := ifn c130 h
                          refine lv_iconst (v := 0) hx hb d_L_law_535 (by decide) ?_
                          cases h
                          exact kr _ _ _ _ I (by decide) d_L_law_536
                      · have h := ifn c117 h
                        by_cases c132 : ((xs x3.toNatClampNeg) &&& (15 : Int32)) = 9
                        · have h := ifp c132 h
                          refine lv_tableIn (off := 504) (tgt := 537) hx hb d_L_law_33 (by rw [c132]; decide) (by rw [c132]; decide) (by rw [c132]; rfl) (by decide) ?_
                          refine lv_aload_n hx hb d_L_law_537 rfl (lv_at hl 1 rfl) ?_
                          refine lv_aload_n hx hb d_L_law_538 rfl (lv_at hl 0 rfl) ?_
                          refine lv_iload_n hx hb d_L_law_539 rfl (lv_at hl 3 rfl) ?_
                          refine lv_iconst (v := 1) hx hb d_L_law_540 (by decide) ?_
                          refine lv_iadd hx hb d_L_law_541 ?_
                          obtain ⟨b133, h⟩ := ck_some h
                          refine va_sld hx hb hX hbl hbA I.2.2 b133 d_L_law_542 ?_
                          refine lv_i2l hx hb d_L_law_543 rfl ?_
                          refine lv_bipush (v := 32) hx hb d_L_law_544 (by decide) ?_
                          refine lv_lshl hx hb d_L_law_546 rfl ?_
                          refine lv_aload_n hx hb d_L_law_547 rfl (lv_at hl 0 rfl) ?_
                          refine lv_iload_n hx hb d_L_law_548 rfl (lv_at hl 3 rfl) ?_
                          refine lv_iconst (v := 2) hx hb d_L_law_549 (by decide) ?_
                          refine lv_iadd hx hb d_L_law_550 ?_
                          obtain ⟨b134, h⟩ := ck_some h
                          refine va_sld hx hb hX hbl hbA I.2.2 b134 d_L_law_551 ?_
                          refine lv_i2l hx hb d_L_law_552 rfl ?_
                          refine lv_ldc2 (v := 4294967295) hx hb E.2.2.2.1 (E.2.2.2.2.1 _ kl_L_13) d_L_law_553 ?_
                          refine lv_land hx hb d_L_law_556 ?_
                          refine lv_lor hx hb d_L_law_557 ?_
                          refine lv_aload_n hx hb d_L_law_558 rfl (lv_at hl 0 rfl) ?_
                          refine lv_iload_n hx hb d_L_law_559 rfl (lv_at hl 3 rfl) ?_
                          refine lv_iconst (v := 3) hx hb d_L_law_560 (by decide) ?_
                          refine lv_iadd hx hb d_L_law_561 ?_
                          obtain ⟨b135, h⟩ := ck_some h
                          refine va_sld hx hb hX hbl hbA I.2.2 b135 d_L_law_562 ?_
                          obtain ⟨r137, st136, h138, h⟩ := bd_some h
                          refine cLC (As := [.long (((xs (x3 + (1 : Int32)).toNatClampNeg).toInt64 <<< ((32 : Int32).toInt64 &&& 63)) ||| ((xs (x3 + (2 : Int32)).toNatClampNeg).toInt64 &&& (4294967295 : Int64))), .int (xs (x3 + (3 : Int32)).toNatClampNeg)]) (rest := []) E I hA (k_M_sample (lC_some h138).1) (lC_some h138).2 g_L_56 ⟨rfl, rfl, rfl⟩ rfl hl rfl (Nat.le_of_ble_eq_true rfl) ⟨Nat.le_of_ble_eq_true rfl, Nat.le_of_ble_eq_true rfl⟩ ⟨Nat.le_refl _, Nat.le_refl _⟩ d_L_law_563 rfl (fun H locs I => ?_)
                          refine lv_aload_n hx hb d_L_law_566 rfl (lv_at hl 2 rfl) ?_
                          refine lv_aload_n hx hb d_L_law_567 rfl (lv_at hl 0 rfl) ?_
                          refine lv_iload_n hx hb d_L_law_568 rfl (lv_at hl 3 rfl) ?_
                          refine lv_iconst (v := 1) hx hb d_L_law_569 (by decide) ?_
                          refine lv_iadd hx hb d_L_law_570 ?_
                          obtain ⟨b139, h⟩ := ck_some h
                          refine va_sld hx hb hX hbl hbA I.2.2 b139 d_L_law_571 ?_
                          refine lv_i2l hx hb d_L_law_572 rfl ?_
                          refine lv_bipush (v := 32) hx hb d_L_law_573 (by decide) ?_
                          refine lv_lshl hx hb d_L_law_575 rfl ?_
                          refine lv_aload_n hx hb d_L_law_576 rfl (lv_at hl 0 rfl) ?_
                          refine lv_iload_n hx hb d_L_law_577 rfl (lv_at hl 3 rfl) ?_
                          refine lv_iconst (v := 2) hx hb d_L_law_578 (by decide) ?_
                          refine lv_iadd hx hb d_L_law_579 ?_
                          obtain ⟨b140, h⟩ := ck_some h
                          refine va_sld hx hb hX hbl hbA I.2.2 b140 d_L_law_580 ?_
                          refine lv_i2l hx hb d_L_law_581 rfl ?_
                          refine lv_ldc2 (v := 4294967295) hx hb E.2.2.2.1 (E.2.2.2.2.1 _ kl_L_13) d_L_law_582 ?_
                          refine lv_land hx hb d_L_law_585 ?_
                          refine lv_lor hx hb d_L_law_586 ?_
                          refine lv_aload_n hx hb d_L_law_587 rfl (lv_at hl 0 rfl) ?_
                          refine lv_iload_n hx hb d_L_law_588 rfl (lv_at hl 3 rfl) ?_
                          refine lv_iconst (v := 3) hx hb d_L_law_589 (by decide) ?_
                          refine lv_iadd hx hb d_L_law_590 ?_
                          obtain ⟨b141, h⟩ := ck_some h
                          refine va_sld hx hb hX hbl hbA I.2.2 b141 d_L_law_591 ?_
                          obtain ⟨r143, st142, h144, h⟩ := bd_some h
                          refine cLR (As := [.long (((xs (x3 + (1 : Int32)).toNatClampNeg).toInt64 <<< ((32 : Int32).toInt64 &&& 63)) ||| ((xs (x3 + (2 : Int32)).toNatClampNeg).toInt64 &&& (4294967295 : Int64))), .int (xs (x3 + (3 : Int32)).toNatClampNeg)]) (rest := [.int r137]) E I hA (k_R_sample (lR_some h144).1) (lR_some h144).2 g_L_60 ⟨rfl, rfl, rfl⟩ rfl hl rfl (Nat.le_of_ble_eq_true rfl) ⟨Nat.le_of_ble_eq_true rfl, Nat.le_of_ble_eq_true rfl⟩ ⟨Nat.le_refl _, Nat.le_refl _⟩ d_L_law_592 rfl (fun H locs I => ?_)
                          refine lv_icmp_eq (tgt := 679) hx hb d_L_law_595 (by decide) (fun c145 => ?_) (fun c145 => ?_)
                          · have h := ifp c145 h
                            obtain ⟨x3_146, ex3_146⟩ : ∃ y : Int32, y = (x3 + 6) := ⟨_, rfl⟩
                            have h := nx_k ex3_146 h
                            refine lv_iinc (v := x3_146) (lv' := [(3, .int x3_146), (0, .ref b), (1, .ref (A 0)), (2, .ref (B 0))]) hx hb d_L_law_679 hl (k := 3) rfl (by rw [ex3_146]; rfl) (by decide) rfl (fun ls hl => ?_)
                            refine lv_goto (tgt := 18) hx hb d_L_law_682 (by decide) ?_
                            exact ih x3_146 st142 _ _ _ h I (lv_sub hl [1, 2, 3, 0] rfl)
                          · have h := ifn c145 h
                            refine lv_iconst (v := 0) hx hb d_L_law_598 (by decide) ?_
                            cases h
                            exact kr _ _ _ _ I (by decide) d_L_law_599
                        · have h := ifn c132 h
                          by_cases c147 : ((xs x3.toNatClampNeg) &&& (15 : Int32)) = 10
                          · have h := ifp c147 h
                            refine lv_tableIn (off := 567) (tgt := 600) hx hb d_L_law_33 (by rw [c147]; decide) (by rw [c147]; decide) (by rw [c147]; rfl) (by decide) ?_
                            refine lv_aload_n hx hb d_L_law_600 rfl (lv_at hl 1 rfl) ?_
                            refine lv_aload_n hx hb d_L_law_601 rfl (lv_at hl 0 rfl) ?_
                            refine lv_iload_n hx hb d_L_law_602 rfl (lv_at hl 3 rfl) ?_
                            refine lv_iconst (v := 1) hx hb d_L_law_603 (by decide) ?_
                            refine lv_iadd hx hb d_L_law_604 ?_
                            obtain ⟨b148, h⟩ := ck_some h
                            refine va_sld hx hb hX hbl hbA I.2.2 b148 d_L_law_605 ?_
                            obtain ⟨r150, st149, h151, h⟩ := bd_some h
                            refine cLC (As := [.int (xs (x3 + (1 : Int32)).toNatClampNeg)]) (rest := []) E I hA (k_M_sampled (lC_some h151).1) (lC_some h151).2 g_L_61 ⟨rfl, rfl, rfl⟩ rfl hl rfl (Nat.le_of_ble_eq_true rfl) ⟨Nat.le_of_ble_eq_true rfl, Nat.le_of_ble_eq_true rfl⟩ ⟨Nat.le_refl _, Nat.le_refl _⟩ d_L_law_606 rfl (fun H locs I => ?_)
                            refine lv_aload_n hx hb d_L_law_609 rfl (lv_at hl 2 rfl) ?_
                            refine lv_aload_n hx hb d_L_law_610 rfl (lv_at hl 0 rfl) ?_
                            refine lv_iload_n hx hb d_L_law_611 rfl (lv_at hl 3 rfl) ?_
                            refine lv_iconst (v := 1) hx hb d_L_law_612 (by decide) ?_
                            refine lv_iadd hx hb d_L_law_613 ?_
                            obtain ⟨b152, h⟩ := ck_some h
                            refine va_sld hx hb hX hbl hbA I.2.2 b152 d_L_law_614 ?_
                            obtain ⟨r154, st153, h155, h⟩ := bd_some h
                            refine cLR (As := [.int (xs (x3 + (1 : Int32)).toNatClampNeg)]) (rest := [.int r150]) E I hA (k_R_sampled (lR_some h155).1) (lR_some h155).2 g_L_64 ⟨rfl, rfl, rfl⟩ rfl hl rfl (Nat.le_of_ble_eq_true rfl) ⟨Nat.le_of_ble_eq_true rfl, Nat.le_of_ble_eq_true rfl⟩ ⟨Nat.le_refl _, Nat.le_refl _⟩ d_L_law_615 rfl (fun H locs I => ?_)
                            refine lv_icmp_eq (tgt := 679) hx hb d_L_law_618 (by decide) (fun c156 => ?_) (fun c156 => ?_)
                            · have h := ifp c156 h
                              obtain ⟨x3_157, ex3_157⟩ : ∃ y : Int32, y = (x3 + 6) := ⟨_, rfl⟩
                              have h := nx_k ex3_157 h
                              refine lv_iinc (v := x3_157) (lv' := [(3, .int x3_157), (0, .ref b), (1, .ref (A 0)), (2, .ref (B 0))]) hx hb d_L_law_679 hl (k := 3) rfl (by rw [ex3_157]; rfl) (by decide) rfl (fun ls hl => ?_)
                              refine lv_goto (tgt := 18) hx hb d_L_law_682 (by decide) ?_
                              exact ih x3_157 st153 _ _ _ h I (lv_sub hl [1, 2, 3, 0] rfl)
                            · have h := ifn c156 h
                              refine lv_iconst (v := 0) hx hb d_L_law_621 (by decide) ?_
                              cases h
                              exact kr _ _ _ _ I (by decide) d_L_law_622
                          · have h := ifn c147 h
                            by_cases c158 : ((xs x3.toNatClampNeg) &&& (15 : Int32)) = 11
                            · have h := ifp c158 h
                              refine lv_tableIn (off := 590) (tgt := 623) hx hb d_L_law_33 (by rw [c158]; decide) (by rw [c158]; decide) (by rw [c158]; rfl) (by decide) ?_
                              refine lv_aload_n hx hb d_L_law_623 rfl (lv_at hl 1 rfl) ?_
                              refine lv_aload_n hx hb d_L_law_624 rfl (lv_at hl 0 rfl) ?_
                              refine lv_iload_n hx hb d_L_law_625 rfl (lv_at hl 3 rfl) ?_
                              refine lv_iconst (v := 1) hx hb d_L_law_626 (by decide) ?_
                              refine lv_iadd hx hb d_L_law_627 ?_
                              obtain ⟨b159, h⟩ := ck_some h
                              refine va_sld hx hb hX hbl hbA I.2.2 b159 d_L_law_628 ?_
                              refine lv_aload_n hx hb d_L_law_629 rfl (lv_at hl 0 rfl) ?_
                              refine lv_iload_n hx hb d_L_law_630 rfl (lv_at hl 3 rfl) ?_
                              refine lv_iconst (v := 2) hx hb d_L_law_631 (by decide) ?_
                              refine lv_iadd hx hb d_L_law_632 ?_
                              obtain ⟨b160, h⟩ := ck_some h
                              refine va_sld hx hb hX hbl hbA I.2.2 b160 d_L_law_633 ?_
                              obtain ⟨r162, st161, h163, h⟩ := bd_some h
                              refine cLC (As := [.int (xs (x3 + (1 : Int32)).toNatClampNeg), .int (xs (x3 + (2 : Int32)).toNatClampNeg)]) (rest := []) E I hA (k_M_score (lC_some h163).1) (lC_some h163).2 g_L_65 ⟨rfl, rfl, rfl⟩ rfl hl rfl (Nat.le_of_ble_eq_true rfl) ⟨Nat.le_of_ble_eq_true rfl, Nat.le_of_ble_eq_true rfl⟩ ⟨Nat.le_refl _, Nat.le_refl _⟩ d_L_law_634 rfl (fun H locs I => ?_)
                              refine lv_aload_n hx hb d_L_law_637 rfl (lv_at hl 2 rfl) ?_
                              refine lv_aload_n hx hb d_L_law_638 rfl (lv_at hl 0 rfl) ?_
                              refine lv_iload_n hx hb d_L_law_639 rfl (lv_at hl 3 rfl) ?_
                              refine lv_iconst (v := 1) hx hb d_L_law_640 (by decide) ?_
                              refine lv_iadd hx hb d_L_law_641 ?_
                              obtain ⟨b164, h⟩ := ck_some h
                              refine va_sld hx hb hX hbl hbA I.2.2 b164 d_L_law_642 ?_
                              refine lv_aload_n hx hb d_L_law_643 rfl (lv_at hl 0 rfl) ?_
                              refine lv_iload_n hx hb d_L_law_644 rfl (lv_at hl 3 rfl) ?_
                              refine lv_iconst (v := 2) hx hb d_L_law_645 (by decide) ?_
                              refine lv_iadd hx hb d_L_law_646 ?_
                              obtain ⟨b165, h⟩ := ck_some h
                              refine va_sld hx hb hX hbl hbA I.2.2 b165 d_L_law_647 ?_
                              obtain ⟨r167, st166, h168, h⟩ := bd_some h
                              refine cLR (As := [.int (xs (x3 + (1 : Int32)).toNatClampNeg), .int (xs (x3 + (2 : Int32)).toNatClampNeg)]) (rest := [.int r162]) E I hA (k_R_score (lR_some h168).1) (lR_some h168).2 g_L_68 ⟨rfl, rfl, rfl⟩ rfl hl rfl (Nat.le_of_ble_eq_true rfl) ⟨Nat.le_of_ble_eq_true rfl, Nat.le_of_ble_eq_true rfl⟩ ⟨Nat.le_refl _, Nat.le_refl _⟩ d_L_law_648 rfl (fun H locs I => ?_)
                              refine lv_icmp_eq (tgt := 679) hx hb d_L_law_651 (by decide) (fun c169 => ?_) (fun c169 => ?_)
                              · have h := ifp c169 h
                                obtain ⟨x3_170, ex3_170⟩ : ∃ y : Int32, y = (x3 + 6) := ⟨_, rfl⟩
                                have h := nx_k ex3_170 h
                                refine lv_iinc (v := x3_170) (lv' := [(3, .int x3_170), (0, .ref b), (1, .ref (A 0)), (2, .ref (B 0))]) hx hb d_L_law_679 hl (k := 3) rfl (by rw [ex3_170]; rfl) (by decide) rfl (fun ls hl => ?_)
                                refine lv_goto (tgt := 18) hx hb d_L_law_682 (by decide) ?_
                                exact ih x3_170 st166 _ _ _ h I (lv_sub hl [1, 2, 3, 0] rfl)
                              · have h := ifn c169 h
                                refine lv_iconst (v := 0) hx hb d_L_law_654 (by decide) ?_
                                cases h
                                exact kr _ _ _ _ I (by decide) d_L_law_655
                            · have h := ifn c158 h
                              by_cases c171 : ((xs x3.toNatClampNeg) &&& (15 : Int32)) = 12
                              · have h := ifp c171 h
                                refine lv_tableIn (off := 623) (tgt := 656) hx hb d_L_law_33 (by rw [c171]; decide) (by rw [c171]; decide) (by rw [c171]; rfl) (by decide) ?_
                                refine lv_aload_n hx hb d_L_law_656 rfl (lv_at hl 1 rfl) ?_
                                refine lv_aload_n hx hb d_L_law_657 rfl (lv_at hl 0 rfl) ?_
                                refine lv_iload_n hx hb d_L_law_658 rfl (lv_at hl 3 rfl) ?_
                                refine lv_iconst (v := 1) hx hb d_L_law_659 (by decide) ?_
                                refine lv_iadd hx hb d_L_law_660 ?_
                                obtain ⟨b172, h⟩ := ck_some h
                                refine va_sld hx hb hX hbl hbA I.2.2 b172 d_L_law_661 ?_
                                obtain ⟨r174, st173, h175, h⟩ := bd_some h
                                refine cLC (As := [.int (xs (x3 + (1 : Int32)).toNatClampNeg)]) (rest := []) E I hA (k_M_miss (lC_some h175).1) (lC_some h175).2 g_L_69 ⟨rfl, rfl, rfl⟩ rfl hl rfl (Nat.le_of_ble_eq_true rfl) ⟨Nat.le_of_ble_eq_true rfl, Nat.le_of_ble_eq_true rfl⟩ ⟨Nat.le_refl _, Nat.le_refl _⟩ d_L_law_662 rfl (fun H locs I => ?_)
                                refine lv_aload_n hx hb d_L_law_665 rfl (lv_at hl 2 rfl) ?_
                                refine lv_aload_n hx hb d_L_law_666 rfl (lv_at hl 0 rfl) ?_
                                refine lv_iload_n hx hb d_L_law_667 rfl (lv_at hl 3 rfl) ?_
                                refine lv_iconst (v := 1) hx hb d_L_law_668 (by decide) ?_
                                refine lv_iadd hx hb d_L_law_669 ?_
                                obtain ⟨b176, h⟩ := ck_some h
                                refine va_sld hx hb hX hbl hbA I.2.2 b176 d_L_law_670 ?_
                                obtain ⟨r178, st177, h179, h⟩ := bd_some h
                                refine cLR (As := [.int (xs (x3 + (1 : Int32)).toNatClampNeg)]) (rest := [.int r174]) E I hA (k_R_miss (lR_some h179).1) (lR_some h179).2 g_L_72 ⟨rfl, rfl, rfl⟩ rfl hl rfl (Nat.le_of_ble_eq_true rfl) ⟨Nat.le_of_ble_eq_true rfl, Nat.le_of_ble_eq_true rfl⟩ ⟨Nat.le_refl _, Nat.le_refl _⟩ d_L_law_671 rfl (fun H locs I => ?_)
                                refine lv_icmp_eq (tgt := 679) hx hb d_L_law_674 (by decide) (fun c180 => ?_) (fun c180 => ?_)
                                · have h := ifp c180 h
                                  obtain ⟨x3_181, ex3_181⟩ : ∃ y : Int32, y = (x3 + 6) := ⟨_, rfl⟩
                                  have h := nx_k ex3_181 h
                                  refine lv_iinc (v := x3_181) (lv' := [(3, .int x3_181), (0, .ref b), (1, .ref (A 0)), (2, .ref (B 0))]) hx hb d_L_law_679 hl (k := 3) rfl (by rw [ex3_181]; rfl) (by decide) rfl (fun ls hl => ?_)
                                  refine lv_goto (tgt := 18) hx hb d_L_law_682 (by decide) ?_
                                  exact ih x3_181 st177 _ _ _ h I (lv_sub hl [1, 2, 3, 0] rfl)
                                · have h := ifn c180 h
                                  refine lv_iconst (v := 0) hx hb d_L_law_677 (by decide) ?_
                                  cases h
                                  exact kr _ _ _ _ I (by decide) d_L_law_678
                              · have h := ifn c171 h
                                have tc3 := ne_ti (z := 0) (by decide) c3
                                have tc22 := ne_ti (z := 1) (by decide) c22
                                have tc41 := ne_ti (z := 2) (by decide) c41
                                have tc54 := ne_ti (z := 3) (by decide) c54
                                have tc65 := ne_ti (z := 4) (by decide) c65
                                have tc78 := ne_ti (z := 5) (by decide) c78
                                have tc91 := ne_ti (z := 6) (by decide) c91
                                have tc104 := ne_ti (z := 7) (by decide) c104
                                have tc117 := ne_ti (z := 8) (by decide) c117
                                have tc132 := ne_ti (z := 9) (by decide) c132
                                have tc147 := ne_ti (z := 10) (by decide) c147
                                have tc158 := ne_ti (z := 11) (by decide) c158
                                have tc171 := ne_ti (z := 12) (by decide) c171
                                refine lv_tableOut (tgt := 679) hx hb d_L_law_33 (by omega) (by decide) ?_
                                obtain ⟨x3_182, ex3_182⟩ : ∃ y : Int32, y = (x3 + 6) := ⟨_, rfl⟩
                                have h := nx_k ex3_182 h
                                refine lv_iinc (v := x3_182) (lv' := [(3, .int x3_182), (0, .ref b), (1, .ref (A 0)), (2, .ref (B 0))]) hx hb d_L_law_679 hl (k := 3) rfl (by rw [ex3_182]; rfl) (by decide) rfl (fun ls hl => ?_)
                                refine lv_goto (tgt := 18) hx hb d_L_law_682 (by decide) ?_
                                exact ih x3_182 st _ _ _ h I (lv_sub hl [1, 2, 3, 0] rfl)
end LAW
