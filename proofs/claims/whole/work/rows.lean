section
-- ===== PART A: goes FIRST, ahead of the names: the tables' words, and 'selects' of the private methods out of them =====
/-- a private method of a class that the tables say can be made, by its rows of tables_1 -/
def lw_okq (q : MethodName × Nat) : Prop := (q.1.cls ≠ "java/lang/invoke/MethodHandle" ∧ q.1.cls ≠ "java/lang/invoke/VarHandle") ∧ Cond.instantiable q.1.cls q.2 ∈ tables_1 ∧ Cond.privateMethod q.1 ∈ tables_1 ∧ Cond.instanceMethod q.1 ∈ tables_1
theorem lw_p0 : lw_okq (⟨"MutantRows$Trees", "areEarlier", "(IJII)Z"⟩, 8) := ⟨⟨by decide +kernel, by decide +kernel⟩, List.mem_of_getElem? (i := 19) (by decide +kernel), List.mem_of_getElem? (i := 207) (by decide +kernel), List.mem_of_getElem? (i := 208) (by decide +kernel)⟩
theorem lw_p1 : lw_okq (⟨"MutantRows$Trees", "shapeFor", "(I)I"⟩, 8) := ⟨⟨by decide +kernel, by decide +kernel⟩, List.mem_of_getElem? (i := 19) (by decide +kernel), List.mem_of_getElem? (i := 215) (by decide +kernel), List.mem_of_getElem? (i := 216) (by decide +kernel)⟩
theorem lw_p2 : lw_okq (⟨"MutantRows$Trees", "haveAlikeParts", "(II)Z"⟩, 8) := ⟨⟨by decide +kernel, by decide +kernel⟩, List.mem_of_getElem? (i := 19) (by decide +kernel), List.mem_of_getElem? (i := 219) (by decide +kernel), List.mem_of_getElem? (i := 220) (by decide +kernel)⟩
theorem lw_p3 : lw_okq (⟨"MutantRows$Trials", "attempt", "(I)V"⟩, 8) := ⟨⟨by decide +kernel, by decide +kernel⟩, List.mem_of_getElem? (i := 52) (by decide +kernel), List.mem_of_getElem? (i := 236) (by decide +kernel), List.mem_of_getElem? (i := 237) (by decide +kernel)⟩
theorem lw_p4 : lw_okq (⟨"MutantRows$Worker", "worth", "(I)J"⟩, 9) := ⟨⟨by decide +kernel, by decide +kernel⟩, List.mem_of_getElem? (i := 58) (by decide +kernel), List.mem_of_getElem? (i := 244) (by decide +kernel), List.mem_of_getElem? (i := 245) (by decide +kernel)⟩
theorem lw_p5 : lw_okq (⟨"MutantRows$Worker", "worthOfChoice", "(II)J"⟩, 9) := ⟨⟨by decide +kernel, by decide +kernel⟩, List.mem_of_getElem? (i := 58) (by decide +kernel), List.mem_of_getElem? (i := 259) (by decide +kernel), List.mem_of_getElem? (i := 260) (by decide +kernel)⟩
theorem lw_p6 : lw_okq (⟨"MutantRows$Worker", "worthOfLoop", "(I)J"⟩, 9) := ⟨⟨by decide +kernel, by decide +kernel⟩, List.mem_of_getElem? (i := 58) (by decide +kernel), List.mem_of_getElem? (i := 275) (by decide +kernel), List.mem_of_getElem? (i := 276) (by decide +kernel)⟩
theorem lw_p7 : lw_okq (⟨"MutantRows$Worker", "worthOfTwo", "(III)J"⟩, 9) := ⟨⟨by decide +kernel, by decide +kernel⟩, List.mem_of_getElem? (i := 58) (by decide +kernel), List.mem_of_getElem? (i := 279) (by decide +kernel), List.mem_of_getElem? (i := 280) (by decide +kernel)⟩
theorem lw_p8 : lw_okq (⟨"MutantRows$Mutants", "isOfDifferentNumbers", "(I)Z"⟩, 7) := ⟨⟨by decide +kernel, by decide +kernel⟩, List.mem_of_getElem? (i := 117) (by decide +kernel), List.mem_of_getElem? (i := 382) (by decide +kernel), List.mem_of_getElem? (i := 383) (by decide +kernel)⟩
theorem lw_p9 : lw_okq (⟨"MutantRows$Trees", "goOnFrom", "(I)V"⟩, 8) := ⟨⟨by decide +kernel, by decide +kernel⟩, List.mem_of_getElem? (i := 19) (by decide +kernel), List.mem_of_getElem? (i := 421) (by decide +kernel), List.mem_of_getElem? (i := 422) (by decide +kernel)⟩
theorem lw_p10 : lw_okq (⟨"MutantRows$Trees", "shorten", "(II)V"⟩, 8) := ⟨⟨by decide +kernel, by decide +kernel⟩, List.mem_of_getElem? (i := 19) (by decide +kernel), List.mem_of_getElem? (i := 425) (by decide +kernel), List.mem_of_getElem? (i := 426) (by decide +kernel)⟩
theorem lw_p11 : lw_okq (⟨"MutantRows$Lineup", "insert", "(II)V"⟩, 5) := ⟨⟨by decide +kernel, by decide +kernel⟩, List.mem_of_getElem? (i := 145) (by decide +kernel), List.mem_of_getElem? (i := 429) (by decide +kernel), List.mem_of_getElem? (i := 430) (by decide +kernel)⟩
theorem lw_p12 : lw_okq (⟨"MutantRowsModel", "isNode", "(J)Z"⟩, 36) := ⟨⟨by decide +kernel, by decide +kernel⟩, List.mem_of_getElem? (i := 516) (by decide +kernel), List.mem_of_getElem? (i := 643) (by decide +kernel), List.mem_of_getElem? (i := 644) (by decide +kernel)⟩
theorem lw_p13 : lw_okq (⟨"MutantRowsModel", "tryOut", "(I)V"⟩, 36) := ⟨⟨by decide +kernel, by decide +kernel⟩, List.mem_of_getElem? (i := 516) (by decide +kernel), List.mem_of_getElem? (i := 651) (by decide +kernel), List.mem_of_getElem? (i := 652) (by decide +kernel)⟩
theorem lw_p14 : lw_okq (⟨"MutantRowsModel", "workOut", "(IJI)V"⟩, 36) := ⟨⟨by decide +kernel, by decide +kernel⟩, List.mem_of_getElem? (i := 516) (by decide +kernel), List.mem_of_getElem? (i := 655) (by decide +kernel), List.mem_of_getElem? (i := 656) (by decide +kernel)⟩
theorem lw_p15 : lw_okq (⟨"MutantRowsModel", "enter", "(II)V"⟩, 36) := ⟨⟨by decide +kernel, by decide +kernel⟩, List.mem_of_getElem? (i := 516) (by decide +kernel), List.mem_of_getElem? (i := 659) (by decide +kernel), List.mem_of_getElem? (i := 660) (by decide +kernel)⟩
def lw_privs_1 : List (MethodName × Nat) := [(⟨"MutantRows$Trees", "areEarlier", "(IJII)Z"⟩, 8), (⟨"MutantRows$Trees", "shapeFor", "(I)I"⟩, 8), (⟨"MutantRows$Trees", "haveAlikeParts", "(II)Z"⟩, 8), (⟨"MutantRows$Trials", "attempt", "(I)V"⟩, 8), (⟨"MutantRows$Worker", "worth", "(I)J"⟩, 9), (⟨"MutantRows$Worker", "worthOfChoice", "(II)J"⟩, 9), (⟨"MutantRows$Worker", "worthOfLoop", "(I)J"⟩, 9), (⟨"MutantRows$Worker", "worthOfTwo", "(III)J"⟩, 9), (⟨"MutantRows$Mutants", "isOfDifferentNumbers", "(I)Z"⟩, 7), (⟨"MutantRows$Trees", "goOnFrom", "(I)V"⟩, 8), (⟨"MutantRows$Trees", "shorten", "(II)V"⟩, 8), (⟨"MutantRows$Lineup", "insert", "(II)V"⟩, 5), (⟨"MutantRowsModel", "isNode", "(J)Z"⟩, 36), (⟨"MutantRowsModel", "tryOut", "(I)V"⟩, 36), (⟨"MutantRowsModel", "workOut", "(IJI)V"⟩, 36), (⟨"MutantRowsModel", "enter", "(II)V"⟩, 36)]
theorem lw_r1 : ∀ q ∈ lw_privs_1, lw_okq q := List.forall_mem_cons.mpr ⟨lw_p0, List.forall_mem_cons.mpr ⟨lw_p1, List.forall_mem_cons.mpr ⟨lw_p2, List.forall_mem_cons.mpr ⟨lw_p3, List.forall_mem_cons.mpr ⟨lw_p4, List.forall_mem_cons.mpr ⟨lw_p5, List.forall_mem_cons.mpr ⟨lw_p6, List.forall_mem_cons.mpr ⟨lw_p7, List.forall_mem_cons.mpr ⟨lw_p8, List.forall_mem_cons.mpr ⟨lw_p9, List.forall_mem_cons.mpr ⟨lw_p10, List.forall_mem_cons.mpr ⟨lw_p11, List.forall_mem_cons.mpr ⟨lw_p12, List.forall_mem_cons.mpr ⟨lw_p13, List.forall_mem_cons.mpr ⟨lw_p14, List.forall_mem_cons.mpr ⟨lw_p15, fun _ h => absurd h List.not_mem_nil⟩⟩⟩⟩⟩⟩⟩⟩⟩⟩⟩⟩⟩⟩⟩⟩
theorem lw_p16 : lw_okq (⟨"MutantRowsModel", "goOn", "(JI)V"⟩, 36) := ⟨⟨by decide +kernel, by decide +kernel⟩, List.mem_of_getElem? (i := 516) (by decide +kernel), List.mem_of_getElem? (i := 663) (by decide +kernel), List.mem_of_getElem? (i := 664) (by decide +kernel)⟩
theorem lw_p17 : lw_okq (⟨"MutantRowsModel", "is", "(II)Z"⟩, 36) := ⟨⟨by decide +kernel, by decide +kernel⟩, List.mem_of_getElem? (i := 516) (by decide +kernel), List.mem_of_getElem? (i := 667) (by decide +kernel), List.mem_of_getElem? (i := 668) (by decide +kernel)⟩
theorem lw_p18 : lw_okq (⟨"MutantRowsModel", "leave", "(J)V"⟩, 36) := ⟨⟨by decide +kernel, by decide +kernel⟩, List.mem_of_getElem? (i := 516) (by decide +kernel), List.mem_of_getElem? (i := 671) (by decide +kernel), List.mem_of_getElem? (i := 672) (by decide +kernel)⟩
theorem lw_p19 : lw_okq (⟨"MutantRowsModel", "choose", "(III)V"⟩, 36) := ⟨⟨by decide +kernel, by decide +kernel⟩, List.mem_of_getElem? (i := 516) (by decide +kernel), List.mem_of_getElem? (i := 675) (by decide +kernel), List.mem_of_getElem? (i := 676) (by decide +kernel)⟩
theorem lw_p20 : lw_okq (⟨"MutantRowsModel", "loop", "(III)V"⟩, 36) := ⟨⟨by decide +kernel, by decide +kernel⟩, List.mem_of_getElem? (i := 516) (by decide +kernel), List.mem_of_getElem? (i := 679) (by decide +kernel), List.mem_of_getElem? (i := 680) (by decide +kernel)⟩
theorem lw_p21 : lw_okq (⟨"MutantRowsModel", "both", "(III)V"⟩, 36) := ⟨⟨by decide +kernel, by decide +kernel⟩, List.mem_of_getElem? (i := 516) (by decide +kernel), List.mem_of_getElem? (i := 683) (by decide +kernel), List.mem_of_getElem? (i := 684) (by decide +kernel)⟩
theorem lw_p22 : lw_okq (⟨"MutantRowsModel", "made", "(IJJ)J"⟩, 36) := ⟨⟨by decide +kernel, by decide +kernel⟩, List.mem_of_getElem? (i := 516) (by decide +kernel), List.mem_of_getElem? (i := 687) (by decide +kernel), List.mem_of_getElem? (i := 688) (by decide +kernel)⟩
theorem lw_p23 : lw_okq (⟨"MutantRowsModel", "isTest", "(I)Z"⟩, 36) := ⟨⟨by decide +kernel, by decide +kernel⟩, List.mem_of_getElem? (i := 516) (by decide +kernel), List.mem_of_getElem? (i := 695) (by decide +kernel), List.mem_of_getElem? (i := 696) (by decide +kernel)⟩
theorem lw_p24 : lw_okq (⟨"MutantRowsModel", "isFor", "(II)Z"⟩, 36) := ⟨⟨by decide +kernel, by decide +kernel⟩, List.mem_of_getElem? (i := 516) (by decide +kernel), List.mem_of_getElem? (i := 704) (by decide +kernel), List.mem_of_getElem? (i := 705) (by decide +kernel)⟩
theorem lw_p25 : lw_okq (⟨"MutantRowsModel", "isCovered", "(I)Z"⟩, 36) := ⟨⟨by decide +kernel, by decide +kernel⟩, List.mem_of_getElem? (i := 516) (by decide +kernel), List.mem_of_getElem? (i := 708) (by decide +kernel), List.mem_of_getElem? (i := 709) (by decide +kernel)⟩
theorem lw_p26 : lw_okq (⟨"MutantRowsModel", "isMade", "(II)Z"⟩, 36) := ⟨⟨by decide +kernel, by decide +kernel⟩, List.mem_of_getElem? (i := 516) (by decide +kernel), List.mem_of_getElem? (i := 712) (by decide +kernel), List.mem_of_getElem? (i := 713) (by decide +kernel)⟩
theorem lw_p27 : lw_okq (⟨"MutantRowsModel", "isMutant", "(I)Z"⟩, 36) := ⟨⟨by decide +kernel, by decide +kernel⟩, List.mem_of_getElem? (i := 516) (by decide +kernel), List.mem_of_getElem? (i := 720) (by decide +kernel), List.mem_of_getElem? (i := 721) (by decide +kernel)⟩
theorem lw_p28 : lw_okq (⟨"MutantRowsModel", "isProved", "(I)Z"⟩, 36) := ⟨⟨by decide +kernel, by decide +kernel⟩, List.mem_of_getElem? (i := 516) (by decide +kernel), List.mem_of_getElem? (i := 724) (by decide +kernel), List.mem_of_getElem? (i := 725) (by decide +kernel)⟩
theorem lw_p29 : lw_okq (⟨"MutantRowsModel", "isNumber", "(IJ)Z"⟩, 36) := ⟨⟨by decide +kernel, by decide +kernel⟩, List.mem_of_getElem? (i := 516) (by decide +kernel), List.mem_of_getElem? (i := 728) (by decide +kernel), List.mem_of_getElem? (i := 729) (by decide +kernel)⟩
theorem lw_p30 : lw_okq (⟨"MutantRowsModel", "layAlike", "()V"⟩, 36) := ⟨⟨by decide +kernel, by decide +kernel⟩, List.mem_of_getElem? (i := 516) (by decide +kernel), List.mem_of_getElem? (i := 732) (by decide +kernel), List.mem_of_getElem? (i := 733) (by decide +kernel)⟩
theorem lw_p31 : lw_okq (⟨"MutantRowsModel", "areParts", "(II)Z"⟩, 36) := ⟨⟨by decide +kernel, by decide +kernel⟩, List.mem_of_getElem? (i := 516) (by decide +kernel), List.mem_of_getElem? (i := 736) (by decide +kernel), List.mem_of_getElem? (i := 737) (by decide +kernel)⟩
def lw_privs_2 : List (MethodName × Nat) := [(⟨"MutantRowsModel", "goOn", "(JI)V"⟩, 36), (⟨"MutantRowsModel", "is", "(II)Z"⟩, 36), (⟨"MutantRowsModel", "leave", "(J)V"⟩, 36), (⟨"MutantRowsModel", "choose", "(III)V"⟩, 36), (⟨"MutantRowsModel", "loop", "(III)V"⟩, 36), (⟨"MutantRowsModel", "both", "(III)V"⟩, 36), (⟨"MutantRowsModel", "made", "(IJJ)J"⟩, 36), (⟨"MutantRowsModel", "isTest", "(I)Z"⟩, 36), (⟨"MutantRowsModel", "isFor", "(II)Z"⟩, 36), (⟨"MutantRowsModel", "isCovered", "(I)Z"⟩, 36), (⟨"MutantRowsModel", "isMade", "(II)Z"⟩, 36), (⟨"MutantRowsModel", "isMutant", "(I)Z"⟩, 36), (⟨"MutantRowsModel", "isProved", "(I)Z"⟩, 36), (⟨"MutantRowsModel", "isNumber", "(IJ)Z"⟩, 36), (⟨"MutantRowsModel", "layAlike", "()V"⟩, 36), (⟨"MutantRowsModel", "areParts", "(II)Z"⟩, 36)]
theorem lw_r2 : ∀ q ∈ lw_privs_2, lw_okq q := List.forall_mem_cons.mpr ⟨lw_p16, List.forall_mem_cons.mpr ⟨lw_p17, List.forall_mem_cons.mpr ⟨lw_p18, List.forall_mem_cons.mpr ⟨lw_p19, List.forall_mem_cons.mpr ⟨lw_p20, List.forall_mem_cons.mpr ⟨lw_p21, List.forall_mem_cons.mpr ⟨lw_p22, List.forall_mem_cons.mpr ⟨lw_p23, List.forall_mem_cons.mpr ⟨lw_p24, List.forall_mem_cons.mpr ⟨lw_p25, List.forall_mem_cons.mpr ⟨lw_p26, List.forall_mem_cons.mpr ⟨lw_p27, List.forall_mem_cons.mpr ⟨lw_p28, List.forall_mem_cons.mpr ⟨lw_p29, List.forall_mem_cons.mpr ⟨lw_p30, List.forall_mem_cons.mpr ⟨lw_p31, fun _ h => absurd h List.not_mem_nil⟩⟩⟩⟩⟩⟩⟩⟩⟩⟩⟩⟩⟩⟩⟩⟩
theorem lw_p32 : lw_okq (⟨"MutantRowsModel", "layList", "(I)V"⟩, 36) := ⟨⟨by decide +kernel, by decide +kernel⟩, List.mem_of_getElem? (i := 516) (by decide +kernel), List.mem_of_getElem? (i := 745) (by decide +kernel), List.mem_of_getElem? (i := 746) (by decide +kernel)⟩
theorem lw_p33 : lw_okq (⟨"MutantRowsModel", "layFar", "(I)V"⟩, 36) := ⟨⟨by decide +kernel, by decide +kernel⟩, List.mem_of_getElem? (i := 516) (by decide +kernel), List.mem_of_getElem? (i := 749) (by decide +kernel), List.mem_of_getElem? (i := 750) (by decide +kernel)⟩
theorem lw_p34 : lw_okq (⟨"MutantRowsModel", "comeTo", "(II)V"⟩, 36) := ⟨⟨by decide +kernel, by decide +kernel⟩, List.mem_of_getElem? (i := 516) (by decide +kernel), List.mem_of_getElem? (i := 753) (by decide +kernel), List.mem_of_getElem? (i := 754) (by decide +kernel)⟩
theorem lw_p35 : lw_okq (⟨"MutantRowsModel", "isTouched", "(II)Z"⟩, 36) := ⟨⟨by decide +kernel, by decide +kernel⟩, List.mem_of_getElem? (i := 516) (by decide +kernel), List.mem_of_getElem? (i := 769) (by decide +kernel), List.mem_of_getElem? (i := 770) (by decide +kernel)⟩
def lw_privs_3 : List (MethodName × Nat) := [(⟨"MutantRowsModel", "layList", "(I)V"⟩, 36), (⟨"MutantRowsModel", "layFar", "(I)V"⟩, 36), (⟨"MutantRowsModel", "comeTo", "(II)V"⟩, 36), (⟨"MutantRowsModel", "isTouched", "(II)Z"⟩, 36)]
theorem lw_r3 : ∀ q ∈ lw_privs_3, lw_okq q := List.forall_mem_cons.mpr ⟨lw_p32, List.forall_mem_cons.mpr ⟨lw_p33, List.forall_mem_cons.mpr ⟨lw_p34, List.forall_mem_cons.mpr ⟨lw_p35, fun _ h => absurd h List.not_mem_nil⟩⟩⟩⟩
def lw_privs : List (MethodName × Nat) := lw_privs_1 ++ (lw_privs_2 ++ (lw_privs_3))
def lw_tbl : List Cond := k2_sels lw_privs ++ tables_1
theorem lw_privs_ok : ∀ q ∈ lw_privs, lw_okq q := by
  show ∀ q ∈ lw_privs_1 ++ (lw_privs_2 ++ (lw_privs_3)), lw_okq q
  exact List.forall_mem_append.mpr ⟨lw_r1, List.forall_mem_append.mpr ⟨lw_r2, lw_r3⟩⟩
end
section
abbrev R_M : String := "MutantRows"
def F_M : u_T := fun k => match k with
  | 0 => ("MutantRows", "trees", "LMutantRows$Trees;", true)
  | 1 => ("MutantRows", "trials", "LMutantRows$Trials;", true)
  | 2 => ("MutantRows", "mutants", "LMutantRows$Mutants;", true)
  | 3 => ("MutantRows", "lineup", "LMutantRows$Lineup;", true)
  | _ => ("MutantRows", "draw", "LMutantRows$Draw;", true)
def tt_M : Nat → FieldType := fun k => match k with
  | 0 => .object "MutantRows$Trees"
  | 1 => .object "MutantRows$Trials"
  | 2 => .object "MutantRows$Mutants"
  | 3 => .object "MutantRows$Lineup"
  | _ => .object "MutantRows$Draw"
theorem nn_M : ∀ a, a < 5 → ∀ b, b < 5 → a ≠ b → (F_M a).2.1 ≠ (F_M b).2.1 := by decide +kernel
theorem tt_M_ok : ∀ k, k < 5 → parseFieldDescriptor (F_M k).2.2.1 = some (tt_M k) := by decide +kernel
theorem ii_M : ∀ w ∈ u_ws R_M F_M 5, w ∈ lw_tbl.filter goodWord := by decide +kernel
abbrev R_T : String := "MutantRows$Trees"
def F_T : u_T := fun k => match k with
  | 0 => ("MutantRows$Trees", "kinds", "[I", true)
  | 1 => ("MutantRows$Trees", "numbers", "[J", true)
  | 2 => ("MutantRows$Trees", "firsts", "[I", true)
  | 3 => ("MutantRows$Trees", "seconds", "[I", true)
  | 4 => ("MutantRows$Trees", "thirds", "[I", true)
  | 5 => ("MutantRows$Trees", "shapes", "[I", true)
  | 6 => ("MutantRows$Trees", "ways", "[I", true)
  | _ => ("MutantRows$Trees", "size", "I", false)
def tt_T : Nat → FieldType := fun k => match k with
  | 0 => .array .int
  | 1 => .array .long
  | 2 => .array .int
  | 3 => .array .int
  | 4 => .array .int
  | 5 => .array .int
  | 6 => .array .int
  | _ => .int
theorem nn_T : ∀ a, a < 8 → ∀ b, b < 8 → a ≠ b → (F_T a).2.1 ≠ (F_T b).2.1 := by decide +kernel
theorem tt_T_ok : ∀ k, k < 8 → parseFieldDescriptor (F_T k).2.2.1 = some (tt_T k) := by decide +kernel
theorem ii_T : ∀ w ∈ u_ws R_T F_T 8, w ∈ lw_tbl.filter goodWord := by decide +kernel
abbrev R_U : String := "MutantRows$Trials"
def F_U : u_T := fun k => match k with
  | 0 => ("MutantRows$Trials", "worker", "LMutantRows$Worker;", true)
  | 1 => ("MutantRows$Trials", "roots", "[I", true)
  | 2 => ("MutantRows$Trials", "inputs", "[J", true)
  | 3 => ("MutantRows$Trials", "wanted", "[J", true)
  | 4 => ("MutantRows$Trials", "states", "[I", true)
  | 5 => ("MutantRows$Trials", "steps", "[I", true)
  | 6 => ("MutantRows$Trials", "covered", "[J", true)
  | _ => ("MutantRows$Trials", "size", "I", false)
def tt_U : Nat → FieldType := fun k => match k with
  | 0 => .object "MutantRows$Worker"
  | 1 => .array .int
  | 2 => .array .long
  | 3 => .array .long
  | 4 => .array .int
  | 5 => .array .int
  | 6 => .array .long
  | _ => .int
theorem nn_U : ∀ a, a < 8 → ∀ b, b < 8 → a ≠ b → (F_U a).2.1 ≠ (F_U b).2.1 := by decide +kernel
theorem tt_U_ok : ∀ k, k < 8 → parseFieldDescriptor (F_U k).2.2.1 = some (tt_U k) := by decide +kernel
theorem ii_U : ∀ w ∈ u_ws R_U F_U 8, w ∈ lw_tbl.filter goodWord := by decide +kernel
abbrev R_K : String := "MutantRows$Worker"
def F_K : u_T := fun k => match k with
  | 0 => ("MutantRows$Worker", "trees", "LMutantRows$Trees;", true)
  | 1 => ("MutantRows$Worker", "changeKind", "I", false)
  | 2 => ("MutantRows$Worker", "changedNode", "I", false)
  | 3 => ("MutantRows$Worker", "input", "J", false)
  | 4 => ("MutantRows$Worker", "bound", "I", false)
  | 5 => ("MutantRows$Worker", "steps", "I", false)
  | 6 => ("MutantRows$Worker", "cut", "Z", false)
  | 7 => ("MutantRows$Worker", "covered", "J", false)
  | _ => ("MutantRows$Worker", "acc", "J", false)
def tt_K : Nat → FieldType := fun k => match k with
  | 0 => .object "MutantRows$Trees"
  | 1 => .int
  | 2 => .int
  | 3 => .long
  | 4 => .int
  | 5 => .int
  | 6 => .boolean
  | 7 => .long
  | _ => .long
theorem nn_K : ∀ a, a < 9 → ∀ b, b < 9 → a ≠ b → (F_K a).2.1 ≠ (F_K b).2.1 := by decide +kernel
theorem tt_K_ok : ∀ k, k < 9 → parseFieldDescriptor (F_K k).2.2.1 = some (tt_K k) := by decide +kernel
theorem ii_K : ∀ w ∈ u_ws R_K F_K 9, w ∈ lw_tbl.filter goodWord := by decide +kernel
abbrev R_N : String := "MutantRows$Mutants"
def F_N : u_T := fun k => match k with
  | 0 => ("MutantRows$Mutants", "trees", "LMutantRows$Trees;", true)
  | 1 => ("MutantRows$Mutants", "kinds", "[I", true)
  | 2 => ("MutantRows$Mutants", "nodes", "[I", true)
  | 3 => ("MutantRows$Mutants", "outcomes", "[I", true)
  | 4 => ("MutantRows$Mutants", "enders", "[I", true)
  | 5 => ("MutantRows$Mutants", "madeAt", "[J", true)
  | _ => ("MutantRows$Mutants", "size", "I", false)
def tt_N : Nat → FieldType := fun k => match k with
  | 0 => .object "MutantRows$Trees"
  | 1 => .array .int
  | 2 => .array .int
  | 3 => .array .int
  | 4 => .array .int
  | 5 => .array .long
  | _ => .int
theorem nn_N : ∀ a, a < 7 → ∀ b, b < 7 → a ≠ b → (F_N a).2.1 ≠ (F_N b).2.1 := by decide +kernel
theorem tt_N_ok : ∀ k, k < 7 → parseFieldDescriptor (F_N k).2.2.1 = some (tt_N k) := by decide +kernel
theorem ii_N : ∀ w ∈ u_ws R_N F_N 7, w ∈ lw_tbl.filter goodWord := by decide +kernel
abbrev R_G : String := "MutantRows$Lineup"
def F_G : u_T := fun k => match k with
  | 0 => ("MutantRows$Lineup", "trees", "LMutantRows$Trees;", true)
  | 1 => ("MutantRows$Lineup", "trials", "LMutantRows$Trials;", true)
  | 2 => ("MutantRows$Lineup", "line", "[I", true)
  | 3 => ("MutantRows$Lineup", "distances", "[I", true)
  | _ => ("MutantRows$Lineup", "size", "I", false)
def tt_G : Nat → FieldType := fun k => match k with
  | 0 => .object "MutantRows$Trees"
  | 1 => .object "MutantRows$Trials"
  | 2 => .array .int
  | 3 => .array .int
  | _ => .int
theorem nn_G : ∀ a, a < 5 → ∀ b, b < 5 → a ≠ b → (F_G a).2.1 ≠ (F_G b).2.1 := by decide +kernel
theorem tt_G_ok : ∀ k, k < 5 → parseFieldDescriptor (F_G k).2.2.1 = some (tt_G k) := by decide +kernel
theorem ii_G : ∀ w ∈ u_ws R_G F_G 5, w ∈ lw_tbl.filter goodWord := by decide +kernel
abbrev R_D : String := "MutantRows$Draw"
def F_D : u_T := fun k => match k with
  | 0 => ("MutantRows$Draw", "row", "[I", true)
  | _ => ("MutantRows$Draw", "size", "I", false)
def tt_D : Nat → FieldType := fun k => match k with
  | 0 => .array .int
  | _ => .int
theorem nn_D : ∀ a, a < 2 → ∀ b, b < 2 → a ≠ b → (F_D a).2.1 ≠ (F_D b).2.1 := by decide +kernel
theorem tt_D_ok : ∀ k, k < 2 → parseFieldDescriptor (F_D k).2.2.1 = some (tt_D k) := by decide +kernel
theorem ii_D : ∀ w ∈ u_ws R_D F_D 2, w ∈ lw_tbl.filter goodWord := by decide +kernel
abbrev R_R : String := "MutantRowsModel"
def F_R : u_T := fun k => match k with
  | 0 => ("MutantRowsModel", "nodes", "I", false)
  | 1 => ("MutantRowsModel", "kindOf", "[I", true)
  | 2 => ("MutantRowsModel", "number", "[J", true)
  | 3 => ("MutantRowsModel", "partA", "[I", true)
  | 4 => ("MutantRowsModel", "partB", "[I", true)
  | 5 => ("MutantRowsModel", "partC", "[I", true)
  | 6 => ("MutantRowsModel", "tests", "I", false)
  | 7 => ("MutantRowsModel", "root", "[I", true)
  | 8 => ("MutantRowsModel", "input", "[J", true)
  | 9 => ("MutantRowsModel", "wanted", "[J", true)
  | 10 => ("MutantRowsModel", "passes", "[I", true)
  | 11 => ("MutantRowsModel", "stepsOf", "[I", true)
  | 12 => ("MutantRowsModel", "covers", "[Z", true)
  | 13 => ("MutantRowsModel", "covered", "[Z", true)
  | 14 => ("MutantRowsModel", "mutants", "I", false)
  | 15 => ("MutantRowsModel", "kindM", "[I", true)
  | 16 => ("MutantRowsModel", "nodeM", "[I", true)
  | 17 => ("MutantRowsModel", "outcome", "[I", true)
  | 18 => ("MutantRowsModel", "ender", "[I", true)
  | 19 => ("MutantRowsModel", "sampledMany", "I", false)
  | 20 => ("MutantRowsModel", "sampleRow", "[I", true)
  | 21 => ("MutantRowsModel", "changedKind", "I", false)
  | 22 => ("MutantRowsModel", "changedNode", "I", false)
  | 23 => ("MutantRowsModel", "steps", "I", false)
  | 24 => ("MutantRowsModel", "isCut", "Z", false)
  | 25 => ("MutantRowsModel", "marked", "[Z", true)
  | 26 => ("MutantRowsModel", "high", "I", false)
  | 27 => ("MutantRowsModel", "waits", "[I", true)
  | 28 => ("MutantRowsModel", "phase", "[I", true)
  | 29 => ("MutantRowsModel", "first", "[J", true)
  | 30 => ("MutantRowsModel", "acc", "J", false)
  | 31 => ("MutantRowsModel", "given", "J", false)
  | 32 => ("MutantRowsModel", "far", "[I", true)
  | 33 => ("MutantRowsModel", "listed", "I", false)
  | 34 => ("MutantRowsModel", "list", "[I", true)
  | _ => ("MutantRowsModel", "alike", "[Z", true)
def tt_R : Nat → FieldType := fun k => match k with
  | 0 => .int
  | 1 => .array .int
  | 2 => .array .long
  | 3 => .array .int
  | 4 => .array .int
  | 5 => .array .int
  | 6 => .int
  | 7 => .array .int
  | 8 => .array .long
  | 9 => .array .long
  | 10 => .array .int
  | 11 => .array .int
  | 12 => .array .boolean
  | 13 => .array .boolean
  | 14 => .int
  | 15 => .array .int
  | 16 => .array .int
  | 17 => .array .int
  | 18 => .array .int
  | 19 => .int
  | 20 => .array .int
  | 21 => .int
  | 22 => .int
  | 23 => .int
  | 24 => .boolean
  | 25 => .array .boolean
  | 26 => .int
  | 27 => .array .int
  | 28 => .array .int
  | 29 => .array .long
  | 30 => .long
  | 31 => .long
  | 32 => .array .int
  | 33 => .int
  | 34 => .array .int
  | _ => .array .boolean
theorem nn_R : ∀ a, a < 36 → ∀ b, b < 36 → a ≠ b → (F_R a).2.1 ≠ (F_R b).2.1 := by decide +kernel
theorem tt_R_ok : ∀ k, k < 36 → parseFieldDescriptor (F_R k).2.2.1 = some (tt_R k) := by decide +kernel
theorem ii_R : ∀ w ∈ u_ws R_R F_R 36, w ∈ lw_tbl.filter goodWord := by decide +kernel
abbrev R_L : String := "MutantRowsLaw"
abbrev R_J : String := "java/lang/Long"
abbrev vwCl : List vw_C := [(R_M, F_M, 5), (R_T, F_T, 8), (R_U, F_U, 8), (R_K, F_K, 9), (R_N, F_N, 7), (R_G, F_G, 5), (R_D, F_D, 2), (R_R, F_R, 36)]
/-- the words that a warming of the tables keeps -/
def TB : List Cond := lw_tbl.filter goodWord
theorem tb_in {w : Cond} (h : w ∈ lw_tbl) (g : goodWord w = true) : w ∈ TB := List.mem_filter.mpr ⟨h, g⟩
abbrev c_M_init : ByteArray := prog_1_method_1_code
abbrev y_M_init : MethodName := ⟨R_M, "<init>", "()V"⟩
abbrev c_T_init : ByteArray := prog_5_method_1_code
abbrev y_T_init : MethodName := ⟨R_T, "<init>", "()V"⟩
abbrev c_U_init : ByteArray := prog_6_method_1_code
abbrev y_U_init : MethodName := ⟨R_U, "<init>", "(LMutantRows$Trees;)V"⟩
abbrev c_K_init : ByteArray := prog_7_method_1_code
abbrev y_K_init : MethodName := ⟨R_K, "<init>", "(LMutantRows$Trees;)V"⟩
abbrev c_N_init : ByteArray := prog_4_method_1_code
abbrev y_N_init : MethodName := ⟨R_N, "<init>", "(LMutantRows$Trees;)V"⟩
abbrev c_G_init : ByteArray := prog_3_method_1_code
abbrev y_G_init : MethodName := ⟨R_G, "<init>", "(LMutantRows$Trees;LMutantRows$Trials;)V"⟩
abbrev c_D_init : ByteArray := prog_2_method_1_code
abbrev y_D_init : MethodName := ⟨R_D, "<init>", "()V"⟩
abbrev c_M_node : ByteArray := prog_1_method_2_code
abbrev y_M_node : MethodName := ⟨R_M, "node", "(IJII)I"⟩
abbrev c_T_grow : ByteArray := prog_5_method_10_code
abbrev y_T_grow : MethodName := ⟨R_T, "grow", "(IJII)I"⟩
abbrev c_T_partCount : ByteArray := prog_5_method_17_code
abbrev y_T_partCount : MethodName := ⟨R_T, "partCount", "(I)I"⟩
abbrev c_T_areEarlier : ByteArray := prog_5_method_16_code
abbrev y_T_areEarlier : MethodName := ⟨R_T, "areEarlier", "(IJII)Z"⟩
abbrev c_T_has : ByteArray := prog_5_method_3_code
abbrev y_T_has : MethodName := ⟨R_T, "has", "(I)Z"⟩
abbrev c_T_shapeFor : ByteArray := prog_5_method_18_code
abbrev y_T_shapeFor : MethodName := ⟨R_T, "shapeFor", "(I)I"⟩
abbrev c_T_haveAlikeParts : ByteArray := prog_5_method_19_code
abbrev y_T_haveAlikeParts : MethodName := ⟨R_T, "haveAlikeParts", "(II)Z"⟩
abbrev c_T_areAlike : ByteArray := prog_5_method_12_code
abbrev y_T_areAlike : MethodName := ⟨R_T, "areAlike", "(II)Z"⟩
abbrev c_M_test : ByteArray := prog_1_method_3_code
abbrev y_M_test : MethodName := ⟨R_M, "test", "(IJJ)I"⟩
abbrev c_U_add : ByteArray := prog_6_method_9_code
abbrev y_U_add : MethodName := ⟨R_U, "add", "(IJJ)I"⟩
abbrev c_U_attempt : ByteArray := prog_6_method_14_code
abbrev y_U_attempt : MethodName := ⟨R_U, "attempt", "(I)V"⟩
abbrev c_K_workOut : ByteArray := prog_7_method_7_code
abbrev y_K_workOut : MethodName := ⟨R_K, "workOut", "(IJI)J"⟩
abbrev c_K_worth : ByteArray := prog_7_method_8_code
abbrev y_K_worth : MethodName := ⟨R_K, "worth", "(I)J"⟩
abbrev c_M_bit : ByteArray := prog_1_method_17_code
abbrev y_M_bit : MethodName := ⟨R_M, "bit", "(I)J"⟩
abbrev c_T_kindOf : ByteArray := prog_5_method_4_code
abbrev y_T_kindOf : MethodName := ⟨R_T, "kindOf", "(I)I"⟩
abbrev c_T_numberOf : ByteArray := prog_5_method_5_code
abbrev y_T_numberOf : MethodName := ⟨R_T, "numberOf", "(I)J"⟩
abbrev c_K_worthOfChoice : ByteArray := prog_7_method_9_code
abbrev y_K_worthOfChoice : MethodName := ⟨R_K, "worthOfChoice", "(II)J"⟩
abbrev c_T_firstOf : ByteArray := prog_5_method_6_code
abbrev y_T_firstOf : MethodName := ⟨R_T, "firstOf", "(I)I"⟩
abbrev c_T_secondOf : ByteArray := prog_5_method_7_code
abbrev y_T_secondOf : MethodName := ⟨R_T, "secondOf", "(I)I"⟩
abbrev c_T_thirdOf : ByteArray := prog_5_method_8_code
abbrev y_T_thirdOf : MethodName := ⟨R_T, "thirdOf", "(I)I"⟩
abbrev c_K_worthOfLoop : ByteArray := prog_7_method_10_code
abbrev y_K_worthOfLoop : MethodName := ⟨R_K, "worthOfLoop", "(I)J"⟩
abbrev c_K_worthOfTwo : ByteArray := prog_7_method_11_code
abbrev y_K_worthOfTwo : MethodName := ⟨R_K, "worthOfTwo", "(III)J"⟩
abbrev c_K_isCut : ByteArray := prog_7_method_3_code
abbrev y_K_isCut : MethodName := ⟨R_K, "isCut", "()Z"⟩
abbrev c_K_steps : ByteArray := prog_7_method_2_code
abbrev y_K_steps : MethodName := ⟨R_K, "steps", "()I"⟩
abbrev c_K_covered : ByteArray := prog_7_method_4_code
abbrev y_K_covered : MethodName := ⟨R_K, "covered", "()J"⟩
abbrev c_M_about : ByteArray := prog_1_method_4_code
abbrev y_M_about : MethodName := ⟨R_M, "about", "(II)I"⟩
abbrev c_U_has : ByteArray := prog_6_method_3_code
abbrev y_U_has : MethodName := ⟨R_U, "has", "(I)Z"⟩
abbrev c_U_stateOf : ByteArray := prog_6_method_5_code
abbrev y_U_stateOf : MethodName := ⟨R_U, "stateOf", "(I)I"⟩
abbrev c_U_stepsOf : ByteArray := prog_6_method_6_code
abbrev y_U_stepsOf : MethodName := ⟨R_U, "stepsOf", "(I)I"⟩
abbrev c_U_coveredBy : ByteArray := prog_6_method_7_code
abbrev y_U_coveredBy : MethodName := ⟨R_U, "coveredBy", "(I)J"⟩
abbrev c_J_bitCount : ByteArray := prog_10_method_50_code
abbrev y_J_bitCount : MethodName := ⟨R_J, "bitCount", "(J)I"⟩
abbrev c_M_make : ByteArray := prog_1_method_5_code
abbrev y_M_make : MethodName := ⟨R_M, "make", "(I)I"⟩
abbrev c_M_isMutantKind : ByteArray := prog_1_method_15_code
abbrev y_M_isMutantKind : MethodName := ⟨R_M, "isMutantKind", "(I)Z"⟩
abbrev c_U_coveredByPassing : ByteArray := prog_6_method_11_code
abbrev y_U_coveredByPassing : MethodName := ⟨R_U, "coveredByPassing", "()J"⟩
abbrev c_N_size : ByteArray := prog_4_method_2_code
abbrev y_N_size : MethodName := ⟨R_N, "size", "()I"⟩
abbrev c_T_size : ByteArray := prog_5_method_2_code
abbrev y_T_size : MethodName := ⟨R_T, "size", "()I"⟩
abbrev c_M_fits : ByteArray := prog_1_method_16_code
abbrev y_M_fits : MethodName := ⟨R_M, "fits", "(II)Z"⟩
abbrev c_N_add : ByteArray := prog_4_method_8_code
abbrev y_N_add : MethodName := ⟨R_N, "add", "(II)V"⟩
abbrev c_N_settle : ByteArray := prog_4_method_9_code
abbrev y_N_settle : MethodName := ⟨R_N, "settle", "(III)V"⟩
abbrev c_M_mutant : ByteArray := prog_1_method_6_code
abbrev y_M_mutant : MethodName := ⟨R_M, "mutant", "(II)I"⟩
abbrev c_N_has : ByteArray := prog_4_method_3_code
abbrev y_N_has : MethodName := ⟨R_N, "has", "(I)Z"⟩
abbrev c_N_kindOf : ByteArray := prog_4_method_4_code
abbrev y_N_kindOf : MethodName := ⟨R_N, "kindOf", "(I)I"⟩
abbrev c_N_nodeOf : ByteArray := prog_4_method_5_code
abbrev y_N_nodeOf : MethodName := ⟨R_N, "nodeOf", "(I)I"⟩
abbrev c_N_outcomeOf : ByteArray := prog_4_method_6_code
abbrev y_N_outcomeOf : MethodName := ⟨R_N, "outcomeOf", "(I)I"⟩
abbrev c_N_enderOf : ByteArray := prog_4_method_7_code
abbrev y_N_enderOf : MethodName := ⟨R_N, "enderOf", "(I)I"⟩
abbrev c_N_isAlike : ByteArray := prog_4_method_12_code
abbrev y_N_isAlike : MethodName := ⟨R_N, "isAlike", "(I)Z"⟩
abbrev c_N_isOfDifferentNumbers : ByteArray := prog_4_method_13_code
abbrev y_N_isOfDifferentNumbers : MethodName := ⟨R_N, "isOfDifferentNumbers", "(I)Z"⟩
abbrev c_T_isNumber : ByteArray := prog_5_method_9_code
abbrev y_T_isNumber : MethodName := ⟨R_T, "isNumber", "(IJ)Z"⟩
abbrev c_M_run : ByteArray := prog_1_method_7_code
abbrev y_M_run : MethodName := ⟨R_M, "run", "(II)I"⟩
abbrev c_G_gather : ByteArray := prog_3_method_4_code
abbrev y_G_gather : MethodName := ⟨R_G, "gather", "(I)V"⟩
abbrev c_U_size : ByteArray := prog_6_method_2_code
abbrev y_U_size : MethodName := ⟨R_U, "size", "()I"⟩
abbrev c_U_passesAndCovers : ByteArray := prog_6_method_8_code
abbrev y_U_passesAndCovers : MethodName := ⟨R_U, "passesAndCovers", "(II)Z"⟩
abbrev c_U_rootOf : ByteArray := prog_6_method_4_code
abbrev y_U_rootOf : MethodName := ⟨R_U, "rootOf", "(I)I"⟩
abbrev c_T_wayBetween : ByteArray := prog_5_method_13_code
abbrev y_T_wayBetween : MethodName := ⟨R_T, "wayBetween", "(II)I"⟩
abbrev c_T_goOnFrom : ByteArray := prog_5_method_14_code
abbrev y_T_goOnFrom : MethodName := ⟨R_T, "goOnFrom", "(I)V"⟩
abbrev c_T_shorten : ByteArray := prog_5_method_15_code
abbrev y_T_shorten : MethodName := ⟨R_T, "shorten", "(II)V"⟩
abbrev c_G_insert : ByteArray := prog_3_method_5_code
abbrev y_G_insert : MethodName := ⟨R_G, "insert", "(II)V"⟩
abbrev c_G_size : ByteArray := prog_3_method_2_code
abbrev y_G_size : MethodName := ⟨R_G, "size", "()I"⟩
abbrev c_G_at : ByteArray := prog_3_method_3_code
abbrev y_G_at : MethodName := ⟨R_G, "at", "(I)I"⟩
abbrev c_U_judge : ByteArray := prog_6_method_13_code
abbrev y_U_judge : MethodName := ⟨R_U, "judge", "(IIII)I"⟩
abbrev c_K_changeAt : ByteArray := prog_7_method_5_code
abbrev y_K_changeAt : MethodName := ⟨R_K, "changeAt", "(II)V"⟩
abbrev c_K_unchange : ByteArray := prog_7_method_6_code
abbrev y_K_unchange : MethodName := ⟨R_K, "unchange", "()V"⟩
abbrev c_M_order : ByteArray := prog_1_method_8_code
abbrev y_M_order : MethodName := ⟨R_M, "order", "(II)I"⟩
abbrev c_M_distance : ByteArray := prog_1_method_9_code
abbrev y_M_distance : MethodName := ⟨R_M, "distance", "(II)I"⟩
abbrev c_M_change : ByteArray := prog_1_method_10_code
abbrev y_M_change : MethodName := ⟨R_M, "change", "(IJ)I"⟩
abbrev c_T_renumber : ByteArray := prog_5_method_11_code
abbrev y_T_renumber : MethodName := ⟨R_T, "renumber", "(IJ)V"⟩
abbrev c_U_retry : ByteArray := prog_6_method_10_code
abbrev y_U_retry : MethodName := ⟨R_U, "retry", "(I)J"⟩
abbrev c_N_forget : ByteArray := prog_4_method_10_code
abbrev y_N_forget : MethodName := ⟨R_N, "forget", "(J)V"⟩
abbrev c_U_countPassing : ByteArray := prog_6_method_12_code
abbrev y_U_countPassing : MethodName := ⟨R_U, "countPassing", "()I"⟩
abbrev c_M_sample : ByteArray := prog_1_method_11_code
abbrev y_M_sample : MethodName := ⟨R_M, "sample", "(JI)Z"⟩
abbrev c_D_shuffle : ByteArray := prog_2_method_3_code
abbrev y_D_shuffle : MethodName := ⟨R_D, "shuffle", "(JII)V"⟩
abbrev c_M_sampled : ByteArray := prog_1_method_12_code
abbrev y_M_sampled : MethodName := ⟨R_M, "sampled", "(I)I"⟩
abbrev c_D_at : ByteArray := prog_2_method_2_code
abbrev y_D_at : MethodName := ⟨R_D, "at", "(I)I"⟩
abbrev c_M_score : ByteArray := prog_1_method_13_code
abbrev y_M_score : MethodName := ⟨R_M, "score", "(II)I"⟩
abbrev c_N_isOnSide : ByteArray := prog_4_method_11_code
abbrev y_N_isOnSide : MethodName := ⟨R_N, "isOnSide", "(II)Z"⟩
abbrev c_M_miss : ByteArray := prog_1_method_14_code
abbrev y_M_miss : MethodName := ⟨R_M, "miss", "(I)I"⟩
abbrev c_R_init : ByteArray := prog_9_method_1_code
abbrev y_R_init : MethodName := ⟨R_R, "<init>", "()V"⟩
abbrev c_R_node : ByteArray := prog_9_method_7_code
abbrev y_R_node : MethodName := ⟨R_R, "node", "(IJII)I"⟩
abbrev c_R_in : ByteArray := prog_9_method_2_code
abbrev y_R_in : MethodName := ⟨R_R, "in", "(JJJ)Z"⟩
abbrev c_R_parts : ByteArray := prog_9_method_6_code
abbrev y_R_parts : MethodName := ⟨R_R, "parts", "(I)I"⟩
abbrev c_R_isNode : ByteArray := prog_9_method_3_code
abbrev y_R_isNode : MethodName := ⟨R_R, "isNode", "(J)Z"⟩
abbrev c_R_test : ByteArray := prog_9_method_18_code
abbrev y_R_test : MethodName := ⟨R_R, "test", "(IJJ)I"⟩
abbrev c_R_tryOut : ByteArray := prog_9_method_17_code
abbrev y_R_tryOut : MethodName := ⟨R_R, "tryOut", "(I)V"⟩
abbrev c_R_workOut : ByteArray := prog_9_method_10_code
abbrev y_R_workOut : MethodName := ⟨R_R, "workOut", "(IJI)V"⟩
abbrev c_R_enter : ByteArray := prog_9_method_8_code
abbrev y_R_enter : MethodName := ⟨R_R, "enter", "(II)V"⟩
abbrev c_R_goOn : ByteArray := prog_9_method_11_code
abbrev y_R_goOn : MethodName := ⟨R_R, "goOn", "(JI)V"⟩
abbrev c_R_is : ByteArray := prog_9_method_12_code
abbrev y_R_is : MethodName := ⟨R_R, "is", "(II)Z"⟩
abbrev c_R_leave : ByteArray := prog_9_method_9_code
abbrev y_R_leave : MethodName := ⟨R_R, "leave", "(J)V"⟩
abbrev c_R_choose : ByteArray := prog_9_method_15_code
abbrev y_R_choose : MethodName := ⟨R_R, "choose", "(III)V"⟩
abbrev c_R_loop : ByteArray := prog_9_method_16_code
abbrev y_R_loop : MethodName := ⟨R_R, "loop", "(III)V"⟩
abbrev c_R_both : ByteArray := prog_9_method_13_code
abbrev y_R_both : MethodName := ⟨R_R, "both", "(III)V"⟩
abbrev c_R_made : ByteArray := prog_9_method_14_code
abbrev y_R_made : MethodName := ⟨R_R, "made", "(IJJ)J"⟩
abbrev c_R_about : ByteArray := prog_9_method_19_code
abbrev y_R_about : MethodName := ⟨R_R, "about", "(II)I"⟩
abbrev c_R_isTest : ByteArray := prog_9_method_4_code
abbrev y_R_isTest : MethodName := ⟨R_R, "isTest", "(I)Z"⟩
abbrev c_R_make : ByteArray := prog_9_method_23_code
abbrev y_R_make : MethodName := ⟨R_R, "make", "(I)I"⟩
abbrev c_R_isFor : ByteArray := prog_9_method_20_code
abbrev y_R_isFor : MethodName := ⟨R_R, "isFor", "(II)Z"⟩
abbrev c_R_isCovered : ByteArray := prog_9_method_21_code
abbrev y_R_isCovered : MethodName := ⟨R_R, "isCovered", "(I)Z"⟩
abbrev c_R_isMade : ByteArray := prog_9_method_22_code
abbrev y_R_isMade : MethodName := ⟨R_R, "isMade", "(II)Z"⟩
abbrev c_R_mutant : ByteArray := prog_9_method_28_code
abbrev y_R_mutant : MethodName := ⟨R_R, "mutant", "(II)I"⟩
abbrev c_R_isMutant : ByteArray := prog_9_method_5_code
abbrev y_R_isMutant : MethodName := ⟨R_R, "isMutant", "(I)Z"⟩
abbrev c_R_isProved : ByteArray := prog_9_method_27_code
abbrev y_R_isProved : MethodName := ⟨R_R, "isProved", "(I)Z"⟩
abbrev c_R_isNumber : ByteArray := prog_9_method_26_code
abbrev y_R_isNumber : MethodName := ⟨R_R, "isNumber", "(IJ)Z"⟩
abbrev c_R_layAlike : ByteArray := prog_9_method_24_code
abbrev y_R_layAlike : MethodName := ⟨R_R, "layAlike", "()V"⟩
abbrev c_R_areParts : ByteArray := prog_9_method_25_code
abbrev y_R_areParts : MethodName := ⟨R_R, "areParts", "(II)Z"⟩
abbrev c_R_run : ByteArray := prog_9_method_32_code
abbrev y_R_run : MethodName := ⟨R_R, "run", "(II)I"⟩
abbrev c_R_layList : ByteArray := prog_9_method_31_code
abbrev y_R_layList : MethodName := ⟨R_R, "layList", "(I)V"⟩
abbrev c_R_layFar : ByteArray := prog_9_method_29_code
abbrev y_R_layFar : MethodName := ⟨R_R, "layFar", "(I)V"⟩
abbrev c_R_comeTo : ByteArray := prog_9_method_30_code
abbrev y_R_comeTo : MethodName := ⟨R_R, "comeTo", "(II)V"⟩
abbrev c_R_order : ByteArray := prog_9_method_33_code
abbrev y_R_order : MethodName := ⟨R_R, "order", "(II)I"⟩
abbrev c_R_distance : ByteArray := prog_9_method_34_code
abbrev y_R_distance : MethodName := ⟨R_R, "distance", "(II)I"⟩
abbrev c_R_change : ByteArray := prog_9_method_35_code
abbrev y_R_change : MethodName := ⟨R_R, "change", "(IJ)I"⟩
abbrev c_R_isTouched : ByteArray := prog_9_method_36_code
abbrev y_R_isTouched : MethodName := ⟨R_R, "isTouched", "(II)Z"⟩
abbrev c_R_sample : ByteArray := prog_9_method_37_code
abbrev y_R_sample : MethodName := ⟨R_R, "sample", "(JI)Z"⟩
abbrev c_R_sampled : ByteArray := prog_9_method_38_code
abbrev y_R_sampled : MethodName := ⟨R_R, "sampled", "(I)I"⟩
abbrev c_R_score : ByteArray := prog_9_method_39_code
abbrev y_R_score : MethodName := ⟨R_R, "score", "(II)I"⟩
abbrev c_R_miss : ByteArray := prog_9_method_40_code
abbrev y_R_miss : MethodName := ⟨R_R, "miss", "(I)I"⟩
end
section
theorem d_M_init_0 : decode c_M_init 0 = .ok (.aload_n 0, 1) := by decide +kernel
theorem d_M_init_1 : decode c_M_init 1 = .ok (.invokespecial 1, 3) := by decide +kernel
theorem d_M_init_4 : decode c_M_init 4 = .ok (.aload_n 0, 1) := by decide +kernel
theorem d_M_init_5 : decode c_M_init 5 = .ok (.new 7, 3) := by decide +kernel
theorem d_M_init_8 : decode c_M_init 8 = .ok (.dup, 1) := by decide +kernel
theorem d_M_init_9 : decode c_M_init 9 = .ok (.invokespecial 9, 3) := by decide +kernel
theorem d_M_init_12 : decode c_M_init 12 = .ok (.putfield 10, 3) := by decide +kernel
theorem d_M_init_15 : decode c_M_init 15 = .ok (.aload_n 0, 1) := by decide +kernel
theorem d_M_init_16 : decode c_M_init 16 = .ok (.new 16, 3) := by decide +kernel
theorem d_M_init_19 : decode c_M_init 19 = .ok (.dup, 1) := by decide +kernel
theorem d_M_init_20 : decode c_M_init 20 = .ok (.aload_n 0, 1) := by decide +kernel
theorem d_M_init_21 : decode c_M_init 21 = .ok (.getfield 10, 3) := by decide +kernel
theorem d_M_init_24 : decode c_M_init 24 = .ok (.invokespecial 18, 3) := by decide +kernel
theorem d_M_init_27 : decode c_M_init 27 = .ok (.putfield 21, 3) := by decide +kernel
theorem d_M_init_30 : decode c_M_init 30 = .ok (.aload_n 0, 1) := by decide +kernel
theorem d_M_init_31 : decode c_M_init 31 = .ok (.new 25, 3) := by decide +kernel
theorem d_M_init_34 : decode c_M_init 34 = .ok (.dup, 1) := by decide +kernel
theorem d_M_init_35 : decode c_M_init 35 = .ok (.aload_n 0, 1) := by decide +kernel
theorem d_M_init_36 : decode c_M_init 36 = .ok (.getfield 10, 3) := by decide +kernel
theorem d_M_init_39 : decode c_M_init 39 = .ok (.invokespecial 27, 3) := by decide +kernel
theorem d_M_init_42 : decode c_M_init 42 = .ok (.putfield 28, 3) := by decide +kernel
theorem d_M_init_45 : decode c_M_init 45 = .ok (.aload_n 0, 1) := by decide +kernel
theorem d_M_init_46 : decode c_M_init 46 = .ok (.new 32, 3) := by decide +kernel
theorem d_M_init_49 : decode c_M_init 49 = .ok (.dup, 1) := by decide +kernel
theorem d_M_init_50 : decode c_M_init 50 = .ok (.aload_n 0, 1) := by decide +kernel
theorem d_M_init_51 : decode c_M_init 51 = .ok (.getfield 10, 3) := by decide +kernel
theorem d_M_init_54 : decode c_M_init 54 = .ok (.aload_n 0, 1) := by decide +kernel
theorem d_M_init_55 : decode c_M_init 55 = .ok (.getfield 21, 3) := by decide +kernel
theorem d_M_init_58 : decode c_M_init 58 = .ok (.invokespecial 34, 3) := by decide +kernel
theorem d_M_init_61 : decode c_M_init 61 = .ok (.putfield 37, 3) := by decide +kernel
theorem d_M_init_64 : decode c_M_init 64 = .ok (.aload_n 0, 1) := by decide +kernel
theorem d_M_init_65 : decode c_M_init 65 = .ok (.new 41, 3) := by decide +kernel
theorem d_M_init_68 : decode c_M_init 68 = .ok (.dup, 1) := by decide +kernel
theorem d_M_init_69 : decode c_M_init 69 = .ok (.invokespecial 43, 3) := by decide +kernel
theorem d_M_init_72 : decode c_M_init 72 = .ok (.putfield 44, 3) := by decide +kernel
theorem d_M_init_75 : decode c_M_init 75 = .ok (.return_, 1) := by decide +kernel
theorem d_T_init_0 : decode c_T_init 0 = .ok (.aload_n 0, 1) := by decide +kernel
theorem d_T_init_1 : decode c_T_init 1 = .ok (.invokespecial 3, 3) := by decide +kernel
theorem d_T_init_4 : decode c_T_init 4 = .ok (.aload_n 0, 1) := by decide +kernel
theorem d_T_init_5 : decode c_T_init 5 = .ok (.bipush 64, 2) := by decide +kernel
theorem d_T_init_7 : decode c_T_init 7 = .ok (.newarray .int, 2) := by decide +kernel
theorem d_T_init_9 : decode c_T_init 9 = .ok (.putfield 9, 3) := by decide +kernel
theorem d_T_init_12 : decode c_T_init 12 = .ok (.aload_n 0, 1) := by decide +kernel
theorem d_T_init_13 : decode c_T_init 13 = .ok (.bipush 64, 2) := by decide +kernel
theorem d_T_init_15 : decode c_T_init 15 = .ok (.newarray .long, 2) := by decide +kernel
theorem d_T_init_17 : decode c_T_init 17 = .ok (.putfield 15, 3) := by decide +kernel
theorem d_T_init_20 : decode c_T_init 20 = .ok (.aload_n 0, 1) := by decide +kernel
theorem d_T_init_21 : decode c_T_init 21 = .ok (.bipush 64, 2) := by decide +kernel
theorem d_T_init_23 : decode c_T_init 23 = .ok (.newarray .int, 2) := by decide +kernel
theorem d_T_init_25 : decode c_T_init 25 = .ok (.putfield 19, 3) := by decide +kernel
theorem d_T_init_28 : decode c_T_init 28 = .ok (.aload_n 0, 1) := by decide +kernel
theorem d_T_init_29 : decode c_T_init 29 = .ok (.bipush 64, 2) := by decide +kernel
theorem d_T_init_31 : decode c_T_init 31 = .ok (.newarray .int, 2) := by decide +kernel
theorem d_T_init_33 : decode c_T_init 33 = .ok (.putfield 22, 3) := by decide +kernel
theorem d_T_init_36 : decode c_T_init 36 = .ok (.aload_n 0, 1) := by decide +kernel
theorem d_T_init_37 : decode c_T_init 37 = .ok (.bipush 64, 2) := by decide +kernel
theorem d_T_init_39 : decode c_T_init 39 = .ok (.newarray .int, 2) := by decide +kernel
theorem d_T_init_41 : decode c_T_init 41 = .ok (.putfield 25, 3) := by decide +kernel
theorem d_T_init_44 : decode c_T_init 44 = .ok (.aload_n 0, 1) := by decide +kernel
theorem d_T_init_45 : decode c_T_init 45 = .ok (.bipush 64, 2) := by decide +kernel
theorem d_T_init_47 : decode c_T_init 47 = .ok (.newarray .int, 2) := by decide +kernel
theorem d_T_init_49 : decode c_T_init 49 = .ok (.putfield 28, 3) := by decide +kernel
theorem d_T_init_52 : decode c_T_init 52 = .ok (.aload_n 0, 1) := by decide +kernel
theorem d_T_init_53 : decode c_T_init 53 = .ok (.bipush 64, 2) := by decide +kernel
theorem d_T_init_55 : decode c_T_init 55 = .ok (.newarray .int, 2) := by decide +kernel
theorem d_T_init_57 : decode c_T_init 57 = .ok (.putfield 31, 3) := by decide +kernel
theorem d_T_init_60 : decode c_T_init 60 = .ok (.aload_n 0, 1) := by decide +kernel
theorem d_T_init_61 : decode c_T_init 61 = .ok (.iconst 0, 1) := by decide +kernel
theorem d_T_init_62 : decode c_T_init 62 = .ok (.putfield 34, 3) := by decide +kernel
theorem d_T_init_65 : decode c_T_init 65 = .ok (.return_, 1) := by decide +kernel
theorem d_U_init_0 : decode c_U_init 0 = .ok (.aload_n 0, 1) := by decide +kernel
theorem d_U_init_1 : decode c_U_init 1 = .ok (.invokespecial 3, 3) := by decide +kernel
theorem d_U_init_4 : decode c_U_init 4 = .ok (.aload_n 0, 1) := by decide +kernel
theorem d_U_init_5 : decode c_U_init 5 = .ok (.new 9, 3) := by decide +kernel
theorem d_U_init_8 : decode c_U_init 8 = .ok (.dup, 1) := by decide +kernel
theorem d_U_init_9 : decode c_U_init 9 = .ok (.aload_n 1, 1) := by decide +kernel
theorem d_U_init_10 : decode c_U_init 10 = .ok (.invokespecial 11, 3) := by decide +kernel
theorem d_U_init_13 : decode c_U_init 13 = .ok (.putfield 14, 3) := by decide +kernel
theorem d_U_init_16 : decode c_U_init 16 = .ok (.aload_n 0, 1) := by decide +kernel
theorem d_U_init_17 : decode c_U_init 17 = .ok (.bipush 24, 2) := by decide +kernel
theorem d_U_init_19 : decode c_U_init 19 = .ok (.newarray .int, 2) := by decide +kernel
theorem d_U_init_21 : decode c_U_init 21 = .ok (.putfield 20, 3) := by decide +kernel
theorem d_U_init_24 : decode c_U_init 24 = .ok (.aload_n 0, 1) := by decide +kernel
theorem d_U_init_25 : decode c_U_init 25 = .ok (.bipush 24, 2) := by decide +kernel
theorem d_U_init_27 : decode c_U_init 27 = .ok (.newarray .long, 2) := by decide +kernel
theorem d_U_init_29 : decode c_U_init 29 = .ok (.putfield 24, 3) := by decide +kernel
theorem d_U_init_32 : decode c_U_init 32 = .ok (.aload_n 0, 1) := by decide +kernel
theorem d_U_init_33 : decode c_U_init 33 = .ok (.bipush 24, 2) := by decide +kernel
theorem d_U_init_35 : decode c_U_init 35 = .ok (.newarray .long, 2) := by decide +kernel
theorem d_U_init_37 : decode c_U_init 37 = .ok (.putfield 28, 3) := by decide +kernel
theorem d_U_init_40 : decode c_U_init 40 = .ok (.aload_n 0, 1) := by decide +kernel
theorem d_U_init_41 : decode c_U_init 41 = .ok (.bipush 24, 2) := by decide +kernel
theorem d_U_init_43 : decode c_U_init 43 = .ok (.newarray .int, 2) := by decide +kernel
theorem d_U_init_45 : decode c_U_init 45 = .ok (.putfield 31, 3) := by decide +kernel
theorem d_U_init_48 : decode c_U_init 48 = .ok (.aload_n 0, 1) := by decide +kernel
theorem d_U_init_49 : decode c_U_init 49 = .ok (.bipush 24, 2) := by decide +kernel
theorem d_U_init_51 : decode c_U_init 51 = .ok (.newarray .int, 2) := by decide +kernel
theorem d_U_init_53 : decode c_U_init 53 = .ok (.putfield 34, 3) := by decide +kernel
theorem d_U_init_56 : decode c_U_init 56 = .ok (.aload_n 0, 1) := by decide +kernel
theorem d_U_init_57 : decode c_U_init 57 = .ok (.bipush 24, 2) := by decide +kernel
theorem d_U_init_59 : decode c_U_init 59 = .ok (.newarray .long, 2) := by decide +kernel
theorem d_U_init_61 : decode c_U_init 61 = .ok (.putfield 37, 3) := by decide +kernel
theorem d_U_init_64 : decode c_U_init 64 = .ok (.aload_n 0, 1) := by decide +kernel
theorem d_U_init_65 : decode c_U_init 65 = .ok (.iconst 0, 1) := by decide +kernel
theorem d_U_init_66 : decode c_U_init 66 = .ok (.putfield 40, 3) := by decide +kernel
theorem d_U_init_69 : decode c_U_init 69 = .ok (.return_, 1) := by decide +kernel
theorem d_K_init_0 : decode c_K_init 0 = .ok (.aload_n 0, 1) := by decide +kernel
theorem d_K_init_1 : decode c_K_init 1 = .ok (.invokespecial 3, 3) := by decide +kernel
theorem d_K_init_4 : decode c_K_init 4 = .ok (.aload_n 0, 1) := by decide +kernel
theorem d_K_init_5 : decode c_K_init 5 = .ok (.aload_n 1, 1) := by decide +kernel
theorem d_K_init_6 : decode c_K_init 6 = .ok (.putfield 9, 3) := by decide +kernel
theorem d_K_init_9 : decode c_K_init 9 = .ok (.aload_n 0, 1) := by decide +kernel
theorem d_K_init_10 : decode c_K_init 10 = .ok (.iconst (-1), 1) := by decide +kernel
theorem d_K_init_11 : decode c_K_init 11 = .ok (.putfield 15, 3) := by decide +kernel
theorem d_K_init_14 : decode c_K_init 14 = .ok (.aload_n 0, 1) := by decide +kernel
theorem d_K_init_15 : decode c_K_init 15 = .ok (.iconst (-1), 1) := by decide +kernel
theorem d_K_init_16 : decode c_K_init 16 = .ok (.putfield 19, 3) := by decide +kernel
theorem d_K_init_19 : decode c_K_init 19 = .ok (.return_, 1) := by decide +kernel
theorem d_N_init_0 : decode c_N_init 0 = .ok (.aload_n 0, 1) := by decide +kernel
theorem d_N_init_1 : decode c_N_init 1 = .ok (.invokespecial 3, 3) := by decide +kernel
theorem d_N_init_4 : decode c_N_init 4 = .ok (.aload_n 0, 1) := by decide +kernel
theorem d_N_init_5 : decode c_N_init 5 = .ok (.aload_n 1, 1) := by decide +kernel
theorem d_N_init_6 : decode c_N_init 6 = .ok (.putfield 9, 3) := by decide +kernel
theorem d_N_init_9 : decode c_N_init 9 = .ok (.aload_n 0, 1) := by decide +kernel
theorem d_N_init_10 : decode c_N_init 10 = .ok (.bipush 100, 2) := by decide +kernel
theorem d_N_init_12 : decode c_N_init 12 = .ok (.newarray .int, 2) := by decide +kernel
theorem d_N_init_14 : decode c_N_init 14 = .ok (.putfield 15, 3) := by decide +kernel
theorem d_N_init_17 : decode c_N_init 17 = .ok (.aload_n 0, 1) := by decide +kernel
theorem d_N_init_18 : decode c_N_init 18 = .ok (.bipush 100, 2) := by decide +kernel
theorem d_N_init_20 : decode c_N_init 20 = .ok (.newarray .int, 2) := by decide +kernel
theorem d_N_init_22 : decode c_N_init 22 = .ok (.putfield 19, 3) := by decide +kernel
theorem d_N_init_25 : decode c_N_init 25 = .ok (.aload_n 0, 1) := by decide +kernel
theorem d_N_init_26 : decode c_N_init 26 = .ok (.bipush 100, 2) := by decide +kernel
theorem d_N_init_28 : decode c_N_init 28 = .ok (.newarray .int, 2) := by decide +kernel
theorem d_N_init_30 : decode c_N_init 30 = .ok (.putfield 22, 3) := by decide +kernel
theorem d_N_init_33 : decode c_N_init 33 = .ok (.aload_n 0, 1) := by decide +kernel
theorem d_N_init_34 : decode c_N_init 34 = .ok (.bipush 100, 2) := by decide +kernel
theorem d_N_init_36 : decode c_N_init 36 = .ok (.newarray .int, 2) := by decide +kernel
theorem d_N_init_38 : decode c_N_init 38 = .ok (.putfield 25, 3) := by decide +kernel
theorem d_N_init_41 : decode c_N_init 41 = .ok (.aload_n 0, 1) := by decide +kernel
theorem d_N_init_42 : decode c_N_init 42 = .ok (.bipush 6, 2) := by decide +kernel
theorem d_N_init_44 : decode c_N_init 44 = .ok (.newarray .long, 2) := by decide +kernel
theorem d_N_init_46 : decode c_N_init 46 = .ok (.putfield 28, 3) := by decide +kernel
theorem d_N_init_49 : decode c_N_init 49 = .ok (.aload_n 0, 1) := by decide +kernel
theorem d_N_init_50 : decode c_N_init 50 = .ok (.iconst 0, 1) := by decide +kernel
theorem d_N_init_51 : decode c_N_init 51 = .ok (.putfield 32, 3) := by decide +kernel
theorem d_N_init_54 : decode c_N_init 54 = .ok (.return_, 1) := by decide +kernel
theorem d_G_init_0 : decode c_G_init 0 = .ok (.aload_n 0, 1) := by decide +kernel
theorem d_G_init_1 : decode c_G_init 1 = .ok (.invokespecial 3, 3) := by decide +kernel
theorem d_G_init_4 : decode c_G_init 4 = .ok (.aload_n 0, 1) := by decide +kernel
theorem d_G_init_5 : decode c_G_init 5 = .ok (.aload_n 1, 1) := by decide +kernel
theorem d_G_init_6 : decode c_G_init 6 = .ok (.putfield 9, 3) := by decide +kernel
theorem d_G_init_9 : decode c_G_init 9 = .ok (.aload_n 0, 1) := by decide +kernel
theorem d_G_init_10 : decode c_G_init 10 = .ok (.aload_n 2, 1) := by decide +kernel
theorem d_G_init_11 : decode c_G_init 11 = .ok (.putfield 15, 3) := by decide +kernel
theorem d_G_init_14 : decode c_G_init 14 = .ok (.aload_n 0, 1) := by decide +kernel
theorem d_G_init_15 : decode c_G_init 15 = .ok (.bipush 24, 2) := by decide +kernel
theorem d_G_init_17 : decode c_G_init 17 = .ok (.newarray .int, 2) := by decide +kernel
theorem d_G_init_19 : decode c_G_init 19 = .ok (.putfield 19, 3) := by decide +kernel
theorem d_G_init_22 : decode c_G_init 22 = .ok (.aload_n 0, 1) := by decide +kernel
theorem d_G_init_23 : decode c_G_init 23 = .ok (.bipush 24, 2) := by decide +kernel
theorem d_G_init_25 : decode c_G_init 25 = .ok (.newarray .int, 2) := by decide +kernel
theorem d_G_init_27 : decode c_G_init 27 = .ok (.putfield 23, 3) := by decide +kernel
theorem d_G_init_30 : decode c_G_init 30 = .ok (.aload_n 0, 1) := by decide +kernel
theorem d_G_init_31 : decode c_G_init 31 = .ok (.iconst 0, 1) := by decide +kernel
theorem d_G_init_32 : decode c_G_init 32 = .ok (.putfield 26, 3) := by decide +kernel
theorem d_G_init_35 : decode c_G_init 35 = .ok (.return_, 1) := by decide +kernel
theorem d_D_init_0 : decode c_D_init 0 = .ok (.aload_n 0, 1) := by decide +kernel
theorem d_D_init_1 : decode c_D_init 1 = .ok (.invokespecial 3, 3) := by decide +kernel
theorem d_D_init_4 : decode c_D_init 4 = .ok (.aload_n 0, 1) := by decide +kernel
theorem d_D_init_5 : decode c_D_init 5 = .ok (.bipush 100, 2) := by decide +kernel
theorem d_D_init_7 : decode c_D_init 7 = .ok (.newarray .int, 2) := by decide +kernel
theorem d_D_init_9 : decode c_D_init 9 = .ok (.putfield 9, 3) := by decide +kernel
theorem d_D_init_12 : decode c_D_init 12 = .ok (.aload_n 0, 1) := by decide +kernel
theorem d_D_init_13 : decode c_D_init 13 = .ok (.iconst 0, 1) := by decide +kernel
theorem d_D_init_14 : decode c_D_init 14 = .ok (.putfield 15, 3) := by decide +kernel
theorem d_D_init_17 : decode c_D_init 17 = .ok (.return_, 1) := by decide +kernel
theorem d_M_node_0 : decode c_M_node 0 = .ok (.aload_n 0, 1) := by decide +kernel
theorem d_M_node_1 : decode c_M_node 1 = .ok (.getfield 10, 3) := by decide +kernel
theorem d_M_node_4 : decode c_M_node 4 = .ok (.iload_n 1, 1) := by decide +kernel
theorem d_M_node_5 : decode c_M_node 5 = .ok (.lload_n 2, 1) := by decide +kernel
theorem d_M_node_6 : decode c_M_node 6 = .ok (.iload 4, 2) := by decide +kernel
theorem d_M_node_8 : decode c_M_node 8 = .ok (.iload 5, 2) := by decide +kernel
theorem d_M_node_10 : decode c_M_node 10 = .ok (.invokevirtual 48, 3) := by decide +kernel
theorem d_M_node_13 : decode c_M_node 13 = .ok (.ireturn, 1) := by decide +kernel
theorem d_T_grow_0 : decode c_T_grow 0 = .ok (.aload_n 0, 1) := by decide +kernel
theorem d_T_grow_1 : decode c_T_grow 1 = .ok (.getfield 34, 3) := by decide +kernel
theorem d_T_grow_4 : decode c_T_grow 4 = .ok (.bipush 64, 2) := by decide +kernel
theorem d_T_grow_6 : decode c_T_grow 6 = .ok (.if_icmp .ge 13, 3) := by decide +kernel
theorem d_T_grow_9 : decode c_T_grow 9 = .ok (.iload_n 1, 1) := by decide +kernel
theorem d_T_grow_10 : decode c_T_grow 10 = .ok (.ifCond .lt 9, 3) := by decide +kernel
theorem d_T_grow_13 : decode c_T_grow 13 = .ok (.iload_n 1, 1) := by decide +kernel
theorem d_T_grow_14 : decode c_T_grow 14 = .ok (.bipush 9, 2) := by decide +kernel
theorem d_T_grow_16 : decode c_T_grow 16 = .ok (.if_icmp .le 5, 3) := by decide +kernel
theorem d_T_grow_19 : decode c_T_grow 19 = .ok (.iconst (-1), 1) := by decide +kernel
theorem d_T_grow_20 : decode c_T_grow 20 = .ok (.ireturn, 1) := by decide +kernel
theorem d_T_grow_21 : decode c_T_grow 21 = .ok (.iload_n 1, 1) := by decide +kernel
theorem d_T_grow_22 : decode c_T_grow 22 = .ok (.invokestatic 38, 3) := by decide +kernel
theorem d_T_grow_25 : decode c_T_grow 25 = .ok (.istore 6, 2) := by decide +kernel
theorem d_T_grow_27 : decode c_T_grow 27 = .ok (.iload 6, 2) := by decide +kernel
theorem d_T_grow_29 : decode c_T_grow 29 = .ok (.ifCond .le 19, 3) := by decide +kernel
theorem d_T_grow_32 : decode c_T_grow 32 = .ok (.aload_n 0, 1) := by decide +kernel
theorem d_T_grow_33 : decode c_T_grow 33 = .ok (.iload 6, 2) := by decide +kernel
theorem d_T_grow_35 : decode c_T_grow 35 = .ok (.lload_n 2, 1) := by decide +kernel
theorem d_T_grow_36 : decode c_T_grow 36 = .ok (.iload 4, 2) := by decide +kernel
theorem d_T_grow_38 : decode c_T_grow 38 = .ok (.iload 5, 2) := by decide +kernel
theorem d_T_grow_40 : decode c_T_grow 40 = .ok (.invokevirtual 42, 3) := by decide +kernel
theorem d_T_grow_43 : decode c_T_grow 43 = .ok (.ifCond .ne 5, 3) := by decide +kernel
theorem d_T_grow_46 : decode c_T_grow 46 = .ok (.iconst (-1), 1) := by decide +kernel
theorem d_T_grow_47 : decode c_T_grow 47 = .ok (.ireturn, 1) := by decide +kernel
theorem d_T_grow_48 : decode c_T_grow 48 = .ok (.aload_n 0, 1) := by decide +kernel
theorem d_T_grow_49 : decode c_T_grow 49 = .ok (.getfield 34, 3) := by decide +kernel
theorem d_T_grow_52 : decode c_T_grow 52 = .ok (.istore 7, 2) := by decide +kernel
theorem d_T_grow_54 : decode c_T_grow 54 = .ok (.aload_n 0, 1) := by decide +kernel
theorem d_T_grow_55 : decode c_T_grow 55 = .ok (.dup, 1) := by decide +kernel
theorem d_T_grow_56 : decode c_T_grow 56 = .ok (.getfield 34, 3) := by decide +kernel
theorem d_T_grow_59 : decode c_T_grow 59 = .ok (.iconst 1, 1) := by decide +kernel
theorem d_T_grow_60 : decode c_T_grow 60 = .ok (.iadd, 1) := by decide +kernel
theorem d_T_grow_61 : decode c_T_grow 61 = .ok (.putfield 34, 3) := by decide +kernel
theorem d_T_grow_64 : decode c_T_grow 64 = .ok (.aload_n 0, 1) := by decide +kernel
theorem d_T_grow_65 : decode c_T_grow 65 = .ok (.getfield 9, 3) := by decide +kernel
theorem d_T_grow_68 : decode c_T_grow 68 = .ok (.iload 7, 2) := by decide +kernel
theorem d_T_grow_70 : decode c_T_grow 70 = .ok (.iload_n 1, 1) := by decide +kernel
theorem d_T_grow_71 : decode c_T_grow 71 = .ok (.iastore, 1) := by decide +kernel
theorem d_T_grow_72 : decode c_T_grow 72 = .ok (.aload_n 0, 1) := by decide +kernel
theorem d_T_grow_73 : decode c_T_grow 73 = .ok (.getfield 15, 3) := by decide +kernel
theorem d_T_grow_76 : decode c_T_grow 76 = .ok (.iload 7, 2) := by decide +kernel
theorem d_T_grow_78 : decode c_T_grow 78 = .ok (.iload_n 1, 1) := by decide +kernel
theorem d_T_grow_79 : decode c_T_grow 79 = .ok (.ifCond .ne 7, 3) := by decide +kernel
theorem d_T_grow_82 : decode c_T_grow 82 = .ok (.lload_n 2, 1) := by decide +kernel
theorem d_T_grow_83 : decode c_T_grow 83 = .ok (.goto 4, 3) := by decide +kernel
theorem d_T_grow_86 : decode c_T_grow 86 = .ok (.lconst 0, 1) := by decide +kernel
theorem d_T_grow_87 : decode c_T_grow 87 = .ok (.lastore, 1) := by decide +kernel
theorem d_T_grow_88 : decode c_T_grow 88 = .ok (.aload_n 0, 1) := by decide +kernel
theorem d_T_grow_89 : decode c_T_grow 89 = .ok (.getfield 19, 3) := by decide +kernel
theorem d_T_grow_92 : decode c_T_grow 92 = .ok (.iload 7, 2) := by decide +kernel
theorem d_T_grow_94 : decode c_T_grow 94 = .ok (.iload 6, 2) := by decide +kernel
theorem d_T_grow_96 : decode c_T_grow 96 = .ok (.ifCond .le 8, 3) := by decide +kernel
theorem d_T_grow_99 : decode c_T_grow 99 = .ok (.lload_n 2, 1) := by decide +kernel
theorem d_T_grow_100 : decode c_T_grow 100 = .ok (.l2i, 1) := by decide +kernel
theorem d_T_grow_101 : decode c_T_grow 101 = .ok (.goto 4, 3) := by decide +kernel
theorem d_T_grow_104 : decode c_T_grow 104 = .ok (.iconst (-1), 1) := by decide +kernel
theorem d_T_grow_105 : decode c_T_grow 105 = .ok (.iastore, 1) := by decide +kernel
theorem d_T_grow_106 : decode c_T_grow 106 = .ok (.aload_n 0, 1) := by decide +kernel
theorem d_T_grow_107 : decode c_T_grow 107 = .ok (.getfield 22, 3) := by decide +kernel
theorem d_T_grow_110 : decode c_T_grow 110 = .ok (.iload 7, 2) := by decide +kernel
theorem d_T_grow_112 : decode c_T_grow 112 = .ok (.iload 6, 2) := by decide +kernel
theorem d_T_grow_114 : decode c_T_grow 114 = .ok (.ifCond .le 8, 3) := by decide +kernel
theorem d_T_grow_117 : decode c_T_grow 117 = .ok (.iload 4, 2) := by decide +kernel
theorem d_T_grow_119 : decode c_T_grow 119 = .ok (.goto 4, 3) := by decide +kernel
theorem d_T_grow_122 : decode c_T_grow 122 = .ok (.iconst (-1), 1) := by decide +kernel
theorem d_T_grow_123 : decode c_T_grow 123 = .ok (.iastore, 1) := by decide +kernel
theorem d_T_grow_124 : decode c_T_grow 124 = .ok (.aload_n 0, 1) := by decide +kernel
theorem d_T_grow_125 : decode c_T_grow 125 = .ok (.getfield 25, 3) := by decide +kernel
theorem d_T_grow_128 : decode c_T_grow 128 = .ok (.iload 7, 2) := by decide +kernel
theorem d_T_grow_130 : decode c_T_grow 130 = .ok (.iload 6, 2) := by decide +kernel
theorem d_T_grow_132 : decode c_T_grow 132 = .ok (.iconst 2, 1) := by decide +kernel
theorem d_T_grow_133 : decode c_T_grow 133 = .ok (.if_icmp .le 8, 3) := by decide +kernel
theorem d_T_grow_136 : decode c_T_grow 136 = .ok (.iload 5, 2) := by decide +kernel
theorem d_T_grow_138 : decode c_T_grow 138 = .ok (.goto 4, 3) := by decide +kernel
theorem d_T_grow_141 : decode c_T_grow 141 = .ok (.iconst (-1), 1) := by decide +kernel
theorem d_T_grow_142 : decode c_T_grow 142 = .ok (.iastore, 1) := by decide +kernel
theorem d_T_grow_143 : decode c_T_grow 143 = .ok (.aload_n 0, 1) := by decide +kernel
theorem d_T_grow_144 : decode c_T_grow 144 = .ok (.getfield 28, 3) := by decide +kernel
theorem d_T_grow_147 : decode c_T_grow 147 = .ok (.iload 7, 2) := by decide +kernel
theorem d_T_grow_149 : decode c_T_grow 149 = .ok (.aload_n 0, 1) := by decide +kernel
theorem d_T_grow_150 : decode c_T_grow 150 = .ok (.iload 7, 2) := by decide +kernel
theorem d_T_grow_152 : decode c_T_grow 152 = .ok (.invokevirtual 46, 3) := by decide +kernel
theorem d_T_grow_155 : decode c_T_grow 155 = .ok (.iastore, 1) := by decide +kernel
theorem d_T_grow_156 : decode c_T_grow 156 = .ok (.iload 7, 2) := by decide +kernel
theorem d_T_grow_158 : decode c_T_grow 158 = .ok (.ireturn, 1) := by decide +kernel
theorem d_T_partCount_0 : decode c_T_partCount 0 = .ok (.iload_n 0, 1) := by decide +kernel
theorem d_T_partCount_1 : decode c_T_partCount 1 = .ok (.iconst 2, 1) := by decide +kernel
theorem d_T_partCount_2 : decode c_T_partCount 2 = .ok (.if_icmp .gt 5, 3) := by decide +kernel
theorem d_T_partCount_5 : decode c_T_partCount 5 = .ok (.iconst 0, 1) := by decide +kernel
theorem d_T_partCount_6 : decode c_T_partCount 6 = .ok (.ireturn, 1) := by decide +kernel
theorem d_T_partCount_7 : decode c_T_partCount 7 = .ok (.iload_n 0, 1) := by decide +kernel
theorem d_T_partCount_8 : decode c_T_partCount 8 = .ok (.bipush 8, 2) := by decide +kernel
theorem d_T_partCount_10 : decode c_T_partCount 10 = .ok (.if_icmp .ne 7, 3) := by decide +kernel
theorem d_T_partCount_13 : decode c_T_partCount 13 = .ok (.iconst 3, 1) := by decide +kernel
theorem d_T_partCount_14 : decode c_T_partCount 14 = .ok (.goto 4, 3) := by decide +kernel
theorem d_T_partCount_17 : decode c_T_partCount 17 = .ok (.iconst 2, 1) := by decide +kernel
theorem d_T_partCount_18 : decode c_T_partCount 18 = .ok (.ireturn, 1) := by decide +kernel
theorem d_T_areEarlier_0 : decode c_T_areEarlier 0 = .ok (.lload_n 2, 1) := by decide +kernel
theorem d_T_areEarlier_1 : decode c_T_areEarlier 1 = .ok (.lconst 0, 1) := by decide +kernel
theorem d_T_areEarlier_2 : decode c_T_areEarlier 2 = .ok (.lcmp, 1) := by decide +kernel
theorem d_T_areEarlier_3 : decode c_T_areEarlier 3 = .ok (.ifCond .lt 40, 3) := by decide +kernel
theorem d_T_areEarlier_6 : decode c_T_areEarlier 6 = .ok (.lload_n 2, 1) := by decide +kernel
theorem d_T_areEarlier_7 : decode c_T_areEarlier 7 = .ok (.aload_n 0, 1) := by decide +kernel
theorem d_T_areEarlier_8 : decode c_T_areEarlier 8 = .ok (.getfield 34, 3) := by decide +kernel
theorem d_T_areEarlier_11 : decode c_T_areEarlier 11 = .ok (.i2l, 1) := by decide +kernel
theorem d_T_areEarlier_12 : decode c_T_areEarlier 12 = .ok (.lcmp, 1) := by decide +kernel
theorem d_T_areEarlier_13 : decode c_T_areEarlier 13 = .ok (.ifCond .ge 30, 3) := by decide +kernel
theorem d_T_areEarlier_16 : decode c_T_areEarlier 16 = .ok (.aload_n 0, 1) := by decide +kernel
theorem d_T_areEarlier_17 : decode c_T_areEarlier 17 = .ok (.iload 4, 2) := by decide +kernel
theorem d_T_areEarlier_19 : decode c_T_areEarlier 19 = .ok (.invokevirtual 57, 3) := by decide +kernel
theorem d_T_areEarlier_22 : decode c_T_areEarlier 22 = .ok (.ifCond .eq 21, 3) := by decide +kernel
theorem d_T_areEarlier_25 : decode c_T_areEarlier 25 = .ok (.iload_n 1, 1) := by decide +kernel
theorem d_T_areEarlier_26 : decode c_T_areEarlier 26 = .ok (.iconst 3, 1) := by decide +kernel
theorem d_T_areEarlier_27 : decode c_T_areEarlier 27 = .ok (.if_icmp .lt 12, 3) := by decide +kernel
theorem d_T_areEarlier_30 : decode c_T_areEarlier 30 = .ok (.aload_n 0, 1) := by decide +kernel
theorem d_T_areEarlier_31 : decode c_T_areEarlier 31 = .ok (.iload 5, 2) := by decide +kernel
theorem d_T_areEarlier_33 : decode c_T_areEarlier 33 = .ok (.invokevirtual 57, 3) := by decide +kernel
theorem d_T_areEarlier_36 : decode c_T_areEarlier 36 = .ok (.ifCond .eq 7, 3) := by decide +kernel
theorem d_T_areEarlier_39 : decode c_T_areEarlier 39 = .ok (.iconst 1, 1) := by decide +kernel
theorem d_T_areEarlier_40 : decode c_T_areEarlier 40 = .ok (.goto 4, 3) := by decide +kernel
theorem d_T_areEarlier_43 : decode c_T_areEarlier 43 = .ok (.iconst 0, 1) := by decide +kernel
theorem d_T_areEarlier_44 : decode c_T_areEarlier 44 = .ok (.ireturn, 1) := by decide +kernel
theorem d_T_has_0 : decode c_T_has 0 = .ok (.iload_n 1, 1) := by decide +kernel
theorem d_T_has_1 : decode c_T_has 1 = .ok (.ifCond .lt 15, 3) := by decide +kernel
theorem d_T_has_4 : decode c_T_has 4 = .ok (.iload_n 1, 1) := by decide +kernel
theorem d_T_has_5 : decode c_T_has 5 = .ok (.aload_n 0, 1) := by decide +kernel
theorem d_T_has_6 : decode c_T_has 6 = .ok (.getfield 34, 3) := by decide +kernel
theorem d_T_has_9 : decode c_T_has 9 = .ok (.if_icmp .ge 7, 3) := by decide +kernel
theorem d_T_has_12 : decode c_T_has 12 = .ok (.iconst 1, 1) := by decide +kernel
theorem d_T_has_13 : decode c_T_has 13 = .ok (.goto 4, 3) := by decide +kernel
theorem d_T_has_16 : decode c_T_has 16 = .ok (.iconst 0, 1) := by decide +kernel
theorem d_T_has_17 : decode c_T_has 17 = .ok (.ireturn, 1) := by decide +kernel
theorem d_T_shapeFor_0 : decode c_T_shapeFor 0 = .ok (.iconst 0, 1) := by decide +kernel
theorem d_T_shapeFor_1 : decode c_T_shapeFor 1 = .ok (.istore_n 2, 1) := by decide +kernel
theorem d_T_shapeFor_2 : decode c_T_shapeFor 2 = .ok (.iload_n 2, 1) := by decide +kernel
theorem d_T_shapeFor_3 : decode c_T_shapeFor 3 = .ok (.iload_n 1, 1) := by decide +kernel
theorem d_T_shapeFor_4 : decode c_T_shapeFor 4 = .ok (.if_icmp .ge 51, 3) := by decide +kernel
theorem d_T_shapeFor_7 : decode c_T_shapeFor 7 = .ok (.aload_n 0, 1) := by decide +kernel
theorem d_T_shapeFor_8 : decode c_T_shapeFor 8 = .ok (.getfield 9, 3) := by decide +kernel
theorem d_T_shapeFor_11 : decode c_T_shapeFor 11 = .ok (.iload_n 2, 1) := by decide +kernel
theorem d_T_shapeFor_12 : decode c_T_shapeFor 12 = .ok (.iaload, 1) := by decide +kernel
theorem d_T_shapeFor_13 : decode c_T_shapeFor 13 = .ok (.aload_n 0, 1) := by decide +kernel
theorem d_T_shapeFor_14 : decode c_T_shapeFor 14 = .ok (.getfield 9, 3) := by decide +kernel
theorem d_T_shapeFor_17 : decode c_T_shapeFor 17 = .ok (.iload_n 1, 1) := by decide +kernel
theorem d_T_shapeFor_18 : decode c_T_shapeFor 18 = .ok (.iaload, 1) := by decide +kernel
theorem d_T_shapeFor_19 : decode c_T_shapeFor 19 = .ok (.if_icmp .ne 30, 3) := by decide +kernel
theorem d_T_shapeFor_22 : decode c_T_shapeFor 22 = .ok (.aload_n 0, 1) := by decide +kernel
theorem d_T_shapeFor_23 : decode c_T_shapeFor 23 = .ok (.getfield 15, 3) := by decide +kernel
theorem d_T_shapeFor_26 : decode c_T_shapeFor 26 = .ok (.iload_n 2, 1) := by decide +kernel
theorem d_T_shapeFor_27 : decode c_T_shapeFor 27 = .ok (.laload, 1) := by decide +kernel
theorem d_T_shapeFor_28 : decode c_T_shapeFor 28 = .ok (.aload_n 0, 1) := by decide +kernel
theorem d_T_shapeFor_29 : decode c_T_shapeFor 29 = .ok (.getfield 15, 3) := by decide +kernel
theorem d_T_shapeFor_32 : decode c_T_shapeFor 32 = .ok (.iload_n 1, 1) := by decide +kernel
theorem d_T_shapeFor_33 : decode c_T_shapeFor 33 = .ok (.laload, 1) := by decide +kernel
theorem d_T_shapeFor_34 : decode c_T_shapeFor 34 = .ok (.lcmp, 1) := by decide +kernel
theorem d_T_shapeFor_35 : decode c_T_shapeFor 35 = .ok (.ifCond .ne 14, 3) := by decide +kernel
theorem d_T_shapeFor_38 : decode c_T_shapeFor 38 = .ok (.aload_n 0, 1) := by decide +kernel
theorem d_T_shapeFor_39 : decode c_T_shapeFor 39 = .ok (.iload_n 2, 1) := by decide +kernel
theorem d_T_shapeFor_40 : decode c_T_shapeFor 40 = .ok (.iload_n 1, 1) := by decide +kernel
theorem d_T_shapeFor_41 : decode c_T_shapeFor 41 = .ok (.invokevirtual 61, 3) := by decide +kernel
theorem d_T_shapeFor_44 : decode c_T_shapeFor 44 = .ok (.ifCond .eq 5, 3) := by decide +kernel
theorem d_T_shapeFor_47 : decode c_T_shapeFor 47 = .ok (.iload_n 2, 1) := by decide +kernel
theorem d_T_shapeFor_48 : decode c_T_shapeFor 48 = .ok (.ireturn, 1) := by decide +kernel
theorem d_T_shapeFor_49 : decode c_T_shapeFor 49 = .ok (.iinc 2 1, 3) := by decide +kernel
theorem d_T_shapeFor_52 : decode c_T_shapeFor 52 = .ok (.goto (-50), 3) := by decide +kernel
theorem d_T_shapeFor_55 : decode c_T_shapeFor 55 = .ok (.iload_n 1, 1) := by decide +kernel
theorem d_T_shapeFor_56 : decode c_T_shapeFor 56 = .ok (.ireturn, 1) := by decide +kernel
theorem d_T_haveAlikeParts_0 : decode c_T_haveAlikeParts 0 = .ok (.aload_n 0, 1) := by decide +kernel
theorem d_T_haveAlikeParts_1 : decode c_T_haveAlikeParts 1 = .ok (.getfield 9, 3) := by decide +kernel
theorem d_T_haveAlikeParts_4 : decode c_T_haveAlikeParts 4 = .ok (.iload_n 1, 1) := by decide +kernel
theorem d_T_haveAlikeParts_5 : decode c_T_haveAlikeParts 5 = .ok (.iaload, 1) := by decide +kernel
theorem d_T_haveAlikeParts_6 : decode c_T_haveAlikeParts 6 = .ok (.invokestatic 38, 3) := by decide +kernel
theorem d_T_haveAlikeParts_9 : decode c_T_haveAlikeParts 9 = .ok (.istore_n 3, 1) := by decide +kernel
theorem d_T_haveAlikeParts_10 : decode c_T_haveAlikeParts 10 = .ok (.iload_n 3, 1) := by decide +kernel
theorem d_T_haveAlikeParts_11 : decode c_T_haveAlikeParts 11 = .ok (.ifCond .ne 5, 3) := by decide +kernel
theorem d_T_haveAlikeParts_14 : decode c_T_haveAlikeParts 14 = .ok (.iconst 1, 1) := by decide +kernel
theorem d_T_haveAlikeParts_15 : decode c_T_haveAlikeParts 15 = .ok (.ireturn, 1) := by decide +kernel
theorem d_T_haveAlikeParts_16 : decode c_T_haveAlikeParts 16 = .ok (.aload_n 0, 1) := by decide +kernel
theorem d_T_haveAlikeParts_17 : decode c_T_haveAlikeParts 17 = .ok (.aload_n 0, 1) := by decide +kernel
theorem d_T_haveAlikeParts_18 : decode c_T_haveAlikeParts 18 = .ok (.getfield 19, 3) := by decide +kernel
theorem d_T_haveAlikeParts_21 : decode c_T_haveAlikeParts 21 = .ok (.iload_n 1, 1) := by decide +kernel
theorem d_T_haveAlikeParts_22 : decode c_T_haveAlikeParts 22 = .ok (.iaload, 1) := by decide +kernel
theorem d_T_haveAlikeParts_23 : decode c_T_haveAlikeParts 23 = .ok (.aload_n 0, 1) := by decide +kernel
theorem d_T_haveAlikeParts_24 : decode c_T_haveAlikeParts 24 = .ok (.getfield 19, 3) := by decide +kernel
theorem d_T_haveAlikeParts_27 : decode c_T_haveAlikeParts 27 = .ok (.iload_n 2, 1) := by decide +kernel
theorem d_T_haveAlikeParts_28 : decode c_T_haveAlikeParts 28 = .ok (.iaload, 1) := by decide +kernel
theorem d_T_haveAlikeParts_29 : decode c_T_haveAlikeParts 29 = .ok (.invokevirtual 65, 3) := by decide +kernel
theorem d_T_haveAlikeParts_32 : decode c_T_haveAlikeParts 32 = .ok (.ifCond .eq 50, 3) := by decide +kernel
theorem d_T_haveAlikeParts_35 : decode c_T_haveAlikeParts 35 = .ok (.aload_n 0, 1) := by decide +kernel
theorem d_T_haveAlikeParts_36 : decode c_T_haveAlikeParts 36 = .ok (.aload_n 0, 1) := by decide +kernel
theorem d_T_haveAlikeParts_37 : decode c_T_haveAlikeParts 37 = .ok (.getfield 22, 3) := by decide +kernel
theorem d_T_haveAlikeParts_40 : decode c_T_haveAlikeParts 40 = .ok (.iload_n 1, 1) := by decide +kernel
theorem d_T_haveAlikeParts_41 : decode c_T_haveAlikeParts 41 = .ok (.iaload, 1) := by decide +kernel
theorem d_T_haveAlikeParts_42 : decode c_T_haveAlikeParts 42 = .ok (.aload_n 0, 1) := by decide +kernel
theorem d_T_haveAlikeParts_43 : decode c_T_haveAlikeParts 43 = .ok (.getfield 22, 3) := by decide +kernel
theorem d_T_haveAlikeParts_46 : decode c_T_haveAlikeParts 46 = .ok (.iload_n 2, 1) := by decide +kernel
theorem d_T_haveAlikeParts_47 : decode c_T_haveAlikeParts 47 = .ok (.iaload, 1) := by decide +kernel
theorem d_T_haveAlikeParts_48 : decode c_T_haveAlikeParts 48 = .ok (.invokevirtual 65, 3) := by decide +kernel
theorem d_T_haveAlikeParts_51 : decode c_T_haveAlikeParts 51 = .ok (.ifCond .eq 31, 3) := by decide +kernel
theorem d_T_haveAlikeParts_54 : decode c_T_haveAlikeParts 54 = .ok (.iload_n 3, 1) := by decide +kernel
theorem d_T_haveAlikeParts_55 : decode c_T_haveAlikeParts 55 = .ok (.iconst 3, 1) := by decide +kernel
theorem d_T_haveAlikeParts_56 : decode c_T_haveAlikeParts 56 = .ok (.if_icmp .lt 22, 3) := by decide +kernel
theorem d_T_haveAlikeParts_59 : decode c_T_haveAlikeParts 59 = .ok (.aload_n 0, 1) := by decide +kernel
theorem d_T_haveAlikeParts_60 : decode c_T_haveAlikeParts 60 = .ok (.aload_n 0, 1) := by decide +kernel
theorem d_T_haveAlikeParts_61 : decode c_T_haveAlikeParts 61 = .ok (.getfield 25, 3) := by decide +kernel
theorem d_T_haveAlikeParts_64 : decode c_T_haveAlikeParts 64 = .ok (.iload_n 1, 1) := by decide +kernel
theorem d_T_haveAlikeParts_65 : decode c_T_haveAlikeParts 65 = .ok (.iaload, 1) := by decide +kernel
theorem d_T_haveAlikeParts_66 : decode c_T_haveAlikeParts 66 = .ok (.aload_n 0, 1) := by decide +kernel
theorem d_T_haveAlikeParts_67 : decode c_T_haveAlikeParts 67 = .ok (.getfield 25, 3) := by decide +kernel
theorem d_T_haveAlikeParts_70 : decode c_T_haveAlikeParts 70 = .ok (.iload_n 2, 1) := by decide +kernel
theorem d_T_haveAlikeParts_71 : decode c_T_haveAlikeParts 71 = .ok (.iaload, 1) := by decide +kernel
theorem d_T_haveAlikeParts_72 : decode c_T_haveAlikeParts 72 = .ok (.invokevirtual 65, 3) := by decide +kernel
theorem d_T_haveAlikeParts_75 : decode c_T_haveAlikeParts 75 = .ok (.ifCond .eq 7, 3) := by decide +kernel
theorem d_T_haveAlikeParts_78 : decode c_T_haveAlikeParts 78 = .ok (.iconst 1, 1) := by decide +kernel
theorem d_T_haveAlikeParts_79 : decode c_T_haveAlikeParts 79 = .ok (.goto 4, 3) := by decide +kernel
theorem d_T_haveAlikeParts_82 : decode c_T_haveAlikeParts 82 = .ok (.iconst 0, 1) := by decide +kernel
theorem d_T_haveAlikeParts_83 : decode c_T_haveAlikeParts 83 = .ok (.ireturn, 1) := by decide +kernel
theorem d_T_areAlike_0 : decode c_T_areAlike 0 = .ok (.aload_n 0, 1) := by decide +kernel
theorem d_T_areAlike_1 : decode c_T_areAlike 1 = .ok (.getfield 28, 3) := by decide +kernel
theorem d_T_areAlike_4 : decode c_T_areAlike 4 = .ok (.iload_n 1, 1) := by decide +kernel
theorem d_T_areAlike_5 : decode c_T_areAlike 5 = .ok (.iaload, 1) := by decide +kernel
theorem d_T_areAlike_6 : decode c_T_areAlike 6 = .ok (.aload_n 0, 1) := by decide +kernel
theorem d_T_areAlike_7 : decode c_T_areAlike 7 = .ok (.getfield 28, 3) := by decide +kernel
theorem d_T_areAlike_10 : decode c_T_areAlike 10 = .ok (.iload_n 2, 1) := by decide +kernel
theorem d_T_areAlike_11 : decode c_T_areAlike 11 = .ok (.iaload, 1) := by decide +kernel
theorem d_T_areAlike_12 : decode c_T_areAlike 12 = .ok (.if_icmp .ne 7, 3) := by decide +kernel
theorem d_T_areAlike_15 : decode c_T_areAlike 15 = .ok (.iconst 1, 1) := by decide +kernel
theorem d_T_areAlike_16 : decode c_T_areAlike 16 = .ok (.goto 4, 3) := by decide +kernel
theorem d_T_areAlike_19 : decode c_T_areAlike 19 = .ok (.iconst 0, 1) := by decide +kernel
theorem d_T_areAlike_20 : decode c_T_areAlike 20 = .ok (.ireturn, 1) := by decide +kernel
theorem d_M_test_0 : decode c_M_test 0 = .ok (.aload_n 0, 1) := by decide +kernel
theorem d_M_test_1 : decode c_M_test 1 = .ok (.getfield 10, 3) := by decide +kernel
theorem d_M_test_4 : decode c_M_test 4 = .ok (.iload_n 1, 1) := by decide +kernel
theorem d_M_test_5 : decode c_M_test 5 = .ok (.invokevirtual 52, 3) := by decide +kernel
theorem d_M_test_8 : decode c_M_test 8 = .ok (.ifCond .ne 5, 3) := by decide +kernel
theorem d_M_test_11 : decode c_M_test 11 = .ok (.iconst (-1), 1) := by decide +kernel
theorem d_M_test_12 : decode c_M_test 12 = .ok (.ireturn, 1) := by decide +kernel
theorem d_M_test_13 : decode c_M_test 13 = .ok (.aload_n 0, 1) := by decide +kernel
theorem d_M_test_14 : decode c_M_test 14 = .ok (.getfield 21, 3) := by decide +kernel
theorem d_M_test_17 : decode c_M_test 17 = .ok (.iload_n 1, 1) := by decide +kernel
theorem d_M_test_18 : decode c_M_test 18 = .ok (.lload_n 2, 1) := by decide +kernel
theorem d_M_test_19 : decode c_M_test 19 = .ok (.lload 4, 2) := by decide +kernel
theorem d_M_test_21 : decode c_M_test 21 = .ok (.invokevirtual 56, 3) := by decide +kernel
theorem d_M_test_24 : decode c_M_test 24 = .ok (.ireturn, 1) := by decide +kernel
theorem d_U_add_0 : decode c_U_add 0 = .ok (.aload_n 0, 1) := by decide +kernel
theorem d_U_add_1 : decode c_U_add 1 = .ok (.getfield 40, 3) := by decide +kernel
theorem d_U_add_4 : decode c_U_add 4 = .ok (.bipush 24, 2) := by decide +kernel
theorem d_U_add_6 : decode c_U_add 6 = .ok (.if_icmp .lt 5, 3) := by decide +kernel
theorem d_U_add_9 : decode c_U_add 9 = .ok (.iconst (-1), 1) := by decide +kernel
theorem d_U_add_10 : decode c_U_add 10 = .ok (.ireturn, 1) := by decide +kernel
theorem d_U_add_11 : decode c_U_add 11 = .ok (.aload_n 0, 1) := by decide +kernel
theorem d_U_add_12 : decode c_U_add 12 = .ok (.getfield 40, 3) := by decide +kernel
theorem d_U_add_15 : decode c_U_add 15 = .ok (.istore 6, 2) := by decide +kernel
theorem d_U_add_17 : decode c_U_add 17 = .ok (.aload_n 0, 1) := by decide +kernel
theorem d_U_add_18 : decode c_U_add 18 = .ok (.dup, 1) := by decide +kernel
theorem d_U_add_19 : decode c_U_add 19 = .ok (.getfield 40, 3) := by decide +kernel
theorem d_U_add_22 : decode c_U_add 22 = .ok (.iconst 1, 1) := by decide +kernel
theorem d_U_add_23 : decode c_U_add 23 = .ok (.iadd, 1) := by decide +kernel
theorem d_U_add_24 : decode c_U_add 24 = .ok (.putfield 40, 3) := by decide +kernel
theorem d_U_add_27 : decode c_U_add 27 = .ok (.aload_n 0, 1) := by decide +kernel
theorem d_U_add_28 : decode c_U_add 28 = .ok (.getfield 20, 3) := by decide +kernel
theorem d_U_add_31 : decode c_U_add 31 = .ok (.iload 6, 2) := by decide +kernel
theorem d_U_add_33 : decode c_U_add 33 = .ok (.iload_n 1, 1) := by decide +kernel
theorem d_U_add_34 : decode c_U_add 34 = .ok (.iastore, 1) := by decide +kernel
theorem d_U_add_35 : decode c_U_add 35 = .ok (.aload_n 0, 1) := by decide +kernel
theorem d_U_add_36 : decode c_U_add 36 = .ok (.getfield 24, 3) := by decide +kernel
theorem d_U_add_39 : decode c_U_add 39 = .ok (.iload 6, 2) := by decide +kernel
theorem d_U_add_41 : decode c_U_add 41 = .ok (.lload_n 2, 1) := by decide +kernel
theorem d_U_add_42 : decode c_U_add 42 = .ok (.lastore, 1) := by decide +kernel
theorem d_U_add_43 : decode c_U_add 43 = .ok (.aload_n 0, 1) := by decide +kernel
theorem d_U_add_44 : decode c_U_add 44 = .ok (.getfield 28, 3) := by decide +kernel
theorem d_U_add_47 : decode c_U_add 47 = .ok (.iload 6, 2) := by decide +kernel
theorem d_U_add_49 : decode c_U_add 49 = .ok (.lload 4, 2) := by decide +kernel
theorem d_U_add_51 : decode c_U_add 51 = .ok (.lastore, 1) := by decide +kernel
theorem d_U_add_52 : decode c_U_add 52 = .ok (.aload_n 0, 1) := by decide +kernel
theorem d_U_add_53 : decode c_U_add 53 = .ok (.iload 6, 2) := by decide +kernel
theorem d_U_add_55 : decode c_U_add 55 = .ok (.invokevirtual 48, 3) := by decide +kernel
theorem d_U_add_58 : decode c_U_add 58 = .ok (.iload 6, 2) := by decide +kernel
theorem d_U_add_60 : decode c_U_add 60 = .ok (.ireturn, 1) := by decide +kernel
theorem d_U_attempt_0 : decode c_U_attempt 0 = .ok (.aload_n 0, 1) := by decide +kernel
theorem d_U_attempt_1 : decode c_U_attempt 1 = .ok (.getfield 14, 3) := by decide +kernel
theorem d_U_attempt_4 : decode c_U_attempt 4 = .ok (.aload_n 0, 1) := by decide +kernel
theorem d_U_attempt_5 : decode c_U_attempt 5 = .ok (.getfield 20, 3) := by decide +kernel
theorem d_U_attempt_8 : decode c_U_attempt 8 = .ok (.iload_n 1, 1) := by decide +kernel
theorem d_U_attempt_9 : decode c_U_attempt 9 = .ok (.iaload, 1) := by decide +kernel
theorem d_U_attempt_10 : decode c_U_attempt 10 = .ok (.aload_n 0, 1) := by decide +kernel
theorem d_U_attempt_11 : decode c_U_attempt 11 = .ok (.getfield 24, 3) := by decide +kernel
theorem d_U_attempt_14 : decode c_U_attempt 14 = .ok (.iload_n 1, 1) := by decide +kernel
theorem d_U_attempt_15 : decode c_U_attempt 15 = .ok (.laload, 1) := by decide +kernel
theorem d_U_attempt_16 : decode c_U_attempt 16 = .ok (.sipush 3000, 3) := by decide +kernel
theorem d_U_attempt_19 : decode c_U_attempt 19 = .ok (.invokevirtual 56, 3) := by decide +kernel
theorem d_U_attempt_22 : decode c_U_attempt 22 = .ok (.lstore_n 2, 1) := by decide +kernel
theorem d_U_attempt_23 : decode c_U_attempt 23 = .ok (.aload_n 0, 1) := by decide +kernel
theorem d_U_attempt_24 : decode c_U_attempt 24 = .ok (.getfield 14, 3) := by decide +kernel
theorem d_U_attempt_27 : decode c_U_attempt 27 = .ok (.invokevirtual 63, 3) := by decide +kernel
theorem d_U_attempt_30 : decode c_U_attempt 30 = .ok (.ifCond .eq 14, 3) := by decide +kernel
theorem d_U_attempt_33 : decode c_U_attempt 33 = .ok (.aload_n 0, 1) := by decide +kernel
theorem d_U_attempt_34 : decode c_U_attempt 34 = .ok (.getfield 31, 3) := by decide +kernel
theorem d_U_attempt_37 : decode c_U_attempt 37 = .ok (.iload_n 1, 1) := by decide +kernel
theorem d_U_attempt_38 : decode c_U_attempt 38 = .ok (.bipush (-2), 2) := by decide +kernel
theorem d_U_attempt_40 : decode c_U_attempt 40 = .ok (.iastore, 1) := by decide +kernel
theorem d_U_attempt_41 : decode c_U_attempt 41 = .ok (.goto 25, 3) := by decide +kernel
theorem d_U_attempt_44 : decode c_U_attempt 44 = .ok (.aload_n 0, 1) := by decide +kernel
theorem d_U_attempt_45 : decode c_U_attempt 45 = .ok (.getfield 31, 3) := by decide +kernel
theorem d_U_attempt_48 : decode c_U_attempt 48 = .ok (.iload_n 1, 1) := by decide +kernel
theorem d_U_attempt_49 : decode c_U_attempt 49 = .ok (.lload_n 2, 1) := by decide +kernel
theorem d_U_attempt_50 : decode c_U_attempt 50 = .ok (.aload_n 0, 1) := by decide +kernel
theorem d_U_attempt_51 : decode c_U_attempt 51 = .ok (.getfield 28, 3) := by decide +kernel
theorem d_U_attempt_54 : decode c_U_attempt 54 = .ok (.iload_n 1, 1) := by decide +kernel
theorem d_U_attempt_55 : decode c_U_attempt 55 = .ok (.laload, 1) := by decide +kernel
theorem d_U_attempt_56 : decode c_U_attempt 56 = .ok (.lcmp, 1) := by decide +kernel
theorem d_U_attempt_57 : decode c_U_attempt 57 = .ok (.ifCond .ne 7, 3) := by decide +kernel
theorem d_U_attempt_60 : decode c_U_attempt 60 = .ok (.iconst 1, 1) := by decide +kernel
theorem d_U_attempt_61 : decode c_U_attempt 61 = .ok (.goto 4, 3) := by decide +kernel
theorem d_U_attempt_64 : decode c_U_attempt 64 = .ok (.iconst 0, 1) := by decide +kernel
theorem d_U_attempt_65 : decode c_U_attempt 65 = .ok (.iastore, 1) := by decide +kernel
theorem d_U_attempt_66 : decode c_U_attempt 66 = .ok (.aload_n 0, 1) := by decide +kernel
theorem d_U_attempt_67 : decode c_U_attempt 67 = .ok (.getfield 34, 3) := by decide +kernel
theorem d_U_attempt_70 : decode c_U_attempt 70 = .ok (.iload_n 1, 1) := by decide +kernel
theorem d_U_attempt_71 : decode c_U_attempt 71 = .ok (.aload_n 0, 1) := by decide +kernel
theorem d_U_attempt_72 : decode c_U_attempt 72 = .ok (.getfield 14, 3) := by decide +kernel
theorem d_U_attempt_75 : decode c_U_attempt 75 = .ok (.invokevirtual 67, 3) := by decide +kernel
theorem d_U_attempt_78 : decode c_U_attempt 78 = .ok (.iastore, 1) := by decide +kernel
theorem d_U_attempt_79 : decode c_U_attempt 79 = .ok (.aload_n 0, 1) := by decide +kernel
theorem d_U_attempt_80 : decode c_U_attempt 80 = .ok (.getfield 37, 3) := by decide +kernel
theorem d_U_attempt_83 : decode c_U_attempt 83 = .ok (.iload_n 1, 1) := by decide +kernel
theorem d_U_attempt_84 : decode c_U_attempt 84 = .ok (.aload_n 0, 1) := by decide +kernel
theorem d_U_attempt_85 : decode c_U_attempt 85 = .ok (.getfield 14, 3) := by decide +kernel
theorem d_U_attempt_88 : decode c_U_attempt 88 = .ok (.invokevirtual 70, 3) := by decide +kernel
theorem d_U_attempt_91 : decode c_U_attempt 91 = .ok (.lastore, 1) := by decide +kernel
theorem d_U_attempt_92 : decode c_U_attempt 92 = .ok (.return_, 1) := by decide +kernel
theorem d_K_workOut_0 : decode c_K_workOut 0 = .ok (.aload_n 0, 1) := by decide +kernel
theorem d_K_workOut_1 : decode c_K_workOut 1 = .ok (.lload_n 2, 1) := by decide +kernel
theorem d_K_workOut_2 : decode c_K_workOut 2 = .ok (.putfield 33, 3) := by decide +kernel
theorem d_K_workOut_5 : decode c_K_workOut 5 = .ok (.aload_n 0, 1) := by decide +kernel
theorem d_K_workOut_6 : decode c_K_workOut 6 = .ok (.iload 4, 2) := by decide +kernel
theorem d_K_workOut_8 : decode c_K_workOut 8 = .ok (.putfield 36, 3) := by decide +kernel
theorem d_K_workOut_11 : decode c_K_workOut 11 = .ok (.aload_n 0, 1) := by decide +kernel
theorem d_K_workOut_12 : decode c_K_workOut 12 = .ok (.iconst 0, 1) := by decide +kernel
theorem d_K_workOut_13 : decode c_K_workOut 13 = .ok (.putfield 22, 3) := by decide +kernel
theorem d_K_workOut_16 : decode c_K_workOut 16 = .ok (.aload_n 0, 1) := by decide +kernel
theorem d_K_workOut_17 : decode c_K_workOut 17 = .ok (.iconst 0, 1) := by decide +kernel
theorem d_K_workOut_18 : decode c_K_workOut 18 = .ok (.putfield 25, 3) := by decide +kernel
theorem d_K_workOut_21 : decode c_K_workOut 21 = .ok (.aload_n 0, 1) := by decide +kernel
theorem d_K_workOut_22 : decode c_K_workOut 22 = .ok (.lconst 0, 1) := by decide +kernel
theorem d_K_workOut_23 : decode c_K_workOut 23 = .ok (.putfield 29, 3) := by decide +kernel
theorem d_K_workOut_26 : decode c_K_workOut 26 = .ok (.aload_n 0, 1) := by decide +kernel
theorem d_K_workOut_27 : decode c_K_workOut 27 = .ok (.lconst 0, 1) := by decide +kernel
theorem d_K_workOut_28 : decode c_K_workOut 28 = .ok (.putfield 39, 3) := by decide +kernel
theorem d_K_workOut_31 : decode c_K_workOut 31 = .ok (.aload_n 0, 1) := by decide +kernel
theorem d_K_workOut_32 : decode c_K_workOut 32 = .ok (.iload_n 1, 1) := by decide +kernel
theorem d_K_workOut_33 : decode c_K_workOut 33 = .ok (.invokevirtual 42, 3) := by decide +kernel
theorem d_K_workOut_36 : decode c_K_workOut 36 = .ok (.lreturn, 1) := by decide +kernel
theorem d_K_worth_0 : decode c_K_worth 0 = .ok (.aload_n 0, 1) := by decide +kernel
theorem d_K_worth_1 : decode c_K_worth 1 = .ok (.getfield 22, 3) := by decide +kernel
theorem d_K_worth_4 : decode c_K_worth 4 = .ok (.aload_n 0, 1) := by decide +kernel
theorem d_K_worth_5 : decode c_K_worth 5 = .ok (.getfield 36, 3) := by decide +kernel
theorem d_K_worth_8 : decode c_K_worth 8 = .ok (.if_icmp .lt 10, 3) := by decide +kernel
theorem d_K_worth_11 : decode c_K_worth 11 = .ok (.aload_n 0, 1) := by decide +kernel
theorem d_K_worth_12 : decode c_K_worth 12 = .ok (.iconst 1, 1) := by decide +kernel
theorem d_K_worth_13 : decode c_K_worth 13 = .ok (.putfield 25, 3) := by decide +kernel
theorem d_K_worth_16 : decode c_K_worth 16 = .ok (.lconst 0, 1) := by decide +kernel
theorem d_K_worth_17 : decode c_K_worth 17 = .ok (.lreturn, 1) := by decide +kernel
theorem d_K_worth_18 : decode c_K_worth 18 = .ok (.aload_n 0, 1) := by decide +kernel
theorem d_K_worth_19 : decode c_K_worth 19 = .ok (.dup, 1) := by decide +kernel
theorem d_K_worth_20 : decode c_K_worth 20 = .ok (.getfield 22, 3) := by decide +kernel
theorem d_K_worth_23 : decode c_K_worth 23 = .ok (.iconst 1, 1) := by decide +kernel
theorem d_K_worth_24 : decode c_K_worth 24 = .ok (.iadd, 1) := by decide +kernel
theorem d_K_worth_25 : decode c_K_worth 25 = .ok (.putfield 22, 3) := by decide +kernel
theorem d_K_worth_28 : decode c_K_worth 28 = .ok (.aload_n 0, 1) := by decide +kernel
theorem d_K_worth_29 : decode c_K_worth 29 = .ok (.dup, 1) := by decide +kernel
theorem d_K_worth_30 : decode c_K_worth 30 = .ok (.getfield 29, 3) := by decide +kernel
theorem d_K_worth_33 : decode c_K_worth 33 = .ok (.iload_n 1, 1) := by decide +kernel
theorem d_K_worth_34 : decode c_K_worth 34 = .ok (.invokestatic 46, 3) := by decide +kernel
theorem d_K_worth_37 : decode c_K_worth 37 = .ok (.lor, 1) := by decide +kernel
theorem d_K_worth_38 : decode c_K_worth 38 = .ok (.putfield 29, 3) := by decide +kernel
theorem d_K_worth_41 : decode c_K_worth 41 = .ok (.aload_n 0, 1) := by decide +kernel
theorem d_K_worth_42 : decode c_K_worth 42 = .ok (.getfield 9, 3) := by decide +kernel
theorem d_K_worth_45 : decode c_K_worth 45 = .ok (.iload_n 1, 1) := by decide +kernel
theorem d_K_worth_46 : decode c_K_worth 46 = .ok (.invokevirtual 49, 3) := by decide +kernel
theorem d_K_worth_49 : decode c_K_worth 49 = .ok (.istore_n 2, 1) := by decide +kernel
theorem d_K_worth_50 : decode c_K_worth 50 = .ok (.iload_n 1, 1) := by decide +kernel
theorem d_K_worth_51 : decode c_K_worth 51 = .ok (.aload_n 0, 1) := by decide +kernel
theorem d_K_worth_52 : decode c_K_worth 52 = .ok (.getfield 19, 3) := by decide +kernel
theorem d_K_worth_55 : decode c_K_worth 55 = .ok (.if_icmp .ne 10, 3) := by decide +kernel
theorem d_K_worth_58 : decode c_K_worth 58 = .ok (.aload_n 0, 1) := by decide +kernel
theorem d_K_worth_59 : decode c_K_worth 59 = .ok (.getfield 15, 3) := by decide +kernel
theorem d_K_worth_62 : decode c_K_worth 62 = .ok (.goto 4, 3) := by decide +kernel
theorem d_K_worth_65 : decode c_K_worth 65 = .ok (.iconst (-1), 1) := by decide +kernel
theorem d_K_worth_66 : decode c_K_worth 66 = .ok (.istore_n 3, 1) := by decide +kernel
theorem d_K_worth_67 : decode c_K_worth 67 = .ok (.iload_n 2, 1) := by decide +kernel
theorem d_K_worth_68 : decode c_K_worth 68 = .ok (.tableswitch 105 0 9 #[56, 82, 87, 105, 105, 105, 105, 105, 92, 99], 56) := by decide +kernel
theorem d_K_worth_124 : decode c_K_worth 124 = .ok (.iload_n 3, 1) := by decide +kernel
theorem d_K_worth_125 : decode c_K_worth 125 = .ok (.ifCond .ne 16, 3) := by decide +kernel
theorem d_K_worth_128 : decode c_K_worth 128 = .ok (.aload_n 0, 1) := by decide +kernel
theorem d_K_worth_129 : decode c_K_worth 129 = .ok (.getfield 9, 3) := by decide +kernel
theorem d_K_worth_132 : decode c_K_worth 132 = .ok (.iload_n 1, 1) := by decide +kernel
theorem d_K_worth_133 : decode c_K_worth 133 = .ok (.invokevirtual 55, 3) := by decide +kernel
theorem d_K_worth_136 : decode c_K_worth 136 = .ok (.lconst 1, 1) := by decide +kernel
theorem d_K_worth_137 : decode c_K_worth 137 = .ok (.ladd, 1) := by decide +kernel
theorem d_K_worth_138 : decode c_K_worth 138 = .ok (.goto 11, 3) := by decide +kernel
theorem d_K_worth_141 : decode c_K_worth 141 = .ok (.aload_n 0, 1) := by decide +kernel
theorem d_K_worth_142 : decode c_K_worth 142 = .ok (.getfield 9, 3) := by decide +kernel
theorem d_K_worth_145 : decode c_K_worth 145 = .ok (.iload_n 1, 1) := by decide +kernel
theorem d_K_worth_146 : decode c_K_worth 146 = .ok (.invokevirtual 55, 3) := by decide +kernel
theorem d_K_worth_149 : decode c_K_worth 149 = .ok (.lreturn, 1) := by decide +kernel
theorem d_K_worth_150 : decode c_K_worth 150 = .ok (.aload_n 0, 1) := by decide +kernel
theorem d_K_worth_151 : decode c_K_worth 151 = .ok (.getfield 33, 3) := by decide +kernel
theorem d_K_worth_154 : decode c_K_worth 154 = .ok (.lreturn, 1) := by decide +kernel
theorem d_K_worth_155 : decode c_K_worth 155 = .ok (.aload_n 0, 1) := by decide +kernel
theorem d_K_worth_156 : decode c_K_worth 156 = .ok (.getfield 39, 3) := by decide +kernel
theorem d_K_worth_159 : decode c_K_worth 159 = .ok (.lreturn, 1) := by decide +kernel
theorem d_K_worth_160 : decode c_K_worth 160 = .ok (.aload_n 0, 1) := by decide +kernel
theorem d_K_worth_161 : decode c_K_worth 161 = .ok (.iload_n 1, 1) := by decide +kernel
theorem d_K_worth_162 : decode c_K_worth 162 = .ok (.iload_n 3, 1) := by decide +kernel
theorem d_K_worth_163 : decode c_K_worth 163 = .ok (.invokevirtual 58, 3) := by decide +kernel
theorem d_K_worth_166 : decode c_K_worth 166 = .ok (.lreturn, 1) := by decide +kernel
theorem d_K_worth_167 : decode c_K_worth 167 = .ok (.aload_n 0, 1) := by decide +kernel
theorem d_K_worth_168 : decode c_K_worth 168 = .ok (.iload_n 1, 1) := by decide +kernel
theorem d_K_worth_169 : decode c_K_worth 169 = .ok (.invokevirtual 62, 3) := by decide +kernel
theorem d_K_worth_172 : decode c_K_worth 172 = .ok (.lreturn, 1) := by decide +kernel
theorem d_K_worth_173 : decode c_K_worth 173 = .ok (.aload_n 0, 1) := by decide +kernel
theorem d_K_worth_174 : decode c_K_worth 174 = .ok (.iload_n 1, 1) := by decide +kernel
theorem d_K_worth_175 : decode c_K_worth 175 = .ok (.iload_n 2, 1) := by decide +kernel
theorem d_K_worth_176 : decode c_K_worth 176 = .ok (.iload_n 3, 1) := by decide +kernel
theorem d_K_worth_177 : decode c_K_worth 177 = .ok (.invokevirtual 65, 3) := by decide +kernel
theorem d_K_worth_180 : decode c_K_worth 180 = .ok (.lreturn, 1) := by decide +kernel
theorem d_M_bit_0 : decode c_M_bit 0 = .ok (.lconst 1, 1) := by decide +kernel
theorem d_M_bit_1 : decode c_M_bit 1 = .ok (.iload_n 0, 1) := by decide +kernel
theorem d_M_bit_2 : decode c_M_bit 2 = .ok (.lshl, 1) := by decide +kernel
theorem d_M_bit_3 : decode c_M_bit 3 = .ok (.lreturn, 1) := by decide +kernel
theorem d_T_kindOf_0 : decode c_T_kindOf 0 = .ok (.aload_n 0, 1) := by decide +kernel
theorem d_T_kindOf_1 : decode c_T_kindOf 1 = .ok (.getfield 9, 3) := by decide +kernel
theorem d_T_kindOf_4 : decode c_T_kindOf 4 = .ok (.iload_n 1, 1) := by decide +kernel
theorem d_T_kindOf_5 : decode c_T_kindOf 5 = .ok (.iaload, 1) := by decide +kernel
theorem d_T_kindOf_6 : decode c_T_kindOf 6 = .ok (.ireturn, 1) := by decide +kernel
theorem d_T_numberOf_0 : decode c_T_numberOf 0 = .ok (.aload_n 0, 1) := by decide +kernel
theorem d_T_numberOf_1 : decode c_T_numberOf 1 = .ok (.getfield 15, 3) := by decide +kernel
theorem d_T_numberOf_4 : decode c_T_numberOf 4 = .ok (.iload_n 1, 1) := by decide +kernel
theorem d_T_numberOf_5 : decode c_T_numberOf 5 = .ok (.laload, 1) := by decide +kernel
theorem d_T_numberOf_6 : decode c_T_numberOf 6 = .ok (.lreturn, 1) := by decide +kernel
theorem d_K_worthOfChoice_0 : decode c_K_worthOfChoice 0 = .ok (.aload_n 0, 1) := by decide +kernel
theorem d_K_worthOfChoice_1 : decode c_K_worthOfChoice 1 = .ok (.aload_n 0, 1) := by decide +kernel
theorem d_K_worthOfChoice_2 : decode c_K_worthOfChoice 2 = .ok (.getfield 9, 3) := by decide +kernel
theorem d_K_worthOfChoice_5 : decode c_K_worthOfChoice 5 = .ok (.iload_n 1, 1) := by decide +kernel
theorem d_K_worthOfChoice_6 : decode c_K_worthOfChoice 6 = .ok (.invokevirtual 69, 3) := by decide +kernel
theorem d_K_worthOfChoice_9 : decode c_K_worthOfChoice 9 = .ok (.invokevirtual 42, 3) := by decide +kernel
theorem d_K_worthOfChoice_12 : decode c_K_worthOfChoice 12 = .ok (.lconst 0, 1) := by decide +kernel
theorem d_K_worthOfChoice_13 : decode c_K_worthOfChoice 13 = .ok (.lcmp, 1) := by decide +kernel
theorem d_K_worthOfChoice_14 : decode c_K_worthOfChoice 14 = .ok (.ifCond .eq 7, 3) := by decide +kernel
theorem d_K_worthOfChoice_17 : decode c_K_worthOfChoice 17 = .ok (.iconst 1, 1) := by decide +kernel
theorem d_K_worthOfChoice_18 : decode c_K_worthOfChoice 18 = .ok (.goto 4, 3) := by decide +kernel
theorem d_K_worthOfChoice_21 : decode c_K_worthOfChoice 21 = .ok (.iconst 0, 1) := by decide +kernel
theorem d_K_worthOfChoice_22 : decode c_K_worthOfChoice 22 = .ok (.istore_n 3, 1) := by decide +kernel
theorem d_K_worthOfChoice_23 : decode c_K_worthOfChoice 23 = .ok (.iload_n 3, 1) := by decide +kernel
theorem d_K_worthOfChoice_24 : decode c_K_worthOfChoice 24 = .ok (.iload_n 2, 1) := by decide +kernel
theorem d_K_worthOfChoice_25 : decode c_K_worthOfChoice 25 = .ok (.iconst 3, 1) := by decide +kernel
theorem d_K_worthOfChoice_26 : decode c_K_worthOfChoice 26 = .ok (.if_icmp .ne 7, 3) := by decide +kernel
theorem d_K_worthOfChoice_29 : decode c_K_worthOfChoice 29 = .ok (.iconst 1, 1) := by decide +kernel
theorem d_K_worthOfChoice_30 : decode c_K_worthOfChoice 30 = .ok (.goto 4, 3) := by decide +kernel
theorem d_K_worthOfChoice_33 : decode c_K_worthOfChoice 33 = .ok (.iconst 0, 1) := by decide +kernel
theorem d_K_worthOfChoice_34 : decode c_K_worthOfChoice 34 = .ok (.if_icmp .eq 7, 3) := by decide +kernel
theorem d_K_worthOfChoice_37 : decode c_K_worthOfChoice 37 = .ok (.iconst 1, 1) := by decide +kernel
theorem d_K_worthOfChoice_38 : decode c_K_worthOfChoice 38 = .ok (.goto 4, 3) := by decide +kernel
theorem d_K_worthOfChoice_41 : decode c_K_worthOfChoice 41 = .ok (.iconst 0, 1) := by decide +kernel
theorem d_K_worthOfChoice_42 : decode c_K_worthOfChoice 42 = .ok (.istore 4, 2) := by decide +kernel
theorem d_K_worthOfChoice_44 : decode c_K_worthOfChoice 44 = .ok (.aload_n 0, 1) := by decide +kernel
theorem d_K_worthOfChoice_45 : decode c_K_worthOfChoice 45 = .ok (.iload 4, 2) := by decide +kernel
theorem d_K_worthOfChoice_47 : decode c_K_worthOfChoice 47 = .ok (.ifCond .eq 14, 3) := by decide +kernel
theorem d_K_worthOfChoice_50 : decode c_K_worthOfChoice 50 = .ok (.aload_n 0, 1) := by decide +kernel
theorem d_K_worthOfChoice_51 : decode c_K_worthOfChoice 51 = .ok (.getfield 9, 3) := by decide +kernel
theorem d_K_worthOfChoice_54 : decode c_K_worthOfChoice 54 = .ok (.iload_n 1, 1) := by decide +kernel
theorem d_K_worthOfChoice_55 : decode c_K_worthOfChoice 55 = .ok (.invokevirtual 72, 3) := by decide +kernel
theorem d_K_worthOfChoice_58 : decode c_K_worthOfChoice 58 = .ok (.goto 11, 3) := by decide +kernel
theorem d_K_worthOfChoice_61 : decode c_K_worthOfChoice 61 = .ok (.aload_n 0, 1) := by decide +kernel
theorem d_K_worthOfChoice_62 : decode c_K_worthOfChoice 62 = .ok (.getfield 9, 3) := by decide +kernel
theorem d_K_worthOfChoice_65 : decode c_K_worthOfChoice 65 = .ok (.iload_n 1, 1) := by decide +kernel
theorem d_K_worthOfChoice_66 : decode c_K_worthOfChoice 66 = .ok (.invokevirtual 75, 3) := by decide +kernel
theorem d_K_worthOfChoice_69 : decode c_K_worthOfChoice 69 = .ok (.invokevirtual 42, 3) := by decide +kernel
theorem d_K_worthOfChoice_72 : decode c_K_worthOfChoice 72 = .ok (.lreturn, 1) := by decide +kernel
theorem d_T_firstOf_0 : decode c_T_firstOf 0 = .ok (.aload_n 0, 1) := by decide +kernel
theorem d_T_firstOf_1 : decode c_T_firstOf 1 = .ok (.getfield 19, 3) := by decide +kernel
theorem d_T_firstOf_4 : decode c_T_firstOf 4 = .ok (.iload_n 1, 1) := by decide +kernel
theorem d_T_firstOf_5 : decode c_T_firstOf 5 = .ok (.iaload, 1) := by decide +kernel
theorem d_T_firstOf_6 : decode c_T_firstOf 6 = .ok (.ireturn, 1) := by decide +kernel
theorem d_T_secondOf_0 : decode c_T_secondOf 0 = .ok (.aload_n 0, 1) := by decide +kernel
theorem d_T_secondOf_1 : decode c_T_secondOf 1 = .ok (.getfield 22, 3) := by decide +kernel
theorem d_T_secondOf_4 : decode c_T_secondOf 4 = .ok (.iload_n 1, 1) := by decide +kernel
theorem d_T_secondOf_5 : decode c_T_secondOf 5 = .ok (.iaload, 1) := by decide +kernel
theorem d_T_secondOf_6 : decode c_T_secondOf 6 = .ok (.ireturn, 1) := by decide +kernel
theorem d_T_thirdOf_0 : decode c_T_thirdOf 0 = .ok (.aload_n 0, 1) := by decide +kernel
theorem d_T_thirdOf_1 : decode c_T_thirdOf 1 = .ok (.getfield 25, 3) := by decide +kernel
theorem d_T_thirdOf_4 : decode c_T_thirdOf 4 = .ok (.iload_n 1, 1) := by decide +kernel
theorem d_T_thirdOf_5 : decode c_T_thirdOf 5 = .ok (.iaload, 1) := by decide +kernel
theorem d_T_thirdOf_6 : decode c_T_thirdOf 6 = .ok (.ireturn, 1) := by decide +kernel
theorem d_K_worthOfLoop_0 : decode c_K_worthOfLoop 0 = .ok (.aload_n 0, 1) := by decide +kernel
theorem d_K_worthOfLoop_1 : decode c_K_worthOfLoop 1 = .ok (.getfield 39, 3) := by decide +kernel
theorem d_K_worthOfLoop_4 : decode c_K_worthOfLoop 4 = .ok (.lstore_n 2, 1) := by decide +kernel
theorem d_K_worthOfLoop_5 : decode c_K_worthOfLoop 5 = .ok (.aload_n 0, 1) := by decide +kernel
theorem d_K_worthOfLoop_6 : decode c_K_worthOfLoop 6 = .ok (.lconst 0, 1) := by decide +kernel
theorem d_K_worthOfLoop_7 : decode c_K_worthOfLoop 7 = .ok (.putfield 39, 3) := by decide +kernel
theorem d_K_worthOfLoop_10 : decode c_K_worthOfLoop 10 = .ok (.aload_n 0, 1) := by decide +kernel
theorem d_K_worthOfLoop_11 : decode c_K_worthOfLoop 11 = .ok (.aload_n 0, 1) := by decide +kernel
theorem d_K_worthOfLoop_12 : decode c_K_worthOfLoop 12 = .ok (.getfield 9, 3) := by decide +kernel
theorem d_K_worthOfLoop_15 : decode c_K_worthOfLoop 15 = .ok (.iload_n 1, 1) := by decide +kernel
theorem d_K_worthOfLoop_16 : decode c_K_worthOfLoop 16 = .ok (.invokevirtual 69, 3) := by decide +kernel
theorem d_K_worthOfLoop_19 : decode c_K_worthOfLoop 19 = .ok (.invokevirtual 42, 3) := by decide +kernel
theorem d_K_worthOfLoop_22 : decode c_K_worthOfLoop 22 = .ok (.lstore 4, 2) := by decide +kernel
theorem d_K_worthOfLoop_24 : decode c_K_worthOfLoop 24 = .ok (.iconst 0, 1) := by decide +kernel
theorem d_K_worthOfLoop_25 : decode c_K_worthOfLoop 25 = .ok (.istore 6, 2) := by decide +kernel
theorem d_K_worthOfLoop_27 : decode c_K_worthOfLoop 27 = .ok (.iload 6, 2) := by decide +kernel
theorem d_K_worthOfLoop_29 : decode c_K_worthOfLoop 29 = .ok (.aload_n 0, 1) := by decide +kernel
theorem d_K_worthOfLoop_30 : decode c_K_worthOfLoop 30 = .ok (.getfield 36, 3) := by decide +kernel
theorem d_K_worthOfLoop_33 : decode c_K_worthOfLoop 33 = .ok (.if_icmp .ge 56, 3) := by decide +kernel
theorem d_K_worthOfLoop_36 : decode c_K_worthOfLoop 36 = .ok (.aload_n 0, 1) := by decide +kernel
theorem d_K_worthOfLoop_37 : decode c_K_worthOfLoop 37 = .ok (.getfield 25, 3) := by decide +kernel
theorem d_K_worthOfLoop_40 : decode c_K_worthOfLoop 40 = .ok (.ifCond .ne 49, 3) := by decide +kernel
theorem d_K_worthOfLoop_43 : decode c_K_worthOfLoop 43 = .ok (.aload_n 0, 1) := by decide +kernel
theorem d_K_worthOfLoop_44 : decode c_K_worthOfLoop 44 = .ok (.getfield 39, 3) := by decide +kernel
theorem d_K_worthOfLoop_47 : decode c_K_worthOfLoop 47 = .ok (.lload 4, 2) := by decide +kernel
theorem d_K_worthOfLoop_49 : decode c_K_worthOfLoop 49 = .ok (.lcmp, 1) := by decide +kernel
theorem d_K_worthOfLoop_50 : decode c_K_worthOfLoop 50 = .ok (.ifCond .ge 39, 3) := by decide +kernel
theorem d_K_worthOfLoop_53 : decode c_K_worthOfLoop 53 = .ok (.aload_n 0, 1) := by decide +kernel
theorem d_K_worthOfLoop_54 : decode c_K_worthOfLoop 54 = .ok (.aload_n 0, 1) := by decide +kernel
theorem d_K_worthOfLoop_55 : decode c_K_worthOfLoop 55 = .ok (.aload_n 0, 1) := by decide +kernel
theorem d_K_worthOfLoop_56 : decode c_K_worthOfLoop 56 = .ok (.getfield 9, 3) := by decide +kernel
theorem d_K_worthOfLoop_59 : decode c_K_worthOfLoop 59 = .ok (.iload_n 1, 1) := by decide +kernel
theorem d_K_worthOfLoop_60 : decode c_K_worthOfLoop 60 = .ok (.invokevirtual 72, 3) := by decide +kernel
theorem d_K_worthOfLoop_63 : decode c_K_worthOfLoop 63 = .ok (.invokevirtual 42, 3) := by decide +kernel
theorem d_K_worthOfLoop_66 : decode c_K_worthOfLoop 66 = .ok (.putfield 39, 3) := by decide +kernel
theorem d_K_worthOfLoop_69 : decode c_K_worthOfLoop 69 = .ok (.aload_n 0, 1) := by decide +kernel
theorem d_K_worthOfLoop_70 : decode c_K_worthOfLoop 70 = .ok (.aload_n 0, 1) := by decide +kernel
theorem d_K_worthOfLoop_71 : decode c_K_worthOfLoop 71 = .ok (.getfield 9, 3) := by decide +kernel
theorem d_K_worthOfLoop_74 : decode c_K_worthOfLoop 74 = .ok (.iload_n 1, 1) := by decide +kernel
theorem d_K_worthOfLoop_75 : decode c_K_worthOfLoop 75 = .ok (.invokevirtual 69, 3) := by decide +kernel
theorem d_K_worthOfLoop_78 : decode c_K_worthOfLoop 78 = .ok (.invokevirtual 42, 3) := by decide +kernel
theorem d_K_worthOfLoop_81 : decode c_K_worthOfLoop 81 = .ok (.lstore 4, 2) := by decide +kernel
theorem d_K_worthOfLoop_83 : decode c_K_worthOfLoop 83 = .ok (.iinc 6 1, 3) := by decide +kernel
theorem d_K_worthOfLoop_86 : decode c_K_worthOfLoop 86 = .ok (.goto (-59), 3) := by decide +kernel
theorem d_K_worthOfLoop_89 : decode c_K_worthOfLoop 89 = .ok (.aload_n 0, 1) := by decide +kernel
theorem d_K_worthOfLoop_90 : decode c_K_worthOfLoop 90 = .ok (.getfield 39, 3) := by decide +kernel
theorem d_K_worthOfLoop_93 : decode c_K_worthOfLoop 93 = .ok (.lstore 6, 2) := by decide +kernel
theorem d_K_worthOfLoop_95 : decode c_K_worthOfLoop 95 = .ok (.aload_n 0, 1) := by decide +kernel
theorem d_K_worthOfLoop_96 : decode c_K_worthOfLoop 96 = .ok (.lload_n 2, 1) := by decide +kernel
theorem d_K_worthOfLoop_97 : decode c_K_worthOfLoop 97 = .ok (.putfield 39, 3) := by decide +kernel
theorem d_K_worthOfLoop_100 : decode c_K_worthOfLoop 100 = .ok (.lload 6, 2) := by decide +kernel
theorem d_K_worthOfLoop_102 : decode c_K_worthOfLoop 102 = .ok (.lreturn, 1) := by decide +kernel
theorem d_K_worthOfTwo_0 : decode c_K_worthOfTwo 0 = .ok (.aload_n 0, 1) := by decide +kernel
theorem d_K_worthOfTwo_1 : decode c_K_worthOfTwo 1 = .ok (.aload_n 0, 1) := by decide +kernel
theorem d_K_worthOfTwo_2 : decode c_K_worthOfTwo 2 = .ok (.getfield 9, 3) := by decide +kernel
theorem d_K_worthOfTwo_5 : decode c_K_worthOfTwo 5 = .ok (.iload_n 1, 1) := by decide +kernel
theorem d_K_worthOfTwo_6 : decode c_K_worthOfTwo 6 = .ok (.invokevirtual 69, 3) := by decide +kernel
theorem d_K_worthOfTwo_9 : decode c_K_worthOfTwo 9 = .ok (.invokevirtual 42, 3) := by decide +kernel
theorem d_K_worthOfTwo_12 : decode c_K_worthOfTwo 12 = .ok (.lstore 4, 2) := by decide +kernel
theorem d_K_worthOfTwo_14 : decode c_K_worthOfTwo 14 = .ok (.iload_n 3, 1) := by decide +kernel
theorem d_K_worthOfTwo_15 : decode c_K_worthOfTwo 15 = .ok (.iconst 4, 1) := by decide +kernel
theorem d_K_worthOfTwo_16 : decode c_K_worthOfTwo 16 = .ok (.if_icmp .ne 6, 3) := by decide +kernel
theorem d_K_worthOfTwo_19 : decode c_K_worthOfTwo 19 = .ok (.lload 4, 2) := by decide +kernel
theorem d_K_worthOfTwo_21 : decode c_K_worthOfTwo 21 = .ok (.lreturn, 1) := by decide +kernel
theorem d_K_worthOfTwo_22 : decode c_K_worthOfTwo 22 = .ok (.aload_n 0, 1) := by decide +kernel
theorem d_K_worthOfTwo_23 : decode c_K_worthOfTwo 23 = .ok (.aload_n 0, 1) := by decide +kernel
theorem d_K_worthOfTwo_24 : decode c_K_worthOfTwo 24 = .ok (.getfield 9, 3) := by decide +kernel
theorem d_K_worthOfTwo_27 : decode c_K_worthOfTwo 27 = .ok (.iload_n 1, 1) := by decide +kernel
theorem d_K_worthOfTwo_28 : decode c_K_worthOfTwo 28 = .ok (.invokevirtual 72, 3) := by decide +kernel
theorem d_K_worthOfTwo_31 : decode c_K_worthOfTwo 31 = .ok (.invokevirtual 42, 3) := by decide +kernel
theorem d_K_worthOfTwo_34 : decode c_K_worthOfTwo 34 = .ok (.lstore 6, 2) := by decide +kernel
theorem d_K_worthOfTwo_36 : decode c_K_worthOfTwo 36 = .ok (.iload_n 3, 1) := by decide +kernel
theorem d_K_worthOfTwo_37 : decode c_K_worthOfTwo 37 = .ok (.iconst 2, 1) := by decide +kernel
theorem d_K_worthOfTwo_38 : decode c_K_worthOfTwo 38 = .ok (.if_icmp .ne 7, 3) := by decide +kernel
theorem d_K_worthOfTwo_41 : decode c_K_worthOfTwo 41 = .ok (.iconst 1, 1) := by decide +kernel
theorem d_K_worthOfTwo_42 : decode c_K_worthOfTwo 42 = .ok (.goto 4, 3) := by decide +kernel
theorem d_K_worthOfTwo_45 : decode c_K_worthOfTwo 45 = .ok (.iconst 0, 1) := by decide +kernel
theorem d_K_worthOfTwo_46 : decode c_K_worthOfTwo 46 = .ok (.istore 8, 2) := by decide +kernel
theorem d_K_worthOfTwo_48 : decode c_K_worthOfTwo 48 = .ok (.iload_n 2, 1) := by decide +kernel
theorem d_K_worthOfTwo_49 : decode c_K_worthOfTwo 49 = .ok (.tableswitch 102 3 6 #[31, 50, 69, 75], 31) := by decide +kernel
theorem d_K_worthOfTwo_80 : decode c_K_worthOfTwo 80 = .ok (.iload 8, 2) := by decide +kernel
theorem d_K_worthOfTwo_82 : decode c_K_worthOfTwo 82 = .ok (.ifCond .eq 11, 3) := by decide +kernel
theorem d_K_worthOfTwo_85 : decode c_K_worthOfTwo 85 = .ok (.lload 4, 2) := by decide +kernel
theorem d_K_worthOfTwo_87 : decode c_K_worthOfTwo 87 = .ok (.lload 6, 2) := by decide +kernel
theorem d_K_worthOfTwo_89 : decode c_K_worthOfTwo 89 = .ok (.lsub, 1) := by decide +kernel
theorem d_K_worthOfTwo_90 : decode c_K_worthOfTwo 90 = .ok (.goto 8, 3) := by decide +kernel
theorem d_K_worthOfTwo_93 : decode c_K_worthOfTwo 93 = .ok (.lload 4, 2) := by decide +kernel
theorem d_K_worthOfTwo_95 : decode c_K_worthOfTwo 95 = .ok (.lload 6, 2) := by decide +kernel
theorem d_K_worthOfTwo_97 : decode c_K_worthOfTwo 97 = .ok (.ladd, 1) := by decide +kernel
theorem d_K_worthOfTwo_98 : decode c_K_worthOfTwo 98 = .ok (.lreturn, 1) := by decide +kernel
theorem d_K_worthOfTwo_99 : decode c_K_worthOfTwo 99 = .ok (.iload 8, 2) := by decide +kernel
theorem d_K_worthOfTwo_101 : decode c_K_worthOfTwo 101 = .ok (.ifCond .eq 11, 3) := by decide +kernel
theorem d_K_worthOfTwo_104 : decode c_K_worthOfTwo 104 = .ok (.lload 4, 2) := by decide +kernel
theorem d_K_worthOfTwo_106 : decode c_K_worthOfTwo 106 = .ok (.lload 6, 2) := by decide +kernel
theorem d_K_worthOfTwo_108 : decode c_K_worthOfTwo 108 = .ok (.ladd, 1) := by decide +kernel
theorem d_K_worthOfTwo_109 : decode c_K_worthOfTwo 109 = .ok (.goto 8, 3) := by decide +kernel
theorem d_K_worthOfTwo_112 : decode c_K_worthOfTwo 112 = .ok (.lload 4, 2) := by decide +kernel
theorem d_K_worthOfTwo_114 : decode c_K_worthOfTwo 114 = .ok (.lload 6, 2) := by decide +kernel
theorem d_K_worthOfTwo_116 : decode c_K_worthOfTwo 116 = .ok (.lsub, 1) := by decide +kernel
theorem d_K_worthOfTwo_117 : decode c_K_worthOfTwo 117 = .ok (.lreturn, 1) := by decide +kernel
theorem d_K_worthOfTwo_118 : decode c_K_worthOfTwo 118 = .ok (.lload 4, 2) := by decide +kernel
theorem d_K_worthOfTwo_120 : decode c_K_worthOfTwo 120 = .ok (.lload 6, 2) := by decide +kernel
theorem d_K_worthOfTwo_122 : decode c_K_worthOfTwo 122 = .ok (.lmul, 1) := by decide +kernel
theorem d_K_worthOfTwo_123 : decode c_K_worthOfTwo 123 = .ok (.lreturn, 1) := by decide +kernel
theorem d_K_worthOfTwo_124 : decode c_K_worthOfTwo 124 = .ok (.lload 4, 2) := by decide +kernel
theorem d_K_worthOfTwo_126 : decode c_K_worthOfTwo 126 = .ok (.lload 6, 2) := by decide +kernel
theorem d_K_worthOfTwo_128 : decode c_K_worthOfTwo 128 = .ok (.lcmp, 1) := by decide +kernel
theorem d_K_worthOfTwo_129 : decode c_K_worthOfTwo 129 = .ok (.ifCond .lt 16, 3) := by decide +kernel
theorem d_K_worthOfTwo_132 : decode c_K_worthOfTwo 132 = .ok (.iload_n 3, 1) := by decide +kernel
theorem d_K_worthOfTwo_133 : decode c_K_worthOfTwo 133 = .ok (.iconst 1, 1) := by decide +kernel
theorem d_K_worthOfTwo_134 : decode c_K_worthOfTwo 134 = .ok (.if_icmp .ne 15, 3) := by decide +kernel
theorem d_K_worthOfTwo_137 : decode c_K_worthOfTwo 137 = .ok (.lload 4, 2) := by decide +kernel
theorem d_K_worthOfTwo_139 : decode c_K_worthOfTwo 139 = .ok (.lload 6, 2) := by decide +kernel
theorem d_K_worthOfTwo_141 : decode c_K_worthOfTwo 141 = .ok (.lcmp, 1) := by decide +kernel
theorem d_K_worthOfTwo_142 : decode c_K_worthOfTwo 142 = .ok (.ifCond .ne 7, 3) := by decide +kernel
theorem d_K_worthOfTwo_145 : decode c_K_worthOfTwo 145 = .ok (.lconst 1, 1) := by decide +kernel
theorem d_K_worthOfTwo_146 : decode c_K_worthOfTwo 146 = .ok (.goto 4, 3) := by decide +kernel
theorem d_K_worthOfTwo_149 : decode c_K_worthOfTwo 149 = .ok (.lconst 0, 1) := by decide +kernel
theorem d_K_worthOfTwo_150 : decode c_K_worthOfTwo 150 = .ok (.lreturn, 1) := by decide +kernel
theorem d_K_worthOfTwo_151 : decode c_K_worthOfTwo 151 = .ok (.lload 4, 2) := by decide +kernel
theorem d_K_worthOfTwo_153 : decode c_K_worthOfTwo 153 = .ok (.lload 6, 2) := by decide +kernel
theorem d_K_worthOfTwo_155 : decode c_K_worthOfTwo 155 = .ok (.lcmp, 1) := by decide +kernel
theorem d_K_worthOfTwo_156 : decode c_K_worthOfTwo 156 = .ok (.ifCond .ne 7, 3) := by decide +kernel
theorem d_K_worthOfTwo_159 : decode c_K_worthOfTwo 159 = .ok (.iconst 1, 1) := by decide +kernel
theorem d_K_worthOfTwo_160 : decode c_K_worthOfTwo 160 = .ok (.goto 4, 3) := by decide +kernel
theorem d_K_worthOfTwo_163 : decode c_K_worthOfTwo 163 = .ok (.iconst 0, 1) := by decide +kernel
theorem d_K_worthOfTwo_164 : decode c_K_worthOfTwo 164 = .ok (.iload_n 3, 1) := by decide +kernel
theorem d_K_worthOfTwo_165 : decode c_K_worthOfTwo 165 = .ok (.iconst 5, 1) := by decide +kernel
theorem d_K_worthOfTwo_166 : decode c_K_worthOfTwo 166 = .ok (.if_icmp .ne 7, 3) := by decide +kernel
theorem d_K_worthOfTwo_169 : decode c_K_worthOfTwo 169 = .ok (.iconst 1, 1) := by decide +kernel
theorem d_K_worthOfTwo_170 : decode c_K_worthOfTwo 170 = .ok (.goto 4, 3) := by decide +kernel
theorem d_K_worthOfTwo_173 : decode c_K_worthOfTwo 173 = .ok (.iconst 0, 1) := by decide +kernel
theorem d_K_worthOfTwo_174 : decode c_K_worthOfTwo 174 = .ok (.if_icmp .eq 7, 3) := by decide +kernel
theorem d_K_worthOfTwo_177 : decode c_K_worthOfTwo 177 = .ok (.lconst 1, 1) := by decide +kernel
theorem d_K_worthOfTwo_178 : decode c_K_worthOfTwo 178 = .ok (.goto 4, 3) := by decide +kernel
theorem d_K_worthOfTwo_181 : decode c_K_worthOfTwo 181 = .ok (.lconst 0, 1) := by decide +kernel
theorem d_K_worthOfTwo_182 : decode c_K_worthOfTwo 182 = .ok (.lreturn, 1) := by decide +kernel
theorem d_K_isCut_0 : decode c_K_isCut 0 = .ok (.aload_n 0, 1) := by decide +kernel
theorem d_K_isCut_1 : decode c_K_isCut 1 = .ok (.getfield 25, 3) := by decide +kernel
theorem d_K_isCut_4 : decode c_K_isCut 4 = .ok (.ireturn, 1) := by decide +kernel
theorem d_K_steps_0 : decode c_K_steps 0 = .ok (.aload_n 0, 1) := by decide +kernel
theorem d_K_steps_1 : decode c_K_steps 1 = .ok (.getfield 22, 3) := by decide +kernel
theorem d_K_steps_4 : decode c_K_steps 4 = .ok (.ireturn, 1) := by decide +kernel
theorem d_K_covered_0 : decode c_K_covered 0 = .ok (.aload_n 0, 1) := by decide +kernel
theorem d_K_covered_1 : decode c_K_covered 1 = .ok (.getfield 29, 3) := by decide +kernel
theorem d_K_covered_4 : decode c_K_covered 4 = .ok (.lreturn, 1) := by decide +kernel
theorem d_M_about_0 : decode c_M_about 0 = .ok (.aload_n 0, 1) := by decide +kernel
theorem d_M_about_1 : decode c_M_about 1 = .ok (.getfield 21, 3) := by decide +kernel
theorem d_M_about_4 : decode c_M_about 4 = .ok (.iload_n 1, 1) := by decide +kernel
theorem d_M_about_5 : decode c_M_about 5 = .ok (.invokevirtual 60, 3) := by decide +kernel
theorem d_M_about_8 : decode c_M_about 8 = .ok (.ifCond .ne 5, 3) := by decide +kernel
theorem d_M_about_11 : decode c_M_about 11 = .ok (.iconst (-1), 1) := by decide +kernel
theorem d_M_about_12 : decode c_M_about 12 = .ok (.ireturn, 1) := by decide +kernel
theorem d_M_about_13 : decode c_M_about 13 = .ok (.iload_n 2, 1) := by decide +kernel
theorem d_M_about_14 : decode c_M_about 14 = .ok (.tableswitch 56 0 2 #[26, 35, 44], 26) := by decide +kernel
theorem d_M_about_40 : decode c_M_about 40 = .ok (.aload_n 0, 1) := by decide +kernel
theorem d_M_about_41 : decode c_M_about 41 = .ok (.getfield 21, 3) := by decide +kernel
theorem d_M_about_44 : decode c_M_about 44 = .ok (.iload_n 1, 1) := by decide +kernel
theorem d_M_about_45 : decode c_M_about 45 = .ok (.invokevirtual 61, 3) := by decide +kernel
theorem d_M_about_48 : decode c_M_about 48 = .ok (.ireturn, 1) := by decide +kernel
theorem d_M_about_49 : decode c_M_about 49 = .ok (.aload_n 0, 1) := by decide +kernel
theorem d_M_about_50 : decode c_M_about 50 = .ok (.getfield 21, 3) := by decide +kernel
theorem d_M_about_53 : decode c_M_about 53 = .ok (.iload_n 1, 1) := by decide +kernel
theorem d_M_about_54 : decode c_M_about 54 = .ok (.invokevirtual 65, 3) := by decide +kernel
theorem d_M_about_57 : decode c_M_about 57 = .ok (.ireturn, 1) := by decide +kernel
theorem d_M_about_58 : decode c_M_about 58 = .ok (.aload_n 0, 1) := by decide +kernel
theorem d_M_about_59 : decode c_M_about 59 = .ok (.getfield 21, 3) := by decide +kernel
theorem d_M_about_62 : decode c_M_about 62 = .ok (.iload_n 1, 1) := by decide +kernel
theorem d_M_about_63 : decode c_M_about 63 = .ok (.invokevirtual 68, 3) := by decide +kernel
theorem d_M_about_66 : decode c_M_about 66 = .ok (.invokestatic 72, 3) := by decide +kernel
theorem d_M_about_69 : decode c_M_about 69 = .ok (.ireturn, 1) := by decide +kernel
theorem d_M_about_70 : decode c_M_about 70 = .ok (.iconst (-1), 1) := by decide +kernel
theorem d_M_about_71 : decode c_M_about 71 = .ok (.ireturn, 1) := by decide +kernel
theorem d_U_has_0 : decode c_U_has 0 = .ok (.iload_n 1, 1) := by decide +kernel
theorem d_U_has_1 : decode c_U_has 1 = .ok (.ifCond .lt 15, 3) := by decide +kernel
theorem d_U_has_4 : decode c_U_has 4 = .ok (.iload_n 1, 1) := by decide +kernel
theorem d_U_has_5 : decode c_U_has 5 = .ok (.aload_n 0, 1) := by decide +kernel
theorem d_U_has_6 : decode c_U_has 6 = .ok (.getfield 40, 3) := by decide +kernel
theorem d_U_has_9 : decode c_U_has 9 = .ok (.if_icmp .ge 7, 3) := by decide +kernel
theorem d_U_has_12 : decode c_U_has 12 = .ok (.iconst 1, 1) := by decide +kernel
theorem d_U_has_13 : decode c_U_has 13 = .ok (.goto 4, 3) := by decide +kernel
theorem d_U_has_16 : decode c_U_has 16 = .ok (.iconst 0, 1) := by decide +kernel
theorem d_U_has_17 : decode c_U_has 17 = .ok (.ireturn, 1) := by decide +kernel
theorem d_U_stateOf_0 : decode c_U_stateOf 0 = .ok (.aload_n 0, 1) := by decide +kernel
theorem d_U_stateOf_1 : decode c_U_stateOf 1 = .ok (.getfield 31, 3) := by decide +kernel
theorem d_U_stateOf_4 : decode c_U_stateOf 4 = .ok (.iload_n 1, 1) := by decide +kernel
theorem d_U_stateOf_5 : decode c_U_stateOf 5 = .ok (.iaload, 1) := by decide +kernel
theorem d_U_stateOf_6 : decode c_U_stateOf 6 = .ok (.ireturn, 1) := by decide +kernel
theorem d_U_stepsOf_0 : decode c_U_stepsOf 0 = .ok (.aload_n 0, 1) := by decide +kernel
theorem d_U_stepsOf_1 : decode c_U_stepsOf 1 = .ok (.getfield 34, 3) := by decide +kernel
theorem d_U_stepsOf_4 : decode c_U_stepsOf 4 = .ok (.iload_n 1, 1) := by decide +kernel
theorem d_U_stepsOf_5 : decode c_U_stepsOf 5 = .ok (.iaload, 1) := by decide +kernel
theorem d_U_stepsOf_6 : decode c_U_stepsOf 6 = .ok (.ireturn, 1) := by decide +kernel
theorem d_U_coveredBy_0 : decode c_U_coveredBy 0 = .ok (.aload_n 0, 1) := by decide +kernel
theorem d_U_coveredBy_1 : decode c_U_coveredBy 1 = .ok (.getfield 37, 3) := by decide +kernel
theorem d_U_coveredBy_4 : decode c_U_coveredBy 4 = .ok (.iload_n 1, 1) := by decide +kernel
theorem d_U_coveredBy_5 : decode c_U_coveredBy 5 = .ok (.laload, 1) := by decide +kernel
theorem d_U_coveredBy_6 : decode c_U_coveredBy 6 = .ok (.lreturn, 1) := by decide +kernel
theorem d_J_bitCount_0 : decode c_J_bitCount 0 = .ok (.lload_n 0, 1) := by decide +kernel
theorem d_J_bitCount_1 : decode c_J_bitCount 1 = .ok (.lload_n 0, 1) := by decide +kernel
theorem d_J_bitCount_2 : decode c_J_bitCount 2 = .ok (.iconst 1, 1) := by decide +kernel
theorem d_J_bitCount_3 : decode c_J_bitCount 3 = .ok (.lushr, 1) := by decide +kernel
theorem d_J_bitCount_4 : decode c_J_bitCount 4 = .ok (.ldc2_w 314, 3) := by decide +kernel
theorem d_J_bitCount_7 : decode c_J_bitCount 7 = .ok (.land, 1) := by decide +kernel
theorem d_J_bitCount_8 : decode c_J_bitCount 8 = .ok (.lsub, 1) := by decide +kernel
theorem d_J_bitCount_9 : decode c_J_bitCount 9 = .ok (.lstore_n 0, 1) := by decide +kernel
theorem d_J_bitCount_10 : decode c_J_bitCount 10 = .ok (.lload_n 0, 1) := by decide +kernel
theorem d_J_bitCount_11 : decode c_J_bitCount 11 = .ok (.ldc2_w 316, 3) := by decide +kernel
theorem d_J_bitCount_14 : decode c_J_bitCount 14 = .ok (.land, 1) := by decide +kernel
theorem d_J_bitCount_15 : decode c_J_bitCount 15 = .ok (.lload_n 0, 1) := by decide +kernel
theorem d_J_bitCount_16 : decode c_J_bitCount 16 = .ok (.iconst 2, 1) := by decide +kernel
theorem d_J_bitCount_17 : decode c_J_bitCount 17 = .ok (.lushr, 1) := by decide +kernel
theorem d_J_bitCount_18 : decode c_J_bitCount 18 = .ok (.ldc2_w 316, 3) := by decide +kernel
theorem d_J_bitCount_21 : decode c_J_bitCount 21 = .ok (.land, 1) := by decide +kernel
theorem d_J_bitCount_22 : decode c_J_bitCount 22 = .ok (.ladd, 1) := by decide +kernel
theorem d_J_bitCount_23 : decode c_J_bitCount 23 = .ok (.lstore_n 0, 1) := by decide +kernel
theorem d_J_bitCount_24 : decode c_J_bitCount 24 = .ok (.lload_n 0, 1) := by decide +kernel
theorem d_J_bitCount_25 : decode c_J_bitCount 25 = .ok (.lload_n 0, 1) := by decide +kernel
theorem d_J_bitCount_26 : decode c_J_bitCount 26 = .ok (.iconst 4, 1) := by decide +kernel
theorem d_J_bitCount_27 : decode c_J_bitCount 27 = .ok (.lushr, 1) := by decide +kernel
theorem d_J_bitCount_28 : decode c_J_bitCount 28 = .ok (.ladd, 1) := by decide +kernel
theorem d_J_bitCount_29 : decode c_J_bitCount 29 = .ok (.ldc2_w 318, 3) := by decide +kernel
theorem d_J_bitCount_32 : decode c_J_bitCount 32 = .ok (.land, 1) := by decide +kernel
theorem d_J_bitCount_33 : decode c_J_bitCount 33 = .ok (.lstore_n 0, 1) := by decide +kernel
theorem d_J_bitCount_34 : decode c_J_bitCount 34 = .ok (.lload_n 0, 1) := by decide +kernel
theorem d_J_bitCount_35 : decode c_J_bitCount 35 = .ok (.lload_n 0, 1) := by decide +kernel
theorem d_J_bitCount_36 : decode c_J_bitCount 36 = .ok (.bipush 8, 2) := by decide +kernel
theorem d_J_bitCount_38 : decode c_J_bitCount 38 = .ok (.lushr, 1) := by decide +kernel
theorem d_J_bitCount_39 : decode c_J_bitCount 39 = .ok (.ladd, 1) := by decide +kernel
theorem d_J_bitCount_40 : decode c_J_bitCount 40 = .ok (.lstore_n 0, 1) := by decide +kernel
theorem d_J_bitCount_41 : decode c_J_bitCount 41 = .ok (.lload_n 0, 1) := by decide +kernel
theorem d_J_bitCount_42 : decode c_J_bitCount 42 = .ok (.lload_n 0, 1) := by decide +kernel
theorem d_J_bitCount_43 : decode c_J_bitCount 43 = .ok (.bipush 16, 2) := by decide +kernel
theorem d_J_bitCount_45 : decode c_J_bitCount 45 = .ok (.lushr, 1) := by decide +kernel
theorem d_J_bitCount_46 : decode c_J_bitCount 46 = .ok (.ladd, 1) := by decide +kernel
theorem d_J_bitCount_47 : decode c_J_bitCount 47 = .ok (.lstore_n 0, 1) := by decide +kernel
theorem d_J_bitCount_48 : decode c_J_bitCount 48 = .ok (.lload_n 0, 1) := by decide +kernel
theorem d_J_bitCount_49 : decode c_J_bitCount 49 = .ok (.lload_n 0, 1) := by decide +kernel
theorem d_J_bitCount_50 : decode c_J_bitCount 50 = .ok (.bipush 32, 2) := by decide +kernel
theorem d_J_bitCount_52 : decode c_J_bitCount 52 = .ok (.lushr, 1) := by decide +kernel
theorem d_J_bitCount_53 : decode c_J_bitCount 53 = .ok (.ladd, 1) := by decide +kernel
theorem d_J_bitCount_54 : decode c_J_bitCount 54 = .ok (.lstore_n 0, 1) := by decide +kernel
theorem d_J_bitCount_55 : decode c_J_bitCount 55 = .ok (.lload_n 0, 1) := by decide +kernel
theorem d_J_bitCount_56 : decode c_J_bitCount 56 = .ok (.l2i, 1) := by decide +kernel
theorem d_J_bitCount_57 : decode c_J_bitCount 57 = .ok (.bipush 127, 2) := by decide +kernel
theorem d_J_bitCount_59 : decode c_J_bitCount 59 = .ok (.iand, 1) := by decide +kernel
theorem d_J_bitCount_60 : decode c_J_bitCount 60 = .ok (.ireturn, 1) := by decide +kernel
theorem d_M_make_0 : decode c_M_make 0 = .ok (.iload_n 1, 1) := by decide +kernel
theorem d_M_make_1 : decode c_M_make 1 = .ok (.invokestatic 78, 3) := by decide +kernel
theorem d_M_make_4 : decode c_M_make 4 = .ok (.ifCond .ne 5, 3) := by decide +kernel
theorem d_M_make_7 : decode c_M_make 7 = .ok (.iconst (-1), 1) := by decide +kernel
theorem d_M_make_8 : decode c_M_make 8 = .ok (.ireturn, 1) := by decide +kernel
theorem d_M_make_9 : decode c_M_make 9 = .ok (.aload_n 0, 1) := by decide +kernel
theorem d_M_make_10 : decode c_M_make 10 = .ok (.getfield 21, 3) := by decide +kernel
theorem d_M_make_13 : decode c_M_make 13 = .ok (.invokevirtual 81, 3) := by decide +kernel
theorem d_M_make_16 : decode c_M_make 16 = .ok (.lstore_n 2, 1) := by decide +kernel
theorem d_M_make_17 : decode c_M_make 17 = .ok (.aload_n 0, 1) := by decide +kernel
theorem d_M_make_18 : decode c_M_make 18 = .ok (.getfield 28, 3) := by decide +kernel
theorem d_M_make_21 : decode c_M_make 21 = .ok (.invokevirtual 85, 3) := by decide +kernel
theorem d_M_make_24 : decode c_M_make 24 = .ok (.istore 4, 2) := by decide +kernel
theorem d_M_make_26 : decode c_M_make 26 = .ok (.iconst 0, 1) := by decide +kernel
theorem d_M_make_27 : decode c_M_make 27 = .ok (.istore 5, 2) := by decide +kernel
theorem d_M_make_29 : decode c_M_make 29 = .ok (.iload 5, 2) := by decide +kernel
theorem d_M_make_31 : decode c_M_make 31 = .ok (.aload_n 0, 1) := by decide +kernel
theorem d_M_make_32 : decode c_M_make 32 = .ok (.getfield 10, 3) := by decide +kernel
theorem d_M_make_35 : decode c_M_make 35 = .ok (.invokevirtual 89, 3) := by decide +kernel
theorem d_M_make_38 : decode c_M_make 38 = .ok (.if_icmp .ge 47, 3) := by decide +kernel
theorem d_M_make_41 : decode c_M_make 41 = .ok (.lload_n 2, 1) := by decide +kernel
theorem d_M_make_42 : decode c_M_make 42 = .ok (.iload 5, 2) := by decide +kernel
theorem d_M_make_44 : decode c_M_make 44 = .ok (.invokestatic 90, 3) := by decide +kernel
theorem d_M_make_47 : decode c_M_make 47 = .ok (.land, 1) := by decide +kernel
theorem d_M_make_48 : decode c_M_make 48 = .ok (.lconst 0, 1) := by decide +kernel
theorem d_M_make_49 : decode c_M_make 49 = .ok (.lcmp, 1) := by decide +kernel
theorem d_M_make_50 : decode c_M_make 50 = .ok (.ifCond .eq 29, 3) := by decide +kernel
theorem d_M_make_53 : decode c_M_make 53 = .ok (.iload_n 1, 1) := by decide +kernel
theorem d_M_make_54 : decode c_M_make 54 = .ok (.aload_n 0, 1) := by decide +kernel
theorem d_M_make_55 : decode c_M_make 55 = .ok (.getfield 10, 3) := by decide +kernel
theorem d_M_make_58 : decode c_M_make 58 = .ok (.iload 5, 2) := by decide +kernel
theorem d_M_make_60 : decode c_M_make 60 = .ok (.invokevirtual 93, 3) := by decide +kernel
theorem d_M_make_63 : decode c_M_make 63 = .ok (.invokestatic 96, 3) := by decide +kernel
theorem d_M_make_66 : decode c_M_make 66 = .ok (.ifCond .eq 13, 3) := by decide +kernel
theorem d_M_make_69 : decode c_M_make 69 = .ok (.aload_n 0, 1) := by decide +kernel
theorem d_M_make_70 : decode c_M_make 70 = .ok (.getfield 28, 3) := by decide +kernel
theorem d_M_make_73 : decode c_M_make 73 = .ok (.iload_n 1, 1) := by decide +kernel
theorem d_M_make_74 : decode c_M_make 74 = .ok (.iload 5, 2) := by decide +kernel
theorem d_M_make_76 : decode c_M_make 76 = .ok (.invokevirtual 100, 3) := by decide +kernel
theorem d_M_make_79 : decode c_M_make 79 = .ok (.iinc 5 1, 3) := by decide +kernel
theorem d_M_make_82 : decode c_M_make 82 = .ok (.goto (-53), 3) := by decide +kernel
theorem d_M_make_85 : decode c_M_make 85 = .ok (.aload_n 0, 1) := by decide +kernel
theorem d_M_make_86 : decode c_M_make 86 = .ok (.getfield 28, 3) := by decide +kernel
theorem d_M_make_89 : decode c_M_make 89 = .ok (.invokevirtual 85, 3) := by decide +kernel
theorem d_M_make_92 : decode c_M_make 92 = .ok (.iload 4, 2) := by decide +kernel
theorem d_M_make_94 : decode c_M_make 94 = .ok (.isub, 1) := by decide +kernel
theorem d_M_make_95 : decode c_M_make 95 = .ok (.ireturn, 1) := by decide +kernel
theorem d_M_isMutantKind_0 : decode c_M_isMutantKind 0 = .ok (.iload_n 0, 1) := by decide +kernel
theorem d_M_isMutantKind_1 : decode c_M_isMutantKind 1 = .ok (.ifCond .lt 13, 3) := by decide +kernel
theorem d_M_isMutantKind_4 : decode c_M_isMutantKind 4 = .ok (.iload_n 0, 1) := by decide +kernel
theorem d_M_isMutantKind_5 : decode c_M_isMutantKind 5 = .ok (.bipush 6, 2) := by decide +kernel
theorem d_M_isMutantKind_7 : decode c_M_isMutantKind 7 = .ok (.if_icmp .ge 7, 3) := by decide +kernel
theorem d_M_isMutantKind_10 : decode c_M_isMutantKind 10 = .ok (.iconst 1, 1) := by decide +kernel
theorem d_M_isMutantKind_11 : decode c_M_isMutantKind 11 = .ok (.goto 4, 3) := by decide +kernel
theorem d_M_isMutantKind_14 : decode c_M_isMutantKind 14 = .ok (.iconst 0, 1) := by decide +kernel
theorem d_M_isMutantKind_15 : decode c_M_isMutantKind 15 = .ok (.ireturn, 1) := by decide +kernel
theorem d_U_coveredByPassing_0 : decode c_U_coveredByPassing 0 = .ok (.lconst 0, 1) := by decide +kernel
theorem d_U_coveredByPassing_1 : decode c_U_coveredByPassing 1 = .ok (.lstore_n 1, 1) := by decide +kernel
theorem d_U_coveredByPassing_2 : decode c_U_coveredByPassing 2 = .ok (.iconst 0, 1) := by decide +kernel
theorem d_U_coveredByPassing_3 : decode c_U_coveredByPassing 3 = .ok (.istore_n 3, 1) := by decide +kernel
theorem d_U_coveredByPassing_4 : decode c_U_coveredByPassing 4 = .ok (.iload_n 3, 1) := by decide +kernel
theorem d_U_coveredByPassing_5 : decode c_U_coveredByPassing 5 = .ok (.aload_n 0, 1) := by decide +kernel
theorem d_U_coveredByPassing_6 : decode c_U_coveredByPassing 6 = .ok (.getfield 40, 3) := by decide +kernel
theorem d_U_coveredByPassing_9 : decode c_U_coveredByPassing 9 = .ok (.if_icmp .ge 28, 3) := by decide +kernel
theorem d_U_coveredByPassing_12 : decode c_U_coveredByPassing 12 = .ok (.aload_n 0, 1) := by decide +kernel
theorem d_U_coveredByPassing_13 : decode c_U_coveredByPassing 13 = .ok (.getfield 31, 3) := by decide +kernel
theorem d_U_coveredByPassing_16 : decode c_U_coveredByPassing 16 = .ok (.iload_n 3, 1) := by decide +kernel
theorem d_U_coveredByPassing_17 : decode c_U_coveredByPassing 17 = .ok (.iaload, 1) := by decide +kernel
theorem d_U_coveredByPassing_18 : decode c_U_coveredByPassing 18 = .ok (.iconst 1, 1) := by decide +kernel
theorem d_U_coveredByPassing_19 : decode c_U_coveredByPassing 19 = .ok (.if_icmp .ne 12, 3) := by decide +kernel
theorem d_U_coveredByPassing_22 : decode c_U_coveredByPassing 22 = .ok (.lload_n 1, 1) := by decide +kernel
theorem d_U_coveredByPassing_23 : decode c_U_coveredByPassing 23 = .ok (.aload_n 0, 1) := by decide +kernel
theorem d_U_coveredByPassing_24 : decode c_U_coveredByPassing 24 = .ok (.getfield 37, 3) := by decide +kernel
theorem d_U_coveredByPassing_27 : decode c_U_coveredByPassing 27 = .ok (.iload_n 3, 1) := by decide +kernel
theorem d_U_coveredByPassing_28 : decode c_U_coveredByPassing 28 = .ok (.laload, 1) := by decide +kernel
theorem d_U_coveredByPassing_29 : decode c_U_coveredByPassing 29 = .ok (.lor, 1) := by decide +kernel
theorem d_U_coveredByPassing_30 : decode c_U_coveredByPassing 30 = .ok (.lstore_n 1, 1) := by decide +kernel
theorem d_U_coveredByPassing_31 : decode c_U_coveredByPassing 31 = .ok (.iinc 3 1, 3) := by decide +kernel
theorem d_U_coveredByPassing_34 : decode c_U_coveredByPassing 34 = .ok (.goto (-30), 3) := by decide +kernel
theorem d_U_coveredByPassing_37 : decode c_U_coveredByPassing 37 = .ok (.lload_n 1, 1) := by decide +kernel
theorem d_U_coveredByPassing_38 : decode c_U_coveredByPassing 38 = .ok (.lreturn, 1) := by decide +kernel
theorem d_N_size_0 : decode c_N_size 0 = .ok (.aload_n 0, 1) := by decide +kernel
theorem d_N_size_1 : decode c_N_size 1 = .ok (.getfield 32, 3) := by decide +kernel
theorem d_N_size_4 : decode c_N_size 4 = .ok (.ireturn, 1) := by decide +kernel
theorem d_T_size_0 : decode c_T_size 0 = .ok (.aload_n 0, 1) := by decide +kernel
theorem d_T_size_1 : decode c_T_size 1 = .ok (.getfield 34, 3) := by decide +kernel
theorem d_T_size_4 : decode c_T_size 4 = .ok (.ireturn, 1) := by decide +kernel
theorem d_M_fits_0 : decode c_M_fits 0 = .ok (.iload_n 0, 1) := by decide +kernel
theorem d_M_fits_1 : decode c_M_fits 1 = .ok (.tableswitch 122 0 5 #[39, 49, 61, 77, 89, 110], 39) := by decide +kernel
theorem d_M_fits_40 : decode c_M_fits 40 = .ok (.iload_n 1, 1) := by decide +kernel
theorem d_M_fits_41 : decode c_M_fits 41 = .ok (.ifCond .ne 7, 3) := by decide +kernel
theorem d_M_fits_44 : decode c_M_fits 44 = .ok (.iconst 1, 1) := by decide +kernel
theorem d_M_fits_45 : decode c_M_fits 45 = .ok (.goto 4, 3) := by decide +kernel
theorem d_M_fits_48 : decode c_M_fits 48 = .ok (.iconst 0, 1) := by decide +kernel
theorem d_M_fits_49 : decode c_M_fits 49 = .ok (.ireturn, 1) := by decide +kernel
theorem d_M_fits_50 : decode c_M_fits 50 = .ok (.iload_n 1, 1) := by decide +kernel
theorem d_M_fits_51 : decode c_M_fits 51 = .ok (.bipush 6, 2) := by decide +kernel
theorem d_M_fits_53 : decode c_M_fits 53 = .ok (.if_icmp .ne 7, 3) := by decide +kernel
theorem d_M_fits_56 : decode c_M_fits 56 = .ok (.iconst 1, 1) := by decide +kernel
theorem d_M_fits_57 : decode c_M_fits 57 = .ok (.goto 4, 3) := by decide +kernel
theorem d_M_fits_60 : decode c_M_fits 60 = .ok (.iconst 0, 1) := by decide +kernel
theorem d_M_fits_61 : decode c_M_fits 61 = .ok (.ireturn, 1) := by decide +kernel
theorem d_M_fits_62 : decode c_M_fits 62 = .ok (.iload_n 1, 1) := by decide +kernel
theorem d_M_fits_63 : decode c_M_fits 63 = .ok (.iconst 3, 1) := by decide +kernel
theorem d_M_fits_64 : decode c_M_fits 64 = .ok (.if_icmp .eq 8, 3) := by decide +kernel
theorem d_M_fits_67 : decode c_M_fits 67 = .ok (.iload_n 1, 1) := by decide +kernel
theorem d_M_fits_68 : decode c_M_fits 68 = .ok (.iconst 4, 1) := by decide +kernel
theorem d_M_fits_69 : decode c_M_fits 69 = .ok (.if_icmp .ne 7, 3) := by decide +kernel
theorem d_M_fits_72 : decode c_M_fits 72 = .ok (.iconst 1, 1) := by decide +kernel
theorem d_M_fits_73 : decode c_M_fits 73 = .ok (.goto 4, 3) := by decide +kernel
theorem d_M_fits_76 : decode c_M_fits 76 = .ok (.iconst 0, 1) := by decide +kernel
theorem d_M_fits_77 : decode c_M_fits 77 = .ok (.ireturn, 1) := by decide +kernel
theorem d_M_fits_78 : decode c_M_fits 78 = .ok (.iload_n 1, 1) := by decide +kernel
theorem d_M_fits_79 : decode c_M_fits 79 = .ok (.bipush 8, 2) := by decide +kernel
theorem d_M_fits_81 : decode c_M_fits 81 = .ok (.if_icmp .ne 7, 3) := by decide +kernel
theorem d_M_fits_84 : decode c_M_fits 84 = .ok (.iconst 1, 1) := by decide +kernel
theorem d_M_fits_85 : decode c_M_fits 85 = .ok (.goto 4, 3) := by decide +kernel
theorem d_M_fits_88 : decode c_M_fits 88 = .ok (.iconst 0, 1) := by decide +kernel
theorem d_M_fits_89 : decode c_M_fits 89 = .ok (.ireturn, 1) := by decide +kernel
theorem d_M_fits_90 : decode c_M_fits 90 = .ok (.iload_n 1, 1) := by decide +kernel
theorem d_M_fits_91 : decode c_M_fits 91 = .ok (.iconst 3, 1) := by decide +kernel
theorem d_M_fits_92 : decode c_M_fits 92 = .ok (.if_icmp .eq 13, 3) := by decide +kernel
theorem d_M_fits_95 : decode c_M_fits 95 = .ok (.iload_n 1, 1) := by decide +kernel
theorem d_M_fits_96 : decode c_M_fits 96 = .ok (.iconst 4, 1) := by decide +kernel
theorem d_M_fits_97 : decode c_M_fits 97 = .ok (.if_icmp .eq 8, 3) := by decide +kernel
theorem d_M_fits_100 : decode c_M_fits 100 = .ok (.iload_n 1, 1) := by decide +kernel
theorem d_M_fits_101 : decode c_M_fits 101 = .ok (.iconst 5, 1) := by decide +kernel
theorem d_M_fits_102 : decode c_M_fits 102 = .ok (.if_icmp .ne 7, 3) := by decide +kernel
theorem d_M_fits_105 : decode c_M_fits 105 = .ok (.iconst 1, 1) := by decide +kernel
theorem d_M_fits_106 : decode c_M_fits 106 = .ok (.goto 4, 3) := by decide +kernel
theorem d_M_fits_109 : decode c_M_fits 109 = .ok (.iconst 0, 1) := by decide +kernel
theorem d_M_fits_110 : decode c_M_fits 110 = .ok (.ireturn, 1) := by decide +kernel
theorem d_M_fits_111 : decode c_M_fits 111 = .ok (.iload_n 1, 1) := by decide +kernel
theorem d_M_fits_112 : decode c_M_fits 112 = .ok (.bipush 7, 2) := by decide +kernel
theorem d_M_fits_114 : decode c_M_fits 114 = .ok (.if_icmp .ne 7, 3) := by decide +kernel
theorem d_M_fits_117 : decode c_M_fits 117 = .ok (.iconst 1, 1) := by decide +kernel
theorem d_M_fits_118 : decode c_M_fits 118 = .ok (.goto 4, 3) := by decide +kernel
theorem d_M_fits_121 : decode c_M_fits 121 = .ok (.iconst 0, 1) := by decide +kernel
theorem d_M_fits_122 : decode c_M_fits 122 = .ok (.ireturn, 1) := by decide +kernel
theorem d_M_fits_123 : decode c_M_fits 123 = .ok (.iconst 0, 1) := by decide +kernel
theorem d_M_fits_124 : decode c_M_fits 124 = .ok (.ireturn, 1) := by decide +kernel
theorem d_N_add_0 : decode c_N_add 0 = .ok (.aload_n 0, 1) := by decide +kernel
theorem d_N_add_1 : decode c_N_add 1 = .ok (.getfield 32, 3) := by decide +kernel
theorem d_N_add_4 : decode c_N_add 4 = .ok (.bipush 100, 2) := by decide +kernel
theorem d_N_add_6 : decode c_N_add 6 = .ok (.if_icmp .ge 19, 3) := by decide +kernel
theorem d_N_add_9 : decode c_N_add 9 = .ok (.aload_n 0, 1) := by decide +kernel
theorem d_N_add_10 : decode c_N_add 10 = .ok (.getfield 28, 3) := by decide +kernel
theorem d_N_add_13 : decode c_N_add 13 = .ok (.iload_n 1, 1) := by decide +kernel
theorem d_N_add_14 : decode c_N_add 14 = .ok (.laload, 1) := by decide +kernel
theorem d_N_add_15 : decode c_N_add 15 = .ok (.iload_n 2, 1) := by decide +kernel
theorem d_N_add_16 : decode c_N_add 16 = .ok (.invokestatic 36, 3) := by decide +kernel
theorem d_N_add_19 : decode c_N_add 19 = .ok (.land, 1) := by decide +kernel
theorem d_N_add_20 : decode c_N_add 20 = .ok (.lconst 0, 1) := by decide +kernel
theorem d_N_add_21 : decode c_N_add 21 = .ok (.lcmp, 1) := by decide +kernel
theorem d_N_add_22 : decode c_N_add 22 = .ok (.ifCond .eq 4, 3) := by decide +kernel
theorem d_N_add_25 : decode c_N_add 25 = .ok (.return_, 1) := by decide +kernel
theorem d_N_add_26 : decode c_N_add 26 = .ok (.aload_n 0, 1) := by decide +kernel
theorem d_N_add_27 : decode c_N_add 27 = .ok (.getfield 28, 3) := by decide +kernel
theorem d_N_add_30 : decode c_N_add 30 = .ok (.iload_n 1, 1) := by decide +kernel
theorem d_N_add_31 : decode c_N_add 31 = .ok (.dup2, 1) := by decide +kernel
theorem d_N_add_32 : decode c_N_add 32 = .ok (.laload, 1) := by decide +kernel
theorem d_N_add_33 : decode c_N_add 33 = .ok (.iload_n 2, 1) := by decide +kernel
theorem d_N_add_34 : decode c_N_add 34 = .ok (.invokestatic 36, 3) := by decide +kernel
theorem d_N_add_37 : decode c_N_add 37 = .ok (.lor, 1) := by decide +kernel
theorem d_N_add_38 : decode c_N_add 38 = .ok (.lastore, 1) := by decide +kernel
theorem d_N_add_39 : decode c_N_add 39 = .ok (.aload_n 0, 1) := by decide +kernel
theorem d_N_add_40 : decode c_N_add 40 = .ok (.getfield 15, 3) := by decide +kernel
theorem d_N_add_43 : decode c_N_add 43 = .ok (.aload_n 0, 1) := by decide +kernel
theorem d_N_add_44 : decode c_N_add 44 = .ok (.getfield 32, 3) := by decide +kernel
theorem d_N_add_47 : decode c_N_add 47 = .ok (.iload_n 1, 1) := by decide +kernel
theorem d_N_add_48 : decode c_N_add 48 = .ok (.iastore, 1) := by decide +kernel
theorem d_N_add_49 : decode c_N_add 49 = .ok (.aload_n 0, 1) := by decide +kernel
theorem d_N_add_50 : decode c_N_add 50 = .ok (.getfield 19, 3) := by decide +kernel
theorem d_N_add_53 : decode c_N_add 53 = .ok (.aload_n 0, 1) := by decide +kernel
theorem d_N_add_54 : decode c_N_add 54 = .ok (.getfield 32, 3) := by decide +kernel
theorem d_N_add_57 : decode c_N_add 57 = .ok (.iload_n 2, 1) := by decide +kernel
theorem d_N_add_58 : decode c_N_add 58 = .ok (.iastore, 1) := by decide +kernel
theorem d_N_add_59 : decode c_N_add 59 = .ok (.aload_n 0, 1) := by decide +kernel
theorem d_N_add_60 : decode c_N_add 60 = .ok (.aload_n 0, 1) := by decide +kernel
theorem d_N_add_61 : decode c_N_add 61 = .ok (.getfield 32, 3) := by decide +kernel
theorem d_N_add_64 : decode c_N_add 64 = .ok (.iconst (-1), 1) := by decide +kernel
theorem d_N_add_65 : decode c_N_add 65 = .ok (.iconst (-1), 1) := by decide +kernel
theorem d_N_add_66 : decode c_N_add 66 = .ok (.invokevirtual 40, 3) := by decide +kernel
theorem d_N_add_69 : decode c_N_add 69 = .ok (.aload_n 0, 1) := by decide +kernel
theorem d_N_add_70 : decode c_N_add 70 = .ok (.dup, 1) := by decide +kernel
theorem d_N_add_71 : decode c_N_add 71 = .ok (.getfield 32, 3) := by decide +kernel
theorem d_N_add_74 : decode c_N_add 74 = .ok (.iconst 1, 1) := by decide +kernel
theorem d_N_add_75 : decode c_N_add 75 = .ok (.iadd, 1) := by decide +kernel
theorem d_N_add_76 : decode c_N_add 76 = .ok (.putfield 32, 3) := by decide +kernel
theorem d_N_add_79 : decode c_N_add 79 = .ok (.return_, 1) := by decide +kernel
theorem d_N_settle_0 : decode c_N_settle 0 = .ok (.aload_n 0, 1) := by decide +kernel
theorem d_N_settle_1 : decode c_N_settle 1 = .ok (.getfield 22, 3) := by decide +kernel
theorem d_N_settle_4 : decode c_N_settle 4 = .ok (.iload_n 1, 1) := by decide +kernel
theorem d_N_settle_5 : decode c_N_settle 5 = .ok (.iload_n 2, 1) := by decide +kernel
theorem d_N_settle_6 : decode c_N_settle 6 = .ok (.iastore, 1) := by decide +kernel
theorem d_N_settle_7 : decode c_N_settle 7 = .ok (.aload_n 0, 1) := by decide +kernel
theorem d_N_settle_8 : decode c_N_settle 8 = .ok (.getfield 25, 3) := by decide +kernel
theorem d_N_settle_11 : decode c_N_settle 11 = .ok (.iload_n 1, 1) := by decide +kernel
theorem d_N_settle_12 : decode c_N_settle 12 = .ok (.iload_n 3, 1) := by decide +kernel
theorem d_N_settle_13 : decode c_N_settle 13 = .ok (.iastore, 1) := by decide +kernel
theorem d_N_settle_14 : decode c_N_settle 14 = .ok (.return_, 1) := by decide +kernel
theorem d_M_mutant_0 : decode c_M_mutant 0 = .ok (.aload_n 0, 1) := by decide +kernel
theorem d_M_mutant_1 : decode c_M_mutant 1 = .ok (.getfield 28, 3) := by decide +kernel
theorem d_M_mutant_4 : decode c_M_mutant 4 = .ok (.iload_n 1, 1) := by decide +kernel
theorem d_M_mutant_5 : decode c_M_mutant 5 = .ok (.invokevirtual 103, 3) := by decide +kernel
theorem d_M_mutant_8 : decode c_M_mutant 8 = .ok (.ifCond .ne 5, 3) := by decide +kernel
theorem d_M_mutant_11 : decode c_M_mutant 11 = .ok (.iconst (-1), 1) := by decide +kernel
theorem d_M_mutant_12 : decode c_M_mutant 12 = .ok (.ireturn, 1) := by decide +kernel
theorem d_M_mutant_13 : decode c_M_mutant 13 = .ok (.iload_n 2, 1) := by decide +kernel
theorem d_M_mutant_14 : decode c_M_mutant 14 = .ok (.tableswitch 87 0 4 #[34, 43, 52, 61, 70], 34) := by decide +kernel
theorem d_M_mutant_48 : decode c_M_mutant 48 = .ok (.aload_n 0, 1) := by decide +kernel
theorem d_M_mutant_49 : decode c_M_mutant 49 = .ok (.getfield 28, 3) := by decide +kernel
theorem d_M_mutant_52 : decode c_M_mutant 52 = .ok (.iload_n 1, 1) := by decide +kernel
theorem d_M_mutant_53 : decode c_M_mutant 53 = .ok (.invokevirtual 104, 3) := by decide +kernel
theorem d_M_mutant_56 : decode c_M_mutant 56 = .ok (.ireturn, 1) := by decide +kernel
theorem d_M_mutant_57 : decode c_M_mutant 57 = .ok (.aload_n 0, 1) := by decide +kernel
theorem d_M_mutant_58 : decode c_M_mutant 58 = .ok (.getfield 28, 3) := by decide +kernel
theorem d_M_mutant_61 : decode c_M_mutant 61 = .ok (.iload_n 1, 1) := by decide +kernel
theorem d_M_mutant_62 : decode c_M_mutant 62 = .ok (.invokevirtual 105, 3) := by decide +kernel
theorem d_M_mutant_65 : decode c_M_mutant 65 = .ok (.ireturn, 1) := by decide +kernel
theorem d_M_mutant_66 : decode c_M_mutant 66 = .ok (.aload_n 0, 1) := by decide +kernel
theorem d_M_mutant_67 : decode c_M_mutant 67 = .ok (.getfield 28, 3) := by decide +kernel
theorem d_M_mutant_70 : decode c_M_mutant 70 = .ok (.iload_n 1, 1) := by decide +kernel
theorem d_M_mutant_71 : decode c_M_mutant 71 = .ok (.invokevirtual 108, 3) := by decide +kernel
theorem d_M_mutant_74 : decode c_M_mutant 74 = .ok (.ireturn, 1) := by decide +kernel
theorem d_M_mutant_75 : decode c_M_mutant 75 = .ok (.aload_n 0, 1) := by decide +kernel
theorem d_M_mutant_76 : decode c_M_mutant 76 = .ok (.getfield 28, 3) := by decide +kernel
theorem d_M_mutant_79 : decode c_M_mutant 79 = .ok (.iload_n 1, 1) := by decide +kernel
theorem d_M_mutant_80 : decode c_M_mutant 80 = .ok (.invokevirtual 111, 3) := by decide +kernel
theorem d_M_mutant_83 : decode c_M_mutant 83 = .ok (.ireturn, 1) := by decide +kernel
theorem d_M_mutant_84 : decode c_M_mutant 84 = .ok (.aload_n 0, 1) := by decide +kernel
theorem d_M_mutant_85 : decode c_M_mutant 85 = .ok (.getfield 28, 3) := by decide +kernel
theorem d_M_mutant_88 : decode c_M_mutant 88 = .ok (.iload_n 1, 1) := by decide +kernel
theorem d_M_mutant_89 : decode c_M_mutant 89 = .ok (.invokevirtual 114, 3) := by decide +kernel
theorem d_M_mutant_92 : decode c_M_mutant 92 = .ok (.ifCond .eq 7, 3) := by decide +kernel
theorem d_M_mutant_95 : decode c_M_mutant 95 = .ok (.iconst 1, 1) := by decide +kernel
theorem d_M_mutant_96 : decode c_M_mutant 96 = .ok (.goto 4, 3) := by decide +kernel
theorem d_M_mutant_99 : decode c_M_mutant 99 = .ok (.iconst 0, 1) := by decide +kernel
theorem d_M_mutant_100 : decode c_M_mutant 100 = .ok (.ireturn, 1) := by decide +kernel
theorem d_M_mutant_101 : decode c_M_mutant 101 = .ok (.iconst (-1), 1) := by decide +kernel
theorem d_M_mutant_102 : decode c_M_mutant 102 = .ok (.ireturn, 1) := by decide +kernel
theorem d_N_has_0 : decode c_N_has 0 = .ok (.iload_n 1, 1) := by decide +kernel
theorem d_N_has_1 : decode c_N_has 1 = .ok (.ifCond .lt 15, 3) := by decide +kernel
theorem d_N_has_4 : decode c_N_has 4 = .ok (.iload_n 1, 1) := by decide +kernel
theorem d_N_has_5 : decode c_N_has 5 = .ok (.aload_n 0, 1) := by decide +kernel
theorem d_N_has_6 : decode c_N_has 6 = .ok (.getfield 32, 3) := by decide +kernel
theorem d_N_has_9 : decode c_N_has 9 = .ok (.if_icmp .ge 7, 3) := by decide +kernel
theorem d_N_has_12 : decode c_N_has 12 = .ok (.iconst 1, 1) := by decide +kernel
theorem d_N_has_13 : decode c_N_has 13 = .ok (.goto 4, 3) := by decide +kernel
theorem d_N_has_16 : decode c_N_has 16 = .ok (.iconst 0, 1) := by decide +kernel
theorem d_N_has_17 : decode c_N_has 17 = .ok (.ireturn, 1) := by decide +kernel
theorem d_N_kindOf_0 : decode c_N_kindOf 0 = .ok (.aload_n 0, 1) := by decide +kernel
theorem d_N_kindOf_1 : decode c_N_kindOf 1 = .ok (.getfield 15, 3) := by decide +kernel
theorem d_N_kindOf_4 : decode c_N_kindOf 4 = .ok (.iload_n 1, 1) := by decide +kernel
theorem d_N_kindOf_5 : decode c_N_kindOf 5 = .ok (.iaload, 1) := by decide +kernel
theorem d_N_kindOf_6 : decode c_N_kindOf 6 = .ok (.ireturn, 1) := by decide +kernel
theorem d_N_nodeOf_0 : decode c_N_nodeOf 0 = .ok (.aload_n 0, 1) := by decide +kernel
theorem d_N_nodeOf_1 : decode c_N_nodeOf 1 = .ok (.getfield 19, 3) := by decide +kernel
theorem d_N_nodeOf_4 : decode c_N_nodeOf 4 = .ok (.iload_n 1, 1) := by decide +kernel
theorem d_N_nodeOf_5 : decode c_N_nodeOf 5 = .ok (.iaload, 1) := by decide +kernel
theorem d_N_nodeOf_6 : decode c_N_nodeOf 6 = .ok (.ireturn, 1) := by decide +kernel
theorem d_N_outcomeOf_0 : decode c_N_outcomeOf 0 = .ok (.aload_n 0, 1) := by decide +kernel
theorem d_N_outcomeOf_1 : decode c_N_outcomeOf 1 = .ok (.getfield 22, 3) := by decide +kernel
theorem d_N_outcomeOf_4 : decode c_N_outcomeOf 4 = .ok (.iload_n 1, 1) := by decide +kernel
theorem d_N_outcomeOf_5 : decode c_N_outcomeOf 5 = .ok (.iaload, 1) := by decide +kernel
theorem d_N_outcomeOf_6 : decode c_N_outcomeOf 6 = .ok (.ireturn, 1) := by decide +kernel
theorem d_N_enderOf_0 : decode c_N_enderOf 0 = .ok (.aload_n 0, 1) := by decide +kernel
theorem d_N_enderOf_1 : decode c_N_enderOf 1 = .ok (.getfield 25, 3) := by decide +kernel
theorem d_N_enderOf_4 : decode c_N_enderOf 4 = .ok (.iload_n 1, 1) := by decide +kernel
theorem d_N_enderOf_5 : decode c_N_enderOf 5 = .ok (.iaload, 1) := by decide +kernel
theorem d_N_enderOf_6 : decode c_N_enderOf 6 = .ok (.ireturn, 1) := by decide +kernel
theorem d_N_isAlike_0 : decode c_N_isAlike 0 = .ok (.aload_n 0, 1) := by decide +kernel
end
section
theorem d_N_isAlike_1 : decode c_N_isAlike 1 = .ok (.getfield 19, 3) := by decide +kernel
theorem d_N_isAlike_4 : decode c_N_isAlike 4 = .ok (.iload_n 1, 1) := by decide +kernel
theorem d_N_isAlike_5 : decode c_N_isAlike 5 = .ok (.iaload, 1) := by decide +kernel
theorem d_N_isAlike_6 : decode c_N_isAlike 6 = .ok (.istore_n 2, 1) := by decide +kernel
theorem d_N_isAlike_7 : decode c_N_isAlike 7 = .ok (.aload_n 0, 1) := by decide +kernel
theorem d_N_isAlike_8 : decode c_N_isAlike 8 = .ok (.getfield 15, 3) := by decide +kernel
theorem d_N_isAlike_11 : decode c_N_isAlike 11 = .ok (.iload_n 1, 1) := by decide +kernel
theorem d_N_isAlike_12 : decode c_N_isAlike 12 = .ok (.iaload, 1) := by decide +kernel
theorem d_N_isAlike_13 : decode c_N_isAlike 13 = .ok (.tableswitch 111 1 4 #[31, 37, 54, 78], 31) := by decide +kernel
theorem d_N_isAlike_44 : decode c_N_isAlike 44 = .ok (.aload_n 0, 1) := by decide +kernel
theorem d_N_isAlike_45 : decode c_N_isAlike 45 = .ok (.iload_n 2, 1) := by decide +kernel
theorem d_N_isAlike_46 : decode c_N_isAlike 46 = .ok (.invokevirtual 48, 3) := by decide +kernel
theorem d_N_isAlike_49 : decode c_N_isAlike 49 = .ok (.ireturn, 1) := by decide +kernel
theorem d_N_isAlike_50 : decode c_N_isAlike 50 = .ok (.aload_n 0, 1) := by decide +kernel
theorem d_N_isAlike_51 : decode c_N_isAlike 51 = .ok (.getfield 9, 3) := by decide +kernel
theorem d_N_isAlike_54 : decode c_N_isAlike 54 = .ok (.aload_n 0, 1) := by decide +kernel
theorem d_N_isAlike_55 : decode c_N_isAlike 55 = .ok (.getfield 9, 3) := by decide +kernel
theorem d_N_isAlike_58 : decode c_N_isAlike 58 = .ok (.iload_n 2, 1) := by decide +kernel
theorem d_N_isAlike_59 : decode c_N_isAlike 59 = .ok (.invokevirtual 51, 3) := by decide +kernel
theorem d_N_isAlike_62 : decode c_N_isAlike 62 = .ok (.lconst 0, 1) := by decide +kernel
theorem d_N_isAlike_63 : decode c_N_isAlike 63 = .ok (.invokevirtual 57, 3) := by decide +kernel
theorem d_N_isAlike_66 : decode c_N_isAlike 66 = .ok (.ireturn, 1) := by decide +kernel
theorem d_N_isAlike_67 : decode c_N_isAlike 67 = .ok (.aload_n 0, 1) := by decide +kernel
theorem d_N_isAlike_68 : decode c_N_isAlike 68 = .ok (.getfield 9, 3) := by decide +kernel
theorem d_N_isAlike_71 : decode c_N_isAlike 71 = .ok (.aload_n 0, 1) := by decide +kernel
theorem d_N_isAlike_72 : decode c_N_isAlike 72 = .ok (.getfield 9, 3) := by decide +kernel
theorem d_N_isAlike_75 : decode c_N_isAlike 75 = .ok (.iload_n 2, 1) := by decide +kernel
theorem d_N_isAlike_76 : decode c_N_isAlike 76 = .ok (.invokevirtual 51, 3) := by decide +kernel
theorem d_N_isAlike_79 : decode c_N_isAlike 79 = .ok (.aload_n 0, 1) := by decide +kernel
theorem d_N_isAlike_80 : decode c_N_isAlike 80 = .ok (.getfield 9, 3) := by decide +kernel
theorem d_N_isAlike_83 : decode c_N_isAlike 83 = .ok (.iload_n 2, 1) := by decide +kernel
theorem d_N_isAlike_84 : decode c_N_isAlike 84 = .ok (.invokevirtual 61, 3) := by decide +kernel
theorem d_N_isAlike_87 : decode c_N_isAlike 87 = .ok (.invokevirtual 64, 3) := by decide +kernel
theorem d_N_isAlike_90 : decode c_N_isAlike 90 = .ok (.ireturn, 1) := by decide +kernel
theorem d_N_isAlike_91 : decode c_N_isAlike 91 = .ok (.aload_n 0, 1) := by decide +kernel
theorem d_N_isAlike_92 : decode c_N_isAlike 92 = .ok (.getfield 9, 3) := by decide +kernel
theorem d_N_isAlike_95 : decode c_N_isAlike 95 = .ok (.aload_n 0, 1) := by decide +kernel
theorem d_N_isAlike_96 : decode c_N_isAlike 96 = .ok (.getfield 9, 3) := by decide +kernel
theorem d_N_isAlike_99 : decode c_N_isAlike 99 = .ok (.iload_n 2, 1) := by decide +kernel
theorem d_N_isAlike_100 : decode c_N_isAlike 100 = .ok (.invokevirtual 51, 3) := by decide +kernel
theorem d_N_isAlike_103 : decode c_N_isAlike 103 = .ok (.aload_n 0, 1) := by decide +kernel
theorem d_N_isAlike_104 : decode c_N_isAlike 104 = .ok (.getfield 9, 3) := by decide +kernel
theorem d_N_isAlike_107 : decode c_N_isAlike 107 = .ok (.iload_n 2, 1) := by decide +kernel
theorem d_N_isAlike_108 : decode c_N_isAlike 108 = .ok (.invokevirtual 68, 3) := by decide +kernel
theorem d_N_isAlike_111 : decode c_N_isAlike 111 = .ok (.iconst 5, 1) := by decide +kernel
theorem d_N_isAlike_112 : decode c_N_isAlike 112 = .ok (.if_icmp .ne 7, 3) := by decide +kernel
theorem d_N_isAlike_115 : decode c_N_isAlike 115 = .ok (.lconst 1, 1) := by decide +kernel
theorem d_N_isAlike_116 : decode c_N_isAlike 116 = .ok (.goto 4, 3) := by decide +kernel
theorem d_N_isAlike_119 : decode c_N_isAlike 119 = .ok (.lconst 0, 1) := by decide +kernel
theorem d_N_isAlike_120 : decode c_N_isAlike 120 = .ok (.invokevirtual 57, 3) := by decide +kernel
theorem d_N_isAlike_123 : decode c_N_isAlike 123 = .ok (.ireturn, 1) := by decide +kernel
theorem d_N_isAlike_124 : decode c_N_isAlike 124 = .ok (.iconst 0, 1) := by decide +kernel
theorem d_N_isAlike_125 : decode c_N_isAlike 125 = .ok (.ireturn, 1) := by decide +kernel
theorem d_N_isOfDifferentNumbers_0 : decode c_N_isOfDifferentNumbers 0 = .ok (.aload_n 0, 1) := by decide +kernel
theorem d_N_isOfDifferentNumbers_1 : decode c_N_isOfDifferentNumbers 1 = .ok (.getfield 9, 3) := by decide +kernel
theorem d_N_isOfDifferentNumbers_4 : decode c_N_isOfDifferentNumbers 4 = .ok (.iload_n 1, 1) := by decide +kernel
theorem d_N_isOfDifferentNumbers_5 : decode c_N_isOfDifferentNumbers 5 = .ok (.invokevirtual 71, 3) := by decide +kernel
theorem d_N_isOfDifferentNumbers_8 : decode c_N_isOfDifferentNumbers 8 = .ok (.istore_n 2, 1) := by decide +kernel
theorem d_N_isOfDifferentNumbers_9 : decode c_N_isOfDifferentNumbers 9 = .ok (.aload_n 0, 1) := by decide +kernel
theorem d_N_isOfDifferentNumbers_10 : decode c_N_isOfDifferentNumbers 10 = .ok (.getfield 9, 3) := by decide +kernel
theorem d_N_isOfDifferentNumbers_13 : decode c_N_isOfDifferentNumbers 13 = .ok (.iload_n 1, 1) := by decide +kernel
theorem d_N_isOfDifferentNumbers_14 : decode c_N_isOfDifferentNumbers 14 = .ok (.invokevirtual 51, 3) := by decide +kernel
theorem d_N_isOfDifferentNumbers_17 : decode c_N_isOfDifferentNumbers 17 = .ok (.istore_n 3, 1) := by decide +kernel
theorem d_N_isOfDifferentNumbers_18 : decode c_N_isOfDifferentNumbers 18 = .ok (.aload_n 0, 1) := by decide +kernel
theorem d_N_isOfDifferentNumbers_19 : decode c_N_isOfDifferentNumbers 19 = .ok (.getfield 9, 3) := by decide +kernel
theorem d_N_isOfDifferentNumbers_22 : decode c_N_isOfDifferentNumbers 22 = .ok (.iload_n 2, 1) := by decide +kernel
theorem d_N_isOfDifferentNumbers_23 : decode c_N_isOfDifferentNumbers 23 = .ok (.invokevirtual 68, 3) := by decide +kernel
theorem d_N_isOfDifferentNumbers_26 : decode c_N_isOfDifferentNumbers 26 = .ok (.ifCond .ne 38, 3) := by decide +kernel
theorem d_N_isOfDifferentNumbers_29 : decode c_N_isOfDifferentNumbers 29 = .ok (.aload_n 0, 1) := by decide +kernel
theorem d_N_isOfDifferentNumbers_30 : decode c_N_isOfDifferentNumbers 30 = .ok (.getfield 9, 3) := by decide +kernel
theorem d_N_isOfDifferentNumbers_33 : decode c_N_isOfDifferentNumbers 33 = .ok (.iload_n 3, 1) := by decide +kernel
theorem d_N_isOfDifferentNumbers_34 : decode c_N_isOfDifferentNumbers 34 = .ok (.invokevirtual 68, 3) := by decide +kernel
theorem d_N_isOfDifferentNumbers_37 : decode c_N_isOfDifferentNumbers 37 = .ok (.ifCond .ne 27, 3) := by decide +kernel
theorem d_N_isOfDifferentNumbers_40 : decode c_N_isOfDifferentNumbers 40 = .ok (.aload_n 0, 1) := by decide +kernel
theorem d_N_isOfDifferentNumbers_41 : decode c_N_isOfDifferentNumbers 41 = .ok (.getfield 9, 3) := by decide +kernel
theorem d_N_isOfDifferentNumbers_44 : decode c_N_isOfDifferentNumbers 44 = .ok (.iload_n 2, 1) := by decide +kernel
theorem d_N_isOfDifferentNumbers_45 : decode c_N_isOfDifferentNumbers 45 = .ok (.invokevirtual 74, 3) := by decide +kernel
theorem d_N_isOfDifferentNumbers_48 : decode c_N_isOfDifferentNumbers 48 = .ok (.aload_n 0, 1) := by decide +kernel
theorem d_N_isOfDifferentNumbers_49 : decode c_N_isOfDifferentNumbers 49 = .ok (.getfield 9, 3) := by decide +kernel
theorem d_N_isOfDifferentNumbers_52 : decode c_N_isOfDifferentNumbers 52 = .ok (.iload_n 3, 1) := by decide +kernel
theorem d_N_isOfDifferentNumbers_53 : decode c_N_isOfDifferentNumbers 53 = .ok (.invokevirtual 74, 3) := by decide +kernel
theorem d_N_isOfDifferentNumbers_56 : decode c_N_isOfDifferentNumbers 56 = .ok (.lcmp, 1) := by decide +kernel
theorem d_N_isOfDifferentNumbers_57 : decode c_N_isOfDifferentNumbers 57 = .ok (.ifCond .eq 7, 3) := by decide +kernel
theorem d_N_isOfDifferentNumbers_60 : decode c_N_isOfDifferentNumbers 60 = .ok (.iconst 1, 1) := by decide +kernel
theorem d_N_isOfDifferentNumbers_61 : decode c_N_isOfDifferentNumbers 61 = .ok (.goto 4, 3) := by decide +kernel
theorem d_N_isOfDifferentNumbers_64 : decode c_N_isOfDifferentNumbers 64 = .ok (.iconst 0, 1) := by decide +kernel
theorem d_N_isOfDifferentNumbers_65 : decode c_N_isOfDifferentNumbers 65 = .ok (.ireturn, 1) := by decide +kernel
theorem d_T_isNumber_0 : decode c_T_isNumber 0 = .ok (.aload_n 0, 1) := by decide +kernel
theorem d_T_isNumber_1 : decode c_T_isNumber 1 = .ok (.getfield 9, 3) := by decide +kernel
theorem d_T_isNumber_4 : decode c_T_isNumber 4 = .ok (.iload_n 1, 1) := by decide +kernel
theorem d_T_isNumber_5 : decode c_T_isNumber 5 = .ok (.iaload, 1) := by decide +kernel
theorem d_T_isNumber_6 : decode c_T_isNumber 6 = .ok (.ifCond .ne 18, 3) := by decide +kernel
theorem d_T_isNumber_9 : decode c_T_isNumber 9 = .ok (.aload_n 0, 1) := by decide +kernel
theorem d_T_isNumber_10 : decode c_T_isNumber 10 = .ok (.getfield 15, 3) := by decide +kernel
theorem d_T_isNumber_13 : decode c_T_isNumber 13 = .ok (.iload_n 1, 1) := by decide +kernel
theorem d_T_isNumber_14 : decode c_T_isNumber 14 = .ok (.laload, 1) := by decide +kernel
theorem d_T_isNumber_15 : decode c_T_isNumber 15 = .ok (.lload_n 2, 1) := by decide +kernel
theorem d_T_isNumber_16 : decode c_T_isNumber 16 = .ok (.lcmp, 1) := by decide +kernel
theorem d_T_isNumber_17 : decode c_T_isNumber 17 = .ok (.ifCond .ne 7, 3) := by decide +kernel
theorem d_T_isNumber_20 : decode c_T_isNumber 20 = .ok (.iconst 1, 1) := by decide +kernel
theorem d_T_isNumber_21 : decode c_T_isNumber 21 = .ok (.goto 4, 3) := by decide +kernel
theorem d_T_isNumber_24 : decode c_T_isNumber 24 = .ok (.iconst 0, 1) := by decide +kernel
theorem d_T_isNumber_25 : decode c_T_isNumber 25 = .ok (.ireturn, 1) := by decide +kernel
theorem d_M_run_0 : decode c_M_run 0 = .ok (.aload_n 0, 1) := by decide +kernel
theorem d_M_run_1 : decode c_M_run 1 = .ok (.getfield 28, 3) := by decide +kernel
theorem d_M_run_4 : decode c_M_run 4 = .ok (.iload_n 1, 1) := by decide +kernel
theorem d_M_run_5 : decode c_M_run 5 = .ok (.invokevirtual 103, 3) := by decide +kernel
theorem d_M_run_8 : decode c_M_run 8 = .ok (.ifCond .eq 15, 3) := by decide +kernel
theorem d_M_run_11 : decode c_M_run 11 = .ok (.iload_n 2, 1) := by decide +kernel
theorem d_M_run_12 : decode c_M_run 12 = .ok (.iconst 1, 1) := by decide +kernel
theorem d_M_run_13 : decode c_M_run 13 = .ok (.if_icmp .lt 10, 3) := by decide +kernel
theorem d_M_run_16 : decode c_M_run 16 = .ok (.iload_n 2, 1) := by decide +kernel
theorem d_M_run_17 : decode c_M_run 17 = .ok (.sipush 5000, 3) := by decide +kernel
theorem d_M_run_20 : decode c_M_run 20 = .ok (.if_icmp .le 5, 3) := by decide +kernel
theorem d_M_run_23 : decode c_M_run 23 = .ok (.iconst (-1), 1) := by decide +kernel
theorem d_M_run_24 : decode c_M_run 24 = .ok (.ireturn, 1) := by decide +kernel
theorem d_M_run_25 : decode c_M_run 25 = .ok (.aload_n 0, 1) := by decide +kernel
theorem d_M_run_26 : decode c_M_run 26 = .ok (.getfield 28, 3) := by decide +kernel
theorem d_M_run_29 : decode c_M_run 29 = .ok (.iload_n 1, 1) := by decide +kernel
theorem d_M_run_30 : decode c_M_run 30 = .ok (.invokevirtual 104, 3) := by decide +kernel
theorem d_M_run_33 : decode c_M_run 33 = .ok (.istore_n 3, 1) := by decide +kernel
theorem d_M_run_34 : decode c_M_run 34 = .ok (.aload_n 0, 1) := by decide +kernel
theorem d_M_run_35 : decode c_M_run 35 = .ok (.getfield 28, 3) := by decide +kernel
theorem d_M_run_38 : decode c_M_run 38 = .ok (.iload_n 1, 1) := by decide +kernel
theorem d_M_run_39 : decode c_M_run 39 = .ok (.invokevirtual 105, 3) := by decide +kernel
theorem d_M_run_42 : decode c_M_run 42 = .ok (.istore 4, 2) := by decide +kernel
theorem d_M_run_44 : decode c_M_run 44 = .ok (.aload_n 0, 1) := by decide +kernel
theorem d_M_run_45 : decode c_M_run 45 = .ok (.getfield 37, 3) := by decide +kernel
theorem d_M_run_48 : decode c_M_run 48 = .ok (.iload 4, 2) := by decide +kernel
theorem d_M_run_50 : decode c_M_run 50 = .ok (.invokevirtual 117, 3) := by decide +kernel
theorem d_M_run_53 : decode c_M_run 53 = .ok (.iconst 0, 1) := by decide +kernel
theorem d_M_run_54 : decode c_M_run 54 = .ok (.istore 5, 2) := by decide +kernel
theorem d_M_run_56 : decode c_M_run 56 = .ok (.iconst (-1), 1) := by decide +kernel
theorem d_M_run_57 : decode c_M_run 57 = .ok (.istore 6, 2) := by decide +kernel
theorem d_M_run_59 : decode c_M_run 59 = .ok (.iconst 0, 1) := by decide +kernel
theorem d_M_run_60 : decode c_M_run 60 = .ok (.istore 7, 2) := by decide +kernel
theorem d_M_run_62 : decode c_M_run 62 = .ok (.iload 7, 2) := by decide +kernel
theorem d_M_run_64 : decode c_M_run 64 = .ok (.aload_n 0, 1) := by decide +kernel
theorem d_M_run_65 : decode c_M_run 65 = .ok (.getfield 37, 3) := by decide +kernel
theorem d_M_run_68 : decode c_M_run 68 = .ok (.invokevirtual 121, 3) := by decide +kernel
theorem d_M_run_71 : decode c_M_run 71 = .ok (.if_icmp .ge 56, 3) := by decide +kernel
theorem d_M_run_74 : decode c_M_run 74 = .ok (.iload 5, 2) := by decide +kernel
theorem d_M_run_76 : decode c_M_run 76 = .ok (.ifCond .ne 51, 3) := by decide +kernel
theorem d_M_run_79 : decode c_M_run 79 = .ok (.aload_n 0, 1) := by decide +kernel
theorem d_M_run_80 : decode c_M_run 80 = .ok (.getfield 21, 3) := by decide +kernel
theorem d_M_run_83 : decode c_M_run 83 = .ok (.aload_n 0, 1) := by decide +kernel
theorem d_M_run_84 : decode c_M_run 84 = .ok (.getfield 37, 3) := by decide +kernel
theorem d_M_run_87 : decode c_M_run 87 = .ok (.iload 7, 2) := by decide +kernel
theorem d_M_run_89 : decode c_M_run 89 = .ok (.invokevirtual 122, 3) := by decide +kernel
theorem d_M_run_92 : decode c_M_run 92 = .ok (.iload_n 3, 1) := by decide +kernel
theorem d_M_run_93 : decode c_M_run 93 = .ok (.iload 4, 2) := by decide +kernel
theorem d_M_run_95 : decode c_M_run 95 = .ok (.iload_n 2, 1) := by decide +kernel
theorem d_M_run_96 : decode c_M_run 96 = .ok (.invokevirtual 125, 3) := by decide +kernel
theorem d_M_run_99 : decode c_M_run 99 = .ok (.istore 5, 2) := by decide +kernel
theorem d_M_run_101 : decode c_M_run 101 = .ok (.iload 5, 2) := by decide +kernel
theorem d_M_run_103 : decode c_M_run 103 = .ok (.ifCond .ne 7, 3) := by decide +kernel
theorem d_M_run_106 : decode c_M_run 106 = .ok (.iconst (-1), 1) := by decide +kernel
theorem d_M_run_107 : decode c_M_run 107 = .ok (.goto 12, 3) := by decide +kernel
theorem d_M_run_110 : decode c_M_run 110 = .ok (.aload_n 0, 1) := by decide +kernel
theorem d_M_run_111 : decode c_M_run 111 = .ok (.getfield 37, 3) := by decide +kernel
theorem d_M_run_114 : decode c_M_run 114 = .ok (.iload 7, 2) := by decide +kernel
theorem d_M_run_116 : decode c_M_run 116 = .ok (.invokevirtual 122, 3) := by decide +kernel
theorem d_M_run_119 : decode c_M_run 119 = .ok (.istore 6, 2) := by decide +kernel
theorem d_M_run_121 : decode c_M_run 121 = .ok (.iinc 7 1, 3) := by decide +kernel
theorem d_M_run_124 : decode c_M_run 124 = .ok (.goto (-62), 3) := by decide +kernel
theorem d_M_run_127 : decode c_M_run 127 = .ok (.aload_n 0, 1) := by decide +kernel
theorem d_M_run_128 : decode c_M_run 128 = .ok (.getfield 28, 3) := by decide +kernel
theorem d_M_run_131 : decode c_M_run 131 = .ok (.iload_n 1, 1) := by decide +kernel
theorem d_M_run_132 : decode c_M_run 132 = .ok (.iload 5, 2) := by decide +kernel
theorem d_M_run_134 : decode c_M_run 134 = .ok (.iload 6, 2) := by decide +kernel
theorem d_M_run_136 : decode c_M_run 136 = .ok (.invokevirtual 129, 3) := by decide +kernel
theorem d_M_run_139 : decode c_M_run 139 = .ok (.iload 5, 2) := by decide +kernel
theorem d_M_run_141 : decode c_M_run 141 = .ok (.ireturn, 1) := by decide +kernel
theorem d_G_gather_0 : decode c_G_gather 0 = .ok (.aload_n 0, 1) := by decide +kernel
theorem d_G_gather_1 : decode c_G_gather 1 = .ok (.iconst 0, 1) := by decide +kernel
theorem d_G_gather_2 : decode c_G_gather 2 = .ok (.putfield 26, 3) := by decide +kernel
theorem d_G_gather_5 : decode c_G_gather 5 = .ok (.iconst 0, 1) := by decide +kernel
theorem d_G_gather_6 : decode c_G_gather 6 = .ok (.istore_n 2, 1) := by decide +kernel
theorem d_G_gather_7 : decode c_G_gather 7 = .ok (.iload_n 2, 1) := by decide +kernel
theorem d_G_gather_8 : decode c_G_gather 8 = .ok (.aload_n 0, 1) := by decide +kernel
theorem d_G_gather_9 : decode c_G_gather 9 = .ok (.getfield 15, 3) := by decide +kernel
theorem d_G_gather_12 : decode c_G_gather 12 = .ok (.invokevirtual 30, 3) := by decide +kernel
theorem d_G_gather_15 : decode c_G_gather 15 = .ok (.if_icmp .ge 42, 3) := by decide +kernel
theorem d_G_gather_18 : decode c_G_gather 18 = .ok (.aload_n 0, 1) := by decide +kernel
theorem d_G_gather_19 : decode c_G_gather 19 = .ok (.getfield 15, 3) := by decide +kernel
theorem d_G_gather_22 : decode c_G_gather 22 = .ok (.iload_n 2, 1) := by decide +kernel
theorem d_G_gather_23 : decode c_G_gather 23 = .ok (.iload_n 1, 1) := by decide +kernel
theorem d_G_gather_24 : decode c_G_gather 24 = .ok (.invokevirtual 35, 3) := by decide +kernel
theorem d_G_gather_27 : decode c_G_gather 27 = .ok (.ifCond .eq 24, 3) := by decide +kernel
theorem d_G_gather_30 : decode c_G_gather 30 = .ok (.aload_n 0, 1) := by decide +kernel
theorem d_G_gather_31 : decode c_G_gather 31 = .ok (.iload_n 2, 1) := by decide +kernel
theorem d_G_gather_32 : decode c_G_gather 32 = .ok (.aload_n 0, 1) := by decide +kernel
theorem d_G_gather_33 : decode c_G_gather 33 = .ok (.getfield 9, 3) := by decide +kernel
theorem d_G_gather_36 : decode c_G_gather 36 = .ok (.aload_n 0, 1) := by decide +kernel
theorem d_G_gather_37 : decode c_G_gather 37 = .ok (.getfield 15, 3) := by decide +kernel
theorem d_G_gather_40 : decode c_G_gather 40 = .ok (.iload_n 2, 1) := by decide +kernel
theorem d_G_gather_41 : decode c_G_gather 41 = .ok (.invokevirtual 39, 3) := by decide +kernel
theorem d_G_gather_44 : decode c_G_gather 44 = .ok (.iload_n 1, 1) := by decide +kernel
theorem d_G_gather_45 : decode c_G_gather 45 = .ok (.invokevirtual 43, 3) := by decide +kernel
theorem d_G_gather_48 : decode c_G_gather 48 = .ok (.invokevirtual 49, 3) := by decide +kernel
theorem d_G_gather_51 : decode c_G_gather 51 = .ok (.iinc 2 1, 3) := by decide +kernel
theorem d_G_gather_54 : decode c_G_gather 54 = .ok (.goto (-47), 3) := by decide +kernel
theorem d_G_gather_57 : decode c_G_gather 57 = .ok (.return_, 1) := by decide +kernel
theorem d_U_size_0 : decode c_U_size 0 = .ok (.aload_n 0, 1) := by decide +kernel
theorem d_U_size_1 : decode c_U_size 1 = .ok (.getfield 40, 3) := by decide +kernel
theorem d_U_size_4 : decode c_U_size 4 = .ok (.ireturn, 1) := by decide +kernel
theorem d_U_passesAndCovers_0 : decode c_U_passesAndCovers 0 = .ok (.aload_n 0, 1) := by decide +kernel
theorem d_U_passesAndCovers_1 : decode c_U_passesAndCovers 1 = .ok (.getfield 31, 3) := by decide +kernel
theorem d_U_passesAndCovers_4 : decode c_U_passesAndCovers 4 = .ok (.iload_n 1, 1) := by decide +kernel
theorem d_U_passesAndCovers_5 : decode c_U_passesAndCovers 5 = .ok (.iaload, 1) := by decide +kernel
theorem d_U_passesAndCovers_6 : decode c_U_passesAndCovers 6 = .ok (.iconst 1, 1) := by decide +kernel
theorem d_U_passesAndCovers_7 : decode c_U_passesAndCovers 7 = .ok (.if_icmp .ne 23, 3) := by decide +kernel
theorem d_U_passesAndCovers_10 : decode c_U_passesAndCovers 10 = .ok (.aload_n 0, 1) := by decide +kernel
theorem d_U_passesAndCovers_11 : decode c_U_passesAndCovers 11 = .ok (.getfield 37, 3) := by decide +kernel
theorem d_U_passesAndCovers_14 : decode c_U_passesAndCovers 14 = .ok (.iload_n 1, 1) := by decide +kernel
theorem d_U_passesAndCovers_15 : decode c_U_passesAndCovers 15 = .ok (.laload, 1) := by decide +kernel
theorem d_U_passesAndCovers_16 : decode c_U_passesAndCovers 16 = .ok (.iload_n 2, 1) := by decide +kernel
theorem d_U_passesAndCovers_17 : decode c_U_passesAndCovers 17 = .ok (.invokestatic 44, 3) := by decide +kernel
theorem d_U_passesAndCovers_20 : decode c_U_passesAndCovers 20 = .ok (.land, 1) := by decide +kernel
theorem d_U_passesAndCovers_21 : decode c_U_passesAndCovers 21 = .ok (.lconst 0, 1) := by decide +kernel
theorem d_U_passesAndCovers_22 : decode c_U_passesAndCovers 22 = .ok (.lcmp, 1) := by decide +kernel
theorem d_U_passesAndCovers_23 : decode c_U_passesAndCovers 23 = .ok (.ifCond .eq 7, 3) := by decide +kernel
theorem d_U_passesAndCovers_26 : decode c_U_passesAndCovers 26 = .ok (.iconst 1, 1) := by decide +kernel
theorem d_U_passesAndCovers_27 : decode c_U_passesAndCovers 27 = .ok (.goto 4, 3) := by decide +kernel
theorem d_U_passesAndCovers_30 : decode c_U_passesAndCovers 30 = .ok (.iconst 0, 1) := by decide +kernel
theorem d_U_passesAndCovers_31 : decode c_U_passesAndCovers 31 = .ok (.ireturn, 1) := by decide +kernel
theorem d_U_rootOf_0 : decode c_U_rootOf 0 = .ok (.aload_n 0, 1) := by decide +kernel
theorem d_U_rootOf_1 : decode c_U_rootOf 1 = .ok (.getfield 20, 3) := by decide +kernel
theorem d_U_rootOf_4 : decode c_U_rootOf 4 = .ok (.iload_n 1, 1) := by decide +kernel
theorem d_U_rootOf_5 : decode c_U_rootOf 5 = .ok (.iaload, 1) := by decide +kernel
theorem d_U_rootOf_6 : decode c_U_rootOf 6 = .ok (.ireturn, 1) := by decide +kernel
theorem d_T_wayBetween_0 : decode c_T_wayBetween 0 = .ok (.iload_n 2, 1) := by decide +kernel
theorem d_T_wayBetween_1 : decode c_T_wayBetween 1 = .ok (.iload_n 1, 1) := by decide +kernel
theorem d_T_wayBetween_2 : decode c_T_wayBetween 2 = .ok (.if_icmp .le 5, 3) := by decide +kernel
theorem d_T_wayBetween_5 : decode c_T_wayBetween 5 = .ok (.iconst (-1), 1) := by decide +kernel
theorem d_T_wayBetween_6 : decode c_T_wayBetween 6 = .ok (.ireturn, 1) := by decide +kernel
theorem d_T_wayBetween_7 : decode c_T_wayBetween 7 = .ok (.iconst 0, 1) := by decide +kernel
theorem d_T_wayBetween_8 : decode c_T_wayBetween 8 = .ok (.istore_n 3, 1) := by decide +kernel
theorem d_T_wayBetween_9 : decode c_T_wayBetween 9 = .ok (.iload_n 3, 1) := by decide +kernel
theorem d_T_wayBetween_10 : decode c_T_wayBetween 10 = .ok (.iload_n 1, 1) := by decide +kernel
theorem d_T_wayBetween_11 : decode c_T_wayBetween 11 = .ok (.if_icmp .ge 16, 3) := by decide +kernel
theorem d_T_wayBetween_14 : decode c_T_wayBetween 14 = .ok (.aload_n 0, 1) := by decide +kernel
theorem d_T_wayBetween_15 : decode c_T_wayBetween 15 = .ok (.getfield 31, 3) := by decide +kernel
theorem d_T_wayBetween_18 : decode c_T_wayBetween 18 = .ok (.iload_n 3, 1) := by decide +kernel
theorem d_T_wayBetween_19 : decode c_T_wayBetween 19 = .ok (.iconst (-1), 1) := by decide +kernel
theorem d_T_wayBetween_20 : decode c_T_wayBetween 20 = .ok (.iastore, 1) := by decide +kernel
theorem d_T_wayBetween_21 : decode c_T_wayBetween 21 = .ok (.iinc 3 1, 3) := by decide +kernel
theorem d_T_wayBetween_24 : decode c_T_wayBetween 24 = .ok (.goto (-15), 3) := by decide +kernel
theorem d_T_wayBetween_27 : decode c_T_wayBetween 27 = .ok (.aload_n 0, 1) := by decide +kernel
theorem d_T_wayBetween_28 : decode c_T_wayBetween 28 = .ok (.getfield 31, 3) := by decide +kernel
theorem d_T_wayBetween_31 : decode c_T_wayBetween 31 = .ok (.iload_n 1, 1) := by decide +kernel
theorem d_T_wayBetween_32 : decode c_T_wayBetween 32 = .ok (.iconst 0, 1) := by decide +kernel
theorem d_T_wayBetween_33 : decode c_T_wayBetween 33 = .ok (.iastore, 1) := by decide +kernel
theorem d_T_wayBetween_34 : decode c_T_wayBetween 34 = .ok (.iload_n 1, 1) := by decide +kernel
theorem d_T_wayBetween_35 : decode c_T_wayBetween 35 = .ok (.istore_n 3, 1) := by decide +kernel
theorem d_T_wayBetween_36 : decode c_T_wayBetween 36 = .ok (.iload_n 3, 1) := by decide +kernel
theorem d_T_wayBetween_37 : decode c_T_wayBetween 37 = .ok (.iload_n 2, 1) := by decide +kernel
theorem d_T_wayBetween_38 : decode c_T_wayBetween 38 = .ok (.if_icmp .le 24, 3) := by decide +kernel
theorem d_T_wayBetween_41 : decode c_T_wayBetween 41 = .ok (.aload_n 0, 1) := by decide +kernel
theorem d_T_wayBetween_42 : decode c_T_wayBetween 42 = .ok (.getfield 31, 3) := by decide +kernel
theorem d_T_wayBetween_45 : decode c_T_wayBetween 45 = .ok (.iload_n 3, 1) := by decide +kernel
theorem d_T_wayBetween_46 : decode c_T_wayBetween 46 = .ok (.iaload, 1) := by decide +kernel
theorem d_T_wayBetween_47 : decode c_T_wayBetween 47 = .ok (.iconst (-1), 1) := by decide +kernel
theorem d_T_wayBetween_48 : decode c_T_wayBetween 48 = .ok (.if_icmp .eq 8, 3) := by decide +kernel
theorem d_T_wayBetween_51 : decode c_T_wayBetween 51 = .ok (.aload_n 0, 1) := by decide +kernel
theorem d_T_wayBetween_52 : decode c_T_wayBetween 52 = .ok (.iload_n 3, 1) := by decide +kernel
theorem d_T_wayBetween_53 : decode c_T_wayBetween 53 = .ok (.invokevirtual 49, 3) := by decide +kernel
theorem d_T_wayBetween_56 : decode c_T_wayBetween 56 = .ok (.iinc 3 (-1), 3) := by decide +kernel
theorem d_T_wayBetween_59 : decode c_T_wayBetween 59 = .ok (.goto (-23), 3) := by decide +kernel
theorem d_T_wayBetween_62 : decode c_T_wayBetween 62 = .ok (.aload_n 0, 1) := by decide +kernel
theorem d_T_wayBetween_63 : decode c_T_wayBetween 63 = .ok (.getfield 31, 3) := by decide +kernel
theorem d_T_wayBetween_66 : decode c_T_wayBetween 66 = .ok (.iload_n 2, 1) := by decide +kernel
theorem d_T_wayBetween_67 : decode c_T_wayBetween 67 = .ok (.iaload, 1) := by decide +kernel
theorem d_T_wayBetween_68 : decode c_T_wayBetween 68 = .ok (.ireturn, 1) := by decide +kernel
theorem d_T_goOnFrom_0 : decode c_T_goOnFrom 0 = .ok (.aload_n 0, 1) := by decide +kernel
theorem d_T_goOnFrom_1 : decode c_T_goOnFrom 1 = .ok (.getfield 31, 3) := by decide +kernel
theorem d_T_goOnFrom_4 : decode c_T_goOnFrom 4 = .ok (.iload_n 1, 1) := by decide +kernel
theorem d_T_goOnFrom_5 : decode c_T_goOnFrom 5 = .ok (.iaload, 1) := by decide +kernel
theorem d_T_goOnFrom_6 : decode c_T_goOnFrom 6 = .ok (.iconst 1, 1) := by decide +kernel
theorem d_T_goOnFrom_7 : decode c_T_goOnFrom 7 = .ok (.iadd, 1) := by decide +kernel
theorem d_T_goOnFrom_8 : decode c_T_goOnFrom 8 = .ok (.istore_n 2, 1) := by decide +kernel
theorem d_T_goOnFrom_9 : decode c_T_goOnFrom 9 = .ok (.aload_n 0, 1) := by decide +kernel
theorem d_T_goOnFrom_10 : decode c_T_goOnFrom 10 = .ok (.getfield 9, 3) := by decide +kernel
theorem d_T_goOnFrom_13 : decode c_T_goOnFrom 13 = .ok (.iload_n 1, 1) := by decide +kernel
theorem d_T_goOnFrom_14 : decode c_T_goOnFrom 14 = .ok (.iaload, 1) := by decide +kernel
theorem d_T_goOnFrom_15 : decode c_T_goOnFrom 15 = .ok (.invokestatic 38, 3) := by decide +kernel
theorem d_T_goOnFrom_18 : decode c_T_goOnFrom 18 = .ok (.istore_n 3, 1) := by decide +kernel
theorem d_T_goOnFrom_19 : decode c_T_goOnFrom 19 = .ok (.iload_n 3, 1) := by decide +kernel
theorem d_T_goOnFrom_20 : decode c_T_goOnFrom 20 = .ok (.ifCond .le 25, 3) := by decide +kernel
theorem d_T_goOnFrom_23 : decode c_T_goOnFrom 23 = .ok (.aload_n 0, 1) := by decide +kernel
theorem d_T_goOnFrom_24 : decode c_T_goOnFrom 24 = .ok (.aload_n 0, 1) := by decide +kernel
theorem d_T_goOnFrom_25 : decode c_T_goOnFrom 25 = .ok (.getfield 19, 3) := by decide +kernel
theorem d_T_goOnFrom_28 : decode c_T_goOnFrom 28 = .ok (.iload_n 1, 1) := by decide +kernel
theorem d_T_goOnFrom_29 : decode c_T_goOnFrom 29 = .ok (.iaload, 1) := by decide +kernel
theorem d_T_goOnFrom_30 : decode c_T_goOnFrom 30 = .ok (.iload_n 2, 1) := by decide +kernel
theorem d_T_goOnFrom_31 : decode c_T_goOnFrom 31 = .ok (.invokevirtual 53, 3) := by decide +kernel
theorem d_T_goOnFrom_34 : decode c_T_goOnFrom 34 = .ok (.aload_n 0, 1) := by decide +kernel
theorem d_T_goOnFrom_35 : decode c_T_goOnFrom 35 = .ok (.aload_n 0, 1) := by decide +kernel
theorem d_T_goOnFrom_36 : decode c_T_goOnFrom 36 = .ok (.getfield 22, 3) := by decide +kernel
theorem d_T_goOnFrom_39 : decode c_T_goOnFrom 39 = .ok (.iload_n 1, 1) := by decide +kernel
theorem d_T_goOnFrom_40 : decode c_T_goOnFrom 40 = .ok (.iaload, 1) := by decide +kernel
theorem d_T_goOnFrom_41 : decode c_T_goOnFrom 41 = .ok (.iload_n 2, 1) := by decide +kernel
theorem d_T_goOnFrom_42 : decode c_T_goOnFrom 42 = .ok (.invokevirtual 53, 3) := by decide +kernel
theorem d_T_goOnFrom_45 : decode c_T_goOnFrom 45 = .ok (.iload_n 3, 1) := by decide +kernel
theorem d_T_goOnFrom_46 : decode c_T_goOnFrom 46 = .ok (.iconst 2, 1) := by decide +kernel
theorem d_T_goOnFrom_47 : decode c_T_goOnFrom 47 = .ok (.if_icmp .le 14, 3) := by decide +kernel
theorem d_T_goOnFrom_50 : decode c_T_goOnFrom 50 = .ok (.aload_n 0, 1) := by decide +kernel
theorem d_T_goOnFrom_51 : decode c_T_goOnFrom 51 = .ok (.aload_n 0, 1) := by decide +kernel
theorem d_T_goOnFrom_52 : decode c_T_goOnFrom 52 = .ok (.getfield 25, 3) := by decide +kernel
theorem d_T_goOnFrom_55 : decode c_T_goOnFrom 55 = .ok (.iload_n 1, 1) := by decide +kernel
theorem d_T_goOnFrom_56 : decode c_T_goOnFrom 56 = .ok (.iaload, 1) := by decide +kernel
theorem d_T_goOnFrom_57 : decode c_T_goOnFrom 57 = .ok (.iload_n 2, 1) := by decide +kernel
theorem d_T_goOnFrom_58 : decode c_T_goOnFrom 58 = .ok (.invokevirtual 53, 3) := by decide +kernel
theorem d_T_goOnFrom_61 : decode c_T_goOnFrom 61 = .ok (.return_, 1) := by decide +kernel
theorem d_T_shorten_0 : decode c_T_shorten 0 = .ok (.aload_n 0, 1) := by decide +kernel
theorem d_T_shorten_1 : decode c_T_shorten 1 = .ok (.getfield 31, 3) := by decide +kernel
theorem d_T_shorten_4 : decode c_T_shorten 4 = .ok (.iload_n 1, 1) := by decide +kernel
theorem d_T_shorten_5 : decode c_T_shorten 5 = .ok (.iaload, 1) := by decide +kernel
theorem d_T_shorten_6 : decode c_T_shorten 6 = .ok (.iconst (-1), 1) := by decide +kernel
theorem d_T_shorten_7 : decode c_T_shorten 7 = .ok (.if_icmp .eq 13, 3) := by decide +kernel
theorem d_T_shorten_10 : decode c_T_shorten 10 = .ok (.aload_n 0, 1) := by decide +kernel
theorem d_T_shorten_11 : decode c_T_shorten 11 = .ok (.getfield 31, 3) := by decide +kernel
theorem d_T_shorten_14 : decode c_T_shorten 14 = .ok (.iload_n 1, 1) := by decide +kernel
theorem d_T_shorten_15 : decode c_T_shorten 15 = .ok (.iaload, 1) := by decide +kernel
theorem d_T_shorten_16 : decode c_T_shorten 16 = .ok (.iload_n 2, 1) := by decide +kernel
theorem d_T_shorten_17 : decode c_T_shorten 17 = .ok (.if_icmp .le 10, 3) := by decide +kernel
theorem d_T_shorten_20 : decode c_T_shorten 20 = .ok (.aload_n 0, 1) := by decide +kernel
theorem d_T_shorten_21 : decode c_T_shorten 21 = .ok (.getfield 31, 3) := by decide +kernel
theorem d_T_shorten_24 : decode c_T_shorten 24 = .ok (.iload_n 1, 1) := by decide +kernel
theorem d_T_shorten_25 : decode c_T_shorten 25 = .ok (.iload_n 2, 1) := by decide +kernel
theorem d_T_shorten_26 : decode c_T_shorten 26 = .ok (.iastore, 1) := by decide +kernel
theorem d_T_shorten_27 : decode c_T_shorten 27 = .ok (.return_, 1) := by decide +kernel
theorem d_G_insert_0 : decode c_G_insert 0 = .ok (.aload_n 0, 1) := by decide +kernel
theorem d_G_insert_1 : decode c_G_insert 1 = .ok (.getfield 26, 3) := by decide +kernel
theorem d_G_insert_4 : decode c_G_insert 4 = .ok (.istore_n 3, 1) := by decide +kernel
theorem d_G_insert_5 : decode c_G_insert 5 = .ok (.iload_n 3, 1) := by decide +kernel
theorem d_G_insert_6 : decode c_G_insert 6 = .ok (.ifCond .le 49, 3) := by decide +kernel
theorem d_G_insert_9 : decode c_G_insert 9 = .ok (.aload_n 0, 1) := by decide +kernel
theorem d_G_insert_10 : decode c_G_insert 10 = .ok (.getfield 23, 3) := by decide +kernel
theorem d_G_insert_13 : decode c_G_insert 13 = .ok (.iload_n 3, 1) := by decide +kernel
theorem d_G_insert_14 : decode c_G_insert 14 = .ok (.iconst 1, 1) := by decide +kernel
theorem d_G_insert_15 : decode c_G_insert 15 = .ok (.isub, 1) := by decide +kernel
theorem d_G_insert_16 : decode c_G_insert 16 = .ok (.iaload, 1) := by decide +kernel
theorem d_G_insert_17 : decode c_G_insert 17 = .ok (.iload_n 2, 1) := by decide +kernel
theorem d_G_insert_18 : decode c_G_insert 18 = .ok (.if_icmp .le 37, 3) := by decide +kernel
theorem d_G_insert_21 : decode c_G_insert 21 = .ok (.aload_n 0, 1) := by decide +kernel
theorem d_G_insert_22 : decode c_G_insert 22 = .ok (.getfield 19, 3) := by decide +kernel
theorem d_G_insert_25 : decode c_G_insert 25 = .ok (.iload_n 3, 1) := by decide +kernel
theorem d_G_insert_26 : decode c_G_insert 26 = .ok (.aload_n 0, 1) := by decide +kernel
theorem d_G_insert_27 : decode c_G_insert 27 = .ok (.getfield 19, 3) := by decide +kernel
theorem d_G_insert_30 : decode c_G_insert 30 = .ok (.iload_n 3, 1) := by decide +kernel
theorem d_G_insert_31 : decode c_G_insert 31 = .ok (.iconst 1, 1) := by decide +kernel
theorem d_G_insert_32 : decode c_G_insert 32 = .ok (.isub, 1) := by decide +kernel
theorem d_G_insert_33 : decode c_G_insert 33 = .ok (.iaload, 1) := by decide +kernel
theorem d_G_insert_34 : decode c_G_insert 34 = .ok (.iastore, 1) := by decide +kernel
theorem d_G_insert_35 : decode c_G_insert 35 = .ok (.aload_n 0, 1) := by decide +kernel
theorem d_G_insert_36 : decode c_G_insert 36 = .ok (.getfield 23, 3) := by decide +kernel
theorem d_G_insert_39 : decode c_G_insert 39 = .ok (.iload_n 3, 1) := by decide +kernel
theorem d_G_insert_40 : decode c_G_insert 40 = .ok (.aload_n 0, 1) := by decide +kernel
theorem d_G_insert_41 : decode c_G_insert 41 = .ok (.getfield 23, 3) := by decide +kernel
theorem d_G_insert_44 : decode c_G_insert 44 = .ok (.iload_n 3, 1) := by decide +kernel
theorem d_G_insert_45 : decode c_G_insert 45 = .ok (.iconst 1, 1) := by decide +kernel
theorem d_G_insert_46 : decode c_G_insert 46 = .ok (.isub, 1) := by decide +kernel
theorem d_G_insert_47 : decode c_G_insert 47 = .ok (.iaload, 1) := by decide +kernel
theorem d_G_insert_48 : decode c_G_insert 48 = .ok (.iastore, 1) := by decide +kernel
theorem d_G_insert_49 : decode c_G_insert 49 = .ok (.iinc 3 (-1), 3) := by decide +kernel
theorem d_G_insert_52 : decode c_G_insert 52 = .ok (.goto (-47), 3) := by decide +kernel
theorem d_G_insert_55 : decode c_G_insert 55 = .ok (.aload_n 0, 1) := by decide +kernel
theorem d_G_insert_56 : decode c_G_insert 56 = .ok (.getfield 19, 3) := by decide +kernel
theorem d_G_insert_59 : decode c_G_insert 59 = .ok (.iload_n 3, 1) := by decide +kernel
theorem d_G_insert_60 : decode c_G_insert 60 = .ok (.iload_n 1, 1) := by decide +kernel
theorem d_G_insert_61 : decode c_G_insert 61 = .ok (.iastore, 1) := by decide +kernel
theorem d_G_insert_62 : decode c_G_insert 62 = .ok (.aload_n 0, 1) := by decide +kernel
theorem d_G_insert_63 : decode c_G_insert 63 = .ok (.getfield 23, 3) := by decide +kernel
theorem d_G_insert_66 : decode c_G_insert 66 = .ok (.iload_n 3, 1) := by decide +kernel
theorem d_G_insert_67 : decode c_G_insert 67 = .ok (.iload_n 2, 1) := by decide +kernel
theorem d_G_insert_68 : decode c_G_insert 68 = .ok (.iastore, 1) := by decide +kernel
theorem d_G_insert_69 : decode c_G_insert 69 = .ok (.aload_n 0, 1) := by decide +kernel
theorem d_G_insert_70 : decode c_G_insert 70 = .ok (.dup, 1) := by decide +kernel
theorem d_G_insert_71 : decode c_G_insert 71 = .ok (.getfield 26, 3) := by decide +kernel
theorem d_G_insert_74 : decode c_G_insert 74 = .ok (.iconst 1, 1) := by decide +kernel
theorem d_G_insert_75 : decode c_G_insert 75 = .ok (.iadd, 1) := by decide +kernel
theorem d_G_insert_76 : decode c_G_insert 76 = .ok (.putfield 26, 3) := by decide +kernel
theorem d_G_insert_79 : decode c_G_insert 79 = .ok (.return_, 1) := by decide +kernel
theorem d_G_size_0 : decode c_G_size 0 = .ok (.aload_n 0, 1) := by decide +kernel
theorem d_G_size_1 : decode c_G_size 1 = .ok (.getfield 26, 3) := by decide +kernel
theorem d_G_size_4 : decode c_G_size 4 = .ok (.ireturn, 1) := by decide +kernel
theorem d_G_at_0 : decode c_G_at 0 = .ok (.iload_n 1, 1) := by decide +kernel
theorem d_G_at_1 : decode c_G_at 1 = .ok (.ifCond .lt 20, 3) := by decide +kernel
theorem d_G_at_4 : decode c_G_at 4 = .ok (.iload_n 1, 1) := by decide +kernel
theorem d_G_at_5 : decode c_G_at 5 = .ok (.aload_n 0, 1) := by decide +kernel
theorem d_G_at_6 : decode c_G_at 6 = .ok (.getfield 26, 3) := by decide +kernel
theorem d_G_at_9 : decode c_G_at 9 = .ok (.if_icmp .ge 12, 3) := by decide +kernel
theorem d_G_at_12 : decode c_G_at 12 = .ok (.aload_n 0, 1) := by decide +kernel
theorem d_G_at_13 : decode c_G_at 13 = .ok (.getfield 19, 3) := by decide +kernel
theorem d_G_at_16 : decode c_G_at 16 = .ok (.iload_n 1, 1) := by decide +kernel
theorem d_G_at_17 : decode c_G_at 17 = .ok (.iaload, 1) := by decide +kernel
theorem d_G_at_18 : decode c_G_at 18 = .ok (.goto 4, 3) := by decide +kernel
theorem d_G_at_21 : decode c_G_at 21 = .ok (.iconst (-1), 1) := by decide +kernel
theorem d_G_at_22 : decode c_G_at 22 = .ok (.ireturn, 1) := by decide +kernel
theorem d_U_judge_0 : decode c_U_judge 0 = .ok (.aload_n 0, 1) := by decide +kernel
theorem d_U_judge_1 : decode c_U_judge 1 = .ok (.getfield 14, 3) := by decide +kernel
theorem d_U_judge_4 : decode c_U_judge 4 = .ok (.iload_n 2, 1) := by decide +kernel
theorem d_U_judge_5 : decode c_U_judge 5 = .ok (.iload_n 3, 1) := by decide +kernel
theorem d_U_judge_6 : decode c_U_judge 6 = .ok (.invokevirtual 52, 3) := by decide +kernel
theorem d_U_judge_9 : decode c_U_judge 9 = .ok (.aload_n 0, 1) := by decide +kernel
theorem d_U_judge_10 : decode c_U_judge 10 = .ok (.getfield 14, 3) := by decide +kernel
theorem d_U_judge_13 : decode c_U_judge 13 = .ok (.aload_n 0, 1) := by decide +kernel
theorem d_U_judge_14 : decode c_U_judge 14 = .ok (.getfield 20, 3) := by decide +kernel
theorem d_U_judge_17 : decode c_U_judge 17 = .ok (.iload_n 1, 1) := by decide +kernel
theorem d_U_judge_18 : decode c_U_judge 18 = .ok (.iaload, 1) := by decide +kernel
theorem d_U_judge_19 : decode c_U_judge 19 = .ok (.aload_n 0, 1) := by decide +kernel
theorem d_U_judge_20 : decode c_U_judge 20 = .ok (.getfield 24, 3) := by decide +kernel
theorem d_U_judge_23 : decode c_U_judge 23 = .ok (.iload_n 1, 1) := by decide +kernel
theorem d_U_judge_24 : decode c_U_judge 24 = .ok (.laload, 1) := by decide +kernel
theorem d_U_judge_25 : decode c_U_judge 25 = .ok (.iload 4, 2) := by decide +kernel
theorem d_U_judge_27 : decode c_U_judge 27 = .ok (.invokevirtual 56, 3) := by decide +kernel
theorem d_U_judge_30 : decode c_U_judge 30 = .ok (.lstore 5, 2) := by decide +kernel
theorem d_U_judge_32 : decode c_U_judge 32 = .ok (.aload_n 0, 1) := by decide +kernel
theorem d_U_judge_33 : decode c_U_judge 33 = .ok (.getfield 14, 3) := by decide +kernel
theorem d_U_judge_36 : decode c_U_judge 36 = .ok (.invokevirtual 60, 3) := by decide +kernel
theorem d_U_judge_39 : decode c_U_judge 39 = .ok (.aload_n 0, 1) := by decide +kernel
theorem d_U_judge_40 : decode c_U_judge 40 = .ok (.getfield 14, 3) := by decide +kernel
theorem d_U_judge_43 : decode c_U_judge 43 = .ok (.invokevirtual 63, 3) := by decide +kernel
theorem d_U_judge_46 : decode c_U_judge 46 = .ok (.ifCond .eq 5, 3) := by decide +kernel
theorem d_U_judge_49 : decode c_U_judge 49 = .ok (.iconst 2, 1) := by decide +kernel
theorem d_U_judge_50 : decode c_U_judge 50 = .ok (.ireturn, 1) := by decide +kernel
theorem d_U_judge_51 : decode c_U_judge 51 = .ok (.lload 5, 2) := by decide +kernel
theorem d_U_judge_53 : decode c_U_judge 53 = .ok (.aload_n 0, 1) := by decide +kernel
theorem d_U_judge_54 : decode c_U_judge 54 = .ok (.getfield 28, 3) := by decide +kernel
theorem d_U_judge_57 : decode c_U_judge 57 = .ok (.iload_n 1, 1) := by decide +kernel
theorem d_U_judge_58 : decode c_U_judge 58 = .ok (.laload, 1) := by decide +kernel
theorem d_U_judge_59 : decode c_U_judge 59 = .ok (.lcmp, 1) := by decide +kernel
theorem d_U_judge_60 : decode c_U_judge 60 = .ok (.ifCond .ne 7, 3) := by decide +kernel
theorem d_U_judge_63 : decode c_U_judge 63 = .ok (.iconst 0, 1) := by decide +kernel
theorem d_U_judge_64 : decode c_U_judge 64 = .ok (.goto 4, 3) := by decide +kernel
theorem d_U_judge_67 : decode c_U_judge 67 = .ok (.iconst 1, 1) := by decide +kernel
theorem d_U_judge_68 : decode c_U_judge 68 = .ok (.ireturn, 1) := by decide +kernel
theorem d_K_changeAt_0 : decode c_K_changeAt 0 = .ok (.aload_n 0, 1) := by decide +kernel
theorem d_K_changeAt_1 : decode c_K_changeAt 1 = .ok (.iload_n 1, 1) := by decide +kernel
theorem d_K_changeAt_2 : decode c_K_changeAt 2 = .ok (.putfield 15, 3) := by decide +kernel
theorem d_K_changeAt_5 : decode c_K_changeAt 5 = .ok (.aload_n 0, 1) := by decide +kernel
theorem d_K_changeAt_6 : decode c_K_changeAt 6 = .ok (.iload_n 2, 1) := by decide +kernel
theorem d_K_changeAt_7 : decode c_K_changeAt 7 = .ok (.putfield 19, 3) := by decide +kernel
theorem d_K_changeAt_10 : decode c_K_changeAt 10 = .ok (.return_, 1) := by decide +kernel
theorem d_K_unchange_0 : decode c_K_unchange 0 = .ok (.aload_n 0, 1) := by decide +kernel
theorem d_K_unchange_1 : decode c_K_unchange 1 = .ok (.iconst (-1), 1) := by decide +kernel
theorem d_K_unchange_2 : decode c_K_unchange 2 = .ok (.putfield 15, 3) := by decide +kernel
theorem d_K_unchange_5 : decode c_K_unchange 5 = .ok (.aload_n 0, 1) := by decide +kernel
theorem d_K_unchange_6 : decode c_K_unchange 6 = .ok (.iconst (-1), 1) := by decide +kernel
theorem d_K_unchange_7 : decode c_K_unchange 7 = .ok (.putfield 19, 3) := by decide +kernel
theorem d_K_unchange_10 : decode c_K_unchange 10 = .ok (.return_, 1) := by decide +kernel
theorem d_M_order_0 : decode c_M_order 0 = .ok (.aload_n 0, 1) := by decide +kernel
theorem d_M_order_1 : decode c_M_order 1 = .ok (.getfield 28, 3) := by decide +kernel
theorem d_M_order_4 : decode c_M_order 4 = .ok (.iload_n 1, 1) := by decide +kernel
theorem d_M_order_5 : decode c_M_order 5 = .ok (.invokevirtual 103, 3) := by decide +kernel
theorem d_M_order_8 : decode c_M_order 8 = .ok (.ifCond .ne 5, 3) := by decide +kernel
theorem d_M_order_11 : decode c_M_order 11 = .ok (.iconst (-1), 1) := by decide +kernel
theorem d_M_order_12 : decode c_M_order 12 = .ok (.ireturn, 1) := by decide +kernel
theorem d_M_order_13 : decode c_M_order 13 = .ok (.aload_n 0, 1) := by decide +kernel
theorem d_M_order_14 : decode c_M_order 14 = .ok (.getfield 37, 3) := by decide +kernel
theorem d_M_order_17 : decode c_M_order 17 = .ok (.aload_n 0, 1) := by decide +kernel
theorem d_M_order_18 : decode c_M_order 18 = .ok (.getfield 28, 3) := by decide +kernel
theorem d_M_order_21 : decode c_M_order 21 = .ok (.iload_n 1, 1) := by decide +kernel
theorem d_M_order_22 : decode c_M_order 22 = .ok (.invokevirtual 105, 3) := by decide +kernel
theorem d_M_order_25 : decode c_M_order 25 = .ok (.invokevirtual 117, 3) := by decide +kernel
theorem d_M_order_28 : decode c_M_order 28 = .ok (.aload_n 0, 1) := by decide +kernel
theorem d_M_order_29 : decode c_M_order 29 = .ok (.getfield 37, 3) := by decide +kernel
theorem d_M_order_32 : decode c_M_order 32 = .ok (.iload_n 2, 1) := by decide +kernel
theorem d_M_order_33 : decode c_M_order 33 = .ok (.invokevirtual 122, 3) := by decide +kernel
theorem d_M_order_36 : decode c_M_order 36 = .ok (.ireturn, 1) := by decide +kernel
theorem d_M_distance_0 : decode c_M_distance 0 = .ok (.aload_n 0, 1) := by decide +kernel
theorem d_M_distance_1 : decode c_M_distance 1 = .ok (.getfield 21, 3) := by decide +kernel
theorem d_M_distance_4 : decode c_M_distance 4 = .ok (.iload_n 1, 1) := by decide +kernel
theorem d_M_distance_5 : decode c_M_distance 5 = .ok (.invokevirtual 60, 3) := by decide +kernel
theorem d_M_distance_8 : decode c_M_distance 8 = .ok (.ifCond .eq 14, 3) := by decide +kernel
theorem d_M_distance_11 : decode c_M_distance 11 = .ok (.aload_n 0, 1) := by decide +kernel
theorem d_M_distance_12 : decode c_M_distance 12 = .ok (.getfield 10, 3) := by decide +kernel
theorem d_M_distance_15 : decode c_M_distance 15 = .ok (.iload_n 2, 1) := by decide +kernel
theorem d_M_distance_16 : decode c_M_distance 16 = .ok (.invokevirtual 52, 3) := by decide +kernel
theorem d_M_distance_19 : decode c_M_distance 19 = .ok (.ifCond .ne 5, 3) := by decide +kernel
theorem d_M_distance_22 : decode c_M_distance 22 = .ok (.iconst (-1), 1) := by decide +kernel
theorem d_M_distance_23 : decode c_M_distance 23 = .ok (.ireturn, 1) := by decide +kernel
theorem d_M_distance_24 : decode c_M_distance 24 = .ok (.aload_n 0, 1) := by decide +kernel
theorem d_M_distance_25 : decode c_M_distance 25 = .ok (.getfield 10, 3) := by decide +kernel
theorem d_M_distance_28 : decode c_M_distance 28 = .ok (.aload_n 0, 1) := by decide +kernel
theorem d_M_distance_29 : decode c_M_distance 29 = .ok (.getfield 21, 3) := by decide +kernel
theorem d_M_distance_32 : decode c_M_distance 32 = .ok (.iload_n 1, 1) := by decide +kernel
theorem d_M_distance_33 : decode c_M_distance 33 = .ok (.invokevirtual 133, 3) := by decide +kernel
theorem d_M_distance_36 : decode c_M_distance 36 = .ok (.iload_n 2, 1) := by decide +kernel
theorem d_M_distance_37 : decode c_M_distance 37 = .ok (.invokevirtual 136, 3) := by decide +kernel
theorem d_M_distance_40 : decode c_M_distance 40 = .ok (.ireturn, 1) := by decide +kernel
theorem d_M_change_0 : decode c_M_change 0 = .ok (.aload_n 0, 1) := by decide +kernel
theorem d_M_change_1 : decode c_M_change 1 = .ok (.getfield 10, 3) := by decide +kernel
theorem d_M_change_4 : decode c_M_change 4 = .ok (.iload_n 1, 1) := by decide +kernel
theorem d_M_change_5 : decode c_M_change 5 = .ok (.invokevirtual 52, 3) := by decide +kernel
theorem d_M_change_8 : decode c_M_change 8 = .ok (.ifCond .eq 14, 3) := by decide +kernel
theorem d_M_change_11 : decode c_M_change 11 = .ok (.aload_n 0, 1) := by decide +kernel
theorem d_M_change_12 : decode c_M_change 12 = .ok (.getfield 10, 3) := by decide +kernel
theorem d_M_change_15 : decode c_M_change 15 = .ok (.iload_n 1, 1) := by decide +kernel
theorem d_M_change_16 : decode c_M_change 16 = .ok (.invokevirtual 93, 3) := by decide +kernel
theorem d_M_change_19 : decode c_M_change 19 = .ok (.ifCond .eq 5, 3) := by decide +kernel
theorem d_M_change_22 : decode c_M_change 22 = .ok (.iconst (-1), 1) := by decide +kernel
theorem d_M_change_23 : decode c_M_change 23 = .ok (.ireturn, 1) := by decide +kernel
theorem d_M_change_24 : decode c_M_change 24 = .ok (.aload_n 0, 1) := by decide +kernel
theorem d_M_change_25 : decode c_M_change 25 = .ok (.getfield 10, 3) := by decide +kernel
theorem d_M_change_28 : decode c_M_change 28 = .ok (.iload_n 1, 1) := by decide +kernel
theorem d_M_change_29 : decode c_M_change 29 = .ok (.invokevirtual 140, 3) := by decide +kernel
theorem d_M_change_32 : decode c_M_change 32 = .ok (.lload_n 2, 1) := by decide +kernel
theorem d_M_change_33 : decode c_M_change 33 = .ok (.lcmp, 1) := by decide +kernel
theorem d_M_change_34 : decode c_M_change 34 = .ok (.ifCond .eq 27, 3) := by decide +kernel
theorem d_M_change_37 : decode c_M_change 37 = .ok (.aload_n 0, 1) := by decide +kernel
theorem d_M_change_38 : decode c_M_change 38 = .ok (.getfield 10, 3) := by decide +kernel
theorem d_M_change_41 : decode c_M_change 41 = .ok (.iload_n 1, 1) := by decide +kernel
theorem d_M_change_42 : decode c_M_change 42 = .ok (.lload_n 2, 1) := by decide +kernel
theorem d_M_change_43 : decode c_M_change 43 = .ok (.invokevirtual 143, 3) := by decide +kernel
theorem d_M_change_46 : decode c_M_change 46 = .ok (.aload_n 0, 1) := by decide +kernel
theorem d_M_change_47 : decode c_M_change 47 = .ok (.getfield 28, 3) := by decide +kernel
theorem d_M_change_50 : decode c_M_change 50 = .ok (.aload_n 0, 1) := by decide +kernel
theorem d_M_change_51 : decode c_M_change 51 = .ok (.getfield 21, 3) := by decide +kernel
theorem d_M_change_54 : decode c_M_change 54 = .ok (.iload_n 1, 1) := by decide +kernel
theorem d_M_change_55 : decode c_M_change 55 = .ok (.invokevirtual 147, 3) := by decide +kernel
theorem d_M_change_58 : decode c_M_change 58 = .ok (.invokevirtual 150, 3) := by decide +kernel
theorem d_M_change_61 : decode c_M_change 61 = .ok (.aload_n 0, 1) := by decide +kernel
theorem d_M_change_62 : decode c_M_change 62 = .ok (.getfield 21, 3) := by decide +kernel
theorem d_M_change_65 : decode c_M_change 65 = .ok (.invokevirtual 154, 3) := by decide +kernel
theorem d_M_change_68 : decode c_M_change 68 = .ok (.ireturn, 1) := by decide +kernel
theorem d_T_renumber_0 : decode c_T_renumber 0 = .ok (.aload_n 0, 1) := by decide +kernel
theorem d_T_renumber_1 : decode c_T_renumber 1 = .ok (.getfield 15, 3) := by decide +kernel
theorem d_T_renumber_4 : decode c_T_renumber 4 = .ok (.iload_n 1, 1) := by decide +kernel
theorem d_T_renumber_5 : decode c_T_renumber 5 = .ok (.lload_n 2, 1) := by decide +kernel
theorem d_T_renumber_6 : decode c_T_renumber 6 = .ok (.lastore, 1) := by decide +kernel
theorem d_T_renumber_7 : decode c_T_renumber 7 = .ok (.iload_n 1, 1) := by decide +kernel
theorem d_T_renumber_8 : decode c_T_renumber 8 = .ok (.istore 4, 2) := by decide +kernel
theorem d_T_renumber_10 : decode c_T_renumber 10 = .ok (.iload 4, 2) := by decide +kernel
theorem d_T_renumber_12 : decode c_T_renumber 12 = .ok (.aload_n 0, 1) := by decide +kernel
theorem d_T_renumber_13 : decode c_T_renumber 13 = .ok (.getfield 34, 3) := by decide +kernel
theorem d_T_renumber_16 : decode c_T_renumber 16 = .ok (.if_icmp .ge 22, 3) := by decide +kernel
theorem d_T_renumber_19 : decode c_T_renumber 19 = .ok (.aload_n 0, 1) := by decide +kernel
theorem d_T_renumber_20 : decode c_T_renumber 20 = .ok (.getfield 28, 3) := by decide +kernel
theorem d_T_renumber_23 : decode c_T_renumber 23 = .ok (.iload 4, 2) := by decide +kernel
theorem d_T_renumber_25 : decode c_T_renumber 25 = .ok (.aload_n 0, 1) := by decide +kernel
theorem d_T_renumber_26 : decode c_T_renumber 26 = .ok (.iload 4, 2) := by decide +kernel
theorem d_T_renumber_28 : decode c_T_renumber 28 = .ok (.invokevirtual 46, 3) := by decide +kernel
theorem d_T_renumber_31 : decode c_T_renumber 31 = .ok (.iastore, 1) := by decide +kernel
theorem d_T_renumber_32 : decode c_T_renumber 32 = .ok (.iinc 4 1, 3) := by decide +kernel
theorem d_T_renumber_35 : decode c_T_renumber 35 = .ok (.goto (-25), 3) := by decide +kernel
theorem d_T_renumber_38 : decode c_T_renumber 38 = .ok (.return_, 1) := by decide +kernel
theorem d_U_retry_0 : decode c_U_retry 0 = .ok (.lconst 0, 1) := by decide +kernel
theorem d_U_retry_1 : decode c_U_retry 1 = .ok (.lstore_n 2, 1) := by decide +kernel
theorem d_U_retry_2 : decode c_U_retry 2 = .ok (.iconst 0, 1) := by decide +kernel
theorem d_U_retry_3 : decode c_U_retry 3 = .ok (.istore 4, 2) := by decide +kernel
theorem d_U_retry_5 : decode c_U_retry 5 = .ok (.iload 4, 2) := by decide +kernel
theorem d_U_retry_7 : decode c_U_retry 7 = .ok (.aload_n 0, 1) := by decide +kernel
theorem d_U_retry_8 : decode c_U_retry 8 = .ok (.getfield 40, 3) := by decide +kernel
theorem d_U_retry_11 : decode c_U_retry 11 = .ok (.if_icmp .ge 52, 3) := by decide +kernel
theorem d_U_retry_14 : decode c_U_retry 14 = .ok (.aload_n 0, 1) := by decide +kernel
theorem d_U_retry_15 : decode c_U_retry 15 = .ok (.getfield 37, 3) := by decide +kernel
theorem d_U_retry_18 : decode c_U_retry 18 = .ok (.iload 4, 2) := by decide +kernel
theorem d_U_retry_20 : decode c_U_retry 20 = .ok (.laload, 1) := by decide +kernel
theorem d_U_retry_21 : decode c_U_retry 21 = .ok (.iload_n 1, 1) := by decide +kernel
theorem d_U_retry_22 : decode c_U_retry 22 = .ok (.invokestatic 44, 3) := by decide +kernel
theorem d_U_retry_25 : decode c_U_retry 25 = .ok (.land, 1) := by decide +kernel
theorem d_U_retry_26 : decode c_U_retry 26 = .ok (.lconst 0, 1) := by decide +kernel
theorem d_U_retry_27 : decode c_U_retry 27 = .ok (.lcmp, 1) := by decide +kernel
theorem d_U_retry_28 : decode c_U_retry 28 = .ok (.ifCond .eq 29, 3) := by decide +kernel
theorem d_U_retry_31 : decode c_U_retry 31 = .ok (.lload_n 2, 1) := by decide +kernel
theorem d_U_retry_32 : decode c_U_retry 32 = .ok (.aload_n 0, 1) := by decide +kernel
theorem d_U_retry_33 : decode c_U_retry 33 = .ok (.getfield 37, 3) := by decide +kernel
theorem d_U_retry_36 : decode c_U_retry 36 = .ok (.iload 4, 2) := by decide +kernel
theorem d_U_retry_38 : decode c_U_retry 38 = .ok (.laload, 1) := by decide +kernel
theorem d_U_retry_39 : decode c_U_retry 39 = .ok (.lor, 1) := by decide +kernel
theorem d_U_retry_40 : decode c_U_retry 40 = .ok (.lstore_n 2, 1) := by decide +kernel
theorem d_U_retry_41 : decode c_U_retry 41 = .ok (.aload_n 0, 1) := by decide +kernel
theorem d_U_retry_42 : decode c_U_retry 42 = .ok (.iload 4, 2) := by decide +kernel
theorem d_U_retry_44 : decode c_U_retry 44 = .ok (.invokevirtual 48, 3) := by decide +kernel
theorem d_U_retry_47 : decode c_U_retry 47 = .ok (.lload_n 2, 1) := by decide +kernel
theorem d_U_retry_48 : decode c_U_retry 48 = .ok (.aload_n 0, 1) := by decide +kernel
theorem d_U_retry_49 : decode c_U_retry 49 = .ok (.getfield 37, 3) := by decide +kernel
theorem d_U_retry_52 : decode c_U_retry 52 = .ok (.iload 4, 2) := by decide +kernel
theorem d_U_retry_54 : decode c_U_retry 54 = .ok (.laload, 1) := by decide +kernel
theorem d_U_retry_55 : decode c_U_retry 55 = .ok (.lor, 1) := by decide +kernel
theorem d_U_retry_56 : decode c_U_retry 56 = .ok (.lstore_n 2, 1) := by decide +kernel
theorem d_U_retry_57 : decode c_U_retry 57 = .ok (.iinc 4 1, 3) := by decide +kernel
theorem d_U_retry_60 : decode c_U_retry 60 = .ok (.goto (-55), 3) := by decide +kernel
theorem d_U_retry_63 : decode c_U_retry 63 = .ok (.lload_n 2, 1) := by decide +kernel
theorem d_U_retry_64 : decode c_U_retry 64 = .ok (.lreturn, 1) := by decide +kernel
theorem d_N_forget_0 : decode c_N_forget 0 = .ok (.iconst 0, 1) := by decide +kernel
theorem d_N_forget_1 : decode c_N_forget 1 = .ok (.istore_n 3, 1) := by decide +kernel
theorem d_N_forget_2 : decode c_N_forget 2 = .ok (.iload_n 3, 1) := by decide +kernel
theorem d_N_forget_3 : decode c_N_forget 3 = .ok (.aload_n 0, 1) := by decide +kernel
theorem d_N_forget_4 : decode c_N_forget 4 = .ok (.getfield 32, 3) := by decide +kernel
theorem d_N_forget_7 : decode c_N_forget 7 = .ok (.if_icmp .ge 32, 3) := by decide +kernel
theorem d_N_forget_10 : decode c_N_forget 10 = .ok (.lload_n 1, 1) := by decide +kernel
theorem d_N_forget_11 : decode c_N_forget 11 = .ok (.aload_n 0, 1) := by decide +kernel
theorem d_N_forget_12 : decode c_N_forget 12 = .ok (.getfield 19, 3) := by decide +kernel
theorem d_N_forget_15 : decode c_N_forget 15 = .ok (.iload_n 3, 1) := by decide +kernel
theorem d_N_forget_16 : decode c_N_forget 16 = .ok (.iaload, 1) := by decide +kernel
theorem d_N_forget_17 : decode c_N_forget 17 = .ok (.invokestatic 36, 3) := by decide +kernel
theorem d_N_forget_20 : decode c_N_forget 20 = .ok (.land, 1) := by decide +kernel
theorem d_N_forget_21 : decode c_N_forget 21 = .ok (.lconst 0, 1) := by decide +kernel
theorem d_N_forget_22 : decode c_N_forget 22 = .ok (.lcmp, 1) := by decide +kernel
theorem d_N_forget_23 : decode c_N_forget 23 = .ok (.ifCond .eq 10, 3) := by decide +kernel
theorem d_N_forget_26 : decode c_N_forget 26 = .ok (.aload_n 0, 1) := by decide +kernel
theorem d_N_forget_27 : decode c_N_forget 27 = .ok (.iload_n 3, 1) := by decide +kernel
theorem d_N_forget_28 : decode c_N_forget 28 = .ok (.iconst (-1), 1) := by decide +kernel
theorem d_N_forget_29 : decode c_N_forget 29 = .ok (.iconst (-1), 1) := by decide +kernel
theorem d_N_forget_30 : decode c_N_forget 30 = .ok (.invokevirtual 40, 3) := by decide +kernel
theorem d_N_forget_33 : decode c_N_forget 33 = .ok (.iinc 3 1, 3) := by decide +kernel
theorem d_N_forget_36 : decode c_N_forget 36 = .ok (.goto (-34), 3) := by decide +kernel
theorem d_N_forget_39 : decode c_N_forget 39 = .ok (.return_, 1) := by decide +kernel
theorem d_U_countPassing_0 : decode c_U_countPassing 0 = .ok (.iconst 0, 1) := by decide +kernel
theorem d_U_countPassing_1 : decode c_U_countPassing 1 = .ok (.istore_n 1, 1) := by decide +kernel
theorem d_U_countPassing_2 : decode c_U_countPassing 2 = .ok (.iconst 0, 1) := by decide +kernel
theorem d_U_countPassing_3 : decode c_U_countPassing 3 = .ok (.istore_n 2, 1) := by decide +kernel
theorem d_U_countPassing_4 : decode c_U_countPassing 4 = .ok (.iload_n 2, 1) := by decide +kernel
theorem d_U_countPassing_5 : decode c_U_countPassing 5 = .ok (.aload_n 0, 1) := by decide +kernel
theorem d_U_countPassing_6 : decode c_U_countPassing 6 = .ok (.getfield 40, 3) := by decide +kernel
theorem d_U_countPassing_9 : decode c_U_countPassing 9 = .ok (.if_icmp .ge 22, 3) := by decide +kernel
theorem d_U_countPassing_12 : decode c_U_countPassing 12 = .ok (.aload_n 0, 1) := by decide +kernel
theorem d_U_countPassing_13 : decode c_U_countPassing 13 = .ok (.getfield 31, 3) := by decide +kernel
theorem d_U_countPassing_16 : decode c_U_countPassing 16 = .ok (.iload_n 2, 1) := by decide +kernel
theorem d_U_countPassing_17 : decode c_U_countPassing 17 = .ok (.iaload, 1) := by decide +kernel
theorem d_U_countPassing_18 : decode c_U_countPassing 18 = .ok (.iconst 1, 1) := by decide +kernel
theorem d_U_countPassing_19 : decode c_U_countPassing 19 = .ok (.if_icmp .ne 6, 3) := by decide +kernel
theorem d_U_countPassing_22 : decode c_U_countPassing 22 = .ok (.iinc 1 1, 3) := by decide +kernel
theorem d_U_countPassing_25 : decode c_U_countPassing 25 = .ok (.iinc 2 1, 3) := by decide +kernel
theorem d_U_countPassing_28 : decode c_U_countPassing 28 = .ok (.goto (-24), 3) := by decide +kernel
theorem d_U_countPassing_31 : decode c_U_countPassing 31 = .ok (.iload_n 1, 1) := by decide +kernel
theorem d_U_countPassing_32 : decode c_U_countPassing 32 = .ok (.ireturn, 1) := by decide +kernel
theorem d_M_sample_0 : decode c_M_sample 0 = .ok (.iload_n 3, 1) := by decide +kernel
theorem d_M_sample_1 : decode c_M_sample 1 = .ok (.ifCond .lt 14, 3) := by decide +kernel
theorem d_M_sample_4 : decode c_M_sample 4 = .ok (.iload_n 3, 1) := by decide +kernel
theorem d_M_sample_5 : decode c_M_sample 5 = .ok (.aload_n 0, 1) := by decide +kernel
theorem d_M_sample_6 : decode c_M_sample 6 = .ok (.getfield 28, 3) := by decide +kernel
theorem d_M_sample_9 : decode c_M_sample 9 = .ok (.invokevirtual 85, 3) := by decide +kernel
theorem d_M_sample_12 : decode c_M_sample 12 = .ok (.if_icmp .le 5, 3) := by decide +kernel
theorem d_M_sample_15 : decode c_M_sample 15 = .ok (.iconst 0, 1) := by decide +kernel
theorem d_M_sample_16 : decode c_M_sample 16 = .ok (.ireturn, 1) := by decide +kernel
theorem d_M_sample_17 : decode c_M_sample 17 = .ok (.aload_n 0, 1) := by decide +kernel
theorem d_M_sample_18 : decode c_M_sample 18 = .ok (.getfield 44, 3) := by decide +kernel
theorem d_M_sample_21 : decode c_M_sample 21 = .ok (.lload_n 1, 1) := by decide +kernel
theorem d_M_sample_22 : decode c_M_sample 22 = .ok (.iload_n 3, 1) := by decide +kernel
theorem d_M_sample_23 : decode c_M_sample 23 = .ok (.aload_n 0, 1) := by decide +kernel
theorem d_M_sample_24 : decode c_M_sample 24 = .ok (.getfield 28, 3) := by decide +kernel
theorem d_M_sample_27 : decode c_M_sample 27 = .ok (.invokevirtual 85, 3) := by decide +kernel
theorem d_M_sample_30 : decode c_M_sample 30 = .ok (.invokevirtual 157, 3) := by decide +kernel
theorem d_M_sample_33 : decode c_M_sample 33 = .ok (.iconst 1, 1) := by decide +kernel
theorem d_M_sample_34 : decode c_M_sample 34 = .ok (.ireturn, 1) := by decide +kernel
theorem d_D_shuffle_0 : decode c_D_shuffle 0 = .ok (.iconst 0, 1) := by decide +kernel
theorem d_D_shuffle_1 : decode c_D_shuffle 1 = .ok (.istore 5, 2) := by decide +kernel
theorem d_D_shuffle_3 : decode c_D_shuffle 3 = .ok (.iload 5, 2) := by decide +kernel
theorem d_D_shuffle_5 : decode c_D_shuffle 5 = .ok (.iload 4, 2) := by decide +kernel
theorem d_D_shuffle_7 : decode c_D_shuffle 7 = .ok (.if_icmp .ge 18, 3) := by decide +kernel
theorem d_D_shuffle_10 : decode c_D_shuffle 10 = .ok (.aload_n 0, 1) := by decide +kernel
theorem d_D_shuffle_11 : decode c_D_shuffle 11 = .ok (.getfield 9, 3) := by decide +kernel
theorem d_D_shuffle_14 : decode c_D_shuffle 14 = .ok (.iload 5, 2) := by decide +kernel
theorem d_D_shuffle_16 : decode c_D_shuffle 16 = .ok (.iload 5, 2) := by decide +kernel
theorem d_D_shuffle_18 : decode c_D_shuffle 18 = .ok (.iastore, 1) := by decide +kernel
theorem d_D_shuffle_19 : decode c_D_shuffle 19 = .ok (.iinc 5 1, 3) := by decide +kernel
theorem d_D_shuffle_22 : decode c_D_shuffle 22 = .ok (.goto (-19), 3) := by decide +kernel
theorem d_D_shuffle_25 : decode c_D_shuffle 25 = .ok (.lload_n 1, 1) := by decide +kernel
theorem d_D_shuffle_26 : decode c_D_shuffle 26 = .ok (.lstore 5, 2) := by decide +kernel
theorem d_D_shuffle_28 : decode c_D_shuffle 28 = .ok (.iconst 0, 1) := by decide +kernel
theorem d_D_shuffle_29 : decode c_D_shuffle 29 = .ok (.istore 7, 2) := by decide +kernel
theorem d_D_shuffle_31 : decode c_D_shuffle 31 = .ok (.iload 7, 2) := by decide +kernel
theorem d_D_shuffle_33 : decode c_D_shuffle 33 = .ok (.iload_n 3, 1) := by decide +kernel
theorem d_D_shuffle_34 : decode c_D_shuffle 34 = .ok (.if_icmp .ge 78, 3) := by decide +kernel
theorem d_D_shuffle_37 : decode c_D_shuffle 37 = .ok (.iload 7, 2) := by decide +kernel
theorem d_D_shuffle_39 : decode c_D_shuffle 39 = .ok (.iload 4, 2) := by decide +kernel
theorem d_D_shuffle_41 : decode c_D_shuffle 41 = .ok (.if_icmp .ge 71, 3) := by decide +kernel
theorem d_D_shuffle_44 : decode c_D_shuffle 44 = .ok (.lload 5, 2) := by decide +kernel
theorem d_D_shuffle_46 : decode c_D_shuffle 46 = .ok (.ldc2_w 19, 3) := by decide +kernel
theorem d_D_shuffle_49 : decode c_D_shuffle 49 = .ok (.lmul, 1) := by decide +kernel
theorem d_D_shuffle_50 : decode c_D_shuffle 50 = .ok (.ldc2_w 21, 3) := by decide +kernel
theorem d_D_shuffle_53 : decode c_D_shuffle 53 = .ok (.ladd, 1) := by decide +kernel
theorem d_D_shuffle_54 : decode c_D_shuffle 54 = .ok (.lstore 5, 2) := by decide +kernel
theorem d_D_shuffle_56 : decode c_D_shuffle 56 = .ok (.iload 7, 2) := by decide +kernel
theorem d_D_shuffle_58 : decode c_D_shuffle 58 = .ok (.lload 5, 2) := by decide +kernel
theorem d_D_shuffle_60 : decode c_D_shuffle 60 = .ok (.bipush 33, 2) := by decide +kernel
theorem d_D_shuffle_62 : decode c_D_shuffle 62 = .ok (.lushr, 1) := by decide +kernel
theorem d_D_shuffle_63 : decode c_D_shuffle 63 = .ok (.iload 4, 2) := by decide +kernel
theorem d_D_shuffle_65 : decode c_D_shuffle 65 = .ok (.iload 7, 2) := by decide +kernel
theorem d_D_shuffle_67 : decode c_D_shuffle 67 = .ok (.isub, 1) := by decide +kernel
theorem d_D_shuffle_68 : decode c_D_shuffle 68 = .ok (.i2l, 1) := by decide +kernel
theorem d_D_shuffle_69 : decode c_D_shuffle 69 = .ok (.lrem, 1) := by decide +kernel
theorem d_D_shuffle_70 : decode c_D_shuffle 70 = .ok (.l2i, 1) := by decide +kernel
theorem d_D_shuffle_71 : decode c_D_shuffle 71 = .ok (.iadd, 1) := by decide +kernel
theorem d_D_shuffle_72 : decode c_D_shuffle 72 = .ok (.istore 8, 2) := by decide +kernel
theorem d_D_shuffle_74 : decode c_D_shuffle 74 = .ok (.aload_n 0, 1) := by decide +kernel
theorem d_D_shuffle_75 : decode c_D_shuffle 75 = .ok (.getfield 9, 3) := by decide +kernel
theorem d_D_shuffle_78 : decode c_D_shuffle 78 = .ok (.iload 7, 2) := by decide +kernel
theorem d_D_shuffle_80 : decode c_D_shuffle 80 = .ok (.iaload, 1) := by decide +kernel
theorem d_D_shuffle_81 : decode c_D_shuffle 81 = .ok (.istore 9, 2) := by decide +kernel
theorem d_D_shuffle_83 : decode c_D_shuffle 83 = .ok (.aload_n 0, 1) := by decide +kernel
theorem d_D_shuffle_84 : decode c_D_shuffle 84 = .ok (.getfield 9, 3) := by decide +kernel
theorem d_D_shuffle_87 : decode c_D_shuffle 87 = .ok (.iload 7, 2) := by decide +kernel
theorem d_D_shuffle_89 : decode c_D_shuffle 89 = .ok (.aload_n 0, 1) := by decide +kernel
theorem d_D_shuffle_90 : decode c_D_shuffle 90 = .ok (.getfield 9, 3) := by decide +kernel
theorem d_D_shuffle_93 : decode c_D_shuffle 93 = .ok (.iload 8, 2) := by decide +kernel
theorem d_D_shuffle_95 : decode c_D_shuffle 95 = .ok (.iaload, 1) := by decide +kernel
theorem d_D_shuffle_96 : decode c_D_shuffle 96 = .ok (.iastore, 1) := by decide +kernel
theorem d_D_shuffle_97 : decode c_D_shuffle 97 = .ok (.aload_n 0, 1) := by decide +kernel
theorem d_D_shuffle_98 : decode c_D_shuffle 98 = .ok (.getfield 9, 3) := by decide +kernel
theorem d_D_shuffle_101 : decode c_D_shuffle 101 = .ok (.iload 8, 2) := by decide +kernel
theorem d_D_shuffle_103 : decode c_D_shuffle 103 = .ok (.iload 9, 2) := by decide +kernel
theorem d_D_shuffle_105 : decode c_D_shuffle 105 = .ok (.iastore, 1) := by decide +kernel
theorem d_D_shuffle_106 : decode c_D_shuffle 106 = .ok (.iinc 7 1, 3) := by decide +kernel
theorem d_D_shuffle_109 : decode c_D_shuffle 109 = .ok (.goto (-78), 3) := by decide +kernel
theorem d_D_shuffle_112 : decode c_D_shuffle 112 = .ok (.aload_n 0, 1) := by decide +kernel
theorem d_D_shuffle_113 : decode c_D_shuffle 113 = .ok (.iload_n 3, 1) := by decide +kernel
theorem d_D_shuffle_114 : decode c_D_shuffle 114 = .ok (.putfield 15, 3) := by decide +kernel
theorem d_D_shuffle_117 : decode c_D_shuffle 117 = .ok (.return_, 1) := by decide +kernel
theorem d_M_sampled_0 : decode c_M_sampled 0 = .ok (.aload_n 0, 1) := by decide +kernel
theorem d_M_sampled_1 : decode c_M_sampled 1 = .ok (.getfield 44, 3) := by decide +kernel
theorem d_M_sampled_4 : decode c_M_sampled 4 = .ok (.iload_n 1, 1) := by decide +kernel
theorem d_M_sampled_5 : decode c_M_sampled 5 = .ok (.invokevirtual 161, 3) := by decide +kernel
theorem d_M_sampled_8 : decode c_M_sampled 8 = .ok (.ireturn, 1) := by decide +kernel
theorem d_D_at_0 : decode c_D_at 0 = .ok (.iload_n 1, 1) := by decide +kernel
theorem d_D_at_1 : decode c_D_at 1 = .ok (.ifCond .lt 20, 3) := by decide +kernel
theorem d_D_at_4 : decode c_D_at 4 = .ok (.iload_n 1, 1) := by decide +kernel
theorem d_D_at_5 : decode c_D_at 5 = .ok (.aload_n 0, 1) := by decide +kernel
theorem d_D_at_6 : decode c_D_at 6 = .ok (.getfield 15, 3) := by decide +kernel
theorem d_D_at_9 : decode c_D_at 9 = .ok (.if_icmp .ge 12, 3) := by decide +kernel
theorem d_D_at_12 : decode c_D_at 12 = .ok (.aload_n 0, 1) := by decide +kernel
theorem d_D_at_13 : decode c_D_at 13 = .ok (.getfield 9, 3) := by decide +kernel
theorem d_D_at_16 : decode c_D_at 16 = .ok (.iload_n 1, 1) := by decide +kernel
theorem d_D_at_17 : decode c_D_at 17 = .ok (.iaload, 1) := by decide +kernel
theorem d_D_at_18 : decode c_D_at 18 = .ok (.goto 4, 3) := by decide +kernel
theorem d_D_at_21 : decode c_D_at 21 = .ok (.iconst (-1), 1) := by decide +kernel
theorem d_D_at_22 : decode c_D_at 22 = .ok (.ireturn, 1) := by decide +kernel
theorem d_M_score_0 : decode c_M_score 0 = .ok (.iload_n 1, 1) := by decide +kernel
theorem d_M_score_1 : decode c_M_score 1 = .ok (.iconst (-1), 1) := by decide +kernel
theorem d_M_score_2 : decode c_M_score 2 = .ok (.if_icmp .eq 10, 3) := by decide +kernel
theorem d_M_score_5 : decode c_M_score 5 = .ok (.iload_n 1, 1) := by decide +kernel
theorem d_M_score_6 : decode c_M_score 6 = .ok (.invokestatic 78, 3) := by decide +kernel
theorem d_M_score_9 : decode c_M_score 9 = .ok (.ifCond .eq 12, 3) := by decide +kernel
theorem d_M_score_12 : decode c_M_score 12 = .ok (.iload_n 2, 1) := by decide +kernel
theorem d_M_score_13 : decode c_M_score 13 = .ok (.ifCond .lt 8, 3) := by decide +kernel
theorem d_M_score_16 : decode c_M_score 16 = .ok (.iload_n 2, 1) := by decide +kernel
theorem d_M_score_17 : decode c_M_score 17 = .ok (.iconst 2, 1) := by decide +kernel
theorem d_M_score_18 : decode c_M_score 18 = .ok (.if_icmp .le 5, 3) := by decide +kernel
theorem d_M_score_21 : decode c_M_score 21 = .ok (.iconst (-1), 1) := by decide +kernel
theorem d_M_score_22 : decode c_M_score 22 = .ok (.ireturn, 1) := by decide +kernel
theorem d_M_score_23 : decode c_M_score 23 = .ok (.iconst 0, 1) := by decide +kernel
theorem d_M_score_24 : decode c_M_score 24 = .ok (.istore_n 3, 1) := by decide +kernel
theorem d_M_score_25 : decode c_M_score 25 = .ok (.iconst 0, 1) := by decide +kernel
theorem d_M_score_26 : decode c_M_score 26 = .ok (.istore 4, 2) := by decide +kernel
theorem d_M_score_28 : decode c_M_score 28 = .ok (.iload 4, 2) := by decide +kernel
theorem d_M_score_30 : decode c_M_score 30 = .ok (.aload_n 0, 1) := by decide +kernel
theorem d_M_score_31 : decode c_M_score 31 = .ok (.getfield 28, 3) := by decide +kernel
theorem d_M_score_34 : decode c_M_score 34 = .ok (.invokevirtual 85, 3) := by decide +kernel
theorem d_M_score_37 : decode c_M_score 37 = .ok (.if_icmp .ge 43, 3) := by decide +kernel
theorem d_M_score_40 : decode c_M_score 40 = .ok (.iload_n 1, 1) := by decide +kernel
theorem d_M_score_41 : decode c_M_score 41 = .ok (.iconst (-1), 1) := by decide +kernel
theorem d_M_score_42 : decode c_M_score 42 = .ok (.if_icmp .eq 16, 3) := by decide +kernel
theorem d_M_score_45 : decode c_M_score 45 = .ok (.iload_n 1, 1) := by decide +kernel
theorem d_M_score_46 : decode c_M_score 46 = .ok (.aload_n 0, 1) := by decide +kernel
theorem d_M_score_47 : decode c_M_score 47 = .ok (.getfield 28, 3) := by decide +kernel
theorem d_M_score_50 : decode c_M_score 50 = .ok (.iload 4, 2) := by decide +kernel
theorem d_M_score_52 : decode c_M_score 52 = .ok (.invokevirtual 104, 3) := by decide +kernel
theorem d_M_score_55 : decode c_M_score 55 = .ok (.if_icmp .ne 19, 3) := by decide +kernel
theorem d_M_score_58 : decode c_M_score 58 = .ok (.aload_n 0, 1) := by decide +kernel
theorem d_M_score_59 : decode c_M_score 59 = .ok (.getfield 28, 3) := by decide +kernel
theorem d_M_score_62 : decode c_M_score 62 = .ok (.iload 4, 2) := by decide +kernel
theorem d_M_score_64 : decode c_M_score 64 = .ok (.iload_n 2, 1) := by decide +kernel
theorem d_M_score_65 : decode c_M_score 65 = .ok (.invokevirtual 162, 3) := by decide +kernel
theorem d_M_score_68 : decode c_M_score 68 = .ok (.ifCond .eq 6, 3) := by decide +kernel
theorem d_M_score_71 : decode c_M_score 71 = .ok (.iinc 3 1, 3) := by decide +kernel
theorem d_M_score_74 : decode c_M_score 74 = .ok (.iinc 4 1, 3) := by decide +kernel
theorem d_M_score_77 : decode c_M_score 77 = .ok (.goto (-49), 3) := by decide +kernel
theorem d_M_score_80 : decode c_M_score 80 = .ok (.iload_n 3, 1) := by decide +kernel
theorem d_M_score_81 : decode c_M_score 81 = .ok (.ireturn, 1) := by decide +kernel
theorem d_N_isOnSide_0 : decode c_N_isOnSide 0 = .ok (.aload_n 0, 1) := by decide +kernel
theorem d_N_isOnSide_1 : decode c_N_isOnSide 1 = .ok (.getfield 22, 3) := by decide +kernel
theorem d_N_isOnSide_4 : decode c_N_isOnSide 4 = .ok (.iload_n 1, 1) := by decide +kernel
theorem d_N_isOnSide_5 : decode c_N_isOnSide 5 = .ok (.iaload, 1) := by decide +kernel
theorem d_N_isOnSide_6 : decode c_N_isOnSide 6 = .ok (.istore_n 3, 1) := by decide +kernel
theorem d_N_isOnSide_7 : decode c_N_isOnSide 7 = .ok (.iload_n 2, 1) := by decide +kernel
theorem d_N_isOnSide_8 : decode c_N_isOnSide 8 = .ok (.lookupswitch 55 #[(0, 28), (1, 44)], 28) := by decide +kernel
theorem d_N_isOnSide_36 : decode c_N_isOnSide 36 = .ok (.iload_n 3, 1) := by decide +kernel
theorem d_N_isOnSide_37 : decode c_N_isOnSide 37 = .ok (.iconst 1, 1) := by decide +kernel
theorem d_N_isOnSide_38 : decode c_N_isOnSide 38 = .ok (.if_icmp .eq 8, 3) := by decide +kernel
theorem d_N_isOnSide_41 : decode c_N_isOnSide 41 = .ok (.iload_n 3, 1) := by decide +kernel
theorem d_N_isOnSide_42 : decode c_N_isOnSide 42 = .ok (.iconst 2, 1) := by decide +kernel
theorem d_N_isOnSide_43 : decode c_N_isOnSide 43 = .ok (.if_icmp .ne 7, 3) := by decide +kernel
theorem d_N_isOnSide_46 : decode c_N_isOnSide 46 = .ok (.iconst 1, 1) := by decide +kernel
theorem d_N_isOnSide_47 : decode c_N_isOnSide 47 = .ok (.goto 4, 3) := by decide +kernel
theorem d_N_isOnSide_50 : decode c_N_isOnSide 50 = .ok (.iconst 0, 1) := by decide +kernel
theorem d_N_isOnSide_51 : decode c_N_isOnSide 51 = .ok (.ireturn, 1) := by decide +kernel
theorem d_N_isOnSide_52 : decode c_N_isOnSide 52 = .ok (.iload_n 3, 1) := by decide +kernel
theorem d_N_isOnSide_53 : decode c_N_isOnSide 53 = .ok (.iconst (-1), 1) := by decide +kernel
theorem d_N_isOnSide_54 : decode c_N_isOnSide 54 = .ok (.if_icmp .eq 7, 3) := by decide +kernel
theorem d_N_isOnSide_57 : decode c_N_isOnSide 57 = .ok (.iconst 1, 1) := by decide +kernel
theorem d_N_isOnSide_58 : decode c_N_isOnSide 58 = .ok (.goto 4, 3) := by decide +kernel
theorem d_N_isOnSide_61 : decode c_N_isOnSide 61 = .ok (.iconst 0, 1) := by decide +kernel
theorem d_N_isOnSide_62 : decode c_N_isOnSide 62 = .ok (.ireturn, 1) := by decide +kernel
theorem d_N_isOnSide_63 : decode c_N_isOnSide 63 = .ok (.iload_n 3, 1) := by decide +kernel
theorem d_N_isOnSide_64 : decode c_N_isOnSide 64 = .ok (.ifCond .ne 15, 3) := by decide +kernel
theorem d_N_isOnSide_67 : decode c_N_isOnSide 67 = .ok (.aload_n 0, 1) := by decide +kernel
theorem d_N_isOnSide_68 : decode c_N_isOnSide 68 = .ok (.iload_n 1, 1) := by decide +kernel
theorem d_N_isOnSide_69 : decode c_N_isOnSide 69 = .ok (.invokevirtual 44, 3) := by decide +kernel
theorem d_N_isOnSide_72 : decode c_N_isOnSide 72 = .ok (.ifCond .ne 7, 3) := by decide +kernel
theorem d_N_isOnSide_75 : decode c_N_isOnSide 75 = .ok (.iconst 1, 1) := by decide +kernel
theorem d_N_isOnSide_76 : decode c_N_isOnSide 76 = .ok (.goto 4, 3) := by decide +kernel
theorem d_N_isOnSide_79 : decode c_N_isOnSide 79 = .ok (.iconst 0, 1) := by decide +kernel
theorem d_N_isOnSide_80 : decode c_N_isOnSide 80 = .ok (.ireturn, 1) := by decide +kernel
theorem d_M_miss_0 : decode c_M_miss 0 = .ok (.iconst 0, 1) := by decide +kernel
theorem d_M_miss_1 : decode c_M_miss 1 = .ok (.istore_n 2, 1) := by decide +kernel
theorem d_M_miss_2 : decode c_M_miss 2 = .ok (.iconst 0, 1) := by decide +kernel
theorem d_M_miss_3 : decode c_M_miss 3 = .ok (.istore_n 3, 1) := by decide +kernel
theorem d_M_miss_4 : decode c_M_miss 4 = .ok (.iload_n 3, 1) := by decide +kernel
theorem d_M_miss_5 : decode c_M_miss 5 = .ok (.aload_n 0, 1) := by decide +kernel
theorem d_M_miss_6 : decode c_M_miss 6 = .ok (.getfield 28, 3) := by decide +kernel
theorem d_M_miss_9 : decode c_M_miss 9 = .ok (.invokevirtual 85, 3) := by decide +kernel
theorem d_M_miss_12 : decode c_M_miss 12 = .ok (.if_icmp .ge 31, 3) := by decide +kernel
theorem d_M_miss_15 : decode c_M_miss 15 = .ok (.aload_n 0, 1) := by decide +kernel
theorem d_M_miss_16 : decode c_M_miss 16 = .ok (.getfield 28, 3) := by decide +kernel
theorem d_M_miss_19 : decode c_M_miss 19 = .ok (.iload_n 3, 1) := by decide +kernel
theorem d_M_miss_20 : decode c_M_miss 20 = .ok (.iconst 2, 1) := by decide +kernel
theorem d_M_miss_21 : decode c_M_miss 21 = .ok (.invokevirtual 162, 3) := by decide +kernel
theorem d_M_miss_24 : decode c_M_miss 24 = .ok (.ifCond .eq 13, 3) := by decide +kernel
theorem d_M_miss_27 : decode c_M_miss 27 = .ok (.iload_n 2, 1) := by decide +kernel
theorem d_M_miss_28 : decode c_M_miss 28 = .ok (.iload_n 1, 1) := by decide +kernel
theorem d_M_miss_29 : decode c_M_miss 29 = .ok (.if_icmp .ne 5, 3) := by decide +kernel
theorem d_M_miss_32 : decode c_M_miss 32 = .ok (.iload_n 3, 1) := by decide +kernel
theorem d_M_miss_33 : decode c_M_miss 33 = .ok (.ireturn, 1) := by decide +kernel
theorem d_M_miss_34 : decode c_M_miss 34 = .ok (.iinc 2 1, 3) := by decide +kernel
theorem d_M_miss_37 : decode c_M_miss 37 = .ok (.iinc 3 1, 3) := by decide +kernel
theorem d_M_miss_40 : decode c_M_miss 40 = .ok (.goto (-36), 3) := by decide +kernel
theorem d_M_miss_43 : decode c_M_miss 43 = .ok (.iconst (-1), 1) := by decide +kernel
theorem d_M_miss_44 : decode c_M_miss 44 = .ok (.ireturn, 1) := by decide +kernel
theorem d_R_init_0 : decode c_R_init 0 = .ok (.aload_n 0, 1) := by decide +kernel
theorem d_R_init_1 : decode c_R_init 1 = .ok (.invokespecial 1, 3) := by decide +kernel
theorem d_R_init_4 : decode c_R_init 4 = .ok (.aload_n 0, 1) := by decide +kernel
theorem d_R_init_5 : decode c_R_init 5 = .ok (.bipush 64, 2) := by decide +kernel
theorem d_R_init_7 : decode c_R_init 7 = .ok (.newarray .int, 2) := by decide +kernel
theorem d_R_init_9 : decode c_R_init 9 = .ok (.putfield 7, 3) := by decide +kernel
theorem d_R_init_12 : decode c_R_init 12 = .ok (.aload_n 0, 1) := by decide +kernel
theorem d_R_init_13 : decode c_R_init 13 = .ok (.bipush 64, 2) := by decide +kernel
theorem d_R_init_15 : decode c_R_init 15 = .ok (.newarray .long, 2) := by decide +kernel
theorem d_R_init_17 : decode c_R_init 17 = .ok (.putfield 13, 3) := by decide +kernel
theorem d_R_init_20 : decode c_R_init 20 = .ok (.aload_n 0, 1) := by decide +kernel
theorem d_R_init_21 : decode c_R_init 21 = .ok (.bipush 64, 2) := by decide +kernel
theorem d_R_init_23 : decode c_R_init 23 = .ok (.newarray .int, 2) := by decide +kernel
theorem d_R_init_25 : decode c_R_init 25 = .ok (.putfield 17, 3) := by decide +kernel
theorem d_R_init_28 : decode c_R_init 28 = .ok (.aload_n 0, 1) := by decide +kernel
theorem d_R_init_29 : decode c_R_init 29 = .ok (.bipush 64, 2) := by decide +kernel
theorem d_R_init_31 : decode c_R_init 31 = .ok (.newarray .int, 2) := by decide +kernel
theorem d_R_init_33 : decode c_R_init 33 = .ok (.putfield 20, 3) := by decide +kernel
theorem d_R_init_36 : decode c_R_init 36 = .ok (.aload_n 0, 1) := by decide +kernel
theorem d_R_init_37 : decode c_R_init 37 = .ok (.bipush 64, 2) := by decide +kernel
theorem d_R_init_39 : decode c_R_init 39 = .ok (.newarray .int, 2) := by decide +kernel
theorem d_R_init_41 : decode c_R_init 41 = .ok (.putfield 23, 3) := by decide +kernel
theorem d_R_init_44 : decode c_R_init 44 = .ok (.aload_n 0, 1) := by decide +kernel
theorem d_R_init_45 : decode c_R_init 45 = .ok (.bipush 24, 2) := by decide +kernel
theorem d_R_init_47 : decode c_R_init 47 = .ok (.newarray .int, 2) := by decide +kernel
theorem d_R_init_49 : decode c_R_init 49 = .ok (.putfield 26, 3) := by decide +kernel
theorem d_R_init_52 : decode c_R_init 52 = .ok (.aload_n 0, 1) := by decide +kernel
theorem d_R_init_53 : decode c_R_init 53 = .ok (.bipush 24, 2) := by decide +kernel
theorem d_R_init_55 : decode c_R_init 55 = .ok (.newarray .long, 2) := by decide +kernel
theorem d_R_init_57 : decode c_R_init 57 = .ok (.putfield 29, 3) := by decide +kernel
theorem d_R_init_60 : decode c_R_init 60 = .ok (.aload_n 0, 1) := by decide +kernel
theorem d_R_init_61 : decode c_R_init 61 = .ok (.bipush 24, 2) := by decide +kernel
theorem d_R_init_63 : decode c_R_init 63 = .ok (.newarray .long, 2) := by decide +kernel
theorem d_R_init_65 : decode c_R_init 65 = .ok (.putfield 32, 3) := by decide +kernel
theorem d_R_init_68 : decode c_R_init 68 = .ok (.aload_n 0, 1) := by decide +kernel
theorem d_R_init_69 : decode c_R_init 69 = .ok (.bipush 24, 2) := by decide +kernel
theorem d_R_init_71 : decode c_R_init 71 = .ok (.newarray .int, 2) := by decide +kernel
theorem d_R_init_73 : decode c_R_init 73 = .ok (.putfield 35, 3) := by decide +kernel
theorem d_R_init_76 : decode c_R_init 76 = .ok (.aload_n 0, 1) := by decide +kernel
theorem d_R_init_77 : decode c_R_init 77 = .ok (.bipush 24, 2) := by decide +kernel
theorem d_R_init_79 : decode c_R_init 79 = .ok (.newarray .int, 2) := by decide +kernel
theorem d_R_init_81 : decode c_R_init 81 = .ok (.putfield 38, 3) := by decide +kernel
theorem d_R_init_84 : decode c_R_init 84 = .ok (.aload_n 0, 1) := by decide +kernel
theorem d_R_init_85 : decode c_R_init 85 = .ok (.sipush 1536, 3) := by decide +kernel
theorem d_R_init_88 : decode c_R_init 88 = .ok (.newarray .boolean, 2) := by decide +kernel
theorem d_R_init_90 : decode c_R_init 90 = .ok (.putfield 41, 3) := by decide +kernel
theorem d_R_init_93 : decode c_R_init 93 = .ok (.aload_n 0, 1) := by decide +kernel
theorem d_R_init_94 : decode c_R_init 94 = .ok (.sipush 1536, 3) := by decide +kernel
theorem d_R_init_97 : decode c_R_init 97 = .ok (.newarray .boolean, 2) := by decide +kernel
theorem d_R_init_99 : decode c_R_init 99 = .ok (.putfield 45, 3) := by decide +kernel
theorem d_R_init_102 : decode c_R_init 102 = .ok (.aload_n 0, 1) := by decide +kernel
theorem d_R_init_103 : decode c_R_init 103 = .ok (.bipush 100, 2) := by decide +kernel
theorem d_R_init_105 : decode c_R_init 105 = .ok (.newarray .int, 2) := by decide +kernel
theorem d_R_init_107 : decode c_R_init 107 = .ok (.putfield 48, 3) := by decide +kernel
theorem d_R_init_110 : decode c_R_init 110 = .ok (.aload_n 0, 1) := by decide +kernel
theorem d_R_init_111 : decode c_R_init 111 = .ok (.bipush 100, 2) := by decide +kernel
theorem d_R_init_113 : decode c_R_init 113 = .ok (.newarray .int, 2) := by decide +kernel
theorem d_R_init_115 : decode c_R_init 115 = .ok (.putfield 51, 3) := by decide +kernel
theorem d_R_init_118 : decode c_R_init 118 = .ok (.aload_n 0, 1) := by decide +kernel
theorem d_R_init_119 : decode c_R_init 119 = .ok (.bipush 100, 2) := by decide +kernel
theorem d_R_init_121 : decode c_R_init 121 = .ok (.newarray .int, 2) := by decide +kernel
theorem d_R_init_123 : decode c_R_init 123 = .ok (.putfield 54, 3) := by decide +kernel
theorem d_R_init_126 : decode c_R_init 126 = .ok (.aload_n 0, 1) := by decide +kernel
theorem d_R_init_127 : decode c_R_init 127 = .ok (.bipush 100, 2) := by decide +kernel
theorem d_R_init_129 : decode c_R_init 129 = .ok (.newarray .int, 2) := by decide +kernel
theorem d_R_init_131 : decode c_R_init 131 = .ok (.putfield 57, 3) := by decide +kernel
theorem d_R_init_134 : decode c_R_init 134 = .ok (.aload_n 0, 1) := by decide +kernel
theorem d_R_init_135 : decode c_R_init 135 = .ok (.bipush 100, 2) := by decide +kernel
theorem d_R_init_137 : decode c_R_init 137 = .ok (.newarray .int, 2) := by decide +kernel
theorem d_R_init_139 : decode c_R_init 139 = .ok (.putfield 60, 3) := by decide +kernel
theorem d_R_init_142 : decode c_R_init 142 = .ok (.aload_n 0, 1) := by decide +kernel
theorem d_R_init_143 : decode c_R_init 143 = .ok (.iconst (-1), 1) := by decide +kernel
theorem d_R_init_144 : decode c_R_init 144 = .ok (.putfield 63, 3) := by decide +kernel
theorem d_R_init_147 : decode c_R_init 147 = .ok (.aload_n 0, 1) := by decide +kernel
theorem d_R_init_148 : decode c_R_init 148 = .ok (.iconst (-1), 1) := by decide +kernel
theorem d_R_init_149 : decode c_R_init 149 = .ok (.putfield 67, 3) := by decide +kernel
theorem d_R_init_152 : decode c_R_init 152 = .ok (.aload_n 0, 1) := by decide +kernel
theorem d_R_init_153 : decode c_R_init 153 = .ok (.bipush 64, 2) := by decide +kernel
theorem d_R_init_155 : decode c_R_init 155 = .ok (.newarray .boolean, 2) := by decide +kernel
theorem d_R_init_157 : decode c_R_init 157 = .ok (.putfield 70, 3) := by decide +kernel
theorem d_R_init_160 : decode c_R_init 160 = .ok (.aload_n 0, 1) := by decide +kernel
theorem d_R_init_161 : decode c_R_init 161 = .ok (.bipush 65, 2) := by decide +kernel
theorem d_R_init_163 : decode c_R_init 163 = .ok (.newarray .int, 2) := by decide +kernel
theorem d_R_init_165 : decode c_R_init 165 = .ok (.putfield 73, 3) := by decide +kernel
theorem d_R_init_168 : decode c_R_init 168 = .ok (.aload_n 0, 1) := by decide +kernel
theorem d_R_init_169 : decode c_R_init 169 = .ok (.bipush 65, 2) := by decide +kernel
theorem d_R_init_171 : decode c_R_init 171 = .ok (.newarray .int, 2) := by decide +kernel
theorem d_R_init_173 : decode c_R_init 173 = .ok (.putfield 76, 3) := by decide +kernel
theorem d_R_init_176 : decode c_R_init 176 = .ok (.aload_n 0, 1) := by decide +kernel
theorem d_R_init_177 : decode c_R_init 177 = .ok (.bipush 65, 2) := by decide +kernel
theorem d_R_init_179 : decode c_R_init 179 = .ok (.newarray .long, 2) := by decide +kernel
theorem d_R_init_181 : decode c_R_init 181 = .ok (.putfield 79, 3) := by decide +kernel
theorem d_R_init_184 : decode c_R_init 184 = .ok (.aload_n 0, 1) := by decide +kernel
theorem d_R_init_185 : decode c_R_init 185 = .ok (.bipush 64, 2) := by decide +kernel
theorem d_R_init_187 : decode c_R_init 187 = .ok (.newarray .int, 2) := by decide +kernel
theorem d_R_init_189 : decode c_R_init 189 = .ok (.putfield 82, 3) := by decide +kernel
theorem d_R_init_192 : decode c_R_init 192 = .ok (.aload_n 0, 1) := by decide +kernel
theorem d_R_init_193 : decode c_R_init 193 = .ok (.bipush 24, 2) := by decide +kernel
theorem d_R_init_195 : decode c_R_init 195 = .ok (.newarray .int, 2) := by decide +kernel
theorem d_R_init_197 : decode c_R_init 197 = .ok (.putfield 85, 3) := by decide +kernel
theorem d_R_init_200 : decode c_R_init 200 = .ok (.aload_n 0, 1) := by decide +kernel
theorem d_R_init_201 : decode c_R_init 201 = .ok (.sipush 4096, 3) := by decide +kernel
theorem d_R_init_204 : decode c_R_init 204 = .ok (.newarray .boolean, 2) := by decide +kernel
theorem d_R_init_206 : decode c_R_init 206 = .ok (.putfield 88, 3) := by decide +kernel
theorem d_R_init_209 : decode c_R_init 209 = .ok (.return_, 1) := by decide +kernel
theorem d_R_node_0 : decode c_R_node 0 = .ok (.aload_n 0, 1) := by decide +kernel
theorem d_R_node_1 : decode c_R_node 1 = .ok (.getfield 91, 3) := by decide +kernel
theorem d_R_node_4 : decode c_R_node 4 = .ok (.bipush 64, 2) := by decide +kernel
theorem d_R_node_6 : decode c_R_node 6 = .ok (.if_icmp .eq 15, 3) := by decide +kernel
theorem d_R_node_9 : decode c_R_node 9 = .ok (.iload_n 1, 1) := by decide +kernel
theorem d_R_node_10 : decode c_R_node 10 = .ok (.i2l, 1) := by decide +kernel
theorem d_R_node_11 : decode c_R_node 11 = .ok (.lconst 0, 1) := by decide +kernel
theorem d_R_node_12 : decode c_R_node 12 = .ok (.ldc2_w 104, 3) := by decide +kernel
theorem d_R_node_15 : decode c_R_node 15 = .ok (.invokestatic 94, 3) := by decide +kernel
theorem d_R_node_18 : decode c_R_node 18 = .ok (.ifCond .ne 5, 3) := by decide +kernel
theorem d_R_node_21 : decode c_R_node 21 = .ok (.iconst (-1), 1) := by decide +kernel
theorem d_R_node_22 : decode c_R_node 22 = .ok (.ireturn, 1) := by decide +kernel
theorem d_R_node_23 : decode c_R_node 23 = .ok (.iload_n 1, 1) := by decide +kernel
theorem d_R_node_24 : decode c_R_node 24 = .ok (.invokestatic 106, 3) := by decide +kernel
theorem d_R_node_27 : decode c_R_node 27 = .ok (.istore 6, 2) := by decide +kernel
theorem d_R_node_29 : decode c_R_node 29 = .ok (.iload 6, 2) := by decide +kernel
theorem d_R_node_31 : decode c_R_node 31 = .ok (.ifCond .le 11, 3) := by decide +kernel
theorem d_R_node_34 : decode c_R_node 34 = .ok (.aload_n 0, 1) := by decide +kernel
theorem d_R_node_35 : decode c_R_node 35 = .ok (.lload_n 2, 1) := by decide +kernel
theorem d_R_node_36 : decode c_R_node 36 = .ok (.invokevirtual 110, 3) := by decide +kernel
theorem d_R_node_39 : decode c_R_node 39 = .ok (.ifCond .eq 35, 3) := by decide +kernel
theorem d_R_node_42 : decode c_R_node 42 = .ok (.iload 6, 2) := by decide +kernel
theorem d_R_node_44 : decode c_R_node 44 = .ok (.iconst 1, 1) := by decide +kernel
theorem d_R_node_45 : decode c_R_node 45 = .ok (.if_icmp .le 13, 3) := by decide +kernel
theorem d_R_node_48 : decode c_R_node 48 = .ok (.aload_n 0, 1) := by decide +kernel
theorem d_R_node_49 : decode c_R_node 49 = .ok (.iload 4, 2) := by decide +kernel
theorem d_R_node_51 : decode c_R_node 51 = .ok (.i2l, 1) := by decide +kernel
theorem d_R_node_52 : decode c_R_node 52 = .ok (.invokevirtual 110, 3) := by decide +kernel
theorem d_R_node_55 : decode c_R_node 55 = .ok (.ifCond .eq 19, 3) := by decide +kernel
theorem d_R_node_58 : decode c_R_node 58 = .ok (.iload 6, 2) := by decide +kernel
theorem d_R_node_60 : decode c_R_node 60 = .ok (.iconst 2, 1) := by decide +kernel
theorem d_R_node_61 : decode c_R_node 61 = .ok (.if_icmp .le 15, 3) := by decide +kernel
theorem d_R_node_64 : decode c_R_node 64 = .ok (.aload_n 0, 1) := by decide +kernel
theorem d_R_node_65 : decode c_R_node 65 = .ok (.iload 5, 2) := by decide +kernel
theorem d_R_node_67 : decode c_R_node 67 = .ok (.i2l, 1) := by decide +kernel
theorem d_R_node_68 : decode c_R_node 68 = .ok (.invokevirtual 110, 3) := by decide +kernel
theorem d_R_node_71 : decode c_R_node 71 = .ok (.ifCond .ne 5, 3) := by decide +kernel
theorem d_R_node_74 : decode c_R_node 74 = .ok (.iconst (-1), 1) := by decide +kernel
theorem d_R_node_75 : decode c_R_node 75 = .ok (.ireturn, 1) := by decide +kernel
theorem d_R_node_76 : decode c_R_node 76 = .ok (.aload_n 0, 1) := by decide +kernel
theorem d_R_node_77 : decode c_R_node 77 = .ok (.getfield 7, 3) := by decide +kernel
theorem d_R_node_80 : decode c_R_node 80 = .ok (.aload_n 0, 1) := by decide +kernel
theorem d_R_node_81 : decode c_R_node 81 = .ok (.getfield 91, 3) := by decide +kernel
theorem d_R_node_84 : decode c_R_node 84 = .ok (.iload_n 1, 1) := by decide +kernel
theorem d_R_node_85 : decode c_R_node 85 = .ok (.iastore, 1) := by decide +kernel
theorem d_R_node_86 : decode c_R_node 86 = .ok (.aload_n 0, 1) := by decide +kernel
theorem d_R_node_87 : decode c_R_node 87 = .ok (.getfield 13, 3) := by decide +kernel
theorem d_R_node_90 : decode c_R_node 90 = .ok (.aload_n 0, 1) := by decide +kernel
theorem d_R_node_91 : decode c_R_node 91 = .ok (.getfield 91, 3) := by decide +kernel
theorem d_R_node_94 : decode c_R_node 94 = .ok (.iload_n 1, 1) := by decide +kernel
theorem d_R_node_95 : decode c_R_node 95 = .ok (.ifCond .ne 7, 3) := by decide +kernel
theorem d_R_node_98 : decode c_R_node 98 = .ok (.lload_n 2, 1) := by decide +kernel
theorem d_R_node_99 : decode c_R_node 99 = .ok (.goto 4, 3) := by decide +kernel
theorem d_R_node_102 : decode c_R_node 102 = .ok (.lconst 0, 1) := by decide +kernel
theorem d_R_node_103 : decode c_R_node 103 = .ok (.lastore, 1) := by decide +kernel
theorem d_R_node_104 : decode c_R_node 104 = .ok (.aload_n 0, 1) := by decide +kernel
theorem d_R_node_105 : decode c_R_node 105 = .ok (.getfield 17, 3) := by decide +kernel
theorem d_R_node_108 : decode c_R_node 108 = .ok (.aload_n 0, 1) := by decide +kernel
theorem d_R_node_109 : decode c_R_node 109 = .ok (.getfield 91, 3) := by decide +kernel
theorem d_R_node_112 : decode c_R_node 112 = .ok (.iload 6, 2) := by decide +kernel
theorem d_R_node_114 : decode c_R_node 114 = .ok (.ifCond .le 8, 3) := by decide +kernel
theorem d_R_node_117 : decode c_R_node 117 = .ok (.lload_n 2, 1) := by decide +kernel
theorem d_R_node_118 : decode c_R_node 118 = .ok (.l2i, 1) := by decide +kernel
theorem d_R_node_119 : decode c_R_node 119 = .ok (.goto 4, 3) := by decide +kernel
theorem d_R_node_122 : decode c_R_node 122 = .ok (.iconst (-1), 1) := by decide +kernel
theorem d_R_node_123 : decode c_R_node 123 = .ok (.iastore, 1) := by decide +kernel
theorem d_R_node_124 : decode c_R_node 124 = .ok (.aload_n 0, 1) := by decide +kernel
theorem d_R_node_125 : decode c_R_node 125 = .ok (.getfield 20, 3) := by decide +kernel
theorem d_R_node_128 : decode c_R_node 128 = .ok (.aload_n 0, 1) := by decide +kernel
theorem d_R_node_129 : decode c_R_node 129 = .ok (.getfield 91, 3) := by decide +kernel
theorem d_R_node_132 : decode c_R_node 132 = .ok (.iload 6, 2) := by decide +kernel
theorem d_R_node_134 : decode c_R_node 134 = .ok (.iconst 1, 1) := by decide +kernel
theorem d_R_node_135 : decode c_R_node 135 = .ok (.if_icmp .le 8, 3) := by decide +kernel
theorem d_R_node_138 : decode c_R_node 138 = .ok (.iload 4, 2) := by decide +kernel
theorem d_R_node_140 : decode c_R_node 140 = .ok (.goto 4, 3) := by decide +kernel
theorem d_R_node_143 : decode c_R_node 143 = .ok (.iconst (-1), 1) := by decide +kernel
theorem d_R_node_144 : decode c_R_node 144 = .ok (.iastore, 1) := by decide +kernel
theorem d_R_node_145 : decode c_R_node 145 = .ok (.aload_n 0, 1) := by decide +kernel
theorem d_R_node_146 : decode c_R_node 146 = .ok (.getfield 23, 3) := by decide +kernel
theorem d_R_node_149 : decode c_R_node 149 = .ok (.aload_n 0, 1) := by decide +kernel
theorem d_R_node_150 : decode c_R_node 150 = .ok (.getfield 91, 3) := by decide +kernel
theorem d_R_node_153 : decode c_R_node 153 = .ok (.iload 6, 2) := by decide +kernel
theorem d_R_node_155 : decode c_R_node 155 = .ok (.iconst 2, 1) := by decide +kernel
theorem d_R_node_156 : decode c_R_node 156 = .ok (.if_icmp .le 8, 3) := by decide +kernel
theorem d_R_node_159 : decode c_R_node 159 = .ok (.iload 5, 2) := by decide +kernel
theorem d_R_node_161 : decode c_R_node 161 = .ok (.goto 4, 3) := by decide +kernel
theorem d_R_node_164 : decode c_R_node 164 = .ok (.iconst (-1), 1) := by decide +kernel
theorem d_R_node_165 : decode c_R_node 165 = .ok (.iastore, 1) := by decide +kernel
theorem d_R_node_166 : decode c_R_node 166 = .ok (.aload_n 0, 1) := by decide +kernel
theorem d_R_node_167 : decode c_R_node 167 = .ok (.dup, 1) := by decide +kernel
theorem d_R_node_168 : decode c_R_node 168 = .ok (.getfield 91, 3) := by decide +kernel
theorem d_R_node_171 : decode c_R_node 171 = .ok (.iconst 1, 1) := by decide +kernel
theorem d_R_node_172 : decode c_R_node 172 = .ok (.iadd, 1) := by decide +kernel
theorem d_R_node_173 : decode c_R_node 173 = .ok (.putfield 91, 3) := by decide +kernel
theorem d_R_node_176 : decode c_R_node 176 = .ok (.aload_n 0, 1) := by decide +kernel
theorem d_R_node_177 : decode c_R_node 177 = .ok (.getfield 91, 3) := by decide +kernel
theorem d_R_node_180 : decode c_R_node 180 = .ok (.iconst 1, 1) := by decide +kernel
theorem d_R_node_181 : decode c_R_node 181 = .ok (.isub, 1) := by decide +kernel
theorem d_R_node_182 : decode c_R_node 182 = .ok (.ireturn, 1) := by decide +kernel
theorem d_R_in_0 : decode c_R_in 0 = .ok (.lload_n 0, 1) := by decide +kernel
theorem d_R_in_1 : decode c_R_in 1 = .ok (.lload_n 2, 1) := by decide +kernel
theorem d_R_in_2 : decode c_R_in 2 = .ok (.lcmp, 1) := by decide +kernel
theorem d_R_in_3 : decode c_R_in 3 = .ok (.ifCond .lt 14, 3) := by decide +kernel
theorem d_R_in_6 : decode c_R_in 6 = .ok (.lload_n 0, 1) := by decide +kernel
theorem d_R_in_7 : decode c_R_in 7 = .ok (.lload 4, 2) := by decide +kernel
theorem d_R_in_9 : decode c_R_in 9 = .ok (.lcmp, 1) := by decide +kernel
theorem d_R_in_10 : decode c_R_in 10 = .ok (.ifCond .gt 7, 3) := by decide +kernel
theorem d_R_in_13 : decode c_R_in 13 = .ok (.iconst 1, 1) := by decide +kernel
theorem d_R_in_14 : decode c_R_in 14 = .ok (.goto 4, 3) := by decide +kernel
theorem d_R_in_17 : decode c_R_in 17 = .ok (.iconst 0, 1) := by decide +kernel
theorem d_R_in_18 : decode c_R_in 18 = .ok (.ireturn, 1) := by decide +kernel
theorem d_R_parts_0 : decode c_R_parts 0 = .ok (.iload_n 0, 1) := by decide +kernel
theorem d_R_parts_1 : decode c_R_parts 1 = .ok (.iconst 3, 1) := by decide +kernel
theorem d_R_parts_2 : decode c_R_parts 2 = .ok (.if_icmp .ge 7, 3) := by decide +kernel
theorem d_R_parts_5 : decode c_R_parts 5 = .ok (.iconst 0, 1) := by decide +kernel
theorem d_R_parts_6 : decode c_R_parts 6 = .ok (.goto 14, 3) := by decide +kernel
theorem d_R_parts_9 : decode c_R_parts 9 = .ok (.iload_n 0, 1) := by decide +kernel
theorem d_R_parts_10 : decode c_R_parts 10 = .ok (.bipush 8, 2) := by decide +kernel
theorem d_R_parts_12 : decode c_R_parts 12 = .ok (.if_icmp .ne 7, 3) := by decide +kernel
theorem d_R_parts_15 : decode c_R_parts 15 = .ok (.iconst 3, 1) := by decide +kernel
theorem d_R_parts_16 : decode c_R_parts 16 = .ok (.goto 4, 3) := by decide +kernel
theorem d_R_parts_19 : decode c_R_parts 19 = .ok (.iconst 2, 1) := by decide +kernel
theorem d_R_parts_20 : decode c_R_parts 20 = .ok (.ireturn, 1) := by decide +kernel
theorem d_R_isNode_0 : decode c_R_isNode 0 = .ok (.lload_n 1, 1) := by decide +kernel
theorem d_R_isNode_1 : decode c_R_isNode 1 = .ok (.lconst 0, 1) := by decide +kernel
theorem d_R_isNode_2 : decode c_R_isNode 2 = .ok (.aload_n 0, 1) := by decide +kernel
theorem d_R_isNode_3 : decode c_R_isNode 3 = .ok (.getfield 91, 3) := by decide +kernel
theorem d_R_isNode_6 : decode c_R_isNode 6 = .ok (.iconst 1, 1) := by decide +kernel
theorem d_R_isNode_7 : decode c_R_isNode 7 = .ok (.isub, 1) := by decide +kernel
theorem d_R_isNode_8 : decode c_R_isNode 8 = .ok (.i2l, 1) := by decide +kernel
theorem d_R_isNode_9 : decode c_R_isNode 9 = .ok (.invokestatic 94, 3) := by decide +kernel
theorem d_R_isNode_12 : decode c_R_isNode 12 = .ok (.ireturn, 1) := by decide +kernel
theorem d_R_test_0 : decode c_R_test 0 = .ok (.aload_n 0, 1) := by decide +kernel
theorem d_R_test_1 : decode c_R_test 1 = .ok (.getfield 98, 3) := by decide +kernel
theorem d_R_test_4 : decode c_R_test 4 = .ok (.bipush 24, 2) := by decide +kernel
theorem d_R_test_6 : decode c_R_test 6 = .ok (.if_icmp .eq 12, 3) := by decide +kernel
theorem d_R_test_9 : decode c_R_test 9 = .ok (.aload_n 0, 1) := by decide +kernel
theorem d_R_test_10 : decode c_R_test 10 = .ok (.iload_n 1, 1) := by decide +kernel
theorem d_R_test_11 : decode c_R_test 11 = .ok (.i2l, 1) := by decide +kernel
theorem d_R_test_12 : decode c_R_test 12 = .ok (.invokevirtual 110, 3) := by decide +kernel
theorem d_R_test_15 : decode c_R_test 15 = .ok (.ifCond .ne 5, 3) := by decide +kernel
theorem d_R_test_18 : decode c_R_test 18 = .ok (.iconst (-1), 1) := by decide +kernel
theorem d_R_test_19 : decode c_R_test 19 = .ok (.ireturn, 1) := by decide +kernel
theorem d_R_test_20 : decode c_R_test 20 = .ok (.aload_n 0, 1) := by decide +kernel
theorem d_R_test_21 : decode c_R_test 21 = .ok (.getfield 26, 3) := by decide +kernel
theorem d_R_test_24 : decode c_R_test 24 = .ok (.aload_n 0, 1) := by decide +kernel
theorem d_R_test_25 : decode c_R_test 25 = .ok (.getfield 98, 3) := by decide +kernel
theorem d_R_test_28 : decode c_R_test 28 = .ok (.iload_n 1, 1) := by decide +kernel
theorem d_R_test_29 : decode c_R_test 29 = .ok (.iastore, 1) := by decide +kernel
theorem d_R_test_30 : decode c_R_test 30 = .ok (.aload_n 0, 1) := by decide +kernel
theorem d_R_test_31 : decode c_R_test 31 = .ok (.getfield 29, 3) := by decide +kernel
theorem d_R_test_34 : decode c_R_test 34 = .ok (.aload_n 0, 1) := by decide +kernel
theorem d_R_test_35 : decode c_R_test 35 = .ok (.getfield 98, 3) := by decide +kernel
theorem d_R_test_38 : decode c_R_test 38 = .ok (.lload_n 2, 1) := by decide +kernel
theorem d_R_test_39 : decode c_R_test 39 = .ok (.lastore, 1) := by decide +kernel
theorem d_R_test_40 : decode c_R_test 40 = .ok (.aload_n 0, 1) := by decide +kernel
theorem d_R_test_41 : decode c_R_test 41 = .ok (.getfield 32, 3) := by decide +kernel
theorem d_R_test_44 : decode c_R_test 44 = .ok (.aload_n 0, 1) := by decide +kernel
theorem d_R_test_45 : decode c_R_test 45 = .ok (.getfield 98, 3) := by decide +kernel
theorem d_R_test_48 : decode c_R_test 48 = .ok (.lload 4, 2) := by decide +kernel
theorem d_R_test_50 : decode c_R_test 50 = .ok (.lastore, 1) := by decide +kernel
theorem d_R_test_51 : decode c_R_test 51 = .ok (.aload_n 0, 1) := by decide +kernel
theorem d_R_test_52 : decode c_R_test 52 = .ok (.aload_n 0, 1) := by decide +kernel
theorem d_R_test_53 : decode c_R_test 53 = .ok (.getfield 98, 3) := by decide +kernel
theorem d_R_test_56 : decode c_R_test 56 = .ok (.invokevirtual 165, 3) := by decide +kernel
theorem d_R_test_59 : decode c_R_test 59 = .ok (.aload_n 0, 1) := by decide +kernel
theorem d_R_test_60 : decode c_R_test 60 = .ok (.dup, 1) := by decide +kernel
theorem d_R_test_61 : decode c_R_test 61 = .ok (.getfield 98, 3) := by decide +kernel
theorem d_R_test_64 : decode c_R_test 64 = .ok (.iconst 1, 1) := by decide +kernel
theorem d_R_test_65 : decode c_R_test 65 = .ok (.iadd, 1) := by decide +kernel
theorem d_R_test_66 : decode c_R_test 66 = .ok (.putfield 98, 3) := by decide +kernel
theorem d_R_test_69 : decode c_R_test 69 = .ok (.aload_n 0, 1) := by decide +kernel
theorem d_R_test_70 : decode c_R_test 70 = .ok (.getfield 98, 3) := by decide +kernel
theorem d_R_test_73 : decode c_R_test 73 = .ok (.iconst 1, 1) := by decide +kernel
theorem d_R_test_74 : decode c_R_test 74 = .ok (.isub, 1) := by decide +kernel
theorem d_R_test_75 : decode c_R_test 75 = .ok (.ireturn, 1) := by decide +kernel
theorem d_R_tryOut_0 : decode c_R_tryOut 0 = .ok (.aload_n 0, 1) := by decide +kernel
theorem d_R_tryOut_1 : decode c_R_tryOut 1 = .ok (.iconst (-1), 1) := by decide +kernel
theorem d_R_tryOut_2 : decode c_R_tryOut 2 = .ok (.putfield 63, 3) := by decide +kernel
theorem d_R_tryOut_5 : decode c_R_tryOut 5 = .ok (.aload_n 0, 1) := by decide +kernel
theorem d_R_tryOut_6 : decode c_R_tryOut 6 = .ok (.iconst (-1), 1) := by decide +kernel
theorem d_R_tryOut_7 : decode c_R_tryOut 7 = .ok (.putfield 67, 3) := by decide +kernel
theorem d_R_tryOut_10 : decode c_R_tryOut 10 = .ok (.aload_n 0, 1) := by decide +kernel
theorem d_R_tryOut_11 : decode c_R_tryOut 11 = .ok (.aload_n 0, 1) := by decide +kernel
theorem d_R_tryOut_12 : decode c_R_tryOut 12 = .ok (.getfield 26, 3) := by decide +kernel
theorem d_R_tryOut_15 : decode c_R_tryOut 15 = .ok (.iload_n 1, 1) := by decide +kernel
theorem d_R_tryOut_16 : decode c_R_tryOut 16 = .ok (.iaload, 1) := by decide +kernel
theorem d_R_tryOut_17 : decode c_R_tryOut 17 = .ok (.aload_n 0, 1) := by decide +kernel
theorem d_R_tryOut_18 : decode c_R_tryOut 18 = .ok (.getfield 29, 3) := by decide +kernel
theorem d_R_tryOut_21 : decode c_R_tryOut 21 = .ok (.iload_n 1, 1) := by decide +kernel
theorem d_R_tryOut_22 : decode c_R_tryOut 22 = .ok (.laload, 1) := by decide +kernel
theorem d_R_tryOut_23 : decode c_R_tryOut 23 = .ok (.sipush 3000, 3) := by decide +kernel
theorem d_R_tryOut_26 : decode c_R_tryOut 26 = .ok (.invokevirtual 161, 3) := by decide +kernel
theorem d_R_tryOut_29 : decode c_R_tryOut 29 = .ok (.aload_n 0, 1) := by decide +kernel
theorem d_R_tryOut_30 : decode c_R_tryOut 30 = .ok (.getfield 35, 3) := by decide +kernel
theorem d_R_tryOut_33 : decode c_R_tryOut 33 = .ok (.iload_n 1, 1) := by decide +kernel
theorem d_R_tryOut_34 : decode c_R_tryOut 34 = .ok (.aload_n 0, 1) := by decide +kernel
theorem d_R_tryOut_35 : decode c_R_tryOut 35 = .ok (.getfield 117, 3) := by decide +kernel
theorem d_R_tryOut_38 : decode c_R_tryOut 38 = .ok (.ifCond .eq 8, 3) := by decide +kernel
theorem d_R_tryOut_41 : decode c_R_tryOut 41 = .ok (.bipush (-2), 2) := by decide +kernel
theorem d_R_tryOut_43 : decode c_R_tryOut 43 = .ok (.goto 22, 3) := by decide +kernel
theorem d_R_tryOut_46 : decode c_R_tryOut 46 = .ok (.aload_n 0, 1) := by decide +kernel
theorem d_R_tryOut_47 : decode c_R_tryOut 47 = .ok (.getfield 124, 3) := by decide +kernel
theorem d_R_tryOut_50 : decode c_R_tryOut 50 = .ok (.aload_n 0, 1) := by decide +kernel
theorem d_R_tryOut_51 : decode c_R_tryOut 51 = .ok (.getfield 32, 3) := by decide +kernel
theorem d_R_tryOut_54 : decode c_R_tryOut 54 = .ok (.iload_n 1, 1) := by decide +kernel
theorem d_R_tryOut_55 : decode c_R_tryOut 55 = .ok (.laload, 1) := by decide +kernel
theorem d_R_tryOut_56 : decode c_R_tryOut 56 = .ok (.lcmp, 1) := by decide +kernel
theorem d_R_tryOut_57 : decode c_R_tryOut 57 = .ok (.ifCond .ne 7, 3) := by decide +kernel
theorem d_R_tryOut_60 : decode c_R_tryOut 60 = .ok (.iconst 1, 1) := by decide +kernel
theorem d_R_tryOut_61 : decode c_R_tryOut 61 = .ok (.goto 4, 3) := by decide +kernel
theorem d_R_tryOut_64 : decode c_R_tryOut 64 = .ok (.iconst 0, 1) := by decide +kernel
theorem d_R_tryOut_65 : decode c_R_tryOut 65 = .ok (.iastore, 1) := by decide +kernel
theorem d_R_tryOut_66 : decode c_R_tryOut 66 = .ok (.aload_n 0, 1) := by decide +kernel
theorem d_R_tryOut_67 : decode c_R_tryOut 67 = .ok (.getfield 38, 3) := by decide +kernel
theorem d_R_tryOut_70 : decode c_R_tryOut 70 = .ok (.iload_n 1, 1) := by decide +kernel
theorem d_R_tryOut_71 : decode c_R_tryOut 71 = .ok (.aload_n 0, 1) := by decide +kernel
theorem d_R_tryOut_72 : decode c_R_tryOut 72 = .ok (.getfield 114, 3) := by decide +kernel
theorem d_R_tryOut_75 : decode c_R_tryOut 75 = .ok (.iastore, 1) := by decide +kernel
theorem d_R_tryOut_76 : decode c_R_tryOut 76 = .ok (.iconst 0, 1) := by decide +kernel
theorem d_R_tryOut_77 : decode c_R_tryOut 77 = .ok (.istore_n 2, 1) := by decide +kernel
theorem d_R_tryOut_78 : decode c_R_tryOut 78 = .ok (.iload_n 2, 1) := by decide +kernel
theorem d_R_tryOut_79 : decode c_R_tryOut 79 = .ok (.bipush 64, 2) := by decide +kernel
theorem d_R_tryOut_81 : decode c_R_tryOut 81 = .ok (.if_icmp .ge 26, 3) := by decide +kernel
theorem d_R_tryOut_84 : decode c_R_tryOut 84 = .ok (.aload_n 0, 1) := by decide +kernel
theorem d_R_tryOut_85 : decode c_R_tryOut 85 = .ok (.getfield 41, 3) := by decide +kernel
theorem d_R_tryOut_88 : decode c_R_tryOut 88 = .ok (.bipush 64, 2) := by decide +kernel
theorem d_R_tryOut_90 : decode c_R_tryOut 90 = .ok (.iload_n 1, 1) := by decide +kernel
theorem d_R_tryOut_91 : decode c_R_tryOut 91 = .ok (.imul, 1) := by decide +kernel
theorem d_R_tryOut_92 : decode c_R_tryOut 92 = .ok (.iload_n 2, 1) := by decide +kernel
theorem d_R_tryOut_93 : decode c_R_tryOut 93 = .ok (.iadd, 1) := by decide +kernel
theorem d_R_tryOut_94 : decode c_R_tryOut 94 = .ok (.aload_n 0, 1) := by decide +kernel
theorem d_R_tryOut_95 : decode c_R_tryOut 95 = .ok (.getfield 70, 3) := by decide +kernel
theorem d_R_tryOut_98 : decode c_R_tryOut 98 = .ok (.iload_n 2, 1) := by decide +kernel
theorem d_R_tryOut_99 : decode c_R_tryOut 99 = .ok (.baload, 1) := by decide +kernel
theorem d_R_tryOut_100 : decode c_R_tryOut 100 = .ok (.bastore, 1) := by decide +kernel
theorem d_R_tryOut_101 : decode c_R_tryOut 101 = .ok (.iinc 2 1, 3) := by decide +kernel
theorem d_R_tryOut_104 : decode c_R_tryOut 104 = .ok (.goto (-26), 3) := by decide +kernel
theorem d_R_tryOut_107 : decode c_R_tryOut 107 = .ok (.return_, 1) := by decide +kernel
theorem d_R_workOut_0 : decode c_R_workOut 0 = .ok (.aload_n 0, 1) := by decide +kernel
theorem d_R_workOut_1 : decode c_R_workOut 1 = .ok (.iconst 0, 1) := by decide +kernel
theorem d_R_workOut_2 : decode c_R_workOut 2 = .ok (.putfield 114, 3) := by decide +kernel
theorem d_R_workOut_5 : decode c_R_workOut 5 = .ok (.aload_n 0, 1) := by decide +kernel
theorem d_R_workOut_6 : decode c_R_workOut 6 = .ok (.iconst 0, 1) := by decide +kernel
theorem d_R_workOut_7 : decode c_R_workOut 7 = .ok (.putfield 117, 3) := by decide +kernel
theorem d_R_workOut_10 : decode c_R_workOut 10 = .ok (.aload_n 0, 1) := by decide +kernel
theorem d_R_workOut_11 : decode c_R_workOut 11 = .ok (.iconst 0, 1) := by decide +kernel
theorem d_R_workOut_12 : decode c_R_workOut 12 = .ok (.putfield 121, 3) := by decide +kernel
theorem d_R_workOut_15 : decode c_R_workOut 15 = .ok (.aload_n 0, 1) := by decide +kernel
theorem d_R_workOut_16 : decode c_R_workOut 16 = .ok (.lconst 0, 1) := by decide +kernel
theorem d_R_workOut_17 : decode c_R_workOut 17 = .ok (.putfield 128, 3) := by decide +kernel
theorem d_R_workOut_20 : decode c_R_workOut 20 = .ok (.iconst 0, 1) := by decide +kernel
theorem d_R_workOut_21 : decode c_R_workOut 21 = .ok (.istore 5, 2) := by decide +kernel
theorem d_R_workOut_23 : decode c_R_workOut 23 = .ok (.iload 5, 2) := by decide +kernel
theorem d_R_workOut_25 : decode c_R_workOut 25 = .ok (.bipush 64, 2) := by decide +kernel
theorem d_R_workOut_27 : decode c_R_workOut 27 = .ok (.if_icmp .ge 17, 3) := by decide +kernel
theorem d_R_workOut_30 : decode c_R_workOut 30 = .ok (.aload_n 0, 1) := by decide +kernel
theorem d_R_workOut_31 : decode c_R_workOut 31 = .ok (.getfield 70, 3) := by decide +kernel
theorem d_R_workOut_34 : decode c_R_workOut 34 = .ok (.iload 5, 2) := by decide +kernel
theorem d_R_workOut_36 : decode c_R_workOut 36 = .ok (.iconst 0, 1) := by decide +kernel
theorem d_R_workOut_37 : decode c_R_workOut 37 = .ok (.bastore, 1) := by decide +kernel
theorem d_R_workOut_38 : decode c_R_workOut 38 = .ok (.iinc 5 1, 3) := by decide +kernel
theorem d_R_workOut_41 : decode c_R_workOut 41 = .ok (.goto (-18), 3) := by decide +kernel
end
section
theorem d_R_workOut_44 : decode c_R_workOut 44 = .ok (.aload_n 0, 1) := by decide +kernel
theorem d_R_workOut_45 : decode c_R_workOut 45 = .ok (.iload_n 1, 1) := by decide +kernel
theorem d_R_workOut_46 : decode c_R_workOut 46 = .ok (.iload 4, 2) := by decide +kernel
theorem d_R_workOut_48 : decode c_R_workOut 48 = .ok (.invokevirtual 131, 3) := by decide +kernel
theorem d_R_workOut_51 : decode c_R_workOut 51 = .ok (.aload_n 0, 1) := by decide +kernel
theorem d_R_workOut_52 : decode c_R_workOut 52 = .ok (.getfield 121, 3) := by decide +kernel
theorem d_R_workOut_55 : decode c_R_workOut 55 = .ok (.ifCond .le 20, 3) := by decide +kernel
theorem d_R_workOut_58 : decode c_R_workOut 58 = .ok (.aload_n 0, 1) := by decide +kernel
theorem d_R_workOut_59 : decode c_R_workOut 59 = .ok (.getfield 117, 3) := by decide +kernel
theorem d_R_workOut_62 : decode c_R_workOut 62 = .ok (.ifCond .ne 13, 3) := by decide +kernel
theorem d_R_workOut_65 : decode c_R_workOut 65 = .ok (.aload_n 0, 1) := by decide +kernel
theorem d_R_workOut_66 : decode c_R_workOut 66 = .ok (.lload_n 2, 1) := by decide +kernel
theorem d_R_workOut_67 : decode c_R_workOut 67 = .ok (.iload 4, 2) := by decide +kernel
theorem d_R_workOut_69 : decode c_R_workOut 69 = .ok (.invokevirtual 135, 3) := by decide +kernel
theorem d_R_workOut_72 : decode c_R_workOut 72 = .ok (.goto (-21), 3) := by decide +kernel
theorem d_R_workOut_75 : decode c_R_workOut 75 = .ok (.return_, 1) := by decide +kernel
theorem d_R_enter_0 : decode c_R_enter 0 = .ok (.aload_n 0, 1) := by decide +kernel
theorem d_R_enter_1 : decode c_R_enter 1 = .ok (.getfield 114, 3) := by decide +kernel
theorem d_R_enter_4 : decode c_R_enter 4 = .ok (.iload_n 2, 1) := by decide +kernel
theorem d_R_enter_5 : decode c_R_enter 5 = .ok (.if_icmp .ne 9, 3) := by decide +kernel
theorem d_R_enter_8 : decode c_R_enter 8 = .ok (.aload_n 0, 1) := by decide +kernel
theorem d_R_enter_9 : decode c_R_enter 9 = .ok (.iconst 1, 1) := by decide +kernel
theorem d_R_enter_10 : decode c_R_enter 10 = .ok (.putfield 117, 3) := by decide +kernel
theorem d_R_enter_13 : decode c_R_enter 13 = .ok (.return_, 1) := by decide +kernel
theorem d_R_enter_14 : decode c_R_enter 14 = .ok (.aload_n 0, 1) := by decide +kernel
theorem d_R_enter_15 : decode c_R_enter 15 = .ok (.dup, 1) := by decide +kernel
theorem d_R_enter_16 : decode c_R_enter 16 = .ok (.getfield 114, 3) := by decide +kernel
theorem d_R_enter_19 : decode c_R_enter 19 = .ok (.iconst 1, 1) := by decide +kernel
theorem d_R_enter_20 : decode c_R_enter 20 = .ok (.iadd, 1) := by decide +kernel
theorem d_R_enter_21 : decode c_R_enter 21 = .ok (.putfield 114, 3) := by decide +kernel
theorem d_R_enter_24 : decode c_R_enter 24 = .ok (.aload_n 0, 1) := by decide +kernel
theorem d_R_enter_25 : decode c_R_enter 25 = .ok (.getfield 70, 3) := by decide +kernel
theorem d_R_enter_28 : decode c_R_enter 28 = .ok (.iload_n 1, 1) := by decide +kernel
theorem d_R_enter_29 : decode c_R_enter 29 = .ok (.iconst 1, 1) := by decide +kernel
theorem d_R_enter_30 : decode c_R_enter 30 = .ok (.bastore, 1) := by decide +kernel
theorem d_R_enter_31 : decode c_R_enter 31 = .ok (.aload_n 0, 1) := by decide +kernel
theorem d_R_enter_32 : decode c_R_enter 32 = .ok (.getfield 73, 3) := by decide +kernel
theorem d_R_enter_35 : decode c_R_enter 35 = .ok (.aload_n 0, 1) := by decide +kernel
theorem d_R_enter_36 : decode c_R_enter 36 = .ok (.getfield 121, 3) := by decide +kernel
theorem d_R_enter_39 : decode c_R_enter 39 = .ok (.iload_n 1, 1) := by decide +kernel
theorem d_R_enter_40 : decode c_R_enter 40 = .ok (.iastore, 1) := by decide +kernel
theorem d_R_enter_41 : decode c_R_enter 41 = .ok (.aload_n 0, 1) := by decide +kernel
theorem d_R_enter_42 : decode c_R_enter 42 = .ok (.getfield 76, 3) := by decide +kernel
theorem d_R_enter_45 : decode c_R_enter 45 = .ok (.aload_n 0, 1) := by decide +kernel
theorem d_R_enter_46 : decode c_R_enter 46 = .ok (.getfield 121, 3) := by decide +kernel
theorem d_R_enter_49 : decode c_R_enter 49 = .ok (.iconst 0, 1) := by decide +kernel
theorem d_R_enter_50 : decode c_R_enter 50 = .ok (.iastore, 1) := by decide +kernel
theorem d_R_enter_51 : decode c_R_enter 51 = .ok (.aload_n 0, 1) := by decide +kernel
theorem d_R_enter_52 : decode c_R_enter 52 = .ok (.dup, 1) := by decide +kernel
theorem d_R_enter_53 : decode c_R_enter 53 = .ok (.getfield 121, 3) := by decide +kernel
theorem d_R_enter_56 : decode c_R_enter 56 = .ok (.iconst 1, 1) := by decide +kernel
theorem d_R_enter_57 : decode c_R_enter 57 = .ok (.iadd, 1) := by decide +kernel
theorem d_R_enter_58 : decode c_R_enter 58 = .ok (.putfield 121, 3) := by decide +kernel
theorem d_R_enter_61 : decode c_R_enter 61 = .ok (.return_, 1) := by decide +kernel
theorem d_R_goOn_0 : decode c_R_goOn 0 = .ok (.aload_n 0, 1) := by decide +kernel
theorem d_R_goOn_1 : decode c_R_goOn 1 = .ok (.getfield 121, 3) := by decide +kernel
theorem d_R_goOn_4 : decode c_R_goOn 4 = .ok (.iconst 1, 1) := by decide +kernel
theorem d_R_goOn_5 : decode c_R_goOn 5 = .ok (.isub, 1) := by decide +kernel
theorem d_R_goOn_6 : decode c_R_goOn 6 = .ok (.istore 4, 2) := by decide +kernel
theorem d_R_goOn_8 : decode c_R_goOn 8 = .ok (.aload_n 0, 1) := by decide +kernel
theorem d_R_goOn_9 : decode c_R_goOn 9 = .ok (.getfield 73, 3) := by decide +kernel
theorem d_R_goOn_12 : decode c_R_goOn 12 = .ok (.iload 4, 2) := by decide +kernel
theorem d_R_goOn_14 : decode c_R_goOn 14 = .ok (.iaload, 1) := by decide +kernel
theorem d_R_goOn_15 : decode c_R_goOn 15 = .ok (.istore 5, 2) := by decide +kernel
theorem d_R_goOn_17 : decode c_R_goOn 17 = .ok (.aload_n 0, 1) := by decide +kernel
theorem d_R_goOn_18 : decode c_R_goOn 18 = .ok (.getfield 7, 3) := by decide +kernel
theorem d_R_goOn_21 : decode c_R_goOn 21 = .ok (.iload 5, 2) := by decide +kernel
theorem d_R_goOn_23 : decode c_R_goOn 23 = .ok (.iaload, 1) := by decide +kernel
theorem d_R_goOn_24 : decode c_R_goOn 24 = .ok (.tableswitch 125 0 9 #[56, 90, 96, 125, 125, 125, 125, 125, 105, 115], 56) := by decide +kernel
theorem d_R_goOn_80 : decode c_R_goOn 80 = .ok (.aload_n 0, 1) := by decide +kernel
theorem d_R_goOn_81 : decode c_R_goOn 81 = .ok (.aload_n 0, 1) := by decide +kernel
theorem d_R_goOn_82 : decode c_R_goOn 82 = .ok (.iconst 0, 1) := by decide +kernel
theorem d_R_goOn_83 : decode c_R_goOn 83 = .ok (.iload 5, 2) := by decide +kernel
theorem d_R_goOn_85 : decode c_R_goOn 85 = .ok (.invokevirtual 139, 3) := by decide +kernel
theorem d_R_goOn_88 : decode c_R_goOn 88 = .ok (.ifCond .eq 15, 3) := by decide +kernel
theorem d_R_goOn_91 : decode c_R_goOn 91 = .ok (.aload_n 0, 1) := by decide +kernel
theorem d_R_goOn_92 : decode c_R_goOn 92 = .ok (.getfield 13, 3) := by decide +kernel
theorem d_R_goOn_95 : decode c_R_goOn 95 = .ok (.iload 5, 2) := by decide +kernel
theorem d_R_goOn_97 : decode c_R_goOn 97 = .ok (.laload, 1) := by decide +kernel
theorem d_R_goOn_98 : decode c_R_goOn 98 = .ok (.lconst 1, 1) := by decide +kernel
theorem d_R_goOn_99 : decode c_R_goOn 99 = .ok (.ladd, 1) := by decide +kernel
theorem d_R_goOn_100 : decode c_R_goOn 100 = .ok (.goto 10, 3) := by decide +kernel
theorem d_R_goOn_103 : decode c_R_goOn 103 = .ok (.aload_n 0, 1) := by decide +kernel
theorem d_R_goOn_104 : decode c_R_goOn 104 = .ok (.getfield 13, 3) := by decide +kernel
theorem d_R_goOn_107 : decode c_R_goOn 107 = .ok (.iload 5, 2) := by decide +kernel
theorem d_R_goOn_109 : decode c_R_goOn 109 = .ok (.laload, 1) := by decide +kernel
theorem d_R_goOn_110 : decode c_R_goOn 110 = .ok (.invokevirtual 143, 3) := by decide +kernel
theorem d_R_goOn_113 : decode c_R_goOn 113 = .ok (.return_, 1) := by decide +kernel
theorem d_R_goOn_114 : decode c_R_goOn 114 = .ok (.aload_n 0, 1) := by decide +kernel
theorem d_R_goOn_115 : decode c_R_goOn 115 = .ok (.lload_n 1, 1) := by decide +kernel
theorem d_R_goOn_116 : decode c_R_goOn 116 = .ok (.invokevirtual 143, 3) := by decide +kernel
theorem d_R_goOn_119 : decode c_R_goOn 119 = .ok (.return_, 1) := by decide +kernel
theorem d_R_goOn_120 : decode c_R_goOn 120 = .ok (.aload_n 0, 1) := by decide +kernel
theorem d_R_goOn_121 : decode c_R_goOn 121 = .ok (.aload_n 0, 1) := by decide +kernel
theorem d_R_goOn_122 : decode c_R_goOn 122 = .ok (.getfield 128, 3) := by decide +kernel
theorem d_R_goOn_125 : decode c_R_goOn 125 = .ok (.invokevirtual 143, 3) := by decide +kernel
theorem d_R_goOn_128 : decode c_R_goOn 128 = .ok (.return_, 1) := by decide +kernel
theorem d_R_goOn_129 : decode c_R_goOn 129 = .ok (.aload_n 0, 1) := by decide +kernel
theorem d_R_goOn_130 : decode c_R_goOn 130 = .ok (.iload 4, 2) := by decide +kernel
theorem d_R_goOn_132 : decode c_R_goOn 132 = .ok (.iload 5, 2) := by decide +kernel
theorem d_R_goOn_134 : decode c_R_goOn 134 = .ok (.iload_n 3, 1) := by decide +kernel
theorem d_R_goOn_135 : decode c_R_goOn 135 = .ok (.invokevirtual 147, 3) := by decide +kernel
theorem d_R_goOn_138 : decode c_R_goOn 138 = .ok (.return_, 1) := by decide +kernel
theorem d_R_goOn_139 : decode c_R_goOn 139 = .ok (.aload_n 0, 1) := by decide +kernel
theorem d_R_goOn_140 : decode c_R_goOn 140 = .ok (.iload 4, 2) := by decide +kernel
theorem d_R_goOn_142 : decode c_R_goOn 142 = .ok (.iload 5, 2) := by decide +kernel
theorem d_R_goOn_144 : decode c_R_goOn 144 = .ok (.iload_n 3, 1) := by decide +kernel
theorem d_R_goOn_145 : decode c_R_goOn 145 = .ok (.invokevirtual 151, 3) := by decide +kernel
theorem d_R_goOn_148 : decode c_R_goOn 148 = .ok (.return_, 1) := by decide +kernel
theorem d_R_goOn_149 : decode c_R_goOn 149 = .ok (.aload_n 0, 1) := by decide +kernel
theorem d_R_goOn_150 : decode c_R_goOn 150 = .ok (.iload 4, 2) := by decide +kernel
theorem d_R_goOn_152 : decode c_R_goOn 152 = .ok (.iload 5, 2) := by decide +kernel
theorem d_R_goOn_154 : decode c_R_goOn 154 = .ok (.iload_n 3, 1) := by decide +kernel
theorem d_R_goOn_155 : decode c_R_goOn 155 = .ok (.invokevirtual 154, 3) := by decide +kernel
theorem d_R_goOn_158 : decode c_R_goOn 158 = .ok (.return_, 1) := by decide +kernel
theorem d_R_is_0 : decode c_R_is 0 = .ok (.aload_n 0, 1) := by decide +kernel
theorem d_R_is_1 : decode c_R_is 1 = .ok (.getfield 63, 3) := by decide +kernel
theorem d_R_is_4 : decode c_R_is 4 = .ok (.iload_n 1, 1) := by decide +kernel
theorem d_R_is_5 : decode c_R_is 5 = .ok (.if_icmp .ne 15, 3) := by decide +kernel
theorem d_R_is_8 : decode c_R_is 8 = .ok (.aload_n 0, 1) := by decide +kernel
theorem d_R_is_9 : decode c_R_is 9 = .ok (.getfield 67, 3) := by decide +kernel
theorem d_R_is_12 : decode c_R_is 12 = .ok (.iload_n 2, 1) := by decide +kernel
theorem d_R_is_13 : decode c_R_is 13 = .ok (.if_icmp .ne 7, 3) := by decide +kernel
theorem d_R_is_16 : decode c_R_is 16 = .ok (.iconst 1, 1) := by decide +kernel
theorem d_R_is_17 : decode c_R_is 17 = .ok (.goto 4, 3) := by decide +kernel
theorem d_R_is_20 : decode c_R_is 20 = .ok (.iconst 0, 1) := by decide +kernel
theorem d_R_is_21 : decode c_R_is 21 = .ok (.ireturn, 1) := by decide +kernel
theorem d_R_leave_0 : decode c_R_leave 0 = .ok (.aload_n 0, 1) := by decide +kernel
theorem d_R_leave_1 : decode c_R_leave 1 = .ok (.dup, 1) := by decide +kernel
theorem d_R_leave_2 : decode c_R_leave 2 = .ok (.getfield 121, 3) := by decide +kernel
theorem d_R_leave_5 : decode c_R_leave 5 = .ok (.iconst 1, 1) := by decide +kernel
theorem d_R_leave_6 : decode c_R_leave 6 = .ok (.isub, 1) := by decide +kernel
theorem d_R_leave_7 : decode c_R_leave 7 = .ok (.putfield 121, 3) := by decide +kernel
theorem d_R_leave_10 : decode c_R_leave 10 = .ok (.aload_n 0, 1) := by decide +kernel
theorem d_R_leave_11 : decode c_R_leave 11 = .ok (.lload_n 1, 1) := by decide +kernel
theorem d_R_leave_12 : decode c_R_leave 12 = .ok (.putfield 124, 3) := by decide +kernel
theorem d_R_leave_15 : decode c_R_leave 15 = .ok (.return_, 1) := by decide +kernel
theorem d_R_choose_0 : decode c_R_choose 0 = .ok (.aload_n 0, 1) := by decide +kernel
theorem d_R_choose_1 : decode c_R_choose 1 = .ok (.getfield 76, 3) := by decide +kernel
theorem d_R_choose_4 : decode c_R_choose 4 = .ok (.iload_n 1, 1) := by decide +kernel
theorem d_R_choose_5 : decode c_R_choose 5 = .ok (.dup2, 1) := by decide +kernel
theorem d_R_choose_6 : decode c_R_choose 6 = .ok (.iaload, 1) := by decide +kernel
theorem d_R_choose_7 : decode c_R_choose 7 = .ok (.iconst 1, 1) := by decide +kernel
theorem d_R_choose_8 : decode c_R_choose 8 = .ok (.iadd, 1) := by decide +kernel
theorem d_R_choose_9 : decode c_R_choose 9 = .ok (.iastore, 1) := by decide +kernel
theorem d_R_choose_10 : decode c_R_choose 10 = .ok (.aload_n 0, 1) := by decide +kernel
theorem d_R_choose_11 : decode c_R_choose 11 = .ok (.getfield 76, 3) := by decide +kernel
theorem d_R_choose_14 : decode c_R_choose 14 = .ok (.iload_n 1, 1) := by decide +kernel
theorem d_R_choose_15 : decode c_R_choose 15 = .ok (.iaload, 1) := by decide +kernel
theorem d_R_choose_16 : decode c_R_choose 16 = .ok (.iconst 1, 1) := by decide +kernel
theorem d_R_choose_17 : decode c_R_choose 17 = .ok (.if_icmp .ne 17, 3) := by decide +kernel
theorem d_R_choose_20 : decode c_R_choose 20 = .ok (.aload_n 0, 1) := by decide +kernel
theorem d_R_choose_21 : decode c_R_choose 21 = .ok (.aload_n 0, 1) := by decide +kernel
theorem d_R_choose_22 : decode c_R_choose 22 = .ok (.getfield 17, 3) := by decide +kernel
theorem d_R_choose_25 : decode c_R_choose 25 = .ok (.iload_n 2, 1) := by decide +kernel
theorem d_R_choose_26 : decode c_R_choose 26 = .ok (.iaload, 1) := by decide +kernel
theorem d_R_choose_27 : decode c_R_choose 27 = .ok (.iload_n 3, 1) := by decide +kernel
theorem d_R_choose_28 : decode c_R_choose 28 = .ok (.invokevirtual 131, 3) := by decide +kernel
theorem d_R_choose_31 : decode c_R_choose 31 = .ok (.goto 67, 3) := by decide +kernel
theorem d_R_choose_34 : decode c_R_choose 34 = .ok (.aload_n 0, 1) := by decide +kernel
theorem d_R_choose_35 : decode c_R_choose 35 = .ok (.getfield 76, 3) := by decide +kernel
theorem d_R_choose_38 : decode c_R_choose 38 = .ok (.iload_n 1, 1) := by decide +kernel
theorem d_R_choose_39 : decode c_R_choose 39 = .ok (.iaload, 1) := by decide +kernel
theorem d_R_choose_40 : decode c_R_choose 40 = .ok (.iconst 2, 1) := by decide +kernel
theorem d_R_choose_41 : decode c_R_choose 41 = .ok (.if_icmp .ne 49, 3) := by decide +kernel
theorem d_R_choose_44 : decode c_R_choose 44 = .ok (.aload_n 0, 1) := by decide +kernel
theorem d_R_choose_45 : decode c_R_choose 45 = .ok (.aload_n 0, 1) := by decide +kernel
theorem d_R_choose_46 : decode c_R_choose 46 = .ok (.getfield 124, 3) := by decide +kernel
theorem d_R_choose_49 : decode c_R_choose 49 = .ok (.lconst 0, 1) := by decide +kernel
theorem d_R_choose_50 : decode c_R_choose 50 = .ok (.lcmp, 1) := by decide +kernel
theorem d_R_choose_51 : decode c_R_choose 51 = .ok (.ifCond .eq 7, 3) := by decide +kernel
theorem d_R_choose_54 : decode c_R_choose 54 = .ok (.iconst 1, 1) := by decide +kernel
theorem d_R_choose_55 : decode c_R_choose 55 = .ok (.goto 4, 3) := by decide +kernel
theorem d_R_choose_58 : decode c_R_choose 58 = .ok (.iconst 0, 1) := by decide +kernel
theorem d_R_choose_59 : decode c_R_choose 59 = .ok (.aload_n 0, 1) := by decide +kernel
theorem d_R_choose_60 : decode c_R_choose 60 = .ok (.iconst 3, 1) := by decide +kernel
theorem d_R_choose_61 : decode c_R_choose 61 = .ok (.iload_n 2, 1) := by decide +kernel
theorem d_R_choose_62 : decode c_R_choose 62 = .ok (.invokevirtual 139, 3) := by decide +kernel
theorem d_R_choose_65 : decode c_R_choose 65 = .ok (.if_icmp .eq 12, 3) := by decide +kernel
theorem d_R_choose_68 : decode c_R_choose 68 = .ok (.aload_n 0, 1) := by decide +kernel
theorem d_R_choose_69 : decode c_R_choose 69 = .ok (.getfield 20, 3) := by decide +kernel
theorem d_R_choose_72 : decode c_R_choose 72 = .ok (.iload_n 2, 1) := by decide +kernel
theorem d_R_choose_73 : decode c_R_choose 73 = .ok (.iaload, 1) := by decide +kernel
theorem d_R_choose_74 : decode c_R_choose 74 = .ok (.goto 9, 3) := by decide +kernel
theorem d_R_choose_77 : decode c_R_choose 77 = .ok (.aload_n 0, 1) := by decide +kernel
theorem d_R_choose_78 : decode c_R_choose 78 = .ok (.getfield 23, 3) := by decide +kernel
theorem d_R_choose_81 : decode c_R_choose 81 = .ok (.iload_n 2, 1) := by decide +kernel
theorem d_R_choose_82 : decode c_R_choose 82 = .ok (.iaload, 1) := by decide +kernel
theorem d_R_choose_83 : decode c_R_choose 83 = .ok (.iload_n 3, 1) := by decide +kernel
theorem d_R_choose_84 : decode c_R_choose 84 = .ok (.invokevirtual 131, 3) := by decide +kernel
theorem d_R_choose_87 : decode c_R_choose 87 = .ok (.goto 11, 3) := by decide +kernel
theorem d_R_choose_90 : decode c_R_choose 90 = .ok (.aload_n 0, 1) := by decide +kernel
theorem d_R_choose_91 : decode c_R_choose 91 = .ok (.aload_n 0, 1) := by decide +kernel
theorem d_R_choose_92 : decode c_R_choose 92 = .ok (.getfield 124, 3) := by decide +kernel
theorem d_R_choose_95 : decode c_R_choose 95 = .ok (.invokevirtual 143, 3) := by decide +kernel
theorem d_R_choose_98 : decode c_R_choose 98 = .ok (.return_, 1) := by decide +kernel
theorem d_R_loop_0 : decode c_R_loop 0 = .ok (.aload_n 0, 1) := by decide +kernel
theorem d_R_loop_1 : decode c_R_loop 1 = .ok (.getfield 76, 3) := by decide +kernel
theorem d_R_loop_4 : decode c_R_loop 4 = .ok (.iload_n 1, 1) := by decide +kernel
theorem d_R_loop_5 : decode c_R_loop 5 = .ok (.iaload, 1) := by decide +kernel
theorem d_R_loop_6 : decode c_R_loop 6 = .ok (.ifCond .ne 39, 3) := by decide +kernel
theorem d_R_loop_9 : decode c_R_loop 9 = .ok (.aload_n 0, 1) := by decide +kernel
theorem d_R_loop_10 : decode c_R_loop 10 = .ok (.getfield 79, 3) := by decide +kernel
theorem d_R_loop_13 : decode c_R_loop 13 = .ok (.iload_n 1, 1) := by decide +kernel
theorem d_R_loop_14 : decode c_R_loop 14 = .ok (.aload_n 0, 1) := by decide +kernel
theorem d_R_loop_15 : decode c_R_loop 15 = .ok (.getfield 128, 3) := by decide +kernel
theorem d_R_loop_18 : decode c_R_loop 18 = .ok (.lastore, 1) := by decide +kernel
theorem d_R_loop_19 : decode c_R_loop 19 = .ok (.aload_n 0, 1) := by decide +kernel
theorem d_R_loop_20 : decode c_R_loop 20 = .ok (.lconst 0, 1) := by decide +kernel
theorem d_R_loop_21 : decode c_R_loop 21 = .ok (.putfield 128, 3) := by decide +kernel
theorem d_R_loop_24 : decode c_R_loop 24 = .ok (.aload_n 0, 1) := by decide +kernel
theorem d_R_loop_25 : decode c_R_loop 25 = .ok (.getfield 76, 3) := by decide +kernel
theorem d_R_loop_28 : decode c_R_loop 28 = .ok (.iload_n 1, 1) := by decide +kernel
theorem d_R_loop_29 : decode c_R_loop 29 = .ok (.iconst 1, 1) := by decide +kernel
theorem d_R_loop_30 : decode c_R_loop 30 = .ok (.iastore, 1) := by decide +kernel
theorem d_R_loop_31 : decode c_R_loop 31 = .ok (.aload_n 0, 1) := by decide +kernel
theorem d_R_loop_32 : decode c_R_loop 32 = .ok (.aload_n 0, 1) := by decide +kernel
theorem d_R_loop_33 : decode c_R_loop 33 = .ok (.getfield 17, 3) := by decide +kernel
theorem d_R_loop_36 : decode c_R_loop 36 = .ok (.iload_n 2, 1) := by decide +kernel
theorem d_R_loop_37 : decode c_R_loop 37 = .ok (.iaload, 1) := by decide +kernel
theorem d_R_loop_38 : decode c_R_loop 38 = .ok (.iload_n 3, 1) := by decide +kernel
theorem d_R_loop_39 : decode c_R_loop 39 = .ok (.invokevirtual 131, 3) := by decide +kernel
theorem d_R_loop_42 : decode c_R_loop 42 = .ok (.goto 97, 3) := by decide +kernel
theorem d_R_loop_45 : decode c_R_loop 45 = .ok (.aload_n 0, 1) := by decide +kernel
theorem d_R_loop_46 : decode c_R_loop 46 = .ok (.getfield 76, 3) := by decide +kernel
theorem d_R_loop_49 : decode c_R_loop 49 = .ok (.iload_n 1, 1) := by decide +kernel
theorem d_R_loop_50 : decode c_R_loop 50 = .ok (.iaload, 1) := by decide +kernel
theorem d_R_loop_51 : decode c_R_loop 51 = .ok (.iconst 2, 1) := by decide +kernel
theorem d_R_loop_52 : decode c_R_loop 52 = .ok (.if_icmp .ne 32, 3) := by decide +kernel
theorem d_R_loop_55 : decode c_R_loop 55 = .ok (.aload_n 0, 1) := by decide +kernel
theorem d_R_loop_56 : decode c_R_loop 56 = .ok (.aload_n 0, 1) := by decide +kernel
theorem d_R_loop_57 : decode c_R_loop 57 = .ok (.getfield 124, 3) := by decide +kernel
theorem d_R_loop_60 : decode c_R_loop 60 = .ok (.putfield 128, 3) := by decide +kernel
theorem d_R_loop_63 : decode c_R_loop 63 = .ok (.aload_n 0, 1) := by decide +kernel
theorem d_R_loop_64 : decode c_R_loop 64 = .ok (.getfield 76, 3) := by decide +kernel
theorem d_R_loop_67 : decode c_R_loop 67 = .ok (.iload_n 1, 1) := by decide +kernel
theorem d_R_loop_68 : decode c_R_loop 68 = .ok (.iconst 1, 1) := by decide +kernel
theorem d_R_loop_69 : decode c_R_loop 69 = .ok (.iastore, 1) := by decide +kernel
theorem d_R_loop_70 : decode c_R_loop 70 = .ok (.aload_n 0, 1) := by decide +kernel
theorem d_R_loop_71 : decode c_R_loop 71 = .ok (.aload_n 0, 1) := by decide +kernel
theorem d_R_loop_72 : decode c_R_loop 72 = .ok (.getfield 17, 3) := by decide +kernel
theorem d_R_loop_75 : decode c_R_loop 75 = .ok (.iload_n 2, 1) := by decide +kernel
theorem d_R_loop_76 : decode c_R_loop 76 = .ok (.iaload, 1) := by decide +kernel
theorem d_R_loop_77 : decode c_R_loop 77 = .ok (.iload_n 3, 1) := by decide +kernel
theorem d_R_loop_78 : decode c_R_loop 78 = .ok (.invokevirtual 131, 3) := by decide +kernel
theorem d_R_loop_81 : decode c_R_loop 81 = .ok (.goto 58, 3) := by decide +kernel
theorem d_R_loop_84 : decode c_R_loop 84 = .ok (.aload_n 0, 1) := by decide +kernel
theorem d_R_loop_85 : decode c_R_loop 85 = .ok (.getfield 128, 3) := by decide +kernel
theorem d_R_loop_88 : decode c_R_loop 88 = .ok (.aload_n 0, 1) := by decide +kernel
theorem d_R_loop_89 : decode c_R_loop 89 = .ok (.getfield 124, 3) := by decide +kernel
theorem d_R_loop_92 : decode c_R_loop 92 = .ok (.lcmp, 1) := by decide +kernel
theorem d_R_loop_93 : decode c_R_loop 93 = .ok (.ifCond .ge 24, 3) := by decide +kernel
theorem d_R_loop_96 : decode c_R_loop 96 = .ok (.aload_n 0, 1) := by decide +kernel
theorem d_R_loop_97 : decode c_R_loop 97 = .ok (.getfield 76, 3) := by decide +kernel
theorem d_R_loop_100 : decode c_R_loop 100 = .ok (.iload_n 1, 1) := by decide +kernel
theorem d_R_loop_101 : decode c_R_loop 101 = .ok (.iconst 2, 1) := by decide +kernel
theorem d_R_loop_102 : decode c_R_loop 102 = .ok (.iastore, 1) := by decide +kernel
theorem d_R_loop_103 : decode c_R_loop 103 = .ok (.aload_n 0, 1) := by decide +kernel
theorem d_R_loop_104 : decode c_R_loop 104 = .ok (.aload_n 0, 1) := by decide +kernel
theorem d_R_loop_105 : decode c_R_loop 105 = .ok (.getfield 20, 3) := by decide +kernel
theorem d_R_loop_108 : decode c_R_loop 108 = .ok (.iload_n 2, 1) := by decide +kernel
theorem d_R_loop_109 : decode c_R_loop 109 = .ok (.iaload, 1) := by decide +kernel
theorem d_R_loop_110 : decode c_R_loop 110 = .ok (.iload_n 3, 1) := by decide +kernel
theorem d_R_loop_111 : decode c_R_loop 111 = .ok (.invokevirtual 131, 3) := by decide +kernel
theorem d_R_loop_114 : decode c_R_loop 114 = .ok (.goto 25, 3) := by decide +kernel
theorem d_R_loop_117 : decode c_R_loop 117 = .ok (.aload_n 0, 1) := by decide +kernel
theorem d_R_loop_118 : decode c_R_loop 118 = .ok (.getfield 128, 3) := by decide +kernel
theorem d_R_loop_121 : decode c_R_loop 121 = .ok (.lstore 4, 2) := by decide +kernel
theorem d_R_loop_123 : decode c_R_loop 123 = .ok (.aload_n 0, 1) := by decide +kernel
theorem d_R_loop_124 : decode c_R_loop 124 = .ok (.aload_n 0, 1) := by decide +kernel
theorem d_R_loop_125 : decode c_R_loop 125 = .ok (.getfield 79, 3) := by decide +kernel
theorem d_R_loop_128 : decode c_R_loop 128 = .ok (.iload_n 1, 1) := by decide +kernel
theorem d_R_loop_129 : decode c_R_loop 129 = .ok (.laload, 1) := by decide +kernel
theorem d_R_loop_130 : decode c_R_loop 130 = .ok (.putfield 128, 3) := by decide +kernel
theorem d_R_loop_133 : decode c_R_loop 133 = .ok (.aload_n 0, 1) := by decide +kernel
theorem d_R_loop_134 : decode c_R_loop 134 = .ok (.lload 4, 2) := by decide +kernel
theorem d_R_loop_136 : decode c_R_loop 136 = .ok (.invokevirtual 143, 3) := by decide +kernel
theorem d_R_loop_139 : decode c_R_loop 139 = .ok (.return_, 1) := by decide +kernel
theorem d_R_both_0 : decode c_R_both 0 = .ok (.aload_n 0, 1) := by decide +kernel
theorem d_R_both_1 : decode c_R_both 1 = .ok (.getfield 76, 3) := by decide +kernel
theorem d_R_both_4 : decode c_R_both 4 = .ok (.iload_n 1, 1) := by decide +kernel
theorem d_R_both_5 : decode c_R_both 5 = .ok (.dup2, 1) := by decide +kernel
theorem d_R_both_6 : decode c_R_both 6 = .ok (.iaload, 1) := by decide +kernel
theorem d_R_both_7 : decode c_R_both 7 = .ok (.iconst 1, 1) := by decide +kernel
theorem d_R_both_8 : decode c_R_both 8 = .ok (.iadd, 1) := by decide +kernel
theorem d_R_both_9 : decode c_R_both 9 = .ok (.iastore, 1) := by decide +kernel
theorem d_R_both_10 : decode c_R_both 10 = .ok (.aload_n 0, 1) := by decide +kernel
theorem d_R_both_11 : decode c_R_both 11 = .ok (.getfield 76, 3) := by decide +kernel
theorem d_R_both_14 : decode c_R_both 14 = .ok (.iload_n 1, 1) := by decide +kernel
theorem d_R_both_15 : decode c_R_both 15 = .ok (.iaload, 1) := by decide +kernel
theorem d_R_both_16 : decode c_R_both 16 = .ok (.iconst 1, 1) := by decide +kernel
theorem d_R_both_17 : decode c_R_both 17 = .ok (.if_icmp .ne 17, 3) := by decide +kernel
theorem d_R_both_20 : decode c_R_both 20 = .ok (.aload_n 0, 1) := by decide +kernel
theorem d_R_both_21 : decode c_R_both 21 = .ok (.aload_n 0, 1) := by decide +kernel
theorem d_R_both_22 : decode c_R_both 22 = .ok (.getfield 17, 3) := by decide +kernel
theorem d_R_both_25 : decode c_R_both 25 = .ok (.iload_n 2, 1) := by decide +kernel
theorem d_R_both_26 : decode c_R_both 26 = .ok (.iaload, 1) := by decide +kernel
theorem d_R_both_27 : decode c_R_both 27 = .ok (.iload_n 3, 1) := by decide +kernel
theorem d_R_both_28 : decode c_R_both 28 = .ok (.invokevirtual 131, 3) := by decide +kernel
theorem d_R_both_31 : decode c_R_both 31 = .ok (.goto 76, 3) := by decide +kernel
theorem d_R_both_34 : decode c_R_both 34 = .ok (.aload_n 0, 1) := by decide +kernel
theorem d_R_both_35 : decode c_R_both 35 = .ok (.getfield 76, 3) := by decide +kernel
theorem d_R_both_38 : decode c_R_both 38 = .ok (.iload_n 1, 1) := by decide +kernel
theorem d_R_both_39 : decode c_R_both 39 = .ok (.iaload, 1) := by decide +kernel
theorem d_R_both_40 : decode c_R_both 40 = .ok (.iconst 2, 1) := by decide +kernel
theorem d_R_both_41 : decode c_R_both 41 = .ok (.if_icmp .ne 47, 3) := by decide +kernel
theorem d_R_both_44 : decode c_R_both 44 = .ok (.aload_n 0, 1) := by decide +kernel
theorem d_R_both_45 : decode c_R_both 45 = .ok (.getfield 79, 3) := by decide +kernel
theorem d_R_both_48 : decode c_R_both 48 = .ok (.iload_n 1, 1) := by decide +kernel
theorem d_R_both_49 : decode c_R_both 49 = .ok (.aload_n 0, 1) := by decide +kernel
theorem d_R_both_50 : decode c_R_both 50 = .ok (.getfield 124, 3) := by decide +kernel
theorem d_R_both_53 : decode c_R_both 53 = .ok (.lastore, 1) := by decide +kernel
theorem d_R_both_54 : decode c_R_both 54 = .ok (.aload_n 0, 1) := by decide +kernel
theorem d_R_both_55 : decode c_R_both 55 = .ok (.iconst 4, 1) := by decide +kernel
theorem d_R_both_56 : decode c_R_both 56 = .ok (.iload_n 2, 1) := by decide +kernel
theorem d_R_both_57 : decode c_R_both 57 = .ok (.invokevirtual 139, 3) := by decide +kernel
theorem d_R_both_60 : decode c_R_both 60 = .ok (.ifCond .eq 14, 3) := by decide +kernel
theorem d_R_both_63 : decode c_R_both 63 = .ok (.aload_n 0, 1) := by decide +kernel
theorem d_R_both_64 : decode c_R_both 64 = .ok (.aload_n 0, 1) := by decide +kernel
theorem d_R_both_65 : decode c_R_both 65 = .ok (.getfield 124, 3) := by decide +kernel
theorem d_R_both_68 : decode c_R_both 68 = .ok (.invokevirtual 143, 3) := by decide +kernel
theorem d_R_both_71 : decode c_R_both 71 = .ok (.goto 36, 3) := by decide +kernel
theorem d_R_both_74 : decode c_R_both 74 = .ok (.aload_n 0, 1) := by decide +kernel
theorem d_R_both_75 : decode c_R_both 75 = .ok (.aload_n 0, 1) := by decide +kernel
theorem d_R_both_76 : decode c_R_both 76 = .ok (.getfield 20, 3) := by decide +kernel
theorem d_R_both_79 : decode c_R_both 79 = .ok (.iload_n 2, 1) := by decide +kernel
theorem d_R_both_80 : decode c_R_both 80 = .ok (.iaload, 1) := by decide +kernel
theorem d_R_both_81 : decode c_R_both 81 = .ok (.iload_n 3, 1) := by decide +kernel
theorem d_R_both_82 : decode c_R_both 82 = .ok (.invokevirtual 131, 3) := by decide +kernel
theorem d_R_both_85 : decode c_R_both 85 = .ok (.goto 22, 3) := by decide +kernel
theorem d_R_both_88 : decode c_R_both 88 = .ok (.aload_n 0, 1) := by decide +kernel
theorem d_R_both_89 : decode c_R_both 89 = .ok (.aload_n 0, 1) := by decide +kernel
theorem d_R_both_90 : decode c_R_both 90 = .ok (.iload_n 2, 1) := by decide +kernel
theorem d_R_both_91 : decode c_R_both 91 = .ok (.aload_n 0, 1) := by decide +kernel
theorem d_R_both_92 : decode c_R_both 92 = .ok (.getfield 79, 3) := by decide +kernel
theorem d_R_both_95 : decode c_R_both 95 = .ok (.iload_n 1, 1) := by decide +kernel
theorem d_R_both_96 : decode c_R_both 96 = .ok (.laload, 1) := by decide +kernel
theorem d_R_both_97 : decode c_R_both 97 = .ok (.aload_n 0, 1) := by decide +kernel
theorem d_R_both_98 : decode c_R_both 98 = .ok (.getfield 124, 3) := by decide +kernel
theorem d_R_both_101 : decode c_R_both 101 = .ok (.invokevirtual 157, 3) := by decide +kernel
theorem d_R_both_104 : decode c_R_both 104 = .ok (.invokevirtual 143, 3) := by decide +kernel
theorem d_R_both_107 : decode c_R_both 107 = .ok (.return_, 1) := by decide +kernel
theorem d_R_made_0 : decode c_R_made 0 = .ok (.aload_n 0, 1) := by decide +kernel
theorem d_R_made_1 : decode c_R_made 1 = .ok (.getfield 7, 3) := by decide +kernel
theorem d_R_made_4 : decode c_R_made 4 = .ok (.iload_n 1, 1) := by decide +kernel
theorem d_R_made_5 : decode c_R_made 5 = .ok (.iaload, 1) := by decide +kernel
theorem d_R_made_6 : decode c_R_made 6 = .ok (.tableswitch 106 3 6 #[30, 51, 72, 77], 30) := by decide +kernel
theorem d_R_made_36 : decode c_R_made 36 = .ok (.aload_n 0, 1) := by decide +kernel
theorem d_R_made_37 : decode c_R_made 37 = .ok (.iconst 2, 1) := by decide +kernel
theorem d_R_made_38 : decode c_R_made 38 = .ok (.iload_n 1, 1) := by decide +kernel
theorem d_R_made_39 : decode c_R_made 39 = .ok (.invokevirtual 139, 3) := by decide +kernel
theorem d_R_made_42 : decode c_R_made 42 = .ok (.ifCond .eq 10, 3) := by decide +kernel
theorem d_R_made_45 : decode c_R_made 45 = .ok (.lload_n 2, 1) := by decide +kernel
theorem d_R_made_46 : decode c_R_made 46 = .ok (.lload 4, 2) := by decide +kernel
theorem d_R_made_48 : decode c_R_made 48 = .ok (.lsub, 1) := by decide +kernel
theorem d_R_made_49 : decode c_R_made 49 = .ok (.goto 7, 3) := by decide +kernel
theorem d_R_made_52 : decode c_R_made 52 = .ok (.lload_n 2, 1) := by decide +kernel
theorem d_R_made_53 : decode c_R_made 53 = .ok (.lload 4, 2) := by decide +kernel
theorem d_R_made_55 : decode c_R_made 55 = .ok (.ladd, 1) := by decide +kernel
theorem d_R_made_56 : decode c_R_made 56 = .ok (.lreturn, 1) := by decide +kernel
theorem d_R_made_57 : decode c_R_made 57 = .ok (.aload_n 0, 1) := by decide +kernel
theorem d_R_made_58 : decode c_R_made 58 = .ok (.iconst 2, 1) := by decide +kernel
theorem d_R_made_59 : decode c_R_made 59 = .ok (.iload_n 1, 1) := by decide +kernel
theorem d_R_made_60 : decode c_R_made 60 = .ok (.invokevirtual 139, 3) := by decide +kernel
theorem d_R_made_63 : decode c_R_made 63 = .ok (.ifCond .eq 10, 3) := by decide +kernel
theorem d_R_made_66 : decode c_R_made 66 = .ok (.lload_n 2, 1) := by decide +kernel
theorem d_R_made_67 : decode c_R_made 67 = .ok (.lload 4, 2) := by decide +kernel
theorem d_R_made_69 : decode c_R_made 69 = .ok (.ladd, 1) := by decide +kernel
theorem d_R_made_70 : decode c_R_made 70 = .ok (.goto 7, 3) := by decide +kernel
theorem d_R_made_73 : decode c_R_made 73 = .ok (.lload_n 2, 1) := by decide +kernel
theorem d_R_made_74 : decode c_R_made 74 = .ok (.lload 4, 2) := by decide +kernel
theorem d_R_made_76 : decode c_R_made 76 = .ok (.lsub, 1) := by decide +kernel
theorem d_R_made_77 : decode c_R_made 77 = .ok (.lreturn, 1) := by decide +kernel
theorem d_R_made_78 : decode c_R_made 78 = .ok (.lload_n 2, 1) := by decide +kernel
theorem d_R_made_79 : decode c_R_made 79 = .ok (.lload 4, 2) := by decide +kernel
theorem d_R_made_81 : decode c_R_made 81 = .ok (.lmul, 1) := by decide +kernel
theorem d_R_made_82 : decode c_R_made 82 = .ok (.lreturn, 1) := by decide +kernel
theorem d_R_made_83 : decode c_R_made 83 = .ok (.lload_n 2, 1) := by decide +kernel
theorem d_R_made_84 : decode c_R_made 84 = .ok (.lload 4, 2) := by decide +kernel
theorem d_R_made_86 : decode c_R_made 86 = .ok (.lcmp, 1) := by decide +kernel
theorem d_R_made_87 : decode c_R_made 87 = .ok (.ifCond .lt 19, 3) := by decide +kernel
theorem d_R_made_90 : decode c_R_made 90 = .ok (.lload_n 2, 1) := by decide +kernel
theorem d_R_made_91 : decode c_R_made 91 = .ok (.lload 4, 2) := by decide +kernel
theorem d_R_made_93 : decode c_R_made 93 = .ok (.lcmp, 1) := by decide +kernel
theorem d_R_made_94 : decode c_R_made 94 = .ok (.ifCond .ne 16, 3) := by decide +kernel
theorem d_R_made_97 : decode c_R_made 97 = .ok (.aload_n 0, 1) := by decide +kernel
theorem d_R_made_98 : decode c_R_made 98 = .ok (.iconst 1, 1) := by decide +kernel
theorem d_R_made_99 : decode c_R_made 99 = .ok (.iload_n 1, 1) := by decide +kernel
theorem d_R_made_100 : decode c_R_made 100 = .ok (.invokevirtual 139, 3) := by decide +kernel
theorem d_R_made_103 : decode c_R_made 103 = .ok (.ifCond .eq 7, 3) := by decide +kernel
theorem d_R_made_106 : decode c_R_made 106 = .ok (.lconst 1, 1) := by decide +kernel
theorem d_R_made_107 : decode c_R_made 107 = .ok (.goto 4, 3) := by decide +kernel
theorem d_R_made_110 : decode c_R_made 110 = .ok (.lconst 0, 1) := by decide +kernel
theorem d_R_made_111 : decode c_R_made 111 = .ok (.lreturn, 1) := by decide +kernel
theorem d_R_made_112 : decode c_R_made 112 = .ok (.lload_n 2, 1) := by decide +kernel
theorem d_R_made_113 : decode c_R_made 113 = .ok (.lload 4, 2) := by decide +kernel
theorem d_R_made_115 : decode c_R_made 115 = .ok (.lcmp, 1) := by decide +kernel
theorem d_R_made_116 : decode c_R_made 116 = .ok (.ifCond .ne 7, 3) := by decide +kernel
theorem d_R_made_119 : decode c_R_made 119 = .ok (.iconst 1, 1) := by decide +kernel
theorem d_R_made_120 : decode c_R_made 120 = .ok (.goto 4, 3) := by decide +kernel
theorem d_R_made_123 : decode c_R_made 123 = .ok (.iconst 0, 1) := by decide +kernel
theorem d_R_made_124 : decode c_R_made 124 = .ok (.aload_n 0, 1) := by decide +kernel
theorem d_R_made_125 : decode c_R_made 125 = .ok (.iconst 5, 1) := by decide +kernel
theorem d_R_made_126 : decode c_R_made 126 = .ok (.iload_n 1, 1) := by decide +kernel
theorem d_R_made_127 : decode c_R_made 127 = .ok (.invokevirtual 139, 3) := by decide +kernel
theorem d_R_made_130 : decode c_R_made 130 = .ok (.if_icmp .eq 7, 3) := by decide +kernel
theorem d_R_made_133 : decode c_R_made 133 = .ok (.lconst 1, 1) := by decide +kernel
theorem d_R_made_134 : decode c_R_made 134 = .ok (.goto 4, 3) := by decide +kernel
theorem d_R_made_137 : decode c_R_made 137 = .ok (.lconst 0, 1) := by decide +kernel
theorem d_R_made_138 : decode c_R_made 138 = .ok (.lreturn, 1) := by decide +kernel
theorem d_R_about_0 : decode c_R_about 0 = .ok (.aload_n 0, 1) := by decide +kernel
theorem d_R_about_1 : decode c_R_about 1 = .ok (.iload_n 1, 1) := by decide +kernel
theorem d_R_about_2 : decode c_R_about 2 = .ok (.invokevirtual 169, 3) := by decide +kernel
theorem d_R_about_5 : decode c_R_about 5 = .ok (.ifCond .ne 5, 3) := by decide +kernel
theorem d_R_about_8 : decode c_R_about 8 = .ok (.iconst (-1), 1) := by decide +kernel
theorem d_R_about_9 : decode c_R_about 9 = .ok (.ireturn, 1) := by decide +kernel
theorem d_R_about_10 : decode c_R_about 10 = .ok (.iload_n 2, 1) := by decide +kernel
theorem d_R_about_11 : decode c_R_about 11 = .ok (.ifCond .ne 10, 3) := by decide +kernel
theorem d_R_about_14 : decode c_R_about 14 = .ok (.aload_n 0, 1) := by decide +kernel
theorem d_R_about_15 : decode c_R_about 15 = .ok (.getfield 35, 3) := by decide +kernel
theorem d_R_about_18 : decode c_R_about 18 = .ok (.iload_n 1, 1) := by decide +kernel
theorem d_R_about_19 : decode c_R_about 19 = .ok (.iaload, 1) := by decide +kernel
theorem d_R_about_20 : decode c_R_about 20 = .ok (.ireturn, 1) := by decide +kernel
theorem d_R_about_21 : decode c_R_about 21 = .ok (.iload_n 2, 1) := by decide +kernel
theorem d_R_about_22 : decode c_R_about 22 = .ok (.iconst 1, 1) := by decide +kernel
theorem d_R_about_23 : decode c_R_about 23 = .ok (.if_icmp .ne 10, 3) := by decide +kernel
theorem d_R_about_26 : decode c_R_about 26 = .ok (.aload_n 0, 1) := by decide +kernel
theorem d_R_about_27 : decode c_R_about 27 = .ok (.getfield 38, 3) := by decide +kernel
theorem d_R_about_30 : decode c_R_about 30 = .ok (.iload_n 1, 1) := by decide +kernel
theorem d_R_about_31 : decode c_R_about 31 = .ok (.iaload, 1) := by decide +kernel
theorem d_R_about_32 : decode c_R_about 32 = .ok (.ireturn, 1) := by decide +kernel
theorem d_R_about_33 : decode c_R_about 33 = .ok (.iload_n 2, 1) := by decide +kernel
theorem d_R_about_34 : decode c_R_about 34 = .ok (.iconst 2, 1) := by decide +kernel
theorem d_R_about_35 : decode c_R_about 35 = .ok (.if_icmp .eq 5, 3) := by decide +kernel
theorem d_R_about_38 : decode c_R_about 38 = .ok (.iconst (-1), 1) := by decide +kernel
theorem d_R_about_39 : decode c_R_about 39 = .ok (.ireturn, 1) := by decide +kernel
theorem d_R_about_40 : decode c_R_about 40 = .ok (.iconst 0, 1) := by decide +kernel
theorem d_R_about_41 : decode c_R_about 41 = .ok (.istore_n 3, 1) := by decide +kernel
theorem d_R_about_42 : decode c_R_about 42 = .ok (.iconst 0, 1) := by decide +kernel
theorem d_R_about_43 : decode c_R_about 43 = .ok (.istore 4, 2) := by decide +kernel
theorem d_R_about_45 : decode c_R_about 45 = .ok (.iload 4, 2) := by decide +kernel
theorem d_R_about_47 : decode c_R_about 47 = .ok (.bipush 64, 2) := by decide +kernel
theorem d_R_about_49 : decode c_R_about 49 = .ok (.if_icmp .ge 32, 3) := by decide +kernel
theorem d_R_about_52 : decode c_R_about 52 = .ok (.iload_n 3, 1) := by decide +kernel
theorem d_R_about_53 : decode c_R_about 53 = .ok (.aload_n 0, 1) := by decide +kernel
theorem d_R_about_54 : decode c_R_about 54 = .ok (.getfield 41, 3) := by decide +kernel
theorem d_R_about_57 : decode c_R_about 57 = .ok (.bipush 64, 2) := by decide +kernel
theorem d_R_about_59 : decode c_R_about 59 = .ok (.iload_n 1, 1) := by decide +kernel
theorem d_R_about_60 : decode c_R_about 60 = .ok (.imul, 1) := by decide +kernel
theorem d_R_about_61 : decode c_R_about 61 = .ok (.iload 4, 2) := by decide +kernel
theorem d_R_about_63 : decode c_R_about 63 = .ok (.iadd, 1) := by decide +kernel
theorem d_R_about_64 : decode c_R_about 64 = .ok (.baload, 1) := by decide +kernel
theorem d_R_about_65 : decode c_R_about 65 = .ok (.ifCond .eq 7, 3) := by decide +kernel
theorem d_R_about_68 : decode c_R_about 68 = .ok (.iconst 1, 1) := by decide +kernel
theorem d_R_about_69 : decode c_R_about 69 = .ok (.goto 4, 3) := by decide +kernel
theorem d_R_about_72 : decode c_R_about 72 = .ok (.iconst 0, 1) := by decide +kernel
theorem d_R_about_73 : decode c_R_about 73 = .ok (.iadd, 1) := by decide +kernel
theorem d_R_about_74 : decode c_R_about 74 = .ok (.istore_n 3, 1) := by decide +kernel
theorem d_R_about_75 : decode c_R_about 75 = .ok (.iinc 4 1, 3) := by decide +kernel
theorem d_R_about_78 : decode c_R_about 78 = .ok (.goto (-33), 3) := by decide +kernel
theorem d_R_about_81 : decode c_R_about 81 = .ok (.iload_n 3, 1) := by decide +kernel
theorem d_R_about_82 : decode c_R_about 82 = .ok (.ireturn, 1) := by decide +kernel
theorem d_R_isTest_0 : decode c_R_isTest 0 = .ok (.iload_n 1, 1) := by decide +kernel
theorem d_R_isTest_1 : decode c_R_isTest 1 = .ok (.i2l, 1) := by decide +kernel
theorem d_R_isTest_2 : decode c_R_isTest 2 = .ok (.lconst 0, 1) := by decide +kernel
theorem d_R_isTest_3 : decode c_R_isTest 3 = .ok (.aload_n 0, 1) := by decide +kernel
theorem d_R_isTest_4 : decode c_R_isTest 4 = .ok (.getfield 98, 3) := by decide +kernel
theorem d_R_isTest_7 : decode c_R_isTest 7 = .ok (.iconst 1, 1) := by decide +kernel
theorem d_R_isTest_8 : decode c_R_isTest 8 = .ok (.isub, 1) := by decide +kernel
theorem d_R_isTest_9 : decode c_R_isTest 9 = .ok (.i2l, 1) := by decide +kernel
theorem d_R_isTest_10 : decode c_R_isTest 10 = .ok (.invokestatic 94, 3) := by decide +kernel
theorem d_R_isTest_13 : decode c_R_isTest 13 = .ok (.ireturn, 1) := by decide +kernel
theorem d_R_make_0 : decode c_R_make 0 = .ok (.iload_n 1, 1) := by decide +kernel
theorem d_R_make_1 : decode c_R_make 1 = .ok (.i2l, 1) := by decide +kernel
theorem d_R_make_2 : decode c_R_make 2 = .ok (.lconst 0, 1) := by decide +kernel
theorem d_R_make_3 : decode c_R_make 3 = .ok (.ldc2_w 173, 3) := by decide +kernel
theorem d_R_make_6 : decode c_R_make 6 = .ok (.invokestatic 94, 3) := by decide +kernel
theorem d_R_make_9 : decode c_R_make 9 = .ok (.ifCond .ne 5, 3) := by decide +kernel
theorem d_R_make_12 : decode c_R_make 12 = .ok (.iconst (-1), 1) := by decide +kernel
theorem d_R_make_13 : decode c_R_make 13 = .ok (.ireturn, 1) := by decide +kernel
theorem d_R_make_14 : decode c_R_make 14 = .ok (.iconst 0, 1) := by decide +kernel
theorem d_R_make_15 : decode c_R_make 15 = .ok (.istore_n 2, 1) := by decide +kernel
theorem d_R_make_16 : decode c_R_make 16 = .ok (.iconst 0, 1) := by decide +kernel
theorem d_R_make_17 : decode c_R_make 17 = .ok (.istore_n 3, 1) := by decide +kernel
theorem d_R_make_18 : decode c_R_make 18 = .ok (.iload_n 3, 1) := by decide +kernel
theorem d_R_make_19 : decode c_R_make 19 = .ok (.aload_n 0, 1) := by decide +kernel
theorem d_R_make_20 : decode c_R_make 20 = .ok (.getfield 91, 3) := by decide +kernel
theorem d_R_make_23 : decode c_R_make 23 = .ok (.if_icmp .ge 100, 3) := by decide +kernel
theorem d_R_make_26 : decode c_R_make 26 = .ok (.aload_n 0, 1) := by decide +kernel
theorem d_R_make_27 : decode c_R_make 27 = .ok (.getfield 101, 3) := by decide +kernel
theorem d_R_make_30 : decode c_R_make 30 = .ok (.bipush 100, 2) := by decide +kernel
theorem d_R_make_32 : decode c_R_make 32 = .ok (.if_icmp .ge 91, 3) := by decide +kernel
theorem d_R_make_35 : decode c_R_make 35 = .ok (.aload_n 0, 1) := by decide +kernel
theorem d_R_make_36 : decode c_R_make 36 = .ok (.iload_n 1, 1) := by decide +kernel
theorem d_R_make_37 : decode c_R_make 37 = .ok (.iload_n 3, 1) := by decide +kernel
theorem d_R_make_38 : decode c_R_make 38 = .ok (.invokevirtual 175, 3) := by decide +kernel
theorem d_R_make_41 : decode c_R_make 41 = .ok (.ifCond .eq 76, 3) := by decide +kernel
theorem d_R_make_44 : decode c_R_make 44 = .ok (.aload_n 0, 1) := by decide +kernel
theorem d_R_make_45 : decode c_R_make 45 = .ok (.iload_n 3, 1) := by decide +kernel
theorem d_R_make_46 : decode c_R_make 46 = .ok (.invokevirtual 178, 3) := by decide +kernel
theorem d_R_make_49 : decode c_R_make 49 = .ok (.ifCond .eq 68, 3) := by decide +kernel
theorem d_R_make_52 : decode c_R_make 52 = .ok (.aload_n 0, 1) := by decide +kernel
theorem d_R_make_53 : decode c_R_make 53 = .ok (.iload_n 1, 1) := by decide +kernel
theorem d_R_make_54 : decode c_R_make 54 = .ok (.iload_n 3, 1) := by decide +kernel
theorem d_R_make_55 : decode c_R_make 55 = .ok (.invokevirtual 181, 3) := by decide +kernel
theorem d_R_make_58 : decode c_R_make 58 = .ok (.ifCond .eq 6, 3) := by decide +kernel
theorem d_R_make_61 : decode c_R_make 61 = .ok (.goto 56, 3) := by decide +kernel
theorem d_R_make_64 : decode c_R_make 64 = .ok (.aload_n 0, 1) := by decide +kernel
theorem d_R_make_65 : decode c_R_make 65 = .ok (.getfield 48, 3) := by decide +kernel
theorem d_R_make_68 : decode c_R_make 68 = .ok (.aload_n 0, 1) := by decide +kernel
theorem d_R_make_69 : decode c_R_make 69 = .ok (.getfield 101, 3) := by decide +kernel
theorem d_R_make_72 : decode c_R_make 72 = .ok (.iload_n 1, 1) := by decide +kernel
theorem d_R_make_73 : decode c_R_make 73 = .ok (.iastore, 1) := by decide +kernel
theorem d_R_make_74 : decode c_R_make 74 = .ok (.aload_n 0, 1) := by decide +kernel
theorem d_R_make_75 : decode c_R_make 75 = .ok (.getfield 51, 3) := by decide +kernel
theorem d_R_make_78 : decode c_R_make 78 = .ok (.aload_n 0, 1) := by decide +kernel
theorem d_R_make_79 : decode c_R_make 79 = .ok (.getfield 101, 3) := by decide +kernel
theorem d_R_make_82 : decode c_R_make 82 = .ok (.iload_n 3, 1) := by decide +kernel
theorem d_R_make_83 : decode c_R_make 83 = .ok (.iastore, 1) := by decide +kernel
theorem d_R_make_84 : decode c_R_make 84 = .ok (.aload_n 0, 1) := by decide +kernel
theorem d_R_make_85 : decode c_R_make 85 = .ok (.getfield 54, 3) := by decide +kernel
theorem d_R_make_88 : decode c_R_make 88 = .ok (.aload_n 0, 1) := by decide +kernel
theorem d_R_make_89 : decode c_R_make 89 = .ok (.getfield 101, 3) := by decide +kernel
theorem d_R_make_92 : decode c_R_make 92 = .ok (.iconst (-1), 1) := by decide +kernel
theorem d_R_make_93 : decode c_R_make 93 = .ok (.iastore, 1) := by decide +kernel
theorem d_R_make_94 : decode c_R_make 94 = .ok (.aload_n 0, 1) := by decide +kernel
theorem d_R_make_95 : decode c_R_make 95 = .ok (.getfield 57, 3) := by decide +kernel
theorem d_R_make_98 : decode c_R_make 98 = .ok (.aload_n 0, 1) := by decide +kernel
theorem d_R_make_99 : decode c_R_make 99 = .ok (.getfield 101, 3) := by decide +kernel
theorem d_R_make_102 : decode c_R_make 102 = .ok (.iconst (-1), 1) := by decide +kernel
theorem d_R_make_103 : decode c_R_make 103 = .ok (.iastore, 1) := by decide +kernel
theorem d_R_make_104 : decode c_R_make 104 = .ok (.aload_n 0, 1) := by decide +kernel
theorem d_R_make_105 : decode c_R_make 105 = .ok (.dup, 1) := by decide +kernel
theorem d_R_make_106 : decode c_R_make 106 = .ok (.getfield 101, 3) := by decide +kernel
theorem d_R_make_109 : decode c_R_make 109 = .ok (.iconst 1, 1) := by decide +kernel
theorem d_R_make_110 : decode c_R_make 110 = .ok (.iadd, 1) := by decide +kernel
theorem d_R_make_111 : decode c_R_make 111 = .ok (.putfield 101, 3) := by decide +kernel
theorem d_R_make_114 : decode c_R_make 114 = .ok (.iinc 2 1, 3) := by decide +kernel
theorem d_R_make_117 : decode c_R_make 117 = .ok (.iinc 3 1, 3) := by decide +kernel
theorem d_R_make_120 : decode c_R_make 120 = .ok (.goto (-102), 3) := by decide +kernel
theorem d_R_make_123 : decode c_R_make 123 = .ok (.iload_n 2, 1) := by decide +kernel
theorem d_R_make_124 : decode c_R_make 124 = .ok (.ireturn, 1) := by decide +kernel
theorem d_R_isFor_0 : decode c_R_isFor 0 = .ok (.aload_n 0, 1) := by decide +kernel
theorem d_R_isFor_1 : decode c_R_isFor 1 = .ok (.getfield 7, 3) := by decide +kernel
theorem d_R_isFor_4 : decode c_R_isFor 4 = .ok (.iload_n 2, 1) := by decide +kernel
theorem d_R_isFor_5 : decode c_R_isFor 5 = .ok (.iaload, 1) := by decide +kernel
theorem d_R_isFor_6 : decode c_R_isFor 6 = .ok (.istore_n 3, 1) := by decide +kernel
theorem d_R_isFor_7 : decode c_R_isFor 7 = .ok (.iload_n 1, 1) := by decide +kernel
theorem d_R_isFor_8 : decode c_R_isFor 8 = .ok (.tableswitch 107 0 4 #[36, 46, 58, 74, 86], 36) := by decide +kernel
theorem d_R_isFor_44 : decode c_R_isFor 44 = .ok (.iload_n 3, 1) := by decide +kernel
theorem d_R_isFor_45 : decode c_R_isFor 45 = .ok (.ifCond .ne 7, 3) := by decide +kernel
theorem d_R_isFor_48 : decode c_R_isFor 48 = .ok (.iconst 1, 1) := by decide +kernel
theorem d_R_isFor_49 : decode c_R_isFor 49 = .ok (.goto 4, 3) := by decide +kernel
theorem d_R_isFor_52 : decode c_R_isFor 52 = .ok (.iconst 0, 1) := by decide +kernel
theorem d_R_isFor_53 : decode c_R_isFor 53 = .ok (.ireturn, 1) := by decide +kernel
theorem d_R_isFor_54 : decode c_R_isFor 54 = .ok (.iload_n 3, 1) := by decide +kernel
theorem d_R_isFor_55 : decode c_R_isFor 55 = .ok (.bipush 6, 2) := by decide +kernel
theorem d_R_isFor_57 : decode c_R_isFor 57 = .ok (.if_icmp .ne 7, 3) := by decide +kernel
theorem d_R_isFor_60 : decode c_R_isFor 60 = .ok (.iconst 1, 1) := by decide +kernel
theorem d_R_isFor_61 : decode c_R_isFor 61 = .ok (.goto 4, 3) := by decide +kernel
theorem d_R_isFor_64 : decode c_R_isFor 64 = .ok (.iconst 0, 1) := by decide +kernel
theorem d_R_isFor_65 : decode c_R_isFor 65 = .ok (.ireturn, 1) := by decide +kernel
theorem d_R_isFor_66 : decode c_R_isFor 66 = .ok (.iload_n 3, 1) := by decide +kernel
theorem d_R_isFor_67 : decode c_R_isFor 67 = .ok (.iconst 3, 1) := by decide +kernel
theorem d_R_isFor_68 : decode c_R_isFor 68 = .ok (.if_icmp .eq 8, 3) := by decide +kernel
theorem d_R_isFor_71 : decode c_R_isFor 71 = .ok (.iload_n 3, 1) := by decide +kernel
theorem d_R_isFor_72 : decode c_R_isFor 72 = .ok (.iconst 4, 1) := by decide +kernel
theorem d_R_isFor_73 : decode c_R_isFor 73 = .ok (.if_icmp .ne 7, 3) := by decide +kernel
theorem d_R_isFor_76 : decode c_R_isFor 76 = .ok (.iconst 1, 1) := by decide +kernel
theorem d_R_isFor_77 : decode c_R_isFor 77 = .ok (.goto 4, 3) := by decide +kernel
theorem d_R_isFor_80 : decode c_R_isFor 80 = .ok (.iconst 0, 1) := by decide +kernel
theorem d_R_isFor_81 : decode c_R_isFor 81 = .ok (.ireturn, 1) := by decide +kernel
theorem d_R_isFor_82 : decode c_R_isFor 82 = .ok (.iload_n 3, 1) := by decide +kernel
theorem d_R_isFor_83 : decode c_R_isFor 83 = .ok (.bipush 8, 2) := by decide +kernel
theorem d_R_isFor_85 : decode c_R_isFor 85 = .ok (.if_icmp .ne 7, 3) := by decide +kernel
theorem d_R_isFor_88 : decode c_R_isFor 88 = .ok (.iconst 1, 1) := by decide +kernel
theorem d_R_isFor_89 : decode c_R_isFor 89 = .ok (.goto 4, 3) := by decide +kernel
theorem d_R_isFor_92 : decode c_R_isFor 92 = .ok (.iconst 0, 1) := by decide +kernel
theorem d_R_isFor_93 : decode c_R_isFor 93 = .ok (.ireturn, 1) := by decide +kernel
theorem d_R_isFor_94 : decode c_R_isFor 94 = .ok (.iload_n 3, 1) := by decide +kernel
theorem d_R_isFor_95 : decode c_R_isFor 95 = .ok (.iconst 3, 1) := by decide +kernel
theorem d_R_isFor_96 : decode c_R_isFor 96 = .ok (.if_icmp .eq 13, 3) := by decide +kernel
theorem d_R_isFor_99 : decode c_R_isFor 99 = .ok (.iload_n 3, 1) := by decide +kernel
theorem d_R_isFor_100 : decode c_R_isFor 100 = .ok (.iconst 4, 1) := by decide +kernel
theorem d_R_isFor_101 : decode c_R_isFor 101 = .ok (.if_icmp .eq 8, 3) := by decide +kernel
theorem d_R_isFor_104 : decode c_R_isFor 104 = .ok (.iload_n 3, 1) := by decide +kernel
theorem d_R_isFor_105 : decode c_R_isFor 105 = .ok (.iconst 5, 1) := by decide +kernel
theorem d_R_isFor_106 : decode c_R_isFor 106 = .ok (.if_icmp .ne 7, 3) := by decide +kernel
theorem d_R_isFor_109 : decode c_R_isFor 109 = .ok (.iconst 1, 1) := by decide +kernel
theorem d_R_isFor_110 : decode c_R_isFor 110 = .ok (.goto 4, 3) := by decide +kernel
theorem d_R_isFor_113 : decode c_R_isFor 113 = .ok (.iconst 0, 1) := by decide +kernel
theorem d_R_isFor_114 : decode c_R_isFor 114 = .ok (.ireturn, 1) := by decide +kernel
theorem d_R_isFor_115 : decode c_R_isFor 115 = .ok (.iload_n 3, 1) := by decide +kernel
theorem d_R_isFor_116 : decode c_R_isFor 116 = .ok (.bipush 7, 2) := by decide +kernel
theorem d_R_isFor_118 : decode c_R_isFor 118 = .ok (.if_icmp .ne 7, 3) := by decide +kernel
theorem d_R_isFor_121 : decode c_R_isFor 121 = .ok (.iconst 1, 1) := by decide +kernel
theorem d_R_isFor_122 : decode c_R_isFor 122 = .ok (.goto 4, 3) := by decide +kernel
theorem d_R_isFor_125 : decode c_R_isFor 125 = .ok (.iconst 0, 1) := by decide +kernel
theorem d_R_isFor_126 : decode c_R_isFor 126 = .ok (.ireturn, 1) := by decide +kernel
theorem d_R_isCovered_0 : decode c_R_isCovered 0 = .ok (.iconst 0, 1) := by decide +kernel
theorem d_R_isCovered_1 : decode c_R_isCovered 1 = .ok (.istore_n 2, 1) := by decide +kernel
theorem d_R_isCovered_2 : decode c_R_isCovered 2 = .ok (.iload_n 2, 1) := by decide +kernel
theorem d_R_isCovered_3 : decode c_R_isCovered 3 = .ok (.aload_n 0, 1) := by decide +kernel
theorem d_R_isCovered_4 : decode c_R_isCovered 4 = .ok (.getfield 98, 3) := by decide +kernel
theorem d_R_isCovered_7 : decode c_R_isCovered 7 = .ok (.if_icmp .ge 35, 3) := by decide +kernel
theorem d_R_isCovered_10 : decode c_R_isCovered 10 = .ok (.aload_n 0, 1) := by decide +kernel
theorem d_R_isCovered_11 : decode c_R_isCovered 11 = .ok (.getfield 35, 3) := by decide +kernel
theorem d_R_isCovered_14 : decode c_R_isCovered 14 = .ok (.iload_n 2, 1) := by decide +kernel
theorem d_R_isCovered_15 : decode c_R_isCovered 15 = .ok (.iaload, 1) := by decide +kernel
theorem d_R_isCovered_16 : decode c_R_isCovered 16 = .ok (.iconst 1, 1) := by decide +kernel
theorem d_R_isCovered_17 : decode c_R_isCovered 17 = .ok (.if_icmp .ne 19, 3) := by decide +kernel
theorem d_R_isCovered_20 : decode c_R_isCovered 20 = .ok (.aload_n 0, 1) := by decide +kernel
theorem d_R_isCovered_21 : decode c_R_isCovered 21 = .ok (.getfield 41, 3) := by decide +kernel
theorem d_R_isCovered_24 : decode c_R_isCovered 24 = .ok (.bipush 64, 2) := by decide +kernel
theorem d_R_isCovered_26 : decode c_R_isCovered 26 = .ok (.iload_n 2, 1) := by decide +kernel
theorem d_R_isCovered_27 : decode c_R_isCovered 27 = .ok (.imul, 1) := by decide +kernel
theorem d_R_isCovered_28 : decode c_R_isCovered 28 = .ok (.iload_n 1, 1) := by decide +kernel
theorem d_R_isCovered_29 : decode c_R_isCovered 29 = .ok (.iadd, 1) := by decide +kernel
theorem d_R_isCovered_30 : decode c_R_isCovered 30 = .ok (.baload, 1) := by decide +kernel
theorem d_R_isCovered_31 : decode c_R_isCovered 31 = .ok (.ifCond .eq 5, 3) := by decide +kernel
theorem d_R_isCovered_34 : decode c_R_isCovered 34 = .ok (.iconst 1, 1) := by decide +kernel
theorem d_R_isCovered_35 : decode c_R_isCovered 35 = .ok (.ireturn, 1) := by decide +kernel
theorem d_R_isCovered_36 : decode c_R_isCovered 36 = .ok (.iinc 2 1, 3) := by decide +kernel
theorem d_R_isCovered_39 : decode c_R_isCovered 39 = .ok (.goto (-37), 3) := by decide +kernel
theorem d_R_isCovered_42 : decode c_R_isCovered 42 = .ok (.iconst 0, 1) := by decide +kernel
theorem d_R_isCovered_43 : decode c_R_isCovered 43 = .ok (.ireturn, 1) := by decide +kernel
theorem d_R_isMade_0 : decode c_R_isMade 0 = .ok (.iconst 0, 1) := by decide +kernel
theorem d_R_isMade_1 : decode c_R_isMade 1 = .ok (.istore_n 3, 1) := by decide +kernel
theorem d_R_isMade_2 : decode c_R_isMade 2 = .ok (.iload_n 3, 1) := by decide +kernel
theorem d_R_isMade_3 : decode c_R_isMade 3 = .ok (.aload_n 0, 1) := by decide +kernel
theorem d_R_isMade_4 : decode c_R_isMade 4 = .ok (.getfield 101, 3) := by decide +kernel
theorem d_R_isMade_7 : decode c_R_isMade 7 = .ok (.if_icmp .ge 31, 3) := by decide +kernel
theorem d_R_isMade_10 : decode c_R_isMade 10 = .ok (.aload_n 0, 1) := by decide +kernel
theorem d_R_isMade_11 : decode c_R_isMade 11 = .ok (.getfield 48, 3) := by decide +kernel
theorem d_R_isMade_14 : decode c_R_isMade 14 = .ok (.iload_n 3, 1) := by decide +kernel
theorem d_R_isMade_15 : decode c_R_isMade 15 = .ok (.iaload, 1) := by decide +kernel
theorem d_R_isMade_16 : decode c_R_isMade 16 = .ok (.iload_n 1, 1) := by decide +kernel
theorem d_R_isMade_17 : decode c_R_isMade 17 = .ok (.if_icmp .ne 15, 3) := by decide +kernel
theorem d_R_isMade_20 : decode c_R_isMade 20 = .ok (.aload_n 0, 1) := by decide +kernel
theorem d_R_isMade_21 : decode c_R_isMade 21 = .ok (.getfield 51, 3) := by decide +kernel
theorem d_R_isMade_24 : decode c_R_isMade 24 = .ok (.iload_n 3, 1) := by decide +kernel
theorem d_R_isMade_25 : decode c_R_isMade 25 = .ok (.iaload, 1) := by decide +kernel
theorem d_R_isMade_26 : decode c_R_isMade 26 = .ok (.iload_n 2, 1) := by decide +kernel
theorem d_R_isMade_27 : decode c_R_isMade 27 = .ok (.if_icmp .ne 5, 3) := by decide +kernel
theorem d_R_isMade_30 : decode c_R_isMade 30 = .ok (.iconst 1, 1) := by decide +kernel
theorem d_R_isMade_31 : decode c_R_isMade 31 = .ok (.ireturn, 1) := by decide +kernel
theorem d_R_isMade_32 : decode c_R_isMade 32 = .ok (.iinc 3 1, 3) := by decide +kernel
theorem d_R_isMade_35 : decode c_R_isMade 35 = .ok (.goto (-33), 3) := by decide +kernel
theorem d_R_isMade_38 : decode c_R_isMade 38 = .ok (.iconst 0, 1) := by decide +kernel
theorem d_R_isMade_39 : decode c_R_isMade 39 = .ok (.ireturn, 1) := by decide +kernel
theorem d_R_mutant_0 : decode c_R_mutant 0 = .ok (.aload_n 0, 1) := by decide +kernel
theorem d_R_mutant_1 : decode c_R_mutant 1 = .ok (.iload_n 1, 1) := by decide +kernel
theorem d_R_mutant_2 : decode c_R_mutant 2 = .ok (.invokevirtual 194, 3) := by decide +kernel
theorem d_R_mutant_5 : decode c_R_mutant 5 = .ok (.ifCond .ne 5, 3) := by decide +kernel
theorem d_R_mutant_8 : decode c_R_mutant 8 = .ok (.iconst (-1), 1) := by decide +kernel
theorem d_R_mutant_9 : decode c_R_mutant 9 = .ok (.ireturn, 1) := by decide +kernel
theorem d_R_mutant_10 : decode c_R_mutant 10 = .ok (.iload_n 2, 1) := by decide +kernel
theorem d_R_mutant_11 : decode c_R_mutant 11 = .ok (.tableswitch 75 0 4 #[33, 40, 47, 54, 61], 33) := by decide +kernel
theorem d_R_mutant_44 : decode c_R_mutant 44 = .ok (.aload_n 0, 1) := by decide +kernel
theorem d_R_mutant_45 : decode c_R_mutant 45 = .ok (.getfield 48, 3) := by decide +kernel
theorem d_R_mutant_48 : decode c_R_mutant 48 = .ok (.iload_n 1, 1) := by decide +kernel
theorem d_R_mutant_49 : decode c_R_mutant 49 = .ok (.iaload, 1) := by decide +kernel
theorem d_R_mutant_50 : decode c_R_mutant 50 = .ok (.ireturn, 1) := by decide +kernel
theorem d_R_mutant_51 : decode c_R_mutant 51 = .ok (.aload_n 0, 1) := by decide +kernel
theorem d_R_mutant_52 : decode c_R_mutant 52 = .ok (.getfield 51, 3) := by decide +kernel
theorem d_R_mutant_55 : decode c_R_mutant 55 = .ok (.iload_n 1, 1) := by decide +kernel
theorem d_R_mutant_56 : decode c_R_mutant 56 = .ok (.iaload, 1) := by decide +kernel
theorem d_R_mutant_57 : decode c_R_mutant 57 = .ok (.ireturn, 1) := by decide +kernel
theorem d_R_mutant_58 : decode c_R_mutant 58 = .ok (.aload_n 0, 1) := by decide +kernel
theorem d_R_mutant_59 : decode c_R_mutant 59 = .ok (.getfield 54, 3) := by decide +kernel
theorem d_R_mutant_62 : decode c_R_mutant 62 = .ok (.iload_n 1, 1) := by decide +kernel
theorem d_R_mutant_63 : decode c_R_mutant 63 = .ok (.iaload, 1) := by decide +kernel
theorem d_R_mutant_64 : decode c_R_mutant 64 = .ok (.ireturn, 1) := by decide +kernel
theorem d_R_mutant_65 : decode c_R_mutant 65 = .ok (.aload_n 0, 1) := by decide +kernel
theorem d_R_mutant_66 : decode c_R_mutant 66 = .ok (.getfield 57, 3) := by decide +kernel
theorem d_R_mutant_69 : decode c_R_mutant 69 = .ok (.iload_n 1, 1) := by decide +kernel
theorem d_R_mutant_70 : decode c_R_mutant 70 = .ok (.iaload, 1) := by decide +kernel
theorem d_R_mutant_71 : decode c_R_mutant 71 = .ok (.ireturn, 1) := by decide +kernel
theorem d_R_mutant_72 : decode c_R_mutant 72 = .ok (.aload_n 0, 1) := by decide +kernel
theorem d_R_mutant_73 : decode c_R_mutant 73 = .ok (.iload_n 1, 1) := by decide +kernel
theorem d_R_mutant_74 : decode c_R_mutant 74 = .ok (.invokevirtual 197, 3) := by decide +kernel
theorem d_R_mutant_77 : decode c_R_mutant 77 = .ok (.ifCond .eq 7, 3) := by decide +kernel
theorem d_R_mutant_80 : decode c_R_mutant 80 = .ok (.iconst 1, 1) := by decide +kernel
theorem d_R_mutant_81 : decode c_R_mutant 81 = .ok (.goto 4, 3) := by decide +kernel
theorem d_R_mutant_84 : decode c_R_mutant 84 = .ok (.iconst 0, 1) := by decide +kernel
theorem d_R_mutant_85 : decode c_R_mutant 85 = .ok (.ireturn, 1) := by decide +kernel
theorem d_R_mutant_86 : decode c_R_mutant 86 = .ok (.iconst (-1), 1) := by decide +kernel
theorem d_R_mutant_87 : decode c_R_mutant 87 = .ok (.ireturn, 1) := by decide +kernel
theorem d_R_isMutant_0 : decode c_R_isMutant 0 = .ok (.iload_n 1, 1) := by decide +kernel
theorem d_R_isMutant_1 : decode c_R_isMutant 1 = .ok (.i2l, 1) := by decide +kernel
theorem d_R_isMutant_2 : decode c_R_isMutant 2 = .ok (.lconst 0, 1) := by decide +kernel
theorem d_R_isMutant_3 : decode c_R_isMutant 3 = .ok (.aload_n 0, 1) := by decide +kernel
theorem d_R_isMutant_4 : decode c_R_isMutant 4 = .ok (.getfield 101, 3) := by decide +kernel
theorem d_R_isMutant_7 : decode c_R_isMutant 7 = .ok (.iconst 1, 1) := by decide +kernel
theorem d_R_isMutant_8 : decode c_R_isMutant 8 = .ok (.isub, 1) := by decide +kernel
theorem d_R_isMutant_9 : decode c_R_isMutant 9 = .ok (.i2l, 1) := by decide +kernel
theorem d_R_isMutant_10 : decode c_R_isMutant 10 = .ok (.invokestatic 94, 3) := by decide +kernel
theorem d_R_isMutant_13 : decode c_R_isMutant 13 = .ok (.ireturn, 1) := by decide +kernel
theorem d_R_isProved_0 : decode c_R_isProved 0 = .ok (.aload_n 0, 1) := by decide +kernel
theorem d_R_isProved_1 : decode c_R_isProved 1 = .ok (.getfield 51, 3) := by decide +kernel
theorem d_R_isProved_4 : decode c_R_isProved 4 = .ok (.iload_n 1, 1) := by decide +kernel
theorem d_R_isProved_5 : decode c_R_isProved 5 = .ok (.iaload, 1) := by decide +kernel
theorem d_R_isProved_6 : decode c_R_isProved 6 = .ok (.istore_n 2, 1) := by decide +kernel
theorem d_R_isProved_7 : decode c_R_isProved 7 = .ok (.aload_n 0, 1) := by decide +kernel
theorem d_R_isProved_8 : decode c_R_isProved 8 = .ok (.getfield 17, 3) := by decide +kernel
theorem d_R_isProved_11 : decode c_R_isProved 11 = .ok (.iload_n 2, 1) := by decide +kernel
theorem d_R_isProved_12 : decode c_R_isProved 12 = .ok (.iaload, 1) := by decide +kernel
theorem d_R_isProved_13 : decode c_R_isProved 13 = .ok (.istore_n 3, 1) := by decide +kernel
theorem d_R_isProved_14 : decode c_R_isProved 14 = .ok (.aload_n 0, 1) := by decide +kernel
theorem d_R_isProved_15 : decode c_R_isProved 15 = .ok (.getfield 20, 3) := by decide +kernel
theorem d_R_isProved_18 : decode c_R_isProved 18 = .ok (.iload_n 2, 1) := by decide +kernel
theorem d_R_isProved_19 : decode c_R_isProved 19 = .ok (.iaload, 1) := by decide +kernel
theorem d_R_isProved_20 : decode c_R_isProved 20 = .ok (.istore 4, 2) := by decide +kernel
theorem d_R_isProved_22 : decode c_R_isProved 22 = .ok (.aload_n 0, 1) := by decide +kernel
theorem d_R_isProved_23 : decode c_R_isProved 23 = .ok (.getfield 48, 3) := by decide +kernel
theorem d_R_isProved_26 : decode c_R_isProved 26 = .ok (.iload_n 1, 1) := by decide +kernel
theorem d_R_isProved_27 : decode c_R_isProved 27 = .ok (.iaload, 1) := by decide +kernel
theorem d_R_isProved_28 : decode c_R_isProved 28 = .ok (.tableswitch 126 1 4 #[32, 74, 82, 104], 32) := by decide +kernel
theorem d_R_isProved_60 : decode c_R_isProved 60 = .ok (.aload_n 0, 1) := by decide +kernel
theorem d_R_isProved_61 : decode c_R_isProved 61 = .ok (.getfield 7, 3) := by decide +kernel
theorem d_R_isProved_64 : decode c_R_isProved 64 = .ok (.iload_n 3, 1) := by decide +kernel
theorem d_R_isProved_65 : decode c_R_isProved 65 = .ok (.iaload, 1) := by decide +kernel
theorem d_R_isProved_66 : decode c_R_isProved 66 = .ok (.ifCond .ne 34, 3) := by decide +kernel
theorem d_R_isProved_69 : decode c_R_isProved 69 = .ok (.aload_n 0, 1) := by decide +kernel
theorem d_R_isProved_70 : decode c_R_isProved 70 = .ok (.getfield 7, 3) := by decide +kernel
theorem d_R_isProved_73 : decode c_R_isProved 73 = .ok (.iload 4, 2) := by decide +kernel
theorem d_R_isProved_75 : decode c_R_isProved 75 = .ok (.iaload, 1) := by decide +kernel
theorem d_R_isProved_76 : decode c_R_isProved 76 = .ok (.ifCond .ne 24, 3) := by decide +kernel
theorem d_R_isProved_79 : decode c_R_isProved 79 = .ok (.aload_n 0, 1) := by decide +kernel
theorem d_R_isProved_80 : decode c_R_isProved 80 = .ok (.getfield 13, 3) := by decide +kernel
theorem d_R_isProved_83 : decode c_R_isProved 83 = .ok (.iload_n 3, 1) := by decide +kernel
theorem d_R_isProved_84 : decode c_R_isProved 84 = .ok (.laload, 1) := by decide +kernel
theorem d_R_isProved_85 : decode c_R_isProved 85 = .ok (.aload_n 0, 1) := by decide +kernel
theorem d_R_isProved_86 : decode c_R_isProved 86 = .ok (.getfield 13, 3) := by decide +kernel
theorem d_R_isProved_89 : decode c_R_isProved 89 = .ok (.iload 4, 2) := by decide +kernel
theorem d_R_isProved_91 : decode c_R_isProved 91 = .ok (.laload, 1) := by decide +kernel
theorem d_R_isProved_92 : decode c_R_isProved 92 = .ok (.lcmp, 1) := by decide +kernel
theorem d_R_isProved_93 : decode c_R_isProved 93 = .ok (.ifCond .eq 7, 3) := by decide +kernel
theorem d_R_isProved_96 : decode c_R_isProved 96 = .ok (.iconst 1, 1) := by decide +kernel
theorem d_R_isProved_97 : decode c_R_isProved 97 = .ok (.goto 4, 3) := by decide +kernel
theorem d_R_isProved_100 : decode c_R_isProved 100 = .ok (.iconst 0, 1) := by decide +kernel
theorem d_R_isProved_101 : decode c_R_isProved 101 = .ok (.ireturn, 1) := by decide +kernel
theorem d_R_isProved_102 : decode c_R_isProved 102 = .ok (.aload_n 0, 1) := by decide +kernel
theorem d_R_isProved_103 : decode c_R_isProved 103 = .ok (.iload 4, 2) := by decide +kernel
theorem d_R_isProved_105 : decode c_R_isProved 105 = .ok (.lconst 0, 1) := by decide +kernel
theorem d_R_isProved_106 : decode c_R_isProved 106 = .ok (.invokevirtual 187, 3) := by decide +kernel
theorem d_R_isProved_109 : decode c_R_isProved 109 = .ok (.ireturn, 1) := by decide +kernel
theorem d_R_isProved_110 : decode c_R_isProved 110 = .ok (.aload_n 0, 1) := by decide +kernel
theorem d_R_isProved_111 : decode c_R_isProved 111 = .ok (.invokevirtual 191, 3) := by decide +kernel
theorem d_R_isProved_114 : decode c_R_isProved 114 = .ok (.aload_n 0, 1) := by decide +kernel
theorem d_R_isProved_115 : decode c_R_isProved 115 = .ok (.getfield 88, 3) := by decide +kernel
theorem d_R_isProved_118 : decode c_R_isProved 118 = .ok (.bipush 64, 2) := by decide +kernel
theorem d_R_isProved_120 : decode c_R_isProved 120 = .ok (.iload 4, 2) := by decide +kernel
theorem d_R_isProved_122 : decode c_R_isProved 122 = .ok (.imul, 1) := by decide +kernel
theorem d_R_isProved_123 : decode c_R_isProved 123 = .ok (.aload_n 0, 1) := by decide +kernel
theorem d_R_isProved_124 : decode c_R_isProved 124 = .ok (.getfield 23, 3) := by decide +kernel
theorem d_R_isProved_127 : decode c_R_isProved 127 = .ok (.iload_n 2, 1) := by decide +kernel
theorem d_R_isProved_128 : decode c_R_isProved 128 = .ok (.iaload, 1) := by decide +kernel
theorem d_R_isProved_129 : decode c_R_isProved 129 = .ok (.iadd, 1) := by decide +kernel
theorem d_R_isProved_130 : decode c_R_isProved 130 = .ok (.baload, 1) := by decide +kernel
theorem d_R_isProved_131 : decode c_R_isProved 131 = .ok (.ireturn, 1) := by decide +kernel
theorem d_R_isProved_132 : decode c_R_isProved 132 = .ok (.aload_n 0, 1) := by decide +kernel
theorem d_R_isProved_133 : decode c_R_isProved 133 = .ok (.iload 4, 2) := by decide +kernel
theorem d_R_isProved_135 : decode c_R_isProved 135 = .ok (.aload_n 0, 1) := by decide +kernel
theorem d_R_isProved_136 : decode c_R_isProved 136 = .ok (.getfield 7, 3) := by decide +kernel
theorem d_R_isProved_139 : decode c_R_isProved 139 = .ok (.iload_n 2, 1) := by decide +kernel
theorem d_R_isProved_140 : decode c_R_isProved 140 = .ok (.iaload, 1) := by decide +kernel
theorem d_R_isProved_141 : decode c_R_isProved 141 = .ok (.iconst 5, 1) := by decide +kernel
theorem d_R_isProved_142 : decode c_R_isProved 142 = .ok (.if_icmp .ne 7, 3) := by decide +kernel
theorem d_R_isProved_145 : decode c_R_isProved 145 = .ok (.lconst 1, 1) := by decide +kernel
theorem d_R_isProved_146 : decode c_R_isProved 146 = .ok (.goto 4, 3) := by decide +kernel
theorem d_R_isProved_149 : decode c_R_isProved 149 = .ok (.lconst 0, 1) := by decide +kernel
theorem d_R_isProved_150 : decode c_R_isProved 150 = .ok (.invokevirtual 187, 3) := by decide +kernel
theorem d_R_isProved_153 : decode c_R_isProved 153 = .ok (.ireturn, 1) := by decide +kernel
theorem d_R_isProved_154 : decode c_R_isProved 154 = .ok (.iconst 0, 1) := by decide +kernel
theorem d_R_isProved_155 : decode c_R_isProved 155 = .ok (.ireturn, 1) := by decide +kernel
theorem d_R_isNumber_0 : decode c_R_isNumber 0 = .ok (.aload_n 0, 1) := by decide +kernel
theorem d_R_isNumber_1 : decode c_R_isNumber 1 = .ok (.getfield 7, 3) := by decide +kernel
theorem d_R_isNumber_4 : decode c_R_isNumber 4 = .ok (.iload_n 1, 1) := by decide +kernel
theorem d_R_isNumber_5 : decode c_R_isNumber 5 = .ok (.iaload, 1) := by decide +kernel
theorem d_R_isNumber_6 : decode c_R_isNumber 6 = .ok (.ifCond .ne 18, 3) := by decide +kernel
theorem d_R_isNumber_9 : decode c_R_isNumber 9 = .ok (.aload_n 0, 1) := by decide +kernel
theorem d_R_isNumber_10 : decode c_R_isNumber 10 = .ok (.getfield 13, 3) := by decide +kernel
theorem d_R_isNumber_13 : decode c_R_isNumber 13 = .ok (.iload_n 1, 1) := by decide +kernel
theorem d_R_isNumber_14 : decode c_R_isNumber 14 = .ok (.laload, 1) := by decide +kernel
theorem d_R_isNumber_15 : decode c_R_isNumber 15 = .ok (.lload_n 2, 1) := by decide +kernel
theorem d_R_isNumber_16 : decode c_R_isNumber 16 = .ok (.lcmp, 1) := by decide +kernel
theorem d_R_isNumber_17 : decode c_R_isNumber 17 = .ok (.ifCond .ne 7, 3) := by decide +kernel
theorem d_R_isNumber_20 : decode c_R_isNumber 20 = .ok (.iconst 1, 1) := by decide +kernel
theorem d_R_isNumber_21 : decode c_R_isNumber 21 = .ok (.goto 4, 3) := by decide +kernel
theorem d_R_isNumber_24 : decode c_R_isNumber 24 = .ok (.iconst 0, 1) := by decide +kernel
theorem d_R_isNumber_25 : decode c_R_isNumber 25 = .ok (.ireturn, 1) := by decide +kernel
theorem d_R_layAlike_0 : decode c_R_layAlike 0 = .ok (.iconst 0, 1) := by decide +kernel
theorem d_R_layAlike_1 : decode c_R_layAlike 1 = .ok (.istore_n 1, 1) := by decide +kernel
theorem d_R_layAlike_2 : decode c_R_layAlike 2 = .ok (.iload_n 1, 1) := by decide +kernel
theorem d_R_layAlike_3 : decode c_R_layAlike 3 = .ok (.aload_n 0, 1) := by decide +kernel
theorem d_R_layAlike_4 : decode c_R_layAlike 4 = .ok (.getfield 91, 3) := by decide +kernel
theorem d_R_layAlike_7 : decode c_R_layAlike 7 = .ok (.if_icmp .ge 145, 3) := by decide +kernel
theorem d_R_layAlike_10 : decode c_R_layAlike 10 = .ok (.iconst 0, 1) := by decide +kernel
theorem d_R_layAlike_11 : decode c_R_layAlike 11 = .ok (.istore_n 2, 1) := by decide +kernel
theorem d_R_layAlike_12 : decode c_R_layAlike 12 = .ok (.iload_n 2, 1) := by decide +kernel
theorem d_R_layAlike_13 : decode c_R_layAlike 13 = .ok (.iload_n 1, 1) := by decide +kernel
theorem d_R_layAlike_14 : decode c_R_layAlike 14 = .ok (.if_icmp .gt 132, 3) := by decide +kernel
theorem d_R_layAlike_17 : decode c_R_layAlike 17 = .ok (.iload_n 1, 1) := by decide +kernel
theorem d_R_layAlike_18 : decode c_R_layAlike 18 = .ok (.iload_n 2, 1) := by decide +kernel
theorem d_R_layAlike_19 : decode c_R_layAlike 19 = .ok (.if_icmp .eq 91, 3) := by decide +kernel
theorem d_R_layAlike_22 : decode c_R_layAlike 22 = .ok (.aload_n 0, 1) := by decide +kernel
theorem d_R_layAlike_23 : decode c_R_layAlike 23 = .ok (.getfield 7, 3) := by decide +kernel
theorem d_R_layAlike_26 : decode c_R_layAlike 26 = .ok (.iload_n 1, 1) := by decide +kernel
theorem d_R_layAlike_27 : decode c_R_layAlike 27 = .ok (.iaload, 1) := by decide +kernel
theorem d_R_layAlike_28 : decode c_R_layAlike 28 = .ok (.aload_n 0, 1) := by decide +kernel
theorem d_R_layAlike_29 : decode c_R_layAlike 29 = .ok (.getfield 7, 3) := by decide +kernel
theorem d_R_layAlike_32 : decode c_R_layAlike 32 = .ok (.iload_n 2, 1) := by decide +kernel
theorem d_R_layAlike_33 : decode c_R_layAlike 33 = .ok (.iaload, 1) := by decide +kernel
theorem d_R_layAlike_34 : decode c_R_layAlike 34 = .ok (.if_icmp .ne 80, 3) := by decide +kernel
theorem d_R_layAlike_37 : decode c_R_layAlike 37 = .ok (.aload_n 0, 1) := by decide +kernel
theorem d_R_layAlike_38 : decode c_R_layAlike 38 = .ok (.getfield 13, 3) := by decide +kernel
theorem d_R_layAlike_41 : decode c_R_layAlike 41 = .ok (.iload_n 1, 1) := by decide +kernel
theorem d_R_layAlike_42 : decode c_R_layAlike 42 = .ok (.laload, 1) := by decide +kernel
theorem d_R_layAlike_43 : decode c_R_layAlike 43 = .ok (.aload_n 0, 1) := by decide +kernel
theorem d_R_layAlike_44 : decode c_R_layAlike 44 = .ok (.getfield 13, 3) := by decide +kernel
theorem d_R_layAlike_47 : decode c_R_layAlike 47 = .ok (.iload_n 2, 1) := by decide +kernel
theorem d_R_layAlike_48 : decode c_R_layAlike 48 = .ok (.laload, 1) := by decide +kernel
theorem d_R_layAlike_49 : decode c_R_layAlike 49 = .ok (.lcmp, 1) := by decide +kernel
theorem d_R_layAlike_50 : decode c_R_layAlike 50 = .ok (.ifCond .ne 64, 3) := by decide +kernel
theorem d_R_layAlike_53 : decode c_R_layAlike 53 = .ok (.aload_n 0, 1) := by decide +kernel
theorem d_R_layAlike_54 : decode c_R_layAlike 54 = .ok (.aload_n 0, 1) := by decide +kernel
theorem d_R_layAlike_55 : decode c_R_layAlike 55 = .ok (.getfield 17, 3) := by decide +kernel
theorem d_R_layAlike_58 : decode c_R_layAlike 58 = .ok (.iload_n 1, 1) := by decide +kernel
theorem d_R_layAlike_59 : decode c_R_layAlike 59 = .ok (.iaload, 1) := by decide +kernel
theorem d_R_layAlike_60 : decode c_R_layAlike 60 = .ok (.aload_n 0, 1) := by decide +kernel
theorem d_R_layAlike_61 : decode c_R_layAlike 61 = .ok (.getfield 17, 3) := by decide +kernel
theorem d_R_layAlike_64 : decode c_R_layAlike 64 = .ok (.iload_n 2, 1) := by decide +kernel
theorem d_R_layAlike_65 : decode c_R_layAlike 65 = .ok (.iaload, 1) := by decide +kernel
theorem d_R_layAlike_66 : decode c_R_layAlike 66 = .ok (.invokevirtual 184, 3) := by decide +kernel
theorem d_R_layAlike_69 : decode c_R_layAlike 69 = .ok (.ifCond .eq 45, 3) := by decide +kernel
theorem d_R_layAlike_72 : decode c_R_layAlike 72 = .ok (.aload_n 0, 1) := by decide +kernel
theorem d_R_layAlike_73 : decode c_R_layAlike 73 = .ok (.aload_n 0, 1) := by decide +kernel
theorem d_R_layAlike_74 : decode c_R_layAlike 74 = .ok (.getfield 20, 3) := by decide +kernel
theorem d_R_layAlike_77 : decode c_R_layAlike 77 = .ok (.iload_n 1, 1) := by decide +kernel
theorem d_R_layAlike_78 : decode c_R_layAlike 78 = .ok (.iaload, 1) := by decide +kernel
theorem d_R_layAlike_79 : decode c_R_layAlike 79 = .ok (.aload_n 0, 1) := by decide +kernel
theorem d_R_layAlike_80 : decode c_R_layAlike 80 = .ok (.getfield 20, 3) := by decide +kernel
theorem d_R_layAlike_83 : decode c_R_layAlike 83 = .ok (.iload_n 2, 1) := by decide +kernel
theorem d_R_layAlike_84 : decode c_R_layAlike 84 = .ok (.iaload, 1) := by decide +kernel
theorem d_R_layAlike_85 : decode c_R_layAlike 85 = .ok (.invokevirtual 184, 3) := by decide +kernel
theorem d_R_layAlike_88 : decode c_R_layAlike 88 = .ok (.ifCond .eq 26, 3) := by decide +kernel
theorem d_R_layAlike_91 : decode c_R_layAlike 91 = .ok (.aload_n 0, 1) := by decide +kernel
theorem d_R_layAlike_92 : decode c_R_layAlike 92 = .ok (.aload_n 0, 1) := by decide +kernel
theorem d_R_layAlike_93 : decode c_R_layAlike 93 = .ok (.getfield 23, 3) := by decide +kernel
theorem d_R_layAlike_96 : decode c_R_layAlike 96 = .ok (.iload_n 1, 1) := by decide +kernel
theorem d_R_layAlike_97 : decode c_R_layAlike 97 = .ok (.iaload, 1) := by decide +kernel
theorem d_R_layAlike_98 : decode c_R_layAlike 98 = .ok (.aload_n 0, 1) := by decide +kernel
theorem d_R_layAlike_99 : decode c_R_layAlike 99 = .ok (.getfield 23, 3) := by decide +kernel
theorem d_R_layAlike_102 : decode c_R_layAlike 102 = .ok (.iload_n 2, 1) := by decide +kernel
theorem d_R_layAlike_103 : decode c_R_layAlike 103 = .ok (.iaload, 1) := by decide +kernel
theorem d_R_layAlike_104 : decode c_R_layAlike 104 = .ok (.invokevirtual 184, 3) := by decide +kernel
theorem d_R_layAlike_107 : decode c_R_layAlike 107 = .ok (.ifCond .eq 7, 3) := by decide +kernel
theorem d_R_layAlike_110 : decode c_R_layAlike 110 = .ok (.iconst 1, 1) := by decide +kernel
theorem d_R_layAlike_111 : decode c_R_layAlike 111 = .ok (.goto 4, 3) := by decide +kernel
theorem d_R_layAlike_114 : decode c_R_layAlike 114 = .ok (.iconst 0, 1) := by decide +kernel
theorem d_R_layAlike_115 : decode c_R_layAlike 115 = .ok (.istore_n 3, 1) := by decide +kernel
theorem d_R_layAlike_116 : decode c_R_layAlike 116 = .ok (.aload_n 0, 1) := by decide +kernel
theorem d_R_layAlike_117 : decode c_R_layAlike 117 = .ok (.getfield 88, 3) := by decide +kernel
theorem d_R_layAlike_120 : decode c_R_layAlike 120 = .ok (.bipush 64, 2) := by decide +kernel
theorem d_R_layAlike_122 : decode c_R_layAlike 122 = .ok (.iload_n 1, 1) := by decide +kernel
theorem d_R_layAlike_123 : decode c_R_layAlike 123 = .ok (.imul, 1) := by decide +kernel
theorem d_R_layAlike_124 : decode c_R_layAlike 124 = .ok (.iload_n 2, 1) := by decide +kernel
theorem d_R_layAlike_125 : decode c_R_layAlike 125 = .ok (.iadd, 1) := by decide +kernel
theorem d_R_layAlike_126 : decode c_R_layAlike 126 = .ok (.iload_n 3, 1) := by decide +kernel
theorem d_R_layAlike_127 : decode c_R_layAlike 127 = .ok (.bastore, 1) := by decide +kernel
theorem d_R_layAlike_128 : decode c_R_layAlike 128 = .ok (.aload_n 0, 1) := by decide +kernel
theorem d_R_layAlike_129 : decode c_R_layAlike 129 = .ok (.getfield 88, 3) := by decide +kernel
theorem d_R_layAlike_132 : decode c_R_layAlike 132 = .ok (.bipush 64, 2) := by decide +kernel
theorem d_R_layAlike_134 : decode c_R_layAlike 134 = .ok (.iload_n 2, 1) := by decide +kernel
theorem d_R_layAlike_135 : decode c_R_layAlike 135 = .ok (.imul, 1) := by decide +kernel
theorem d_R_layAlike_136 : decode c_R_layAlike 136 = .ok (.iload_n 1, 1) := by decide +kernel
theorem d_R_layAlike_137 : decode c_R_layAlike 137 = .ok (.iadd, 1) := by decide +kernel
theorem d_R_layAlike_138 : decode c_R_layAlike 138 = .ok (.iload_n 3, 1) := by decide +kernel
theorem d_R_layAlike_139 : decode c_R_layAlike 139 = .ok (.bastore, 1) := by decide +kernel
theorem d_R_layAlike_140 : decode c_R_layAlike 140 = .ok (.iinc 2 1, 3) := by decide +kernel
theorem d_R_layAlike_143 : decode c_R_layAlike 143 = .ok (.goto (-131), 3) := by decide +kernel
theorem d_R_layAlike_146 : decode c_R_layAlike 146 = .ok (.iinc 1 1, 3) := by decide +kernel
theorem d_R_layAlike_149 : decode c_R_layAlike 149 = .ok (.goto (-147), 3) := by decide +kernel
theorem d_R_layAlike_152 : decode c_R_layAlike 152 = .ok (.return_, 1) := by decide +kernel
theorem d_R_areParts_0 : decode c_R_areParts 0 = .ok (.iload_n 1, 1) := by decide +kernel
theorem d_R_areParts_1 : decode c_R_areParts 1 = .ok (.iconst (-1), 1) := by decide +kernel
theorem d_R_areParts_2 : decode c_R_areParts 2 = .ok (.if_icmp .eq 17, 3) := by decide +kernel
theorem d_R_areParts_5 : decode c_R_areParts 5 = .ok (.aload_n 0, 1) := by decide +kernel
theorem d_R_areParts_6 : decode c_R_areParts 6 = .ok (.getfield 88, 3) := by decide +kernel
theorem d_R_areParts_9 : decode c_R_areParts 9 = .ok (.bipush 64, 2) := by decide +kernel
theorem d_R_areParts_11 : decode c_R_areParts 11 = .ok (.iload_n 1, 1) := by decide +kernel
theorem d_R_areParts_12 : decode c_R_areParts 12 = .ok (.imul, 1) := by decide +kernel
theorem d_R_areParts_13 : decode c_R_areParts 13 = .ok (.iload_n 2, 1) := by decide +kernel
theorem d_R_areParts_14 : decode c_R_areParts 14 = .ok (.iadd, 1) := by decide +kernel
theorem d_R_areParts_15 : decode c_R_areParts 15 = .ok (.baload, 1) := by decide +kernel
theorem d_R_areParts_16 : decode c_R_areParts 16 = .ok (.ifCond .eq 7, 3) := by decide +kernel
theorem d_R_areParts_19 : decode c_R_areParts 19 = .ok (.iconst 1, 1) := by decide +kernel
theorem d_R_areParts_20 : decode c_R_areParts 20 = .ok (.goto 4, 3) := by decide +kernel
theorem d_R_areParts_23 : decode c_R_areParts 23 = .ok (.iconst 0, 1) := by decide +kernel
theorem d_R_areParts_24 : decode c_R_areParts 24 = .ok (.ireturn, 1) := by decide +kernel
theorem d_R_run_0 : decode c_R_run 0 = .ok (.aload_n 0, 1) := by decide +kernel
theorem d_R_run_1 : decode c_R_run 1 = .ok (.iload_n 1, 1) := by decide +kernel
theorem d_R_run_2 : decode c_R_run 2 = .ok (.invokevirtual 194, 3) := by decide +kernel
theorem d_R_run_5 : decode c_R_run 5 = .ok (.ifCond .eq 15, 3) := by decide +kernel
theorem d_R_run_8 : decode c_R_run 8 = .ok (.iload_n 2, 1) := by decide +kernel
theorem d_R_run_9 : decode c_R_run 9 = .ok (.i2l, 1) := by decide +kernel
theorem d_R_run_10 : decode c_R_run 10 = .ok (.lconst 1, 1) := by decide +kernel
theorem d_R_run_11 : decode c_R_run 11 = .ok (.ldc2_w 209, 3) := by decide +kernel
theorem d_R_run_14 : decode c_R_run 14 = .ok (.invokestatic 94, 3) := by decide +kernel
theorem d_R_run_17 : decode c_R_run 17 = .ok (.ifCond .ne 5, 3) := by decide +kernel
theorem d_R_run_20 : decode c_R_run 20 = .ok (.iconst (-1), 1) := by decide +kernel
theorem d_R_run_21 : decode c_R_run 21 = .ok (.ireturn, 1) := by decide +kernel
theorem d_R_run_22 : decode c_R_run 22 = .ok (.aload_n 0, 1) := by decide +kernel
theorem d_R_run_23 : decode c_R_run 23 = .ok (.iload_n 1, 1) := by decide +kernel
theorem d_R_run_24 : decode c_R_run 24 = .ok (.invokevirtual 211, 3) := by decide +kernel
theorem d_R_run_27 : decode c_R_run 27 = .ok (.aload_n 0, 1) := by decide +kernel
theorem d_R_run_28 : decode c_R_run 28 = .ok (.getfield 54, 3) := by decide +kernel
theorem d_R_run_31 : decode c_R_run 31 = .ok (.iload_n 1, 1) := by decide +kernel
theorem d_R_run_32 : decode c_R_run 32 = .ok (.iconst 0, 1) := by decide +kernel
theorem d_R_run_33 : decode c_R_run 33 = .ok (.iastore, 1) := by decide +kernel
theorem d_R_run_34 : decode c_R_run 34 = .ok (.aload_n 0, 1) := by decide +kernel
theorem d_R_run_35 : decode c_R_run 35 = .ok (.getfield 57, 3) := by decide +kernel
theorem d_R_run_38 : decode c_R_run 38 = .ok (.iload_n 1, 1) := by decide +kernel
theorem d_R_run_39 : decode c_R_run 39 = .ok (.iconst (-1), 1) := by decide +kernel
theorem d_R_run_40 : decode c_R_run 40 = .ok (.iastore, 1) := by decide +kernel
theorem d_R_run_41 : decode c_R_run 41 = .ok (.aload_n 0, 1) := by decide +kernel
theorem d_R_run_42 : decode c_R_run 42 = .ok (.aload_n 0, 1) := by decide +kernel
theorem d_R_run_43 : decode c_R_run 43 = .ok (.getfield 48, 3) := by decide +kernel
theorem d_R_run_46 : decode c_R_run 46 = .ok (.iload_n 1, 1) := by decide +kernel
theorem d_R_run_47 : decode c_R_run 47 = .ok (.iaload, 1) := by decide +kernel
theorem d_R_run_48 : decode c_R_run 48 = .ok (.putfield 63, 3) := by decide +kernel
theorem d_R_run_51 : decode c_R_run 51 = .ok (.aload_n 0, 1) := by decide +kernel
theorem d_R_run_52 : decode c_R_run 52 = .ok (.aload_n 0, 1) := by decide +kernel
theorem d_R_run_53 : decode c_R_run 53 = .ok (.getfield 51, 3) := by decide +kernel
theorem d_R_run_56 : decode c_R_run 56 = .ok (.iload_n 1, 1) := by decide +kernel
theorem d_R_run_57 : decode c_R_run 57 = .ok (.iaload, 1) := by decide +kernel
theorem d_R_run_58 : decode c_R_run 58 = .ok (.putfield 67, 3) := by decide +kernel
theorem d_R_run_61 : decode c_R_run 61 = .ok (.iconst 0, 1) := by decide +kernel
theorem d_R_run_62 : decode c_R_run 62 = .ok (.istore_n 3, 1) := by decide +kernel
theorem d_R_run_63 : decode c_R_run 63 = .ok (.iload_n 3, 1) := by decide +kernel
theorem d_R_run_64 : decode c_R_run 64 = .ok (.aload_n 0, 1) := by decide +kernel
theorem d_R_run_65 : decode c_R_run 65 = .ok (.getfield 203, 3) := by decide +kernel
theorem d_R_run_68 : decode c_R_run 68 = .ok (.if_icmp .ge 103, 3) := by decide +kernel
theorem d_R_run_71 : decode c_R_run 71 = .ok (.aload_n 0, 1) := by decide +kernel
theorem d_R_run_72 : decode c_R_run 72 = .ok (.getfield 54, 3) := by decide +kernel
theorem d_R_run_75 : decode c_R_run 75 = .ok (.iload_n 1, 1) := by decide +kernel
theorem d_R_run_76 : decode c_R_run 76 = .ok (.iaload, 1) := by decide +kernel
theorem d_R_run_77 : decode c_R_run 77 = .ok (.ifCond .ne 94, 3) := by decide +kernel
theorem d_R_run_80 : decode c_R_run 80 = .ok (.aload_n 0, 1) := by decide +kernel
theorem d_R_run_81 : decode c_R_run 81 = .ok (.getfield 85, 3) := by decide +kernel
theorem d_R_run_84 : decode c_R_run 84 = .ok (.iload_n 3, 1) := by decide +kernel
theorem d_R_run_85 : decode c_R_run 85 = .ok (.iaload, 1) := by decide +kernel
theorem d_R_run_86 : decode c_R_run 86 = .ok (.istore 4, 2) := by decide +kernel
theorem d_R_run_88 : decode c_R_run 88 = .ok (.aload_n 0, 1) := by decide +kernel
theorem d_R_run_89 : decode c_R_run 89 = .ok (.aload_n 0, 1) := by decide +kernel
theorem d_R_run_90 : decode c_R_run 90 = .ok (.getfield 26, 3) := by decide +kernel
theorem d_R_run_93 : decode c_R_run 93 = .ok (.iload 4, 2) := by decide +kernel
theorem d_R_run_95 : decode c_R_run 95 = .ok (.iaload, 1) := by decide +kernel
theorem d_R_run_96 : decode c_R_run 96 = .ok (.aload_n 0, 1) := by decide +kernel
theorem d_R_run_97 : decode c_R_run 97 = .ok (.getfield 29, 3) := by decide +kernel
theorem d_R_run_100 : decode c_R_run 100 = .ok (.iload 4, 2) := by decide +kernel
theorem d_R_run_102 : decode c_R_run 102 = .ok (.laload, 1) := by decide +kernel
theorem d_R_run_103 : decode c_R_run 103 = .ok (.iload_n 2, 1) := by decide +kernel
theorem d_R_run_104 : decode c_R_run 104 = .ok (.invokevirtual 161, 3) := by decide +kernel
theorem d_R_run_107 : decode c_R_run 107 = .ok (.aload_n 0, 1) := by decide +kernel
theorem d_R_run_108 : decode c_R_run 108 = .ok (.getfield 54, 3) := by decide +kernel
theorem d_R_run_111 : decode c_R_run 111 = .ok (.iload_n 1, 1) := by decide +kernel
theorem d_R_run_112 : decode c_R_run 112 = .ok (.aload_n 0, 1) := by decide +kernel
theorem d_R_run_113 : decode c_R_run 113 = .ok (.getfield 117, 3) := by decide +kernel
theorem d_R_run_116 : decode c_R_run 116 = .ok (.ifCond .eq 7, 3) := by decide +kernel
theorem d_R_run_119 : decode c_R_run 119 = .ok (.iconst 2, 1) := by decide +kernel
theorem d_R_run_120 : decode c_R_run 120 = .ok (.goto 23, 3) := by decide +kernel
theorem d_R_run_123 : decode c_R_run 123 = .ok (.aload_n 0, 1) := by decide +kernel
theorem d_R_run_124 : decode c_R_run 124 = .ok (.getfield 124, 3) := by decide +kernel
theorem d_R_run_127 : decode c_R_run 127 = .ok (.aload_n 0, 1) := by decide +kernel
theorem d_R_run_128 : decode c_R_run 128 = .ok (.getfield 32, 3) := by decide +kernel
theorem d_R_run_131 : decode c_R_run 131 = .ok (.iload 4, 2) := by decide +kernel
theorem d_R_run_133 : decode c_R_run 133 = .ok (.laload, 1) := by decide +kernel
theorem d_R_run_134 : decode c_R_run 134 = .ok (.lcmp, 1) := by decide +kernel
theorem d_R_run_135 : decode c_R_run 135 = .ok (.ifCond .eq 7, 3) := by decide +kernel
theorem d_R_run_138 : decode c_R_run 138 = .ok (.iconst 1, 1) := by decide +kernel
theorem d_R_run_139 : decode c_R_run 139 = .ok (.goto 4, 3) := by decide +kernel
theorem d_R_run_142 : decode c_R_run 142 = .ok (.iconst 0, 1) := by decide +kernel
theorem d_R_run_143 : decode c_R_run 143 = .ok (.iastore, 1) := by decide +kernel
theorem d_R_run_144 : decode c_R_run 144 = .ok (.aload_n 0, 1) := by decide +kernel
theorem d_R_run_145 : decode c_R_run 145 = .ok (.getfield 57, 3) := by decide +kernel
theorem d_R_run_148 : decode c_R_run 148 = .ok (.iload_n 1, 1) := by decide +kernel
theorem d_R_run_149 : decode c_R_run 149 = .ok (.aload_n 0, 1) := by decide +kernel
theorem d_R_run_150 : decode c_R_run 150 = .ok (.getfield 54, 3) := by decide +kernel
theorem d_R_run_153 : decode c_R_run 153 = .ok (.iload_n 1, 1) := by decide +kernel
theorem d_R_run_154 : decode c_R_run 154 = .ok (.iaload, 1) := by decide +kernel
theorem d_R_run_155 : decode c_R_run 155 = .ok (.ifCond .le 8, 3) := by decide +kernel
theorem d_R_run_158 : decode c_R_run 158 = .ok (.iload 4, 2) := by decide +kernel
theorem d_R_run_160 : decode c_R_run 160 = .ok (.goto 4, 3) := by decide +kernel
theorem d_R_run_163 : decode c_R_run 163 = .ok (.iconst (-1), 1) := by decide +kernel
theorem d_R_run_164 : decode c_R_run 164 = .ok (.iastore, 1) := by decide +kernel
theorem d_R_run_165 : decode c_R_run 165 = .ok (.iinc 3 1, 3) := by decide +kernel
theorem d_R_run_168 : decode c_R_run 168 = .ok (.goto (-105), 3) := by decide +kernel
theorem d_R_run_171 : decode c_R_run 171 = .ok (.aload_n 0, 1) := by decide +kernel
theorem d_R_run_172 : decode c_R_run 172 = .ok (.getfield 54, 3) := by decide +kernel
theorem d_R_run_175 : decode c_R_run 175 = .ok (.iload_n 1, 1) := by decide +kernel
theorem d_R_run_176 : decode c_R_run 176 = .ok (.iaload, 1) := by decide +kernel
theorem d_R_run_177 : decode c_R_run 177 = .ok (.ireturn, 1) := by decide +kernel
theorem d_R_layList_0 : decode c_R_layList 0 = .ok (.aload_n 0, 1) := by decide +kernel
theorem d_R_layList_1 : decode c_R_layList 1 = .ok (.iconst 0, 1) := by decide +kernel
theorem d_R_layList_2 : decode c_R_layList 2 = .ok (.putfield 203, 3) := by decide +kernel
theorem d_R_layList_5 : decode c_R_layList 5 = .ok (.aload_n 0, 1) := by decide +kernel
theorem d_R_layList_6 : decode c_R_layList 6 = .ok (.getfield 51, 3) := by decide +kernel
theorem d_R_layList_9 : decode c_R_layList 9 = .ok (.iload_n 1, 1) := by decide +kernel
theorem d_R_layList_10 : decode c_R_layList 10 = .ok (.iaload, 1) := by decide +kernel
theorem d_R_layList_11 : decode c_R_layList 11 = .ok (.istore_n 2, 1) := by decide +kernel
theorem d_R_layList_12 : decode c_R_layList 12 = .ok (.iconst 0, 1) := by decide +kernel
theorem d_R_layList_13 : decode c_R_layList 13 = .ok (.istore_n 3, 1) := by decide +kernel
theorem d_R_layList_14 : decode c_R_layList 14 = .ok (.iload_n 3, 1) := by decide +kernel
theorem d_R_layList_15 : decode c_R_layList 15 = .ok (.bipush 64, 2) := by decide +kernel
theorem d_R_layList_17 : decode c_R_layList 17 = .ok (.if_icmp .ge 101, 3) := by decide +kernel
theorem d_R_layList_20 : decode c_R_layList 20 = .ok (.iconst 0, 1) := by decide +kernel
theorem d_R_layList_21 : decode c_R_layList 21 = .ok (.istore 4, 2) := by decide +kernel
theorem d_R_layList_23 : decode c_R_layList 23 = .ok (.iload 4, 2) := by decide +kernel
theorem d_R_layList_25 : decode c_R_layList 25 = .ok (.aload_n 0, 1) := by decide +kernel
theorem d_R_layList_26 : decode c_R_layList 26 = .ok (.getfield 98, 3) := by decide +kernel
theorem d_R_layList_29 : decode c_R_layList 29 = .ok (.if_icmp .ge 83, 3) := by decide +kernel
theorem d_R_layList_32 : decode c_R_layList 32 = .ok (.aload_n 0, 1) := by decide +kernel
theorem d_R_layList_33 : decode c_R_layList 33 = .ok (.getfield 35, 3) := by decide +kernel
theorem d_R_layList_36 : decode c_R_layList 36 = .ok (.iload 4, 2) := by decide +kernel
theorem d_R_layList_38 : decode c_R_layList 38 = .ok (.iaload, 1) := by decide +kernel
theorem d_R_layList_39 : decode c_R_layList 39 = .ok (.iconst 1, 1) := by decide +kernel
theorem d_R_layList_40 : decode c_R_layList 40 = .ok (.if_icmp .ne 66, 3) := by decide +kernel
theorem d_R_layList_43 : decode c_R_layList 43 = .ok (.aload_n 0, 1) := by decide +kernel
theorem d_R_layList_44 : decode c_R_layList 44 = .ok (.getfield 41, 3) := by decide +kernel
theorem d_R_layList_47 : decode c_R_layList 47 = .ok (.bipush 64, 2) := by decide +kernel
theorem d_R_layList_49 : decode c_R_layList 49 = .ok (.iload 4, 2) := by decide +kernel
theorem d_R_layList_51 : decode c_R_layList 51 = .ok (.imul, 1) := by decide +kernel
theorem d_R_layList_52 : decode c_R_layList 52 = .ok (.iload_n 2, 1) := by decide +kernel
theorem d_R_layList_53 : decode c_R_layList 53 = .ok (.iadd, 1) := by decide +kernel
theorem d_R_layList_54 : decode c_R_layList 54 = .ok (.baload, 1) := by decide +kernel
theorem d_R_layList_55 : decode c_R_layList 55 = .ok (.ifCond .ne 6, 3) := by decide +kernel
theorem d_R_layList_58 : decode c_R_layList 58 = .ok (.goto 48, 3) := by decide +kernel
theorem d_R_layList_61 : decode c_R_layList 61 = .ok (.aload_n 0, 1) := by decide +kernel
theorem d_R_layList_62 : decode c_R_layList 62 = .ok (.aload_n 0, 1) := by decide +kernel
theorem d_R_layList_63 : decode c_R_layList 63 = .ok (.getfield 26, 3) := by decide +kernel
theorem d_R_layList_66 : decode c_R_layList 66 = .ok (.iload 4, 2) := by decide +kernel
theorem d_R_layList_68 : decode c_R_layList 68 = .ok (.iaload, 1) := by decide +kernel
theorem d_R_layList_69 : decode c_R_layList 69 = .ok (.invokevirtual 206, 3) := by decide +kernel
theorem d_R_layList_72 : decode c_R_layList 72 = .ok (.aload_n 0, 1) := by decide +kernel
theorem d_R_layList_73 : decode c_R_layList 73 = .ok (.getfield 82, 3) := by decide +kernel
theorem d_R_layList_76 : decode c_R_layList 76 = .ok (.iload_n 2, 1) := by decide +kernel
theorem d_R_layList_77 : decode c_R_layList 77 = .ok (.iaload, 1) := by decide +kernel
theorem d_R_layList_78 : decode c_R_layList 78 = .ok (.iload_n 3, 1) := by decide +kernel
theorem d_R_layList_79 : decode c_R_layList 79 = .ok (.if_icmp .eq 6, 3) := by decide +kernel
theorem d_R_layList_82 : decode c_R_layList 82 = .ok (.goto 24, 3) := by decide +kernel
theorem d_R_layList_85 : decode c_R_layList 85 = .ok (.aload_n 0, 1) := by decide +kernel
theorem d_R_layList_86 : decode c_R_layList 86 = .ok (.getfield 85, 3) := by decide +kernel
theorem d_R_layList_89 : decode c_R_layList 89 = .ok (.aload_n 0, 1) := by decide +kernel
theorem d_R_layList_90 : decode c_R_layList 90 = .ok (.getfield 203, 3) := by decide +kernel
theorem d_R_layList_93 : decode c_R_layList 93 = .ok (.iload 4, 2) := by decide +kernel
theorem d_R_layList_95 : decode c_R_layList 95 = .ok (.iastore, 1) := by decide +kernel
theorem d_R_layList_96 : decode c_R_layList 96 = .ok (.aload_n 0, 1) := by decide +kernel
theorem d_R_layList_97 : decode c_R_layList 97 = .ok (.dup, 1) := by decide +kernel
theorem d_R_layList_98 : decode c_R_layList 98 = .ok (.getfield 203, 3) := by decide +kernel
theorem d_R_layList_101 : decode c_R_layList 101 = .ok (.iconst 1, 1) := by decide +kernel
theorem d_R_layList_102 : decode c_R_layList 102 = .ok (.iadd, 1) := by decide +kernel
theorem d_R_layList_103 : decode c_R_layList 103 = .ok (.putfield 203, 3) := by decide +kernel
theorem d_R_layList_106 : decode c_R_layList 106 = .ok (.iinc 4 1, 3) := by decide +kernel
theorem d_R_layList_109 : decode c_R_layList 109 = .ok (.goto (-86), 3) := by decide +kernel
theorem d_R_layList_112 : decode c_R_layList 112 = .ok (.iinc 3 1, 3) := by decide +kernel
theorem d_R_layList_115 : decode c_R_layList 115 = .ok (.goto (-101), 3) := by decide +kernel
theorem d_R_layList_118 : decode c_R_layList 118 = .ok (.return_, 1) := by decide +kernel
theorem d_R_layFar_0 : decode c_R_layFar 0 = .ok (.iconst 0, 1) := by decide +kernel
theorem d_R_layFar_1 : decode c_R_layFar 1 = .ok (.istore_n 2, 1) := by decide +kernel
theorem d_R_layFar_2 : decode c_R_layFar 2 = .ok (.iload_n 2, 1) := by decide +kernel
theorem d_R_layFar_3 : decode c_R_layFar 3 = .ok (.bipush 64, 2) := by decide +kernel
theorem d_R_layFar_5 : decode c_R_layFar 5 = .ok (.if_icmp .ge 16, 3) := by decide +kernel
theorem d_R_layFar_8 : decode c_R_layFar 8 = .ok (.aload_n 0, 1) := by decide +kernel
theorem d_R_layFar_9 : decode c_R_layFar 9 = .ok (.getfield 82, 3) := by decide +kernel
theorem d_R_layFar_12 : decode c_R_layFar 12 = .ok (.iload_n 2, 1) := by decide +kernel
theorem d_R_layFar_13 : decode c_R_layFar 13 = .ok (.iconst (-1), 1) := by decide +kernel
theorem d_R_layFar_14 : decode c_R_layFar 14 = .ok (.iastore, 1) := by decide +kernel
theorem d_R_layFar_15 : decode c_R_layFar 15 = .ok (.iinc 2 1, 3) := by decide +kernel
theorem d_R_layFar_18 : decode c_R_layFar 18 = .ok (.goto (-16), 3) := by decide +kernel
theorem d_R_layFar_21 : decode c_R_layFar 21 = .ok (.aload_n 0, 1) := by decide +kernel
theorem d_R_layFar_22 : decode c_R_layFar 22 = .ok (.getfield 82, 3) := by decide +kernel
theorem d_R_layFar_25 : decode c_R_layFar 25 = .ok (.iload_n 1, 1) := by decide +kernel
theorem d_R_layFar_26 : decode c_R_layFar 26 = .ok (.iconst 0, 1) := by decide +kernel
theorem d_R_layFar_27 : decode c_R_layFar 27 = .ok (.iastore, 1) := by decide +kernel
theorem d_R_layFar_28 : decode c_R_layFar 28 = .ok (.iload_n 1, 1) := by decide +kernel
theorem d_R_layFar_29 : decode c_R_layFar 29 = .ok (.istore_n 2, 1) := by decide +kernel
theorem d_R_layFar_30 : decode c_R_layFar 30 = .ok (.iload_n 2, 1) := by decide +kernel
theorem d_R_layFar_31 : decode c_R_layFar 31 = .ok (.ifCond .lt 76, 3) := by decide +kernel
theorem d_R_layFar_34 : decode c_R_layFar 34 = .ok (.aload_n 0, 1) := by decide +kernel
theorem d_R_layFar_35 : decode c_R_layFar 35 = .ok (.getfield 82, 3) := by decide +kernel
theorem d_R_layFar_38 : decode c_R_layFar 38 = .ok (.iload_n 2, 1) := by decide +kernel
theorem d_R_layFar_39 : decode c_R_layFar 39 = .ok (.iaload, 1) := by decide +kernel
theorem d_R_layFar_40 : decode c_R_layFar 40 = .ok (.iconst (-1), 1) := by decide +kernel
theorem d_R_layFar_41 : decode c_R_layFar 41 = .ok (.if_icmp .ne 6, 3) := by decide +kernel
theorem d_R_layFar_44 : decode c_R_layFar 44 = .ok (.goto 57, 3) := by decide +kernel
theorem d_R_layFar_47 : decode c_R_layFar 47 = .ok (.aload_n 0, 1) := by decide +kernel
theorem d_R_layFar_48 : decode c_R_layFar 48 = .ok (.aload_n 0, 1) := by decide +kernel
theorem d_R_layFar_49 : decode c_R_layFar 49 = .ok (.getfield 17, 3) := by decide +kernel
theorem d_R_layFar_52 : decode c_R_layFar 52 = .ok (.iload_n 2, 1) := by decide +kernel
theorem d_R_layFar_53 : decode c_R_layFar 53 = .ok (.iaload, 1) := by decide +kernel
theorem d_R_layFar_54 : decode c_R_layFar 54 = .ok (.aload_n 0, 1) := by decide +kernel
theorem d_R_layFar_55 : decode c_R_layFar 55 = .ok (.getfield 82, 3) := by decide +kernel
theorem d_R_layFar_58 : decode c_R_layFar 58 = .ok (.iload_n 2, 1) := by decide +kernel
theorem d_R_layFar_59 : decode c_R_layFar 59 = .ok (.iaload, 1) := by decide +kernel
theorem d_R_layFar_60 : decode c_R_layFar 60 = .ok (.iconst 1, 1) := by decide +kernel
theorem d_R_layFar_61 : decode c_R_layFar 61 = .ok (.iadd, 1) := by decide +kernel
theorem d_R_layFar_62 : decode c_R_layFar 62 = .ok (.invokevirtual 200, 3) := by decide +kernel
theorem d_R_layFar_65 : decode c_R_layFar 65 = .ok (.aload_n 0, 1) := by decide +kernel
theorem d_R_layFar_66 : decode c_R_layFar 66 = .ok (.aload_n 0, 1) := by decide +kernel
theorem d_R_layFar_67 : decode c_R_layFar 67 = .ok (.getfield 20, 3) := by decide +kernel
theorem d_R_layFar_70 : decode c_R_layFar 70 = .ok (.iload_n 2, 1) := by decide +kernel
theorem d_R_layFar_71 : decode c_R_layFar 71 = .ok (.iaload, 1) := by decide +kernel
theorem d_R_layFar_72 : decode c_R_layFar 72 = .ok (.aload_n 0, 1) := by decide +kernel
theorem d_R_layFar_73 : decode c_R_layFar 73 = .ok (.getfield 82, 3) := by decide +kernel
theorem d_R_layFar_76 : decode c_R_layFar 76 = .ok (.iload_n 2, 1) := by decide +kernel
theorem d_R_layFar_77 : decode c_R_layFar 77 = .ok (.iaload, 1) := by decide +kernel
theorem d_R_layFar_78 : decode c_R_layFar 78 = .ok (.iconst 1, 1) := by decide +kernel
theorem d_R_layFar_79 : decode c_R_layFar 79 = .ok (.iadd, 1) := by decide +kernel
theorem d_R_layFar_80 : decode c_R_layFar 80 = .ok (.invokevirtual 200, 3) := by decide +kernel
theorem d_R_layFar_83 : decode c_R_layFar 83 = .ok (.aload_n 0, 1) := by decide +kernel
theorem d_R_layFar_84 : decode c_R_layFar 84 = .ok (.aload_n 0, 1) := by decide +kernel
theorem d_R_layFar_85 : decode c_R_layFar 85 = .ok (.getfield 23, 3) := by decide +kernel
theorem d_R_layFar_88 : decode c_R_layFar 88 = .ok (.iload_n 2, 1) := by decide +kernel
theorem d_R_layFar_89 : decode c_R_layFar 89 = .ok (.iaload, 1) := by decide +kernel
theorem d_R_layFar_90 : decode c_R_layFar 90 = .ok (.aload_n 0, 1) := by decide +kernel
theorem d_R_layFar_91 : decode c_R_layFar 91 = .ok (.getfield 82, 3) := by decide +kernel
theorem d_R_layFar_94 : decode c_R_layFar 94 = .ok (.iload_n 2, 1) := by decide +kernel
theorem d_R_layFar_95 : decode c_R_layFar 95 = .ok (.iaload, 1) := by decide +kernel
theorem d_R_layFar_96 : decode c_R_layFar 96 = .ok (.iconst 1, 1) := by decide +kernel
theorem d_R_layFar_97 : decode c_R_layFar 97 = .ok (.iadd, 1) := by decide +kernel
theorem d_R_layFar_98 : decode c_R_layFar 98 = .ok (.invokevirtual 200, 3) := by decide +kernel
theorem d_R_layFar_101 : decode c_R_layFar 101 = .ok (.iinc 2 (-1), 3) := by decide +kernel
theorem d_R_layFar_104 : decode c_R_layFar 104 = .ok (.goto (-74), 3) := by decide +kernel
theorem d_R_layFar_107 : decode c_R_layFar 107 = .ok (.return_, 1) := by decide +kernel
theorem d_R_comeTo_0 : decode c_R_comeTo 0 = .ok (.iload_n 1, 1) := by decide +kernel
theorem d_R_comeTo_1 : decode c_R_comeTo 1 = .ok (.iconst (-1), 1) := by decide +kernel
theorem d_R_comeTo_2 : decode c_R_comeTo 2 = .ok (.if_icmp .eq 30, 3) := by decide +kernel
theorem d_R_comeTo_5 : decode c_R_comeTo 5 = .ok (.aload_n 0, 1) := by decide +kernel
theorem d_R_comeTo_6 : decode c_R_comeTo 6 = .ok (.getfield 82, 3) := by decide +kernel
theorem d_R_comeTo_9 : decode c_R_comeTo 9 = .ok (.iload_n 1, 1) := by decide +kernel
theorem d_R_comeTo_10 : decode c_R_comeTo 10 = .ok (.iaload, 1) := by decide +kernel
theorem d_R_comeTo_11 : decode c_R_comeTo 11 = .ok (.iconst (-1), 1) := by decide +kernel
theorem d_R_comeTo_12 : decode c_R_comeTo 12 = .ok (.if_icmp .eq 13, 3) := by decide +kernel
theorem d_R_comeTo_15 : decode c_R_comeTo 15 = .ok (.aload_n 0, 1) := by decide +kernel
theorem d_R_comeTo_16 : decode c_R_comeTo 16 = .ok (.getfield 82, 3) := by decide +kernel
theorem d_R_comeTo_19 : decode c_R_comeTo 19 = .ok (.iload_n 1, 1) := by decide +kernel
theorem d_R_comeTo_20 : decode c_R_comeTo 20 = .ok (.iaload, 1) := by decide +kernel
theorem d_R_comeTo_21 : decode c_R_comeTo 21 = .ok (.iload_n 2, 1) := by decide +kernel
theorem d_R_comeTo_22 : decode c_R_comeTo 22 = .ok (.if_icmp .le 10, 3) := by decide +kernel
theorem d_R_comeTo_25 : decode c_R_comeTo 25 = .ok (.aload_n 0, 1) := by decide +kernel
theorem d_R_comeTo_26 : decode c_R_comeTo 26 = .ok (.getfield 82, 3) := by decide +kernel
theorem d_R_comeTo_29 : decode c_R_comeTo 29 = .ok (.iload_n 1, 1) := by decide +kernel
theorem d_R_comeTo_30 : decode c_R_comeTo 30 = .ok (.iload_n 2, 1) := by decide +kernel
theorem d_R_comeTo_31 : decode c_R_comeTo 31 = .ok (.iastore, 1) := by decide +kernel
theorem d_R_comeTo_32 : decode c_R_comeTo 32 = .ok (.return_, 1) := by decide +kernel
theorem d_R_order_0 : decode c_R_order 0 = .ok (.aload_n 0, 1) := by decide +kernel
theorem d_R_order_1 : decode c_R_order 1 = .ok (.iload_n 1, 1) := by decide +kernel
theorem d_R_order_2 : decode c_R_order 2 = .ok (.invokevirtual 194, 3) := by decide +kernel
theorem d_R_order_5 : decode c_R_order 5 = .ok (.ifCond .ne 5, 3) := by decide +kernel
theorem d_R_order_8 : decode c_R_order 8 = .ok (.iconst (-1), 1) := by decide +kernel
theorem d_R_order_9 : decode c_R_order 9 = .ok (.ireturn, 1) := by decide +kernel
theorem d_R_order_10 : decode c_R_order 10 = .ok (.aload_n 0, 1) := by decide +kernel
theorem d_R_order_11 : decode c_R_order 11 = .ok (.iload_n 1, 1) := by decide +kernel
theorem d_R_order_12 : decode c_R_order 12 = .ok (.invokevirtual 211, 3) := by decide +kernel
theorem d_R_order_15 : decode c_R_order 15 = .ok (.iload_n 2, 1) := by decide +kernel
theorem d_R_order_16 : decode c_R_order 16 = .ok (.i2l, 1) := by decide +kernel
theorem d_R_order_17 : decode c_R_order 17 = .ok (.lconst 0, 1) := by decide +kernel
theorem d_R_order_18 : decode c_R_order 18 = .ok (.aload_n 0, 1) := by decide +kernel
theorem d_R_order_19 : decode c_R_order 19 = .ok (.getfield 203, 3) := by decide +kernel
theorem d_R_order_22 : decode c_R_order 22 = .ok (.iconst 1, 1) := by decide +kernel
theorem d_R_order_23 : decode c_R_order 23 = .ok (.isub, 1) := by decide +kernel
theorem d_R_order_24 : decode c_R_order 24 = .ok (.i2l, 1) := by decide +kernel
theorem d_R_order_25 : decode c_R_order 25 = .ok (.invokestatic 94, 3) := by decide +kernel
theorem d_R_order_28 : decode c_R_order 28 = .ok (.ifCond .eq 12, 3) := by decide +kernel
theorem d_R_order_31 : decode c_R_order 31 = .ok (.aload_n 0, 1) := by decide +kernel
theorem d_R_order_32 : decode c_R_order 32 = .ok (.getfield 85, 3) := by decide +kernel
theorem d_R_order_35 : decode c_R_order 35 = .ok (.iload_n 2, 1) := by decide +kernel
theorem d_R_order_36 : decode c_R_order 36 = .ok (.iaload, 1) := by decide +kernel
theorem d_R_order_37 : decode c_R_order 37 = .ok (.goto 4, 3) := by decide +kernel
theorem d_R_order_40 : decode c_R_order 40 = .ok (.iconst (-1), 1) := by decide +kernel
theorem d_R_order_41 : decode c_R_order 41 = .ok (.ireturn, 1) := by decide +kernel
theorem d_R_distance_0 : decode c_R_distance 0 = .ok (.aload_n 0, 1) := by decide +kernel
theorem d_R_distance_1 : decode c_R_distance 1 = .ok (.iload_n 1, 1) := by decide +kernel
theorem d_R_distance_2 : decode c_R_distance 2 = .ok (.invokevirtual 169, 3) := by decide +kernel
theorem d_R_distance_5 : decode c_R_distance 5 = .ok (.ifCond .eq 12, 3) := by decide +kernel
theorem d_R_distance_8 : decode c_R_distance 8 = .ok (.aload_n 0, 1) := by decide +kernel
theorem d_R_distance_9 : decode c_R_distance 9 = .ok (.iload_n 2, 1) := by decide +kernel
theorem d_R_distance_10 : decode c_R_distance 10 = .ok (.i2l, 1) := by decide +kernel
theorem d_R_distance_11 : decode c_R_distance 11 = .ok (.invokevirtual 110, 3) := by decide +kernel
theorem d_R_distance_14 : decode c_R_distance 14 = .ok (.ifCond .ne 5, 3) := by decide +kernel
theorem d_R_distance_17 : decode c_R_distance 17 = .ok (.iconst (-1), 1) := by decide +kernel
theorem d_R_distance_18 : decode c_R_distance 18 = .ok (.ireturn, 1) := by decide +kernel
theorem d_R_distance_19 : decode c_R_distance 19 = .ok (.aload_n 0, 1) := by decide +kernel
theorem d_R_distance_20 : decode c_R_distance 20 = .ok (.aload_n 0, 1) := by decide +kernel
theorem d_R_distance_21 : decode c_R_distance 21 = .ok (.getfield 26, 3) := by decide +kernel
theorem d_R_distance_24 : decode c_R_distance 24 = .ok (.iload_n 1, 1) := by decide +kernel
theorem d_R_distance_25 : decode c_R_distance 25 = .ok (.iaload, 1) := by decide +kernel
theorem d_R_distance_26 : decode c_R_distance 26 = .ok (.invokevirtual 206, 3) := by decide +kernel
end
section
theorem d_R_distance_29 : decode c_R_distance 29 = .ok (.aload_n 0, 1) := by decide +kernel
theorem d_R_distance_30 : decode c_R_distance 30 = .ok (.getfield 82, 3) := by decide +kernel
theorem d_R_distance_33 : decode c_R_distance 33 = .ok (.iload_n 2, 1) := by decide +kernel
theorem d_R_distance_34 : decode c_R_distance 34 = .ok (.iaload, 1) := by decide +kernel
theorem d_R_distance_35 : decode c_R_distance 35 = .ok (.ireturn, 1) := by decide +kernel
theorem d_R_change_0 : decode c_R_change 0 = .ok (.aload_n 0, 1) := by decide +kernel
theorem d_R_change_1 : decode c_R_change 1 = .ok (.iload_n 1, 1) := by decide +kernel
theorem d_R_change_2 : decode c_R_change 2 = .ok (.i2l, 1) := by decide +kernel
theorem d_R_change_3 : decode c_R_change 3 = .ok (.invokevirtual 110, 3) := by decide +kernel
theorem d_R_change_6 : decode c_R_change 6 = .ok (.ifCond .eq 12, 3) := by decide +kernel
theorem d_R_change_9 : decode c_R_change 9 = .ok (.aload_n 0, 1) := by decide +kernel
theorem d_R_change_10 : decode c_R_change 10 = .ok (.getfield 7, 3) := by decide +kernel
theorem d_R_change_13 : decode c_R_change 13 = .ok (.iload_n 1, 1) := by decide +kernel
theorem d_R_change_14 : decode c_R_change 14 = .ok (.iaload, 1) := by decide +kernel
theorem d_R_change_15 : decode c_R_change 15 = .ok (.ifCond .eq 5, 3) := by decide +kernel
theorem d_R_change_18 : decode c_R_change 18 = .ok (.iconst (-1), 1) := by decide +kernel
theorem d_R_change_19 : decode c_R_change 19 = .ok (.ireturn, 1) := by decide +kernel
theorem d_R_change_20 : decode c_R_change 20 = .ok (.iconst 0, 1) := by decide +kernel
theorem d_R_change_21 : decode c_R_change 21 = .ok (.istore 4, 2) := by decide +kernel
theorem d_R_change_23 : decode c_R_change 23 = .ok (.iconst 0, 1) := by decide +kernel
theorem d_R_change_24 : decode c_R_change 24 = .ok (.istore 5, 2) := by decide +kernel
theorem d_R_change_26 : decode c_R_change 26 = .ok (.iload 5, 2) := by decide +kernel
theorem d_R_change_28 : decode c_R_change 28 = .ok (.aload_n 0, 1) := by decide +kernel
theorem d_R_change_29 : decode c_R_change 29 = .ok (.getfield 98, 3) := by decide +kernel
theorem d_R_change_32 : decode c_R_change 32 = .ok (.if_icmp .ge 30, 3) := by decide +kernel
theorem d_R_change_35 : decode c_R_change 35 = .ok (.iload 4, 2) := by decide +kernel
theorem d_R_change_37 : decode c_R_change 37 = .ok (.aload_n 0, 1) := by decide +kernel
theorem d_R_change_38 : decode c_R_change 38 = .ok (.getfield 35, 3) := by decide +kernel
theorem d_R_change_41 : decode c_R_change 41 = .ok (.iload 5, 2) := by decide +kernel
theorem d_R_change_43 : decode c_R_change 43 = .ok (.iaload, 1) := by decide +kernel
theorem d_R_change_44 : decode c_R_change 44 = .ok (.iconst 1, 1) := by decide +kernel
theorem d_R_change_45 : decode c_R_change 45 = .ok (.if_icmp .ne 7, 3) := by decide +kernel
theorem d_R_change_48 : decode c_R_change 48 = .ok (.iconst 1, 1) := by decide +kernel
theorem d_R_change_49 : decode c_R_change 49 = .ok (.goto 4, 3) := by decide +kernel
theorem d_R_change_52 : decode c_R_change 52 = .ok (.iconst 0, 1) := by decide +kernel
theorem d_R_change_53 : decode c_R_change 53 = .ok (.iadd, 1) := by decide +kernel
theorem d_R_change_54 : decode c_R_change 54 = .ok (.istore 4, 2) := by decide +kernel
theorem d_R_change_56 : decode c_R_change 56 = .ok (.iinc 5 1, 3) := by decide +kernel
theorem d_R_change_59 : decode c_R_change 59 = .ok (.goto (-33), 3) := by decide +kernel
theorem d_R_change_62 : decode c_R_change 62 = .ok (.aload_n 0, 1) := by decide +kernel
theorem d_R_change_63 : decode c_R_change 63 = .ok (.getfield 13, 3) := by decide +kernel
theorem d_R_change_66 : decode c_R_change 66 = .ok (.iload_n 1, 1) := by decide +kernel
theorem d_R_change_67 : decode c_R_change 67 = .ok (.laload, 1) := by decide +kernel
theorem d_R_change_68 : decode c_R_change 68 = .ok (.lload_n 2, 1) := by decide +kernel
theorem d_R_change_69 : decode c_R_change 69 = .ok (.lcmp, 1) := by decide +kernel
theorem d_R_change_70 : decode c_R_change 70 = .ok (.ifCond .ne 6, 3) := by decide +kernel
theorem d_R_change_73 : decode c_R_change 73 = .ok (.iload 4, 2) := by decide +kernel
theorem d_R_change_75 : decode c_R_change 75 = .ok (.ireturn, 1) := by decide +kernel
theorem d_R_change_76 : decode c_R_change 76 = .ok (.iconst 0, 1) := by decide +kernel
theorem d_R_change_77 : decode c_R_change 77 = .ok (.istore 5, 2) := by decide +kernel
theorem d_R_change_79 : decode c_R_change 79 = .ok (.iload 5, 2) := by decide +kernel
theorem d_R_change_81 : decode c_R_change 81 = .ok (.bipush 64, 2) := by decide +kernel
theorem d_R_change_83 : decode c_R_change 83 = .ok (.aload_n 0, 1) := by decide +kernel
theorem d_R_change_84 : decode c_R_change 84 = .ok (.getfield 98, 3) := by decide +kernel
theorem d_R_change_87 : decode c_R_change 87 = .ok (.imul, 1) := by decide +kernel
theorem d_R_change_88 : decode c_R_change 88 = .ok (.if_icmp .ge 23, 3) := by decide +kernel
theorem d_R_change_91 : decode c_R_change 91 = .ok (.aload_n 0, 1) := by decide +kernel
theorem d_R_change_92 : decode c_R_change 92 = .ok (.getfield 45, 3) := by decide +kernel
theorem d_R_change_95 : decode c_R_change 95 = .ok (.iload 5, 2) := by decide +kernel
theorem d_R_change_97 : decode c_R_change 97 = .ok (.aload_n 0, 1) := by decide +kernel
theorem d_R_change_98 : decode c_R_change 98 = .ok (.getfield 41, 3) := by decide +kernel
theorem d_R_change_101 : decode c_R_change 101 = .ok (.iload 5, 2) := by decide +kernel
theorem d_R_change_103 : decode c_R_change 103 = .ok (.baload, 1) := by decide +kernel
theorem d_R_change_104 : decode c_R_change 104 = .ok (.bastore, 1) := by decide +kernel
theorem d_R_change_105 : decode c_R_change 105 = .ok (.iinc 5 1, 3) := by decide +kernel
theorem d_R_change_108 : decode c_R_change 108 = .ok (.goto (-29), 3) := by decide +kernel
theorem d_R_change_111 : decode c_R_change 111 = .ok (.aload_n 0, 1) := by decide +kernel
theorem d_R_change_112 : decode c_R_change 112 = .ok (.getfield 13, 3) := by decide +kernel
theorem d_R_change_115 : decode c_R_change 115 = .ok (.iload_n 1, 1) := by decide +kernel
theorem d_R_change_116 : decode c_R_change 116 = .ok (.lload_n 2, 1) := by decide +kernel
theorem d_R_change_117 : decode c_R_change 117 = .ok (.lastore, 1) := by decide +kernel
theorem d_R_change_118 : decode c_R_change 118 = .ok (.iconst 0, 1) := by decide +kernel
theorem d_R_change_119 : decode c_R_change 119 = .ok (.istore 4, 2) := by decide +kernel
theorem d_R_change_121 : decode c_R_change 121 = .ok (.iconst 0, 1) := by decide +kernel
theorem d_R_change_122 : decode c_R_change 122 = .ok (.istore 5, 2) := by decide +kernel
theorem d_R_change_124 : decode c_R_change 124 = .ok (.iload 5, 2) := by decide +kernel
theorem d_R_change_126 : decode c_R_change 126 = .ok (.aload_n 0, 1) := by decide +kernel
theorem d_R_change_127 : decode c_R_change 127 = .ok (.getfield 98, 3) := by decide +kernel
theorem d_R_change_130 : decode c_R_change 130 = .ok (.if_icmp .ge 36, 3) := by decide +kernel
theorem d_R_change_133 : decode c_R_change 133 = .ok (.aload_n 0, 1) := by decide +kernel
theorem d_R_change_134 : decode c_R_change 134 = .ok (.iload 5, 2) := by decide +kernel
theorem d_R_change_136 : decode c_R_change 136 = .ok (.invokevirtual 165, 3) := by decide +kernel
theorem d_R_change_139 : decode c_R_change 139 = .ok (.iload 4, 2) := by decide +kernel
theorem d_R_change_141 : decode c_R_change 141 = .ok (.aload_n 0, 1) := by decide +kernel
theorem d_R_change_142 : decode c_R_change 142 = .ok (.getfield 35, 3) := by decide +kernel
theorem d_R_change_145 : decode c_R_change 145 = .ok (.iload 5, 2) := by decide +kernel
theorem d_R_change_147 : decode c_R_change 147 = .ok (.iaload, 1) := by decide +kernel
theorem d_R_change_148 : decode c_R_change 148 = .ok (.iconst 1, 1) := by decide +kernel
theorem d_R_change_149 : decode c_R_change 149 = .ok (.if_icmp .ne 7, 3) := by decide +kernel
theorem d_R_change_152 : decode c_R_change 152 = .ok (.iconst 1, 1) := by decide +kernel
theorem d_R_change_153 : decode c_R_change 153 = .ok (.goto 4, 3) := by decide +kernel
theorem d_R_change_156 : decode c_R_change 156 = .ok (.iconst 0, 1) := by decide +kernel
theorem d_R_change_157 : decode c_R_change 157 = .ok (.iadd, 1) := by decide +kernel
theorem d_R_change_158 : decode c_R_change 158 = .ok (.istore 4, 2) := by decide +kernel
theorem d_R_change_160 : decode c_R_change 160 = .ok (.iinc 5 1, 3) := by decide +kernel
theorem d_R_change_163 : decode c_R_change 163 = .ok (.goto (-39), 3) := by decide +kernel
theorem d_R_change_166 : decode c_R_change 166 = .ok (.iconst 0, 1) := by decide +kernel
theorem d_R_change_167 : decode c_R_change 167 = .ok (.istore 5, 2) := by decide +kernel
theorem d_R_change_169 : decode c_R_change 169 = .ok (.iload 5, 2) := by decide +kernel
theorem d_R_change_171 : decode c_R_change 171 = .ok (.aload_n 0, 1) := by decide +kernel
theorem d_R_change_172 : decode c_R_change 172 = .ok (.getfield 101, 3) := by decide +kernel
theorem d_R_change_175 : decode c_R_change 175 = .ok (.if_icmp .ge 43, 3) := by decide +kernel
theorem d_R_change_178 : decode c_R_change 178 = .ok (.aload_n 0, 1) := by decide +kernel
theorem d_R_change_179 : decode c_R_change 179 = .ok (.iload_n 1, 1) := by decide +kernel
theorem d_R_change_180 : decode c_R_change 180 = .ok (.aload_n 0, 1) := by decide +kernel
theorem d_R_change_181 : decode c_R_change 181 = .ok (.getfield 51, 3) := by decide +kernel
theorem d_R_change_184 : decode c_R_change 184 = .ok (.iload 5, 2) := by decide +kernel
theorem d_R_change_186 : decode c_R_change 186 = .ok (.iaload, 1) := by decide +kernel
theorem d_R_change_187 : decode c_R_change 187 = .ok (.invokevirtual 214, 3) := by decide +kernel
theorem d_R_change_190 : decode c_R_change 190 = .ok (.ifCond .ne 6, 3) := by decide +kernel
theorem d_R_change_193 : decode c_R_change 193 = .ok (.goto 19, 3) := by decide +kernel
theorem d_R_change_196 : decode c_R_change 196 = .ok (.aload_n 0, 1) := by decide +kernel
theorem d_R_change_197 : decode c_R_change 197 = .ok (.getfield 54, 3) := by decide +kernel
theorem d_R_change_200 : decode c_R_change 200 = .ok (.iload 5, 2) := by decide +kernel
theorem d_R_change_202 : decode c_R_change 202 = .ok (.iconst (-1), 1) := by decide +kernel
theorem d_R_change_203 : decode c_R_change 203 = .ok (.iastore, 1) := by decide +kernel
theorem d_R_change_204 : decode c_R_change 204 = .ok (.aload_n 0, 1) := by decide +kernel
theorem d_R_change_205 : decode c_R_change 205 = .ok (.getfield 57, 3) := by decide +kernel
theorem d_R_change_208 : decode c_R_change 208 = .ok (.iload 5, 2) := by decide +kernel
theorem d_R_change_210 : decode c_R_change 210 = .ok (.iconst (-1), 1) := by decide +kernel
theorem d_R_change_211 : decode c_R_change 211 = .ok (.iastore, 1) := by decide +kernel
theorem d_R_change_212 : decode c_R_change 212 = .ok (.iinc 5 1, 3) := by decide +kernel
theorem d_R_change_215 : decode c_R_change 215 = .ok (.goto (-46), 3) := by decide +kernel
theorem d_R_change_218 : decode c_R_change 218 = .ok (.iload 4, 2) := by decide +kernel
theorem d_R_change_220 : decode c_R_change 220 = .ok (.ireturn, 1) := by decide +kernel
theorem d_R_isTouched_0 : decode c_R_isTouched 0 = .ok (.iconst 0, 1) := by decide +kernel
theorem d_R_isTouched_1 : decode c_R_isTouched 1 = .ok (.istore_n 3, 1) := by decide +kernel
theorem d_R_isTouched_2 : decode c_R_isTouched 2 = .ok (.iload_n 3, 1) := by decide +kernel
theorem d_R_isTouched_3 : decode c_R_isTouched 3 = .ok (.aload_n 0, 1) := by decide +kernel
theorem d_R_isTouched_4 : decode c_R_isTouched 4 = .ok (.getfield 98, 3) := by decide +kernel
theorem d_R_isTouched_7 : decode c_R_isTouched 7 = .ok (.if_icmp .ge 65, 3) := by decide +kernel
theorem d_R_isTouched_10 : decode c_R_isTouched 10 = .ok (.bipush 64, 2) := by decide +kernel
theorem d_R_isTouched_12 : decode c_R_isTouched 12 = .ok (.iload_n 3, 1) := by decide +kernel
theorem d_R_isTouched_13 : decode c_R_isTouched 13 = .ok (.imul, 1) := by decide +kernel
theorem d_R_isTouched_14 : decode c_R_isTouched 14 = .ok (.istore 4, 2) := by decide +kernel
theorem d_R_isTouched_16 : decode c_R_isTouched 16 = .ok (.aload_n 0, 1) := by decide +kernel
theorem d_R_isTouched_17 : decode c_R_isTouched 17 = .ok (.getfield 41, 3) := by decide +kernel
theorem d_R_isTouched_20 : decode c_R_isTouched 20 = .ok (.iload 4, 2) := by decide +kernel
theorem d_R_isTouched_22 : decode c_R_isTouched 22 = .ok (.iload_n 1, 1) := by decide +kernel
theorem d_R_isTouched_23 : decode c_R_isTouched 23 = .ok (.iadd, 1) := by decide +kernel
theorem d_R_isTouched_24 : decode c_R_isTouched 24 = .ok (.baload, 1) := by decide +kernel
theorem d_R_isTouched_25 : decode c_R_isTouched 25 = .ok (.ifCond .ne 15, 3) := by decide +kernel
theorem d_R_isTouched_28 : decode c_R_isTouched 28 = .ok (.aload_n 0, 1) := by decide +kernel
theorem d_R_isTouched_29 : decode c_R_isTouched 29 = .ok (.getfield 45, 3) := by decide +kernel
theorem d_R_isTouched_32 : decode c_R_isTouched 32 = .ok (.iload 4, 2) := by decide +kernel
theorem d_R_isTouched_34 : decode c_R_isTouched 34 = .ok (.iload_n 1, 1) := by decide +kernel
theorem d_R_isTouched_35 : decode c_R_isTouched 35 = .ok (.iadd, 1) := by decide +kernel
theorem d_R_isTouched_36 : decode c_R_isTouched 36 = .ok (.baload, 1) := by decide +kernel
theorem d_R_isTouched_37 : decode c_R_isTouched 37 = .ok (.ifCond .eq 29, 3) := by decide +kernel
theorem d_R_isTouched_40 : decode c_R_isTouched 40 = .ok (.aload_n 0, 1) := by decide +kernel
theorem d_R_isTouched_41 : decode c_R_isTouched 41 = .ok (.getfield 41, 3) := by decide +kernel
theorem d_R_isTouched_44 : decode c_R_isTouched 44 = .ok (.iload 4, 2) := by decide +kernel
theorem d_R_isTouched_46 : decode c_R_isTouched 46 = .ok (.iload_n 2, 1) := by decide +kernel
theorem d_R_isTouched_47 : decode c_R_isTouched 47 = .ok (.iadd, 1) := by decide +kernel
theorem d_R_isTouched_48 : decode c_R_isTouched 48 = .ok (.baload, 1) := by decide +kernel
theorem d_R_isTouched_49 : decode c_R_isTouched 49 = .ok (.ifCond .ne 15, 3) := by decide +kernel
theorem d_R_isTouched_52 : decode c_R_isTouched 52 = .ok (.aload_n 0, 1) := by decide +kernel
theorem d_R_isTouched_53 : decode c_R_isTouched 53 = .ok (.getfield 45, 3) := by decide +kernel
theorem d_R_isTouched_56 : decode c_R_isTouched 56 = .ok (.iload 4, 2) := by decide +kernel
theorem d_R_isTouched_58 : decode c_R_isTouched 58 = .ok (.iload_n 2, 1) := by decide +kernel
theorem d_R_isTouched_59 : decode c_R_isTouched 59 = .ok (.iadd, 1) := by decide +kernel
theorem d_R_isTouched_60 : decode c_R_isTouched 60 = .ok (.baload, 1) := by decide +kernel
theorem d_R_isTouched_61 : decode c_R_isTouched 61 = .ok (.ifCond .eq 5, 3) := by decide +kernel
theorem d_R_isTouched_64 : decode c_R_isTouched 64 = .ok (.iconst 1, 1) := by decide +kernel
theorem d_R_isTouched_65 : decode c_R_isTouched 65 = .ok (.ireturn, 1) := by decide +kernel
theorem d_R_isTouched_66 : decode c_R_isTouched 66 = .ok (.iinc 3 1, 3) := by decide +kernel
theorem d_R_isTouched_69 : decode c_R_isTouched 69 = .ok (.goto (-67), 3) := by decide +kernel
theorem d_R_isTouched_72 : decode c_R_isTouched 72 = .ok (.iconst 0, 1) := by decide +kernel
theorem d_R_isTouched_73 : decode c_R_isTouched 73 = .ok (.ireturn, 1) := by decide +kernel
theorem d_R_sample_0 : decode c_R_sample 0 = .ok (.iload_n 3, 1) := by decide +kernel
theorem d_R_sample_1 : decode c_R_sample 1 = .ok (.i2l, 1) := by decide +kernel
theorem d_R_sample_2 : decode c_R_sample 2 = .ok (.lconst 0, 1) := by decide +kernel
theorem d_R_sample_3 : decode c_R_sample 3 = .ok (.aload_n 0, 1) := by decide +kernel
theorem d_R_sample_4 : decode c_R_sample 4 = .ok (.getfield 101, 3) := by decide +kernel
theorem d_R_sample_7 : decode c_R_sample 7 = .ok (.i2l, 1) := by decide +kernel
theorem d_R_sample_8 : decode c_R_sample 8 = .ok (.invokestatic 94, 3) := by decide +kernel
theorem d_R_sample_11 : decode c_R_sample 11 = .ok (.ifCond .ne 5, 3) := by decide +kernel
theorem d_R_sample_14 : decode c_R_sample 14 = .ok (.iconst 0, 1) := by decide +kernel
theorem d_R_sample_15 : decode c_R_sample 15 = .ok (.ireturn, 1) := by decide +kernel
theorem d_R_sample_16 : decode c_R_sample 16 = .ok (.iconst 0, 1) := by decide +kernel
theorem d_R_sample_17 : decode c_R_sample 17 = .ok (.istore 4, 2) := by decide +kernel
theorem d_R_sample_19 : decode c_R_sample 19 = .ok (.iload 4, 2) := by decide +kernel
theorem d_R_sample_21 : decode c_R_sample 21 = .ok (.aload_n 0, 1) := by decide +kernel
theorem d_R_sample_22 : decode c_R_sample 22 = .ok (.getfield 101, 3) := by decide +kernel
theorem d_R_sample_25 : decode c_R_sample 25 = .ok (.if_icmp .ge 18, 3) := by decide +kernel
theorem d_R_sample_28 : decode c_R_sample 28 = .ok (.aload_n 0, 1) := by decide +kernel
theorem d_R_sample_29 : decode c_R_sample 29 = .ok (.getfield 60, 3) := by decide +kernel
theorem d_R_sample_32 : decode c_R_sample 32 = .ok (.iload 4, 2) := by decide +kernel
theorem d_R_sample_34 : decode c_R_sample 34 = .ok (.iload 4, 2) := by decide +kernel
theorem d_R_sample_36 : decode c_R_sample 36 = .ok (.iastore, 1) := by decide +kernel
theorem d_R_sample_37 : decode c_R_sample 37 = .ok (.iinc 4 1, 3) := by decide +kernel
theorem d_R_sample_40 : decode c_R_sample 40 = .ok (.goto (-21), 3) := by decide +kernel
theorem d_R_sample_43 : decode c_R_sample 43 = .ok (.lload_n 1, 1) := by decide +kernel
theorem d_R_sample_44 : decode c_R_sample 44 = .ok (.lstore 4, 2) := by decide +kernel
theorem d_R_sample_46 : decode c_R_sample 46 = .ok (.iconst 0, 1) := by decide +kernel
theorem d_R_sample_47 : decode c_R_sample 47 = .ok (.istore 6, 2) := by decide +kernel
theorem d_R_sample_49 : decode c_R_sample 49 = .ok (.iload 6, 2) := by decide +kernel
theorem d_R_sample_51 : decode c_R_sample 51 = .ok (.iload_n 3, 1) := by decide +kernel
theorem d_R_sample_52 : decode c_R_sample 52 = .ok (.if_icmp .ge 73, 3) := by decide +kernel
theorem d_R_sample_55 : decode c_R_sample 55 = .ok (.lload 4, 2) := by decide +kernel
theorem d_R_sample_57 : decode c_R_sample 57 = .ok (.ldc2_w 217, 3) := by decide +kernel
theorem d_R_sample_60 : decode c_R_sample 60 = .ok (.lmul, 1) := by decide +kernel
theorem d_R_sample_61 : decode c_R_sample 61 = .ok (.ldc2_w 219, 3) := by decide +kernel
theorem d_R_sample_64 : decode c_R_sample 64 = .ok (.ladd, 1) := by decide +kernel
theorem d_R_sample_65 : decode c_R_sample 65 = .ok (.lstore 4, 2) := by decide +kernel
theorem d_R_sample_67 : decode c_R_sample 67 = .ok (.iload 6, 2) := by decide +kernel
theorem d_R_sample_69 : decode c_R_sample 69 = .ok (.lload 4, 2) := by decide +kernel
theorem d_R_sample_71 : decode c_R_sample 71 = .ok (.bipush 33, 2) := by decide +kernel
theorem d_R_sample_73 : decode c_R_sample 73 = .ok (.lushr, 1) := by decide +kernel
theorem d_R_sample_74 : decode c_R_sample 74 = .ok (.aload_n 0, 1) := by decide +kernel
theorem d_R_sample_75 : decode c_R_sample 75 = .ok (.getfield 101, 3) := by decide +kernel
theorem d_R_sample_78 : decode c_R_sample 78 = .ok (.iload 6, 2) := by decide +kernel
theorem d_R_sample_80 : decode c_R_sample 80 = .ok (.isub, 1) := by decide +kernel
theorem d_R_sample_81 : decode c_R_sample 81 = .ok (.i2l, 1) := by decide +kernel
theorem d_R_sample_82 : decode c_R_sample 82 = .ok (.lrem, 1) := by decide +kernel
theorem d_R_sample_83 : decode c_R_sample 83 = .ok (.l2i, 1) := by decide +kernel
theorem d_R_sample_84 : decode c_R_sample 84 = .ok (.iadd, 1) := by decide +kernel
theorem d_R_sample_85 : decode c_R_sample 85 = .ok (.istore 7, 2) := by decide +kernel
theorem d_R_sample_87 : decode c_R_sample 87 = .ok (.aload_n 0, 1) := by decide +kernel
theorem d_R_sample_88 : decode c_R_sample 88 = .ok (.getfield 60, 3) := by decide +kernel
theorem d_R_sample_91 : decode c_R_sample 91 = .ok (.iload 6, 2) := by decide +kernel
theorem d_R_sample_93 : decode c_R_sample 93 = .ok (.iaload, 1) := by decide +kernel
theorem d_R_sample_94 : decode c_R_sample 94 = .ok (.istore 8, 2) := by decide +kernel
theorem d_R_sample_96 : decode c_R_sample 96 = .ok (.aload_n 0, 1) := by decide +kernel
theorem d_R_sample_97 : decode c_R_sample 97 = .ok (.getfield 60, 3) := by decide +kernel
theorem d_R_sample_100 : decode c_R_sample 100 = .ok (.iload 6, 2) := by decide +kernel
theorem d_R_sample_102 : decode c_R_sample 102 = .ok (.aload_n 0, 1) := by decide +kernel
theorem d_R_sample_103 : decode c_R_sample 103 = .ok (.getfield 60, 3) := by decide +kernel
theorem d_R_sample_106 : decode c_R_sample 106 = .ok (.iload 7, 2) := by decide +kernel
theorem d_R_sample_108 : decode c_R_sample 108 = .ok (.iaload, 1) := by decide +kernel
theorem d_R_sample_109 : decode c_R_sample 109 = .ok (.iastore, 1) := by decide +kernel
theorem d_R_sample_110 : decode c_R_sample 110 = .ok (.aload_n 0, 1) := by decide +kernel
theorem d_R_sample_111 : decode c_R_sample 111 = .ok (.getfield 60, 3) := by decide +kernel
theorem d_R_sample_114 : decode c_R_sample 114 = .ok (.iload 7, 2) := by decide +kernel
theorem d_R_sample_116 : decode c_R_sample 116 = .ok (.iload 8, 2) := by decide +kernel
theorem d_R_sample_118 : decode c_R_sample 118 = .ok (.iastore, 1) := by decide +kernel
theorem d_R_sample_119 : decode c_R_sample 119 = .ok (.iinc 6 1, 3) := by decide +kernel
theorem d_R_sample_122 : decode c_R_sample 122 = .ok (.goto (-73), 3) := by decide +kernel
theorem d_R_sample_125 : decode c_R_sample 125 = .ok (.aload_n 0, 1) := by decide +kernel
theorem d_R_sample_126 : decode c_R_sample 126 = .ok (.iload_n 3, 1) := by decide +kernel
theorem d_R_sample_127 : decode c_R_sample 127 = .ok (.putfield 221, 3) := by decide +kernel
theorem d_R_sample_130 : decode c_R_sample 130 = .ok (.iconst 1, 1) := by decide +kernel
theorem d_R_sample_131 : decode c_R_sample 131 = .ok (.ireturn, 1) := by decide +kernel
theorem d_R_sampled_0 : decode c_R_sampled 0 = .ok (.iload_n 1, 1) := by decide +kernel
theorem d_R_sampled_1 : decode c_R_sampled 1 = .ok (.i2l, 1) := by decide +kernel
theorem d_R_sampled_2 : decode c_R_sampled 2 = .ok (.lconst 0, 1) := by decide +kernel
theorem d_R_sampled_3 : decode c_R_sampled 3 = .ok (.aload_n 0, 1) := by decide +kernel
theorem d_R_sampled_4 : decode c_R_sampled 4 = .ok (.getfield 221, 3) := by decide +kernel
theorem d_R_sampled_7 : decode c_R_sampled 7 = .ok (.iconst 1, 1) := by decide +kernel
theorem d_R_sampled_8 : decode c_R_sampled 8 = .ok (.isub, 1) := by decide +kernel
theorem d_R_sampled_9 : decode c_R_sampled 9 = .ok (.i2l, 1) := by decide +kernel
theorem d_R_sampled_10 : decode c_R_sampled 10 = .ok (.invokestatic 94, 3) := by decide +kernel
theorem d_R_sampled_13 : decode c_R_sampled 13 = .ok (.ifCond .eq 12, 3) := by decide +kernel
theorem d_R_sampled_16 : decode c_R_sampled 16 = .ok (.aload_n 0, 1) := by decide +kernel
theorem d_R_sampled_17 : decode c_R_sampled 17 = .ok (.getfield 60, 3) := by decide +kernel
theorem d_R_sampled_20 : decode c_R_sampled 20 = .ok (.iload_n 1, 1) := by decide +kernel
theorem d_R_sampled_21 : decode c_R_sampled 21 = .ok (.iaload, 1) := by decide +kernel
theorem d_R_sampled_22 : decode c_R_sampled 22 = .ok (.goto 4, 3) := by decide +kernel
theorem d_R_sampled_25 : decode c_R_sampled 25 = .ok (.iconst (-1), 1) := by decide +kernel
theorem d_R_sampled_26 : decode c_R_sampled 26 = .ok (.ireturn, 1) := by decide +kernel
theorem d_R_score_0 : decode c_R_score 0 = .ok (.iload_n 1, 1) := by decide +kernel
theorem d_R_score_1 : decode c_R_score 1 = .ok (.i2l, 1) := by decide +kernel
theorem d_R_score_2 : decode c_R_score 2 = .ok (.ldc2_w 224, 3) := by decide +kernel
theorem d_R_score_5 : decode c_R_score 5 = .ok (.ldc2_w 173, 3) := by decide +kernel
theorem d_R_score_8 : decode c_R_score 8 = .ok (.invokestatic 94, 3) := by decide +kernel
theorem d_R_score_11 : decode c_R_score 11 = .ok (.ifCond .eq 15, 3) := by decide +kernel
theorem d_R_score_14 : decode c_R_score 14 = .ok (.iload_n 2, 1) := by decide +kernel
theorem d_R_score_15 : decode c_R_score 15 = .ok (.i2l, 1) := by decide +kernel
theorem d_R_score_16 : decode c_R_score 16 = .ok (.lconst 0, 1) := by decide +kernel
theorem d_R_score_17 : decode c_R_score 17 = .ok (.ldc2_w 226, 3) := by decide +kernel
theorem d_R_score_20 : decode c_R_score 20 = .ok (.invokestatic 94, 3) := by decide +kernel
theorem d_R_score_23 : decode c_R_score 23 = .ok (.ifCond .ne 5, 3) := by decide +kernel
theorem d_R_score_26 : decode c_R_score 26 = .ok (.iconst (-1), 1) := by decide +kernel
theorem d_R_score_27 : decode c_R_score 27 = .ok (.ireturn, 1) := by decide +kernel
theorem d_R_score_28 : decode c_R_score 28 = .ok (.iconst 0, 1) := by decide +kernel
theorem d_R_score_29 : decode c_R_score 29 = .ok (.istore_n 3, 1) := by decide +kernel
theorem d_R_score_30 : decode c_R_score 30 = .ok (.iconst 0, 1) := by decide +kernel
theorem d_R_score_31 : decode c_R_score 31 = .ok (.istore 4, 2) := by decide +kernel
theorem d_R_score_33 : decode c_R_score 33 = .ok (.iload 4, 2) := by decide +kernel
theorem d_R_score_35 : decode c_R_score 35 = .ok (.aload_n 0, 1) := by decide +kernel
theorem d_R_score_36 : decode c_R_score 36 = .ok (.getfield 101, 3) := by decide +kernel
theorem d_R_score_39 : decode c_R_score 39 = .ok (.if_icmp .ge 113, 3) := by decide +kernel
theorem d_R_score_42 : decode c_R_score 42 = .ok (.iload_n 1, 1) := by decide +kernel
theorem d_R_score_43 : decode c_R_score 43 = .ok (.iconst (-1), 1) := by decide +kernel
theorem d_R_score_44 : decode c_R_score 44 = .ok (.if_icmp .eq 17, 3) := by decide +kernel
theorem d_R_score_47 : decode c_R_score 47 = .ok (.aload_n 0, 1) := by decide +kernel
theorem d_R_score_48 : decode c_R_score 48 = .ok (.getfield 48, 3) := by decide +kernel
theorem d_R_score_51 : decode c_R_score 51 = .ok (.iload 4, 2) := by decide +kernel
theorem d_R_score_53 : decode c_R_score 53 = .ok (.iaload, 1) := by decide +kernel
theorem d_R_score_54 : decode c_R_score 54 = .ok (.iload_n 1, 1) := by decide +kernel
theorem d_R_score_55 : decode c_R_score 55 = .ok (.if_icmp .eq 6, 3) := by decide +kernel
theorem d_R_score_58 : decode c_R_score 58 = .ok (.goto 88, 3) := by decide +kernel
theorem d_R_score_61 : decode c_R_score 61 = .ok (.iload_n 2, 1) := by decide +kernel
theorem d_R_score_62 : decode c_R_score 62 = .ok (.ifCond .ne 21, 3) := by decide +kernel
theorem d_R_score_65 : decode c_R_score 65 = .ok (.aload_n 0, 1) := by decide +kernel
theorem d_R_score_66 : decode c_R_score 66 = .ok (.getfield 54, 3) := by decide +kernel
theorem d_R_score_69 : decode c_R_score 69 = .ok (.iload 4, 2) := by decide +kernel
theorem d_R_score_71 : decode c_R_score 71 = .ok (.iaload, 1) := by decide +kernel
theorem d_R_score_72 : decode c_R_score 72 = .ok (.ifCond .le 7, 3) := by decide +kernel
theorem d_R_score_75 : decode c_R_score 75 = .ok (.iconst 1, 1) := by decide +kernel
theorem d_R_score_76 : decode c_R_score 76 = .ok (.goto 55, 3) := by decide +kernel
theorem d_R_score_79 : decode c_R_score 79 = .ok (.iconst 0, 1) := by decide +kernel
theorem d_R_score_80 : decode c_R_score 80 = .ok (.goto 51, 3) := by decide +kernel
theorem d_R_score_83 : decode c_R_score 83 = .ok (.iload_n 2, 1) := by decide +kernel
theorem d_R_score_84 : decode c_R_score 84 = .ok (.iconst 1, 1) := by decide +kernel
theorem d_R_score_85 : decode c_R_score 85 = .ok (.if_icmp .ne 22, 3) := by decide +kernel
theorem d_R_score_88 : decode c_R_score 88 = .ok (.aload_n 0, 1) := by decide +kernel
theorem d_R_score_89 : decode c_R_score 89 = .ok (.getfield 54, 3) := by decide +kernel
theorem d_R_score_92 : decode c_R_score 92 = .ok (.iload 4, 2) := by decide +kernel
theorem d_R_score_94 : decode c_R_score 94 = .ok (.iaload, 1) := by decide +kernel
theorem d_R_score_95 : decode c_R_score 95 = .ok (.iconst (-1), 1) := by decide +kernel
theorem d_R_score_96 : decode c_R_score 96 = .ok (.if_icmp .eq 7, 3) := by decide +kernel
theorem d_R_score_99 : decode c_R_score 99 = .ok (.iconst 1, 1) := by decide +kernel
theorem d_R_score_100 : decode c_R_score 100 = .ok (.goto 31, 3) := by decide +kernel
theorem d_R_score_103 : decode c_R_score 103 = .ok (.iconst 0, 1) := by decide +kernel
theorem d_R_score_104 : decode c_R_score 104 = .ok (.goto 27, 3) := by decide +kernel
theorem d_R_score_107 : decode c_R_score 107 = .ok (.aload_n 0, 1) := by decide +kernel
theorem d_R_score_108 : decode c_R_score 108 = .ok (.getfield 54, 3) := by decide +kernel
theorem d_R_score_111 : decode c_R_score 111 = .ok (.iload 4, 2) := by decide +kernel
theorem d_R_score_113 : decode c_R_score 113 = .ok (.iaload, 1) := by decide +kernel
theorem d_R_score_114 : decode c_R_score 114 = .ok (.ifCond .ne 16, 3) := by decide +kernel
theorem d_R_score_117 : decode c_R_score 117 = .ok (.aload_n 0, 1) := by decide +kernel
theorem d_R_score_118 : decode c_R_score 118 = .ok (.iload 4, 2) := by decide +kernel
theorem d_R_score_120 : decode c_R_score 120 = .ok (.invokevirtual 197, 3) := by decide +kernel
theorem d_R_score_123 : decode c_R_score 123 = .ok (.ifCond .ne 7, 3) := by decide +kernel
theorem d_R_score_126 : decode c_R_score 126 = .ok (.iconst 1, 1) := by decide +kernel
theorem d_R_score_127 : decode c_R_score 127 = .ok (.goto 4, 3) := by decide +kernel
theorem d_R_score_130 : decode c_R_score 130 = .ok (.iconst 0, 1) := by decide +kernel
theorem d_R_score_131 : decode c_R_score 131 = .ok (.istore 5, 2) := by decide +kernel
theorem d_R_score_133 : decode c_R_score 133 = .ok (.iload_n 3, 1) := by decide +kernel
theorem d_R_score_134 : decode c_R_score 134 = .ok (.iload 5, 2) := by decide +kernel
theorem d_R_score_136 : decode c_R_score 136 = .ok (.ifCond .eq 7, 3) := by decide +kernel
theorem d_R_score_139 : decode c_R_score 139 = .ok (.iconst 1, 1) := by decide +kernel
theorem d_R_score_140 : decode c_R_score 140 = .ok (.goto 4, 3) := by decide +kernel
theorem d_R_score_143 : decode c_R_score 143 = .ok (.iconst 0, 1) := by decide +kernel
theorem d_R_score_144 : decode c_R_score 144 = .ok (.iadd, 1) := by decide +kernel
theorem d_R_score_145 : decode c_R_score 145 = .ok (.istore_n 3, 1) := by decide +kernel
theorem d_R_score_146 : decode c_R_score 146 = .ok (.iinc 4 1, 3) := by decide +kernel
theorem d_R_score_149 : decode c_R_score 149 = .ok (.goto (-116), 3) := by decide +kernel
theorem d_R_score_152 : decode c_R_score 152 = .ok (.iload_n 3, 1) := by decide +kernel
theorem d_R_score_153 : decode c_R_score 153 = .ok (.ireturn, 1) := by decide +kernel
theorem d_R_miss_0 : decode c_R_miss 0 = .ok (.iload_n 1, 1) := by decide +kernel
theorem d_R_miss_1 : decode c_R_miss 1 = .ok (.istore_n 2, 1) := by decide +kernel
theorem d_R_miss_2 : decode c_R_miss 2 = .ok (.iconst 0, 1) := by decide +kernel
theorem d_R_miss_3 : decode c_R_miss 3 = .ok (.istore_n 3, 1) := by decide +kernel
theorem d_R_miss_4 : decode c_R_miss 4 = .ok (.iload_n 3, 1) := by decide +kernel
theorem d_R_miss_5 : decode c_R_miss 5 = .ok (.aload_n 0, 1) := by decide +kernel
theorem d_R_miss_6 : decode c_R_miss 6 = .ok (.getfield 101, 3) := by decide +kernel
theorem d_R_miss_9 : decode c_R_miss 9 = .ok (.if_icmp .ge 42, 3) := by decide +kernel
theorem d_R_miss_12 : decode c_R_miss 12 = .ok (.iload_n 2, 1) := by decide +kernel
theorem d_R_miss_13 : decode c_R_miss 13 = .ok (.ifCond .lt 38, 3) := by decide +kernel
theorem d_R_miss_16 : decode c_R_miss 16 = .ok (.aload_n 0, 1) := by decide +kernel
theorem d_R_miss_17 : decode c_R_miss 17 = .ok (.getfield 54, 3) := by decide +kernel
theorem d_R_miss_20 : decode c_R_miss 20 = .ok (.iload_n 3, 1) := by decide +kernel
theorem d_R_miss_21 : decode c_R_miss 21 = .ok (.iaload, 1) := by decide +kernel
theorem d_R_miss_22 : decode c_R_miss 22 = .ok (.ifCond .ne 23, 3) := by decide +kernel
theorem d_R_miss_25 : decode c_R_miss 25 = .ok (.aload_n 0, 1) := by decide +kernel
theorem d_R_miss_26 : decode c_R_miss 26 = .ok (.iload_n 3, 1) := by decide +kernel
theorem d_R_miss_27 : decode c_R_miss 27 = .ok (.invokevirtual 197, 3) := by decide +kernel
theorem d_R_miss_30 : decode c_R_miss 30 = .ok (.ifCond .eq 6, 3) := by decide +kernel
theorem d_R_miss_33 : decode c_R_miss 33 = .ok (.goto 12, 3) := by decide +kernel
theorem d_R_miss_36 : decode c_R_miss 36 = .ok (.iload_n 2, 1) := by decide +kernel
theorem d_R_miss_37 : decode c_R_miss 37 = .ok (.ifCond .ne 5, 3) := by decide +kernel
theorem d_R_miss_40 : decode c_R_miss 40 = .ok (.iload_n 3, 1) := by decide +kernel
theorem d_R_miss_41 : decode c_R_miss 41 = .ok (.ireturn, 1) := by decide +kernel
theorem d_R_miss_42 : decode c_R_miss 42 = .ok (.iinc 2 (-1), 3) := by decide +kernel
theorem d_R_miss_45 : decode c_R_miss 45 = .ok (.iinc 3 1, 3) := by decide +kernel
theorem d_R_miss_48 : decode c_R_miss 48 = .ok (.goto (-44), 3) := by decide +kernel
theorem d_R_miss_51 : decode c_R_miss 51 = .ok (.iconst (-1), 1) := by decide +kernel
theorem d_R_miss_52 : decode c_R_miss 52 = .ok (.ireturn, 1) := by decide +kernel
end
section
/-! The pure words that decompiled methods are written in, and the judgements over a world of cells that stays at its places. -/
def nx {α β : Type} (x : α) (k : α → Option β) : Option β := k x
theorem nx_k {α β : Type} {x y : α} {k : α → Option β} {r : Option β} (e : y = x) (h : nx x k = r) : k y = r := by
  subst e; exact h
def bd {α σ β : Type} (x : Option (α × σ)) (k : α → σ → Option β) : Option β := match x with
  | none => none
  | some q => k q.1 q.2
theorem bd_some {α σ β : Type} {x : Option (α × σ)} {k : α → σ → Option β} {r : β} (h : bd x k = some r) : ∃ a s, x = some (a, s) ∧ k a s = some r := by
  cases x with
  | none => cases h
  | some q => exact ⟨q.1, q.2, rfl, h⟩
def ck {β : Type} (i : Int32) (n : Nat) (k : Option β) : Option β := if i < 0 ∨ n ≤ i.toNatClampNeg then none else k
theorem ck_some {β : Type} {i : Int32} {n : Nat} {k : Option β} {r : β} (h : ck i n k = some r) : vp_in i n ∧ k = some r := by
  unfold ck at h
  split at h
  · cases h
  · rename_i g
    exact ⟨g, h⟩
theorem ck_in {β : Type} {i : Int32} {n : Nat} {k : Option β} (h : vp_in i n) : ck i n k = k := if_neg h
def zr {σ : Type} (v : Int32) (s : σ) : Option (Int32 × σ) := if v = 0 ∨ v = 1 then some (v, s) else none
theorem zr_some {σ : Type} {v : Int32} {s : σ} {r : Int32 × σ} (h : zr v s = some r) : (v = 0 ∨ v = 1) ∧ some (v, s) = some r := by
  unfold zr at h
  split at h
  · rename_i g
    exact ⟨g, h⟩
  · cases h
theorem zr_nar {v : Int32} (h : v = 0 ∨ v = 1) : narrow .boolean (.int v) = .int v := by
  rcases h with rfl | rfl <;> decide
theorem zr_fit {v : Int32} (h : v = 0 ∨ v = 1) : fits .boolean (.int v) = true := by
  rcases h with rfl | rfl <;> decide
def dvi {β : Type} (y : Int32) (k : Option β) : Option β := if y = 0 then none else k
theorem dvi_some {β : Type} {y : Int32} {k : Option β} {r : β} (h : dvi y k = some r) : ¬ y = 0 ∧ k = some r := by
  unfold dvi at h
  split at h
  · cases h
  · rename_i g
    exact ⟨g, h⟩
def dvl {β : Type} (y : Int64) (k : Option β) : Option β := if y = 0 then none else k
theorem dvl_some {β : Type} {y : Int64} {k : Option β} {r : β} (h : dvl y k = some r) : ¬ y = 0 ∧ k = some r := by
  unfold dvl at h
  split at h
  · cases h
  · rename_i g
    exact ⟨g, h⟩
theorem ifp {c : Prop} [Decidable c] {α : Type} {a b x : α} (hc : c) (h : (if c then a else b) = x) : a = x := by rwa [if_pos hc] at h
theorem ifn {c : Prop} [Decidable c] {α : Type} {a b x : α} (hc : ¬ c) (h : (if c then a else b) = x) : b = x := by rwa [if_neg hc] at h
theorem ne_ti {x k : Int32} {z : Int} (hz : k.toInt = z) (h : ¬ x = k) : x.toInt ≠ z := fun e => h (Int32.toInt_inj.mp (e.trans hz.symm))
/-- more turns than any loop here takes -/
def FU : Nat := 8000
/-- a world of cells ws in the heap H, since H0 nothing outside A0 changed -/
def IW (D : va_G) (ws : va_W) (A0 : Nat → Prop) (H0 H : Heap) (locs : List Loc) : Prop := va_P D vwCl ws H ∧ va_D A0 ws ∧ va_S A0 H0 H locs
/-- the links among nest mates, which stand beside the words -/
def NW (U : State) : Prop := va_Nw (.methodLinkNest R_K 46 y_M_bit R_M) U ∧ va_Nw (.methodLinkNest R_N 36 y_M_bit R_M) U ∧ va_Nw (.methodLinkNest R_U 44 y_M_bit R_M) U
theorem NW.warm {s U : State} (hW : s.WarmedH U.vm) (h : NW s) : NW U := ⟨va_Nw.warmM hW h.1, va_Nw.warmM hW h.2.1, va_Nw.warmM hW h.2.2⟩
theorem NW.same {u U : State} (e : u.vm = U.vm) (h : NW u) : NW U := ⟨va_Nw.same rfl e h.1, va_Nw.same rfl e h.2.1, va_Nw.same rfl e h.2.2⟩
/-- what stays the same in a method's body -/
def EC (own : String) (cc : ByteArray) (nL : Nat) (p : Program) (s : State) (m : MethodId) (args : Array Value) (c : Code) (D : va_G) (tys : List (ClassId × FieldType)) : Prop :=
  p.tables.exec = Jvm.exec ∧ c.code = cc ∧ c.maxLocals = nL ∧ s.vm.findClass own = some m.cls ∧ (∀ w ∈ TB, w.before args s = true) ∧ va_K D vwCl tys s ∧ NW s
def PW (D : va_G) (tys : List (ClassId × FieldType)) (ws : va_W) (sz : Nat) (U : State) : Prop := U.heap.size = sz ∧ va_P D vwCl ws U.heap ∧ va_K D vwCl tys U ∧ va_D (fun _ => True) ws ∧ NW U
def QW (D : va_G) (tys : List (ClassId × FieldType)) (ws ws' : va_W) (sz : Nat) (rv : Option Value) (_ : Array Value) (st : State) (o : Outcome) (t : State) : Prop :=
  o = .returned rv ∧ va_P D vwCl ws' t.heap ∧ va_K D vwCl tys t ∧ va_D (va_A ws sz) ws' ∧ va_F (va_A ws sz) st t
/-- a method's contract: from the world ws to the world ws', with the answer rv; it makes no cells -/
def Cn (l : Launch) (y : MethodName) (cd : ByteArray) (nL : Nat) (ret : Option FieldType) (rm : Room) (D : va_G) (tys : List (ClassId × FieldType)) (ws ws' : va_W) (As : List Value) (rv : Option Value) : Prop :=
  ∀ sz : Nat, Met l y (Cond.code y cd nL ret :: TB) rm (va_Pc As (PW D tys ws sz)) (QW D tys ws ws' sz rv) 0 0 (va_A ws sz)
theorem PW_blind {D : va_G} {tys : List (ClassId × FieldType)} {ws : va_W} {sz : Nat} {As : List Value} : FrameBlind (va_Pc As (PW D tys ws sz)) := by
  intro a U g mk q
  obtain ⟨q0, q1, qP, qK, qD, qN⟩ := q
  exact ⟨q0, q1, qP, va_K.moved (u := U) (U := U.calling g mk a) (Vm.Alike.refl U.vm) qK, qD, NW.same (u := U) rfl qN⟩
section BASE
variable {p : Program} {l : Launch} {e : Env} {R : Room} {s : State} {m : MethodId} {args : Array Value} {below : List Frame} {meth : Method} {c : Code} {H H0 : Heap} {locs : List Loc} {Q : State → Prop} {D : va_G} {tys : List (ClassId × FieldType)} {ws ws' : va_W} {A0 : Nat → Prop}
theorem iw_free (I : IW D ws A0 H0 H locs) (hA : ∀ q, H0.size ≤ q → A0 q) : ∀ q, va_A ws H.size q → A0 q := by
  intro q h
  rcases h with ⟨k, e, h⟩ | h
  · exact I.2.1.2 k (q, e) h
  · exact hA q (Nat.le_trans I.2.2.1 h)
theorem iw_call {cells slots pc : Nat} {ls : Array Slot} {st0 rest : List Value} {rv : Option Value} {a : Array Value} (I : IW D ws A0 H0 H locs) (hA : ∀ q, H0.size ≤ q → A0 q)
    (hr : va_Run p l e R s m args below meth c H locs cells slots 0 0 (F0 m pc ls st0) rest (QW D tys ws ws' H.size rv a) (va_A ws H.size))
    (kk : ∀ (H1 : Heap) (locs1 : List Loc), IW D ws' A0 H0 H1 locs1 → W p l e R s m args below meth c H1 locs1 cells slots Q (F0 m (pc + 3) ls (rv.toList ++ rest))) : W p l e R s m args below meth c H locs cells slots Q (F0 m pc ls st0) := by
  intro T hT X
  have hF := iw_free I hA
  obtain ⟨v, st₀, t, T', L, h0, X', hL, e1, e2, ⟨hv, hP', -, hD', hz, hk⟩, st⟩ := hr T hT X
  cases hv
  rw [h0] at hz hk
  obtain ⟨hP, hD, hS⟩ := I
  obtain ⟨t2, a1, b1⟩ := kk T'.heap (locs ++ L) ⟨by rw [e1]; exact hP', hD'.weaken (fun k q _ h => hF q.1 h), Nat.le_trans hS.1 (by rw [e1]; exact hz), fun q h1 h2 => by
      rw [e1, hk q (Nat.lt_of_lt_of_le h1 hS.1) (fun z => h2 (hF q z))]; exact hS.2.1 q h1 h2, fun q hq => by
      rcases List.mem_append.mp hq with h | h
      · exact hS.2.2 q h
      · exact hF _ (hL q h)⟩ T' rfl X'
  exact ⟨t2, st t2 a1, b1⟩
theorem tb_good : ∀ w ∈ TB, (w.onTables && w.keeps) = true ∨ ∃ ty, w = .arrayClass ty := fun w hw => good_of_word (List.mem_filter.mp hw).2
theorem gi_code {y : MethodName} {cd : ByteArray} {nL : Nat} {ret : Option FieldType} (hc : Cond.code y cd nL ret ∈ TB) : GoodIn TB (Cond.code y cd nL ret :: TB) := by
  intro w hw
  rcases List.mem_cons.mp hw with rfl | h
  · exact ⟨hc, tb_good _ hc⟩
  · exact ⟨h, tb_good _ h⟩
/-- the words of a call of an instance method -/
def gV (own : String) (idx : Nat) (y : MethodName) (cd : ByteArray) (nL : Nat) (ret : Option FieldType) (n : Nat) : Prop :=
  (Cond.methodLink own idx y ∈ TB ∧ Cond.instanceMethod y ∈ TB ∧ Cond.selects y.cls y y ∈ TB ∧ Cond.initialized y.cls ∈ TB ∧ Cond.code y cd nL ret ∈ TB) ∧ (y.cls ≠ "java/lang/invoke/MethodHandle" ∧ y.cls ≠ "java/lang/invoke/VarHandle" ∧ (parseMethodDescriptor y.desc).map (fun d => d.parameters.length) = some n)
def gS (own : String) (idx : Nat) (y : MethodName) (cd : ByteArray) (nL : Nat) (ret : Option FieldType) (n : Nat) : Prop :=
  (Cond.methodLink own idx y ∈ TB ∧ Cond.static y ∈ TB ∧ Cond.initialized y.cls ∈ TB ∧ Cond.code y cd nL ret ∈ TB) ∧ (y.cls ≠ "java/lang/invoke/MethodHandle" ∧ y.cls ≠ "java/lang/invoke/VarHandle" ∧ (parseMethodDescriptor y.desc).map (fun d => d.parameters.length) = some n)
def gSN (own : String) (idx : Nat) (y : MethodName) (host : String) (cd : ByteArray) (nL : Nat) (ret : Option FieldType) (n : Nat) : Prop :=
  ((∀ U : State, NW U → va_Nw (.methodLinkNest own idx y host) U) ∧ Cond.static y ∈ TB ∧ Cond.initialized y.cls ∈ TB ∧ Cond.code y cd nL ret ∈ TB) ∧ (y.cls ≠ "java/lang/invoke/MethodHandle" ∧ y.cls ≠ "java/lang/invoke/VarHandle" ∧ (parseMethodDescriptor y.desc).map (fun d => d.parameters.length) = some n)
variable {own : String} {cc cd : ByteArray} {nL mL idx n pc cells slots : Nat} {y : MethodName} {ret : Option FieldType} {rm : Room} {As rest st0 : List Value} {rv : Option Value} {ls : Array Slot} {b : Nat} {lvs : List (Nat × Value)}
theorem cV (E : EC own cc nL p s m args c D tys) (I : IW D ws A0 H0 H locs) (hA : ∀ q, H0.size ≤ q → A0 q) (hM : Cn l y cd mL ret rm D tys ws ws' (.ref b :: As) rv) (g : gV own idx y cd mL ret n) (hm : rm.cells = 0 ∧ rm.slots = 0)
    (k : Nat) {ci : Nat} {fs : List Value} {T : u_T} {N : Nat} (he : ws[k]? = some (b, .inr (ci, fs))) (hc : vwCl[ci]? = some (y.cls, T, N)) (hn : As.length = n) (hl : lv_has ls nL lvs) (hst : st0 = As.reverse ++ .ref b :: rest) (hrs : (rest.map fun v => v.category).sum ≤ 8)
    (hR : rm.frames + 1 ≤ R.frames ∧ 8 + (mL + 11) + rm.locals ≤ R.locals) (hf : cells ≤ R.cells ∧ slots ≤ R.slots) (hd : decode cc pc = .ok (.invokevirtual idx, 3))
    {stk : List Value} (hk : rv.toList ++ rest = stk) (kk : ∀ (H1 : Heap) (locs1 : List Loc), IW D ws' A0 H0 H1 locs1 → W p l e R s m args below meth c H1 locs1 cells slots Q (F0 m (pc + 3) ls stk)) : W p l e R s m args below meth c H locs cells slots Q (F0 m pc ls st0) := by
  subst hk
  obtain ⟨hx, hb, hml, hown, hts, hK, hN⟩ := E
  obtain ⟨⟨g1, g2, g3, g4, g5⟩, gd⟩ := g
  refine iw_call I hA (va_runV (As := As) (b := b) (rest := rest) (C := y.cls) (Ts := TB) ⟨hx, hb, hml, hown, hts⟩ (hM H.size) ⟨callB_of n hts (gi_code g5) rfl hm.1 hm.2 (hts _ g4) (hts _ g1) gd hR, hts _ g2, hts _ g3⟩ ⟨PW_blind, va_recv hK I.1 hc he, fun U hU hW => ⟨rfl, by rw [hU], by rw [hU]; exact I.1, va_K.moved hW.alike hK, I.2.1.weaken (fun _ _ _ _ => trivial), hN.warm hW⟩⟩ rfl hn hl.1 hst (lv_room hrs) hd ⟨hf.1, hf.2⟩) kk
theorem cS (E : EC own cc nL p s m args c D tys) (I : IW D ws A0 H0 H locs) (hA : ∀ q, H0.size ≤ q → A0 q) (hM : Cn l y cd mL ret rm D tys ws ws' As rv) (g : gS own idx y cd mL ret n) (hm : rm.cells = 0 ∧ rm.slots = 0)
    (hn : As.length = n) (hl : lv_has ls nL lvs) (hst : st0 = As.reverse ++ rest) (hrs : (rest.map fun v => v.category).sum ≤ 8)
    (hR : rm.frames + 1 ≤ R.frames ∧ 8 + (mL + 11) + rm.locals ≤ R.locals) (hf : cells ≤ R.cells ∧ slots ≤ R.slots) (hd : decode cc pc = .ok (.invokestatic idx, 3))
    {stk : List Value} (hk : rv.toList ++ rest = stk) (kk : ∀ (H1 : Heap) (locs1 : List Loc), IW D ws' A0 H0 H1 locs1 → W p l e R s m args below meth c H1 locs1 cells slots Q (F0 m (pc + 3) ls stk)) : W p l e R s m args below meth c H locs cells slots Q (F0 m pc ls st0) := by
  subst hk
  obtain ⟨hx, hb, hml, hown, hts, hK, hN⟩ := E
  obtain ⟨⟨g1, g2, g4, g5⟩, gd⟩ := g
  refine iw_call I hA (va_runS (As := As) (rest := rest) (Ts := TB) ⟨hx, hb, hml, hown, hts⟩ (hM H.size) ⟨callB_of n hts (gi_code g5) rfl hm.1 hm.2 (hts _ g4) (hts _ g1) gd hR, hts _ g2⟩ ⟨PW_blind, fun U hU hW => ⟨rfl, by rw [hU], by rw [hU]; exact I.1, va_K.moved hW.alike hK, I.2.1.weaken (fun _ _ _ _ => trivial), hN.warm hW⟩⟩ rfl hn hl.1 hst (lv_room hrs) hd ⟨hf.1, hf.2⟩) kk
theorem cSN {host : String} (E : EC own cc nL p s m args c D tys) (I : IW D ws A0 H0 H locs) (hA : ∀ q, H0.size ≤ q → A0 q) (hM : Cn l y cd mL ret rm D tys ws ws' As rv) (g : gSN own idx y host cd mL ret n) (hm : rm.cells = 0 ∧ rm.slots = 0)
    (hn : As.length = n) (hl : lv_has ls nL lvs) (hst : st0 = As.reverse ++ rest) (hrs : (rest.map fun v => v.category).sum ≤ 8)
    (hR : rm.frames + 1 ≤ R.frames ∧ 8 + (mL + 11) + rm.locals ≤ R.locals) (hf : cells ≤ R.cells ∧ slots ≤ R.slots) (hd : decode cc pc = .ok (.invokestatic idx, 3))
    {stk : List Value} (hk : rv.toList ++ rest = stk) (kk : ∀ (H1 : Heap) (locs1 : List Loc), IW D ws' A0 H0 H1 locs1 → W p l e R s m args below meth c H1 locs1 cells slots Q (F0 m (pc + 3) ls stk)) : W p l e R s m args below meth c H locs cells slots Q (F0 m pc ls st0) := by
  subst hk
  obtain ⟨hx, hb, hml, hown, hts, hK, hN⟩ := E
  obtain ⟨⟨g1, g2, g4, g5⟩, gd⟩ := g
  refine iw_call I hA (va_runSN (As := As) (rest := rest) (Ts := TB) ⟨hx, hb, hml, hown, hts⟩ (hM H.size) ⟨va_cnB n hts (gi_code g5) rfl hm.1 hm.2 (g1 _ hN) (hts _ g4) gd hR, hts _ g2, trivial⟩ ⟨PW_blind, fun U hU hW => ⟨rfl, by rw [hU], by rw [hU]; exact I.1, va_K.moved hW.alike hK, I.2.1.weaken (fun _ _ _ _ => trivial), hN.warm hW⟩⟩ rfl hn hl.1 hst (lv_room hrs) hd ⟨hf.1, hf.2⟩) kk
/-- a contract out of its body's walk -/
theorem cn_intro {y : MethodName} {cd : ByteArray} {nL : Nat} {ret : Option FieldType} {rm : Room} {As : List Value} {rv : Option Value} (hy : plainName y.cls = true) (hlen : (lg_sl As).length ≤ nL)
    (body : ∀ (p : Program) (e : Env) (s : State) (m : MethodId) (below : List Frame) (meth : Method) (c : Code) (A0 : Nat → Prop) (Q : State → Prop) (ls : Array Slot), EC y.cls cd nL p s m As.toArray c D tys → meth.sig.returnType = ret → meth.locks = false →
      (∀ q, s.heap.size ≤ q → A0 q) → A0 = va_A ws s.heap.size → Q = MQ below (QW D tys ws ws' s.heap.size rv) As.toArray s 0 0 (va_A ws s.heap.size) → IW D ws A0 s.heap s.heap [] → lv_has ls nL (lv_args 0 As) → W p l e rm s m As.toArray below meth c s.heap [] 0 0 Q (F0 m 0 ls [])) : Cn l y cd nL ret rm D tys ws ws' As rv := by
  intro sz
  refine Met.ofW (cc := cd) (maxL := nL) (ret := ret) hy rfl ?_
  intro p e s m args below meth c s₁ B hml hv
  obtain ⟨rfl, hsz, hP, hK, hD0, hN⟩ := hv
  have hts := atoms_spec (ws := Cond.code y cd nL ret :: TB) B.pre
  subst hsz
  rw [lg_entry_eq]
  exact body p e s m below meth c (va_A ws s.heap.size) _ _ ⟨B.exec, B.bytes, hml, findClass_of_methodNamed B.named, fun w hw => hts w (List.mem_cons_of_mem _ hw), hK, hN⟩ B.returns B.notSynchronized (fun q h => Or.inr h) rfl rfl ⟨hP, hD0.self (sz := s.heap.size), va_S.rf⟩ (lv_entry As hlen)
theorem rt_q {A1 : Nat → Prop} (hA0 : A0 = A1) (I : IW D ws' A0 s.heap H locs) (hK : va_K D vwCl tys s) (hA1 : A1 = va_A ws s.heap.size) : (∀ t : State, t.heap = H → s.WarmedH t.vm → QW D tys ws ws' s.heap.size rv args s (.returned rv) t) ∧ ∀ q ∈ locs, (va_A ws s.heap.size) q.base := by
  subst hA0
  subst hA1
  obtain ⟨hP, hD, hS⟩ := I
  exact ⟨fun t ht hW => ⟨rfl, by rw [ht]; exact hP, va_K.moved hW.alike hK, hD, hS.F ht⟩, hS.2.2⟩
theorem rt_i {r : Int32} (E : EC own cc nL p s m args c D tys) (hr : meth.sig.returnType = some .int) (hlk : meth.locks = false) (hA0 : A0 = va_A ws s.heap.size) (hQ : Q = MQ below (QW D tys ws ws' s.heap.size (some (.int r))) args s 0 0 (va_A ws s.heap.size)) :
    ∀ (H : Heap) (locs : List Loc) (pc : Nat) (ls : Array Slot), IW D ws' A0 s.heap H locs → decode cc pc = .ok (.ireturn, 1) → W p l e R s m args below meth c H locs 0 0 Q (F0 m pc ls [.int r]) := by
  intro H locs pc ls I d
  subst hQ
  obtain ⟨h1, h2⟩ := rt_q (rv := some (.int r)) (args := args) hA0 I E.2.2.2.2.2.1 rfl
  exact W.iret E.1 E.2.1 hr h1 h2 d hlk
theorem rt_z {r : Int32} (E : EC own cc nL p s m args c D tys) (hr : meth.sig.returnType = some .boolean) (hlk : meth.locks = false) (hA0 : A0 = va_A ws s.heap.size) (hQ : Q = MQ below (QW D tys ws ws' s.heap.size (some (.int r))) args s 0 0 (va_A ws s.heap.size)) :
    ∀ (H : Heap) (locs : List Loc) (pc : Nat) (ls : Array Slot), IW D ws' A0 s.heap H locs → narrow .boolean (.int r) = .int r → decode cc pc = .ok (.ireturn, 1) → W p l e R s m args below meth c H locs 0 0 Q (F0 m pc ls [.int r]) := by
  intro H locs pc ls I hn d
  subst hQ
  obtain ⟨h1, h2⟩ := rt_q (rv := some (.int r)) (args := args) hA0 I E.2.2.2.2.2.1 rfl
  exact W.zret E.1 E.2.1 hr hn h1 h2 d hlk
theorem rt_l {r : Int64} (E : EC own cc nL p s m args c D tys) (hr : meth.sig.returnType = some .long) (hlk : meth.locks = false) (hA0 : A0 = va_A ws s.heap.size) (hQ : Q = MQ below (QW D tys ws ws' s.heap.size (some (.long r))) args s 0 0 (va_A ws s.heap.size)) :
    ∀ (H : Heap) (locs : List Loc) (pc : Nat) (ls : Array Slot), IW D ws' A0 s.heap H locs → decode cc pc = .ok (.lreturn, 1) → W p l e R s m args below meth c H locs 0 0 Q (F0 m pc ls [.long r]) := by
  intro H locs pc ls I d
  subst hQ
  obtain ⟨h1, h2⟩ := rt_q (rv := some (.long r)) (args := args) hA0 I E.2.2.2.2.2.1 rfl
  exact W.lret E.1 E.2.1 hr h1 h2 d hlk
theorem rt_v (E : EC own cc nL p s m args c D tys) (hr : meth.sig.returnType = none) (hlk : meth.locks = false) (hA0 : A0 = va_A ws s.heap.size) (hQ : Q = MQ below (QW D tys ws ws' s.heap.size none) args s 0 0 (va_A ws s.heap.size)) :
    ∀ (H : Heap) (locs : List Loc) (pc : Nat) (ls : Array Slot), IW D ws' A0 s.heap H locs → decode cc pc = .ok (.return_, 1) → W p l e R s m args below meth c H locs 0 0 Q (F0 m pc ls []) := by
  intro H locs pc ls I d
  subst hQ
  obtain ⟨h1, h2⟩ := rt_q (rv := none) (args := args) hA0 I E.2.2.2.2.2.1 rfl
  exact W.vret E.1 E.2.1 hr h1 h2 d hlk
end BASE
end
section
theorem k_T_9 : Cond.fieldLink R_T 9 "MutantRows$Trees" "kinds" "[I" ∈ TB := tb_in (List.mem_of_getElem? (i := 60) (by decide +kernel)) rfl
theorem k_T_15 : Cond.fieldLink R_T 15 "MutantRows$Trees" "numbers" "[J" ∈ TB := tb_in (List.mem_of_getElem? (i := 61) (by decide +kernel)) rfl
theorem k_T_19 : Cond.fieldLink R_T 19 "MutantRows$Trees" "firsts" "[I" ∈ TB := tb_in (List.mem_of_getElem? (i := 62) (by decide +kernel)) rfl
theorem k_T_22 : Cond.fieldLink R_T 22 "MutantRows$Trees" "seconds" "[I" ∈ TB := tb_in (List.mem_of_getElem? (i := 63) (by decide +kernel)) rfl
theorem k_T_25 : Cond.fieldLink R_T 25 "MutantRows$Trees" "thirds" "[I" ∈ TB := tb_in (List.mem_of_getElem? (i := 64) (by decide +kernel)) rfl
theorem k_T_28 : Cond.fieldLink R_T 28 "MutantRows$Trees" "shapes" "[I" ∈ TB := tb_in (List.mem_of_getElem? (i := 65) (by decide +kernel)) rfl
theorem k_T_31 : Cond.fieldLink R_T 31 "MutantRows$Trees" "ways" "[I" ∈ TB := tb_in (List.mem_of_getElem? (i := 66) (by decide +kernel)) rfl
theorem k_T_34 : Cond.fieldLink R_T 34 "MutantRows$Trees" "size" "I" ∈ TB := tb_in (List.mem_of_getElem? (i := 67) (by decide +kernel)) rfl
theorem k_K_9 : Cond.fieldLink R_K 9 "MutantRows$Worker" "trees" "LMutantRows$Trees;" ∈ TB := tb_in (List.mem_of_getElem? (i := 99) (by decide +kernel)) rfl
theorem k_K_15 : Cond.fieldLink R_K 15 "MutantRows$Worker" "changeKind" "I" ∈ TB := tb_in (List.mem_of_getElem? (i := 100) (by decide +kernel)) rfl
theorem k_K_19 : Cond.fieldLink R_K 19 "MutantRows$Worker" "changedNode" "I" ∈ TB := tb_in (List.mem_of_getElem? (i := 101) (by decide +kernel)) rfl
theorem k_K_33 : Cond.fieldLink R_K 33 "MutantRows$Worker" "input" "J" ∈ TB := tb_in (List.mem_of_getElem? (i := 102) (by decide +kernel)) rfl
theorem k_K_36 : Cond.fieldLink R_K 36 "MutantRows$Worker" "bound" "I" ∈ TB := tb_in (List.mem_of_getElem? (i := 103) (by decide +kernel)) rfl
theorem k_K_22 : Cond.fieldLink R_K 22 "MutantRows$Worker" "steps" "I" ∈ TB := tb_in (List.mem_of_getElem? (i := 104) (by decide +kernel)) rfl
theorem k_K_25 : Cond.fieldLink R_K 25 "MutantRows$Worker" "cut" "Z" ∈ TB := tb_in (List.mem_of_getElem? (i := 105) (by decide +kernel)) rfl
theorem k_K_29 : Cond.fieldLink R_K 29 "MutantRows$Worker" "covered" "J" ∈ TB := tb_in (List.mem_of_getElem? (i := 106) (by decide +kernel)) rfl
theorem k_K_39 : Cond.fieldLink R_K 39 "MutantRows$Worker" "acc" "J" ∈ TB := tb_in (List.mem_of_getElem? (i := 107) (by decide +kernel)) rfl
theorem k_U_14 : Cond.fieldLink R_U 14 "MutantRows$Trials" "worker" "LMutantRows$Worker;" ∈ TB := tb_in (List.mem_of_getElem? (i := 127) (by decide +kernel)) rfl
theorem k_U_20 : Cond.fieldLink R_U 20 "MutantRows$Trials" "roots" "[I" ∈ TB := tb_in (List.mem_of_getElem? (i := 128) (by decide +kernel)) rfl
theorem k_U_24 : Cond.fieldLink R_U 24 "MutantRows$Trials" "inputs" "[J" ∈ TB := tb_in (List.mem_of_getElem? (i := 129) (by decide +kernel)) rfl
theorem k_U_28 : Cond.fieldLink R_U 28 "MutantRows$Trials" "wanted" "[J" ∈ TB := tb_in (List.mem_of_getElem? (i := 130) (by decide +kernel)) rfl
theorem k_U_31 : Cond.fieldLink R_U 31 "MutantRows$Trials" "states" "[I" ∈ TB := tb_in (List.mem_of_getElem? (i := 131) (by decide +kernel)) rfl
theorem k_U_34 : Cond.fieldLink R_U 34 "MutantRows$Trials" "steps" "[I" ∈ TB := tb_in (List.mem_of_getElem? (i := 132) (by decide +kernel)) rfl
theorem k_U_37 : Cond.fieldLink R_U 37 "MutantRows$Trials" "covered" "[J" ∈ TB := tb_in (List.mem_of_getElem? (i := 133) (by decide +kernel)) rfl
theorem k_U_40 : Cond.fieldLink R_U 40 "MutantRows$Trials" "size" "I" ∈ TB := tb_in (List.mem_of_getElem? (i := 134) (by decide +kernel)) rfl
theorem k_N_9 : Cond.fieldLink R_N 9 "MutantRows$Mutants" "trees" "LMutantRows$Trees;" ∈ TB := tb_in (List.mem_of_getElem? (i := 158) (by decide +kernel)) rfl
theorem k_N_15 : Cond.fieldLink R_N 15 "MutantRows$Mutants" "kinds" "[I" ∈ TB := tb_in (List.mem_of_getElem? (i := 159) (by decide +kernel)) rfl
theorem k_N_19 : Cond.fieldLink R_N 19 "MutantRows$Mutants" "nodes" "[I" ∈ TB := tb_in (List.mem_of_getElem? (i := 160) (by decide +kernel)) rfl
theorem k_N_22 : Cond.fieldLink R_N 22 "MutantRows$Mutants" "outcomes" "[I" ∈ TB := tb_in (List.mem_of_getElem? (i := 161) (by decide +kernel)) rfl
theorem k_N_25 : Cond.fieldLink R_N 25 "MutantRows$Mutants" "enders" "[I" ∈ TB := tb_in (List.mem_of_getElem? (i := 162) (by decide +kernel)) rfl
theorem k_N_28 : Cond.fieldLink R_N 28 "MutantRows$Mutants" "madeAt" "[J" ∈ TB := tb_in (List.mem_of_getElem? (i := 163) (by decide +kernel)) rfl
theorem k_N_32 : Cond.fieldLink R_N 32 "MutantRows$Mutants" "size" "I" ∈ TB := tb_in (List.mem_of_getElem? (i := 164) (by decide +kernel)) rfl
theorem k_G_9 : Cond.fieldLink R_G 9 "MutantRows$Lineup" "trees" "LMutantRows$Trees;" ∈ TB := tb_in (List.mem_of_getElem? (i := 186) (by decide +kernel)) rfl
theorem k_G_15 : Cond.fieldLink R_G 15 "MutantRows$Lineup" "trials" "LMutantRows$Trials;" ∈ TB := tb_in (List.mem_of_getElem? (i := 187) (by decide +kernel)) rfl
theorem k_G_19 : Cond.fieldLink R_G 19 "MutantRows$Lineup" "line" "[I" ∈ TB := tb_in (List.mem_of_getElem? (i := 188) (by decide +kernel)) rfl
theorem k_G_23 : Cond.fieldLink R_G 23 "MutantRows$Lineup" "distances" "[I" ∈ TB := tb_in (List.mem_of_getElem? (i := 189) (by decide +kernel)) rfl
theorem k_G_26 : Cond.fieldLink R_G 26 "MutantRows$Lineup" "size" "I" ∈ TB := tb_in (List.mem_of_getElem? (i := 190) (by decide +kernel)) rfl
theorem k_D_9 : Cond.fieldLink R_D 9 "MutantRows$Draw" "row" "[I" ∈ TB := tb_in (List.mem_of_getElem? (i := 208) (by decide +kernel)) rfl
theorem k_D_15 : Cond.fieldLink R_D 15 "MutantRows$Draw" "size" "I" ∈ TB := tb_in (List.mem_of_getElem? (i := 209) (by decide +kernel)) rfl
theorem k_M_10 : Cond.fieldLink R_M 10 "MutantRows" "trees" "LMutantRows$Trees;" ∈ TB := tb_in (List.mem_of_getElem? (i := 215) (by decide +kernel)) rfl
theorem k_M_21 : Cond.fieldLink R_M 21 "MutantRows" "trials" "LMutantRows$Trials;" ∈ TB := tb_in (List.mem_of_getElem? (i := 216) (by decide +kernel)) rfl
theorem k_M_28 : Cond.fieldLink R_M 28 "MutantRows" "mutants" "LMutantRows$Mutants;" ∈ TB := tb_in (List.mem_of_getElem? (i := 217) (by decide +kernel)) rfl
theorem k_M_37 : Cond.fieldLink R_M 37 "MutantRows" "lineup" "LMutantRows$Lineup;" ∈ TB := tb_in (List.mem_of_getElem? (i := 218) (by decide +kernel)) rfl
theorem k_M_44 : Cond.fieldLink R_M 44 "MutantRows" "draw" "LMutantRows$Draw;" ∈ TB := tb_in (List.mem_of_getElem? (i := 219) (by decide +kernel)) rfl
theorem k_R_91 : Cond.fieldLink R_R 91 "MutantRowsModel" "nodes" "I" ∈ TB := tb_in (List.mem_of_getElem? (i := 557) (by decide +kernel)) rfl
theorem k_R_7 : Cond.fieldLink R_R 7 "MutantRowsModel" "kindOf" "[I" ∈ TB := tb_in (List.mem_of_getElem? (i := 558) (by decide +kernel)) rfl
theorem k_R_13 : Cond.fieldLink R_R 13 "MutantRowsModel" "number" "[J" ∈ TB := tb_in (List.mem_of_getElem? (i := 559) (by decide +kernel)) rfl
theorem k_R_17 : Cond.fieldLink R_R 17 "MutantRowsModel" "partA" "[I" ∈ TB := tb_in (List.mem_of_getElem? (i := 560) (by decide +kernel)) rfl
theorem k_R_20 : Cond.fieldLink R_R 20 "MutantRowsModel" "partB" "[I" ∈ TB := tb_in (List.mem_of_getElem? (i := 561) (by decide +kernel)) rfl
theorem k_R_23 : Cond.fieldLink R_R 23 "MutantRowsModel" "partC" "[I" ∈ TB := tb_in (List.mem_of_getElem? (i := 562) (by decide +kernel)) rfl
theorem k_R_98 : Cond.fieldLink R_R 98 "MutantRowsModel" "tests" "I" ∈ TB := tb_in (List.mem_of_getElem? (i := 563) (by decide +kernel)) rfl
theorem k_R_26 : Cond.fieldLink R_R 26 "MutantRowsModel" "root" "[I" ∈ TB := tb_in (List.mem_of_getElem? (i := 564) (by decide +kernel)) rfl
theorem k_R_29 : Cond.fieldLink R_R 29 "MutantRowsModel" "input" "[J" ∈ TB := tb_in (List.mem_of_getElem? (i := 565) (by decide +kernel)) rfl
theorem k_R_32 : Cond.fieldLink R_R 32 "MutantRowsModel" "wanted" "[J" ∈ TB := tb_in (List.mem_of_getElem? (i := 566) (by decide +kernel)) rfl
theorem k_R_35 : Cond.fieldLink R_R 35 "MutantRowsModel" "passes" "[I" ∈ TB := tb_in (List.mem_of_getElem? (i := 567) (by decide +kernel)) rfl
theorem k_R_38 : Cond.fieldLink R_R 38 "MutantRowsModel" "stepsOf" "[I" ∈ TB := tb_in (List.mem_of_getElem? (i := 568) (by decide +kernel)) rfl
theorem k_R_41 : Cond.fieldLink R_R 41 "MutantRowsModel" "covers" "[Z" ∈ TB := tb_in (List.mem_of_getElem? (i := 569) (by decide +kernel)) rfl
theorem k_R_45 : Cond.fieldLink R_R 45 "MutantRowsModel" "covered" "[Z" ∈ TB := tb_in (List.mem_of_getElem? (i := 570) (by decide +kernel)) rfl
theorem k_R_101 : Cond.fieldLink R_R 101 "MutantRowsModel" "mutants" "I" ∈ TB := tb_in (List.mem_of_getElem? (i := 571) (by decide +kernel)) rfl
theorem k_R_48 : Cond.fieldLink R_R 48 "MutantRowsModel" "kindM" "[I" ∈ TB := tb_in (List.mem_of_getElem? (i := 572) (by decide +kernel)) rfl
theorem k_R_51 : Cond.fieldLink R_R 51 "MutantRowsModel" "nodeM" "[I" ∈ TB := tb_in (List.mem_of_getElem? (i := 573) (by decide +kernel)) rfl
theorem k_R_54 : Cond.fieldLink R_R 54 "MutantRowsModel" "outcome" "[I" ∈ TB := tb_in (List.mem_of_getElem? (i := 574) (by decide +kernel)) rfl
theorem k_R_57 : Cond.fieldLink R_R 57 "MutantRowsModel" "ender" "[I" ∈ TB := tb_in (List.mem_of_getElem? (i := 575) (by decide +kernel)) rfl
theorem k_R_221 : Cond.fieldLink R_R 221 "MutantRowsModel" "sampledMany" "I" ∈ TB := tb_in (List.mem_of_getElem? (i := 576) (by decide +kernel)) rfl
theorem k_R_60 : Cond.fieldLink R_R 60 "MutantRowsModel" "sampleRow" "[I" ∈ TB := tb_in (List.mem_of_getElem? (i := 577) (by decide +kernel)) rfl
theorem k_R_63 : Cond.fieldLink R_R 63 "MutantRowsModel" "changedKind" "I" ∈ TB := tb_in (List.mem_of_getElem? (i := 578) (by decide +kernel)) rfl
theorem k_R_67 : Cond.fieldLink R_R 67 "MutantRowsModel" "changedNode" "I" ∈ TB := tb_in (List.mem_of_getElem? (i := 579) (by decide +kernel)) rfl
theorem k_R_114 : Cond.fieldLink R_R 114 "MutantRowsModel" "steps" "I" ∈ TB := tb_in (List.mem_of_getElem? (i := 580) (by decide +kernel)) rfl
theorem k_R_117 : Cond.fieldLink R_R 117 "MutantRowsModel" "isCut" "Z" ∈ TB := tb_in (List.mem_of_getElem? (i := 581) (by decide +kernel)) rfl
theorem k_R_70 : Cond.fieldLink R_R 70 "MutantRowsModel" "marked" "[Z" ∈ TB := tb_in (List.mem_of_getElem? (i := 582) (by decide +kernel)) rfl
theorem k_R_121 : Cond.fieldLink R_R 121 "MutantRowsModel" "high" "I" ∈ TB := tb_in (List.mem_of_getElem? (i := 583) (by decide +kernel)) rfl
theorem k_R_73 : Cond.fieldLink R_R 73 "MutantRowsModel" "waits" "[I" ∈ TB := tb_in (List.mem_of_getElem? (i := 584) (by decide +kernel)) rfl
theorem k_R_76 : Cond.fieldLink R_R 76 "MutantRowsModel" "phase" "[I" ∈ TB := tb_in (List.mem_of_getElem? (i := 585) (by decide +kernel)) rfl
theorem k_R_79 : Cond.fieldLink R_R 79 "MutantRowsModel" "first" "[J" ∈ TB := tb_in (List.mem_of_getElem? (i := 586) (by decide +kernel)) rfl
theorem k_R_128 : Cond.fieldLink R_R 128 "MutantRowsModel" "acc" "J" ∈ TB := tb_in (List.mem_of_getElem? (i := 587) (by decide +kernel)) rfl
theorem k_R_124 : Cond.fieldLink R_R 124 "MutantRowsModel" "given" "J" ∈ TB := tb_in (List.mem_of_getElem? (i := 588) (by decide +kernel)) rfl
theorem k_R_82 : Cond.fieldLink R_R 82 "MutantRowsModel" "far" "[I" ∈ TB := tb_in (List.mem_of_getElem? (i := 589) (by decide +kernel)) rfl
theorem k_R_203 : Cond.fieldLink R_R 203 "MutantRowsModel" "listed" "I" ∈ TB := tb_in (List.mem_of_getElem? (i := 590) (by decide +kernel)) rfl
theorem k_R_85 : Cond.fieldLink R_R 85 "MutantRowsModel" "list" "[I" ∈ TB := tb_in (List.mem_of_getElem? (i := 591) (by decide +kernel)) rfl
theorem k_R_88 : Cond.fieldLink R_R 88 "MutantRowsModel" "alike" "[Z" ∈ TB := tb_in (List.mem_of_getElem? (i := 592) (by decide +kernel)) rfl
theorem kl_J_314 : Cond.constantLong R_J 314 6148914691236517205 ∈ TB := tb_in (List.mem_of_getElem? (i := 353) (by decide +kernel)) rfl
theorem kl_J_316 : Cond.constantLong R_J 316 3689348814741910323 ∈ TB := tb_in (List.mem_of_getElem? (i := 354) (by decide +kernel)) rfl
theorem kl_J_318 : Cond.constantLong R_J 318 1085102592571150095 ∈ TB := tb_in (List.mem_of_getElem? (i := 355) (by decide +kernel)) rfl
theorem kl_D_19 : Cond.constantLong R_D 19 6364136223846793005 ∈ TB := tb_in (List.mem_of_getElem? (i := 528) (by decide +kernel)) rfl
theorem kl_D_21 : Cond.constantLong R_D 21 1442695040888963407 ∈ TB := tb_in (List.mem_of_getElem? (i := 529) (by decide +kernel)) rfl
theorem kl_R_104 : Cond.constantLong R_R 104 9 ∈ TB := tb_in (List.mem_of_getElem? (i := 671) (by decide +kernel)) rfl
theorem kl_R_173 : Cond.constantLong R_R 173 5 ∈ TB := tb_in (List.mem_of_getElem? (i := 738) (by decide +kernel)) rfl
theorem kl_R_209 : Cond.constantLong R_R 209 5000 ∈ TB := tb_in (List.mem_of_getElem? (i := 779) (by decide +kernel)) rfl
theorem kl_R_217 : Cond.constantLong R_R 217 6364136223846793005 ∈ TB := tb_in (List.mem_of_getElem? (i := 812) (by decide +kernel)) rfl
theorem kl_R_219 : Cond.constantLong R_R 219 1442695040888963407 ∈ TB := tb_in (List.mem_of_getElem? (i := 813) (by decide +kernel)) rfl
theorem kl_R_224 : Cond.constantLong R_R 224 (-1) ∈ TB := tb_in (List.mem_of_getElem? (i := 822) (by decide +kernel)) rfl
theorem kl_R_226 : Cond.constantLong R_R 226 2 ∈ TB := tb_in (List.mem_of_getElem? (i := 823) (by decide +kernel)) rfl
theorem kl_L_13 : Cond.constantLong R_L 13 4294967295 ∈ TB := tb_in (List.mem_of_getElem? (i := 828) (by decide +kernel)) rfl
theorem g_L_15 : gV R_L 15 y_M_node c_M_node 6 (some .int) 4 := ⟨⟨tb_in (List.mem_of_getElem? (i := 231) (by decide +kernel)) rfl, tb_in (List.mem_of_getElem? (i := 232) (by decide +kernel)) rfl, tb_in (List.mem_of_getElem? (i := 233) (by decide +kernel)) rfl, tb_in (List.mem_of_getElem? (i := 37) (by decide +kernel)) rfl, tb_in (List.mem_of_getElem? (i := 234) (by decide +kernel)) rfl⟩, ⟨by decide, by decide, by decide +kernel⟩⟩
theorem g_M_48 : gV R_M 48 y_T_grow c_T_grow 8 (some .int) 4 := ⟨⟨tb_in (List.mem_of_getElem? (i := 235) (by decide +kernel)) rfl, tb_in (List.mem_of_getElem? (i := 236) (by decide +kernel)) rfl, tb_in (List.mem_of_getElem? (i := 237) (by decide +kernel)) rfl, tb_in (List.mem_of_getElem? (i := 38) (by decide +kernel)) rfl, tb_in (List.mem_of_getElem? (i := 238) (by decide +kernel)) rfl⟩, ⟨by decide, by decide, by decide +kernel⟩⟩
theorem g_T_38 : gS R_T 38 y_T_partCount c_T_partCount 1 (some .int) 1 := ⟨⟨tb_in (List.mem_of_getElem? (i := 239) (by decide +kernel)) rfl, tb_in (List.mem_of_getElem? (i := 240) (by decide +kernel)) rfl, tb_in (List.mem_of_getElem? (i := 38) (by decide +kernel)) rfl, tb_in (List.mem_of_getElem? (i := 241) (by decide +kernel)) rfl⟩, ⟨by decide, by decide, by decide +kernel⟩⟩
theorem g_T_42 : gV R_T 42 y_T_areEarlier c_T_areEarlier 6 (some .boolean) 4 := ⟨⟨tb_in (List.mem_of_getElem? (i := 242) (by decide +kernel)) rfl, tb_in (List.mem_of_getElem? (i := 244) (by decide +kernel)) rfl, tb_in (List.mem_of_getElem? (i := 0) (by decide +kernel)) rfl, tb_in (List.mem_of_getElem? (i := 38) (by decide +kernel)) rfl, tb_in (List.mem_of_getElem? (i := 245) (by decide +kernel)) rfl⟩, ⟨by decide, by decide, by decide +kernel⟩⟩
theorem g_T_57 : gV R_T 57 y_T_has c_T_has 2 (some .boolean) 1 := ⟨⟨tb_in (List.mem_of_getElem? (i := 246) (by decide +kernel)) rfl, tb_in (List.mem_of_getElem? (i := 247) (by decide +kernel)) rfl, tb_in (List.mem_of_getElem? (i := 248) (by decide +kernel)) rfl, tb_in (List.mem_of_getElem? (i := 38) (by decide +kernel)) rfl, tb_in (List.mem_of_getElem? (i := 249) (by decide +kernel)) rfl⟩, ⟨by decide, by decide, by decide +kernel⟩⟩
theorem g_T_46 : gV R_T 46 y_T_shapeFor c_T_shapeFor 3 (some .int) 1 := ⟨⟨tb_in (List.mem_of_getElem? (i := 250) (by decide +kernel)) rfl, tb_in (List.mem_of_getElem? (i := 252) (by decide +kernel)) rfl, tb_in (List.mem_of_getElem? (i := 1) (by decide +kernel)) rfl, tb_in (List.mem_of_getElem? (i := 38) (by decide +kernel)) rfl, tb_in (List.mem_of_getElem? (i := 253) (by decide +kernel)) rfl⟩, ⟨by decide, by decide, by decide +kernel⟩⟩
theorem g_T_61 : gV R_T 61 y_T_haveAlikeParts c_T_haveAlikeParts 4 (some .boolean) 2 := ⟨⟨tb_in (List.mem_of_getElem? (i := 254) (by decide +kernel)) rfl, tb_in (List.mem_of_getElem? (i := 256) (by decide +kernel)) rfl, tb_in (List.mem_of_getElem? (i := 2) (by decide +kernel)) rfl, tb_in (List.mem_of_getElem? (i := 38) (by decide +kernel)) rfl, tb_in (List.mem_of_getElem? (i := 257) (by decide +kernel)) rfl⟩, ⟨by decide, by decide, by decide +kernel⟩⟩
theorem g_T_65 : gV R_T 65 y_T_areAlike c_T_areAlike 3 (some .boolean) 2 := ⟨⟨tb_in (List.mem_of_getElem? (i := 258) (by decide +kernel)) rfl, tb_in (List.mem_of_getElem? (i := 259) (by decide +kernel)) rfl, tb_in (List.mem_of_getElem? (i := 260) (by decide +kernel)) rfl, tb_in (List.mem_of_getElem? (i := 38) (by decide +kernel)) rfl, tb_in (List.mem_of_getElem? (i := 261) (by decide +kernel)) rfl⟩, ⟨by decide, by decide, by decide +kernel⟩⟩
theorem g_L_20 : gV R_L 20 y_M_test c_M_test 6 (some .int) 3 := ⟨⟨tb_in (List.mem_of_getElem? (i := 262) (by decide +kernel)) rfl, tb_in (List.mem_of_getElem? (i := 263) (by decide +kernel)) rfl, tb_in (List.mem_of_getElem? (i := 264) (by decide +kernel)) rfl, tb_in (List.mem_of_getElem? (i := 37) (by decide +kernel)) rfl, tb_in (List.mem_of_getElem? (i := 265) (by decide +kernel)) rfl⟩, ⟨by decide, by decide, by decide +kernel⟩⟩
theorem g_M_52 : gV R_M 52 y_T_has c_T_has 2 (some .boolean) 1 := ⟨⟨tb_in (List.mem_of_getElem? (i := 266) (by decide +kernel)) rfl, tb_in (List.mem_of_getElem? (i := 247) (by decide +kernel)) rfl, tb_in (List.mem_of_getElem? (i := 248) (by decide +kernel)) rfl, tb_in (List.mem_of_getElem? (i := 38) (by decide +kernel)) rfl, tb_in (List.mem_of_getElem? (i := 249) (by decide +kernel)) rfl⟩, ⟨by decide, by decide, by decide +kernel⟩⟩
theorem g_M_56 : gV R_M 56 y_U_add c_U_add 7 (some .int) 3 := ⟨⟨tb_in (List.mem_of_getElem? (i := 267) (by decide +kernel)) rfl, tb_in (List.mem_of_getElem? (i := 268) (by decide +kernel)) rfl, tb_in (List.mem_of_getElem? (i := 269) (by decide +kernel)) rfl, tb_in (List.mem_of_getElem? (i := 39) (by decide +kernel)) rfl, tb_in (List.mem_of_getElem? (i := 270) (by decide +kernel)) rfl⟩, ⟨by decide, by decide, by decide +kernel⟩⟩
theorem g_U_48 : gV R_U 48 y_U_attempt c_U_attempt 4 none 1 := ⟨⟨tb_in (List.mem_of_getElem? (i := 271) (by decide +kernel)) rfl, tb_in (List.mem_of_getElem? (i := 273) (by decide +kernel)) rfl, tb_in (List.mem_of_getElem? (i := 3) (by decide +kernel)) rfl, tb_in (List.mem_of_getElem? (i := 39) (by decide +kernel)) rfl, tb_in (List.mem_of_getElem? (i := 274) (by decide +kernel)) rfl⟩, ⟨by decide, by decide, by decide +kernel⟩⟩
theorem g_U_56 : gV R_U 56 y_K_workOut c_K_workOut 5 (some .long) 3 := ⟨⟨tb_in (List.mem_of_getElem? (i := 275) (by decide +kernel)) rfl, tb_in (List.mem_of_getElem? (i := 276) (by decide +kernel)) rfl, tb_in (List.mem_of_getElem? (i := 277) (by decide +kernel)) rfl, tb_in (List.mem_of_getElem? (i := 40) (by decide +kernel)) rfl, tb_in (List.mem_of_getElem? (i := 278) (by decide +kernel)) rfl⟩, ⟨by decide, by decide, by decide +kernel⟩⟩
theorem g_K_42 : gV R_K 42 y_K_worth c_K_worth 4 (some .long) 1 := ⟨⟨tb_in (List.mem_of_getElem? (i := 279) (by decide +kernel)) rfl, tb_in (List.mem_of_getElem? (i := 281) (by decide +kernel)) rfl, tb_in (List.mem_of_getElem? (i := 4) (by decide +kernel)) rfl, tb_in (List.mem_of_getElem? (i := 40) (by decide +kernel)) rfl, tb_in (List.mem_of_getElem? (i := 282) (by decide +kernel)) rfl⟩, ⟨by decide, by decide, by decide +kernel⟩⟩
theorem g_K_46 : gSN R_K 46 y_M_bit R_M c_M_bit 1 (some .long) 1 := ⟨⟨(fun _ h => h.1), tb_in (List.mem_of_getElem? (i := 284) (by decide +kernel)) rfl, tb_in (List.mem_of_getElem? (i := 37) (by decide +kernel)) rfl, tb_in (List.mem_of_getElem? (i := 285) (by decide +kernel)) rfl⟩, ⟨by decide, by decide, by decide +kernel⟩⟩
theorem g_K_49 : gV R_K 49 y_T_kindOf c_T_kindOf 2 (some .int) 1 := ⟨⟨tb_in (List.mem_of_getElem? (i := 286) (by decide +kernel)) rfl, tb_in (List.mem_of_getElem? (i := 287) (by decide +kernel)) rfl, tb_in (List.mem_of_getElem? (i := 288) (by decide +kernel)) rfl, tb_in (List.mem_of_getElem? (i := 38) (by decide +kernel)) rfl, tb_in (List.mem_of_getElem? (i := 289) (by decide +kernel)) rfl⟩, ⟨by decide, by decide, by decide +kernel⟩⟩
theorem g_K_55 : gV R_K 55 y_T_numberOf c_T_numberOf 2 (some .long) 1 := ⟨⟨tb_in (List.mem_of_getElem? (i := 290) (by decide +kernel)) rfl, tb_in (List.mem_of_getElem? (i := 291) (by decide +kernel)) rfl, tb_in (List.mem_of_getElem? (i := 292) (by decide +kernel)) rfl, tb_in (List.mem_of_getElem? (i := 38) (by decide +kernel)) rfl, tb_in (List.mem_of_getElem? (i := 293) (by decide +kernel)) rfl⟩, ⟨by decide, by decide, by decide +kernel⟩⟩
theorem g_K_58 : gV R_K 58 y_K_worthOfChoice c_K_worthOfChoice 5 (some .long) 2 := ⟨⟨tb_in (List.mem_of_getElem? (i := 294) (by decide +kernel)) rfl, tb_in (List.mem_of_getElem? (i := 296) (by decide +kernel)) rfl, tb_in (List.mem_of_getElem? (i := 5) (by decide +kernel)) rfl, tb_in (List.mem_of_getElem? (i := 40) (by decide +kernel)) rfl, tb_in (List.mem_of_getElem? (i := 297) (by decide +kernel)) rfl⟩, ⟨by decide, by decide, by decide +kernel⟩⟩
theorem g_K_69 : gV R_K 69 y_T_firstOf c_T_firstOf 2 (some .int) 1 := ⟨⟨tb_in (List.mem_of_getElem? (i := 298) (by decide +kernel)) rfl, tb_in (List.mem_of_getElem? (i := 299) (by decide +kernel)) rfl, tb_in (List.mem_of_getElem? (i := 300) (by decide +kernel)) rfl, tb_in (List.mem_of_getElem? (i := 38) (by decide +kernel)) rfl, tb_in (List.mem_of_getElem? (i := 301) (by decide +kernel)) rfl⟩, ⟨by decide, by decide, by decide +kernel⟩⟩
theorem g_K_72 : gV R_K 72 y_T_secondOf c_T_secondOf 2 (some .int) 1 := ⟨⟨tb_in (List.mem_of_getElem? (i := 302) (by decide +kernel)) rfl, tb_in (List.mem_of_getElem? (i := 303) (by decide +kernel)) rfl, tb_in (List.mem_of_getElem? (i := 304) (by decide +kernel)) rfl, tb_in (List.mem_of_getElem? (i := 38) (by decide +kernel)) rfl, tb_in (List.mem_of_getElem? (i := 305) (by decide +kernel)) rfl⟩, ⟨by decide, by decide, by decide +kernel⟩⟩
theorem g_K_75 : gV R_K 75 y_T_thirdOf c_T_thirdOf 2 (some .int) 1 := ⟨⟨tb_in (List.mem_of_getElem? (i := 306) (by decide +kernel)) rfl, tb_in (List.mem_of_getElem? (i := 307) (by decide +kernel)) rfl, tb_in (List.mem_of_getElem? (i := 308) (by decide +kernel)) rfl, tb_in (List.mem_of_getElem? (i := 38) (by decide +kernel)) rfl, tb_in (List.mem_of_getElem? (i := 309) (by decide +kernel)) rfl⟩, ⟨by decide, by decide, by decide +kernel⟩⟩
theorem g_K_62 : gV R_K 62 y_K_worthOfLoop c_K_worthOfLoop 8 (some .long) 1 := ⟨⟨tb_in (List.mem_of_getElem? (i := 310) (by decide +kernel)) rfl, tb_in (List.mem_of_getElem? (i := 312) (by decide +kernel)) rfl, tb_in (List.mem_of_getElem? (i := 6) (by decide +kernel)) rfl, tb_in (List.mem_of_getElem? (i := 40) (by decide +kernel)) rfl, tb_in (List.mem_of_getElem? (i := 313) (by decide +kernel)) rfl⟩, ⟨by decide, by decide, by decide +kernel⟩⟩
theorem g_K_65 : gV R_K 65 y_K_worthOfTwo c_K_worthOfTwo 9 (some .long) 3 := ⟨⟨tb_in (List.mem_of_getElem? (i := 314) (by decide +kernel)) rfl, tb_in (List.mem_of_getElem? (i := 316) (by decide +kernel)) rfl, tb_in (List.mem_of_getElem? (i := 7) (by decide +kernel)) rfl, tb_in (List.mem_of_getElem? (i := 40) (by decide +kernel)) rfl, tb_in (List.mem_of_getElem? (i := 317) (by decide +kernel)) rfl⟩, ⟨by decide, by decide, by decide +kernel⟩⟩
theorem g_U_63 : gV R_U 63 y_K_isCut c_K_isCut 1 (some .boolean) 0 := ⟨⟨tb_in (List.mem_of_getElem? (i := 318) (by decide +kernel)) rfl, tb_in (List.mem_of_getElem? (i := 319) (by decide +kernel)) rfl, tb_in (List.mem_of_getElem? (i := 320) (by decide +kernel)) rfl, tb_in (List.mem_of_getElem? (i := 40) (by decide +kernel)) rfl, tb_in (List.mem_of_getElem? (i := 321) (by decide +kernel)) rfl⟩, ⟨by decide, by decide, by decide +kernel⟩⟩
theorem g_U_67 : gV R_U 67 y_K_steps c_K_steps 1 (some .int) 0 := ⟨⟨tb_in (List.mem_of_getElem? (i := 322) (by decide +kernel)) rfl, tb_in (List.mem_of_getElem? (i := 323) (by decide +kernel)) rfl, tb_in (List.mem_of_getElem? (i := 324) (by decide +kernel)) rfl, tb_in (List.mem_of_getElem? (i := 40) (by decide +kernel)) rfl, tb_in (List.mem_of_getElem? (i := 325) (by decide +kernel)) rfl⟩, ⟨by decide, by decide, by decide +kernel⟩⟩
theorem g_U_70 : gV R_U 70 y_K_covered c_K_covered 1 (some .long) 0 := ⟨⟨tb_in (List.mem_of_getElem? (i := 326) (by decide +kernel)) rfl, tb_in (List.mem_of_getElem? (i := 327) (by decide +kernel)) rfl, tb_in (List.mem_of_getElem? (i := 328) (by decide +kernel)) rfl, tb_in (List.mem_of_getElem? (i := 40) (by decide +kernel)) rfl, tb_in (List.mem_of_getElem? (i := 329) (by decide +kernel)) rfl⟩, ⟨by decide, by decide, by decide +kernel⟩⟩
theorem g_L_25 : gV R_L 25 y_M_about c_M_about 3 (some .int) 2 := ⟨⟨tb_in (List.mem_of_getElem? (i := 330) (by decide +kernel)) rfl, tb_in (List.mem_of_getElem? (i := 331) (by decide +kernel)) rfl, tb_in (List.mem_of_getElem? (i := 332) (by decide +kernel)) rfl, tb_in (List.mem_of_getElem? (i := 37) (by decide +kernel)) rfl, tb_in (List.mem_of_getElem? (i := 333) (by decide +kernel)) rfl⟩, ⟨by decide, by decide, by decide +kernel⟩⟩
theorem g_M_60 : gV R_M 60 y_U_has c_U_has 2 (some .boolean) 1 := ⟨⟨tb_in (List.mem_of_getElem? (i := 334) (by decide +kernel)) rfl, tb_in (List.mem_of_getElem? (i := 335) (by decide +kernel)) rfl, tb_in (List.mem_of_getElem? (i := 336) (by decide +kernel)) rfl, tb_in (List.mem_of_getElem? (i := 39) (by decide +kernel)) rfl, tb_in (List.mem_of_getElem? (i := 337) (by decide +kernel)) rfl⟩, ⟨by decide, by decide, by decide +kernel⟩⟩
theorem g_M_61 : gV R_M 61 y_U_stateOf c_U_stateOf 2 (some .int) 1 := ⟨⟨tb_in (List.mem_of_getElem? (i := 338) (by decide +kernel)) rfl, tb_in (List.mem_of_getElem? (i := 339) (by decide +kernel)) rfl, tb_in (List.mem_of_getElem? (i := 340) (by decide +kernel)) rfl, tb_in (List.mem_of_getElem? (i := 39) (by decide +kernel)) rfl, tb_in (List.mem_of_getElem? (i := 341) (by decide +kernel)) rfl⟩, ⟨by decide, by decide, by decide +kernel⟩⟩
theorem g_M_65 : gV R_M 65 y_U_stepsOf c_U_stepsOf 2 (some .int) 1 := ⟨⟨tb_in (List.mem_of_getElem? (i := 342) (by decide +kernel)) rfl, tb_in (List.mem_of_getElem? (i := 343) (by decide +kernel)) rfl, tb_in (List.mem_of_getElem? (i := 344) (by decide +kernel)) rfl, tb_in (List.mem_of_getElem? (i := 39) (by decide +kernel)) rfl, tb_in (List.mem_of_getElem? (i := 345) (by decide +kernel)) rfl⟩, ⟨by decide, by decide, by decide +kernel⟩⟩
theorem g_M_68 : gV R_M 68 y_U_coveredBy c_U_coveredBy 2 (some .long) 1 := ⟨⟨tb_in (List.mem_of_getElem? (i := 346) (by decide +kernel)) rfl, tb_in (List.mem_of_getElem? (i := 347) (by decide +kernel)) rfl, tb_in (List.mem_of_getElem? (i := 348) (by decide +kernel)) rfl, tb_in (List.mem_of_getElem? (i := 39) (by decide +kernel)) rfl, tb_in (List.mem_of_getElem? (i := 349) (by decide +kernel)) rfl⟩, ⟨by decide, by decide, by decide +kernel⟩⟩
theorem g_M_72 : gS R_M 72 y_J_bitCount c_J_bitCount 2 (some .int) 1 := ⟨⟨tb_in (List.mem_of_getElem? (i := 350) (by decide +kernel)) rfl, tb_in (List.mem_of_getElem? (i := 351) (by decide +kernel)) rfl, tb_in (List.mem_of_getElem? (i := 45) (by decide +kernel)) rfl, tb_in (List.mem_of_getElem? (i := 352) (by decide +kernel)) rfl⟩, ⟨by decide, by decide, by decide +kernel⟩⟩
theorem g_L_30 : gV R_L 30 y_M_make c_M_make 6 (some .int) 1 := ⟨⟨tb_in (List.mem_of_getElem? (i := 356) (by decide +kernel)) rfl, tb_in (List.mem_of_getElem? (i := 357) (by decide +kernel)) rfl, tb_in (List.mem_of_getElem? (i := 358) (by decide +kernel)) rfl, tb_in (List.mem_of_getElem? (i := 37) (by decide +kernel)) rfl, tb_in (List.mem_of_getElem? (i := 359) (by decide +kernel)) rfl⟩, ⟨by decide, by decide, by decide +kernel⟩⟩
theorem g_M_78 : gS R_M 78 y_M_isMutantKind c_M_isMutantKind 1 (some .boolean) 1 := ⟨⟨tb_in (List.mem_of_getElem? (i := 360) (by decide +kernel)) rfl, tb_in (List.mem_of_getElem? (i := 361) (by decide +kernel)) rfl, tb_in (List.mem_of_getElem? (i := 37) (by decide +kernel)) rfl, tb_in (List.mem_of_getElem? (i := 362) (by decide +kernel)) rfl⟩, ⟨by decide, by decide, by decide +kernel⟩⟩
theorem g_M_81 : gV R_M 81 y_U_coveredByPassing c_U_coveredByPassing 4 (some .long) 0 := ⟨⟨tb_in (List.mem_of_getElem? (i := 363) (by decide +kernel)) rfl, tb_in (List.mem_of_getElem? (i := 364) (by decide +kernel)) rfl, tb_in (List.mem_of_getElem? (i := 365) (by decide +kernel)) rfl, tb_in (List.mem_of_getElem? (i := 39) (by decide +kernel)) rfl, tb_in (List.mem_of_getElem? (i := 366) (by decide +kernel)) rfl⟩, ⟨by decide, by decide, by decide +kernel⟩⟩
theorem g_M_85 : gV R_M 85 y_N_size c_N_size 1 (some .int) 0 := ⟨⟨tb_in (List.mem_of_getElem? (i := 367) (by decide +kernel)) rfl, tb_in (List.mem_of_getElem? (i := 368) (by decide +kernel)) rfl, tb_in (List.mem_of_getElem? (i := 369) (by decide +kernel)) rfl, tb_in (List.mem_of_getElem? (i := 41) (by decide +kernel)) rfl, tb_in (List.mem_of_getElem? (i := 370) (by decide +kernel)) rfl⟩, ⟨by decide, by decide, by decide +kernel⟩⟩
theorem g_M_89 : gV R_M 89 y_T_size c_T_size 1 (some .int) 0 := ⟨⟨tb_in (List.mem_of_getElem? (i := 371) (by decide +kernel)) rfl, tb_in (List.mem_of_getElem? (i := 372) (by decide +kernel)) rfl, tb_in (List.mem_of_getElem? (i := 373) (by decide +kernel)) rfl, tb_in (List.mem_of_getElem? (i := 38) (by decide +kernel)) rfl, tb_in (List.mem_of_getElem? (i := 374) (by decide +kernel)) rfl⟩, ⟨by decide, by decide, by decide +kernel⟩⟩
theorem g_M_90 : gS R_M 90 y_M_bit c_M_bit 1 (some .long) 1 := ⟨⟨tb_in (List.mem_of_getElem? (i := 375) (by decide +kernel)) rfl, tb_in (List.mem_of_getElem? (i := 284) (by decide +kernel)) rfl, tb_in (List.mem_of_getElem? (i := 37) (by decide +kernel)) rfl, tb_in (List.mem_of_getElem? (i := 285) (by decide +kernel)) rfl⟩, ⟨by decide, by decide, by decide +kernel⟩⟩
theorem g_M_93 : gV R_M 93 y_T_kindOf c_T_kindOf 2 (some .int) 1 := ⟨⟨tb_in (List.mem_of_getElem? (i := 376) (by decide +kernel)) rfl, tb_in (List.mem_of_getElem? (i := 287) (by decide +kernel)) rfl, tb_in (List.mem_of_getElem? (i := 288) (by decide +kernel)) rfl, tb_in (List.mem_of_getElem? (i := 38) (by decide +kernel)) rfl, tb_in (List.mem_of_getElem? (i := 289) (by decide +kernel)) rfl⟩, ⟨by decide, by decide, by decide +kernel⟩⟩
theorem g_M_96 : gS R_M 96 y_M_fits c_M_fits 2 (some .boolean) 2 := ⟨⟨tb_in (List.mem_of_getElem? (i := 377) (by decide +kernel)) rfl, tb_in (List.mem_of_getElem? (i := 378) (by decide +kernel)) rfl, tb_in (List.mem_of_getElem? (i := 37) (by decide +kernel)) rfl, tb_in (List.mem_of_getElem? (i := 379) (by decide +kernel)) rfl⟩, ⟨by decide, by decide, by decide +kernel⟩⟩
theorem g_M_100 : gV R_M 100 y_N_add c_N_add 3 none 2 := ⟨⟨tb_in (List.mem_of_getElem? (i := 380) (by decide +kernel)) rfl, tb_in (List.mem_of_getElem? (i := 381) (by decide +kernel)) rfl, tb_in (List.mem_of_getElem? (i := 382) (by decide +kernel)) rfl, tb_in (List.mem_of_getElem? (i := 41) (by decide +kernel)) rfl, tb_in (List.mem_of_getElem? (i := 383) (by decide +kernel)) rfl⟩, ⟨by decide, by decide, by decide +kernel⟩⟩
theorem g_N_36 : gSN R_N 36 y_M_bit R_M c_M_bit 1 (some .long) 1 := ⟨⟨(fun _ h => h.2.1), tb_in (List.mem_of_getElem? (i := 284) (by decide +kernel)) rfl, tb_in (List.mem_of_getElem? (i := 37) (by decide +kernel)) rfl, tb_in (List.mem_of_getElem? (i := 285) (by decide +kernel)) rfl⟩, ⟨by decide, by decide, by decide +kernel⟩⟩
theorem g_N_40 : gV R_N 40 y_N_settle c_N_settle 4 none 3 := ⟨⟨tb_in (List.mem_of_getElem? (i := 385) (by decide +kernel)) rfl, tb_in (List.mem_of_getElem? (i := 386) (by decide +kernel)) rfl, tb_in (List.mem_of_getElem? (i := 387) (by decide +kernel)) rfl, tb_in (List.mem_of_getElem? (i := 41) (by decide +kernel)) rfl, tb_in (List.mem_of_getElem? (i := 388) (by decide +kernel)) rfl⟩, ⟨by decide, by decide, by decide +kernel⟩⟩
theorem g_L_35 : gV R_L 35 y_M_mutant c_M_mutant 3 (some .int) 2 := ⟨⟨tb_in (List.mem_of_getElem? (i := 389) (by decide +kernel)) rfl, tb_in (List.mem_of_getElem? (i := 390) (by decide +kernel)) rfl, tb_in (List.mem_of_getElem? (i := 391) (by decide +kernel)) rfl, tb_in (List.mem_of_getElem? (i := 37) (by decide +kernel)) rfl, tb_in (List.mem_of_getElem? (i := 392) (by decide +kernel)) rfl⟩, ⟨by decide, by decide, by decide +kernel⟩⟩
theorem g_M_103 : gV R_M 103 y_N_has c_N_has 2 (some .boolean) 1 := ⟨⟨tb_in (List.mem_of_getElem? (i := 393) (by decide +kernel)) rfl, tb_in (List.mem_of_getElem? (i := 394) (by decide +kernel)) rfl, tb_in (List.mem_of_getElem? (i := 395) (by decide +kernel)) rfl, tb_in (List.mem_of_getElem? (i := 41) (by decide +kernel)) rfl, tb_in (List.mem_of_getElem? (i := 396) (by decide +kernel)) rfl⟩, ⟨by decide, by decide, by decide +kernel⟩⟩
theorem g_M_104 : gV R_M 104 y_N_kindOf c_N_kindOf 2 (some .int) 1 := ⟨⟨tb_in (List.mem_of_getElem? (i := 397) (by decide +kernel)) rfl, tb_in (List.mem_of_getElem? (i := 398) (by decide +kernel)) rfl, tb_in (List.mem_of_getElem? (i := 399) (by decide +kernel)) rfl, tb_in (List.mem_of_getElem? (i := 41) (by decide +kernel)) rfl, tb_in (List.mem_of_getElem? (i := 400) (by decide +kernel)) rfl⟩, ⟨by decide, by decide, by decide +kernel⟩⟩
theorem g_M_105 : gV R_M 105 y_N_nodeOf c_N_nodeOf 2 (some .int) 1 := ⟨⟨tb_in (List.mem_of_getElem? (i := 401) (by decide +kernel)) rfl, tb_in (List.mem_of_getElem? (i := 402) (by decide +kernel)) rfl, tb_in (List.mem_of_getElem? (i := 403) (by decide +kernel)) rfl, tb_in (List.mem_of_getElem? (i := 41) (by decide +kernel)) rfl, tb_in (List.mem_of_getElem? (i := 404) (by decide +kernel)) rfl⟩, ⟨by decide, by decide, by decide +kernel⟩⟩
theorem g_M_108 : gV R_M 108 y_N_outcomeOf c_N_outcomeOf 2 (some .int) 1 := ⟨⟨tb_in (List.mem_of_getElem? (i := 405) (by decide +kernel)) rfl, tb_in (List.mem_of_getElem? (i := 406) (by decide +kernel)) rfl, tb_in (List.mem_of_getElem? (i := 407) (by decide +kernel)) rfl, tb_in (List.mem_of_getElem? (i := 41) (by decide +kernel)) rfl, tb_in (List.mem_of_getElem? (i := 408) (by decide +kernel)) rfl⟩, ⟨by decide, by decide, by decide +kernel⟩⟩
theorem g_M_111 : gV R_M 111 y_N_enderOf c_N_enderOf 2 (some .int) 1 := ⟨⟨tb_in (List.mem_of_getElem? (i := 409) (by decide +kernel)) rfl, tb_in (List.mem_of_getElem? (i := 410) (by decide +kernel)) rfl, tb_in (List.mem_of_getElem? (i := 411) (by decide +kernel)) rfl, tb_in (List.mem_of_getElem? (i := 41) (by decide +kernel)) rfl, tb_in (List.mem_of_getElem? (i := 412) (by decide +kernel)) rfl⟩, ⟨by decide, by decide, by decide +kernel⟩⟩
theorem g_M_114 : gV R_M 114 y_N_isAlike c_N_isAlike 3 (some .boolean) 1 := ⟨⟨tb_in (List.mem_of_getElem? (i := 413) (by decide +kernel)) rfl, tb_in (List.mem_of_getElem? (i := 414) (by decide +kernel)) rfl, tb_in (List.mem_of_getElem? (i := 415) (by decide +kernel)) rfl, tb_in (List.mem_of_getElem? (i := 41) (by decide +kernel)) rfl, tb_in (List.mem_of_getElem? (i := 416) (by decide +kernel)) rfl⟩, ⟨by decide, by decide, by decide +kernel⟩⟩
theorem g_N_48 : gV R_N 48 y_N_isOfDifferentNumbers c_N_isOfDifferentNumbers 4 (some .boolean) 1 := ⟨⟨tb_in (List.mem_of_getElem? (i := 417) (by decide +kernel)) rfl, tb_in (List.mem_of_getElem? (i := 419) (by decide +kernel)) rfl, tb_in (List.mem_of_getElem? (i := 8) (by decide +kernel)) rfl, tb_in (List.mem_of_getElem? (i := 41) (by decide +kernel)) rfl, tb_in (List.mem_of_getElem? (i := 420) (by decide +kernel)) rfl⟩, ⟨by decide, by decide, by decide +kernel⟩⟩
theorem g_N_71 : gV R_N 71 y_T_firstOf c_T_firstOf 2 (some .int) 1 := ⟨⟨tb_in (List.mem_of_getElem? (i := 421) (by decide +kernel)) rfl, tb_in (List.mem_of_getElem? (i := 299) (by decide +kernel)) rfl, tb_in (List.mem_of_getElem? (i := 300) (by decide +kernel)) rfl, tb_in (List.mem_of_getElem? (i := 38) (by decide +kernel)) rfl, tb_in (List.mem_of_getElem? (i := 301) (by decide +kernel)) rfl⟩, ⟨by decide, by decide, by decide +kernel⟩⟩
theorem g_N_51 : gV R_N 51 y_T_secondOf c_T_secondOf 2 (some .int) 1 := ⟨⟨tb_in (List.mem_of_getElem? (i := 422) (by decide +kernel)) rfl, tb_in (List.mem_of_getElem? (i := 303) (by decide +kernel)) rfl, tb_in (List.mem_of_getElem? (i := 304) (by decide +kernel)) rfl, tb_in (List.mem_of_getElem? (i := 38) (by decide +kernel)) rfl, tb_in (List.mem_of_getElem? (i := 305) (by decide +kernel)) rfl⟩, ⟨by decide, by decide, by decide +kernel⟩⟩
theorem g_N_68 : gV R_N 68 y_T_kindOf c_T_kindOf 2 (some .int) 1 := ⟨⟨tb_in (List.mem_of_getElem? (i := 423) (by decide +kernel)) rfl, tb_in (List.mem_of_getElem? (i := 287) (by decide +kernel)) rfl, tb_in (List.mem_of_getElem? (i := 288) (by decide +kernel)) rfl, tb_in (List.mem_of_getElem? (i := 38) (by decide +kernel)) rfl, tb_in (List.mem_of_getElem? (i := 289) (by decide +kernel)) rfl⟩, ⟨by decide, by decide, by decide +kernel⟩⟩
theorem g_N_74 : gV R_N 74 y_T_numberOf c_T_numberOf 2 (some .long) 1 := ⟨⟨tb_in (List.mem_of_getElem? (i := 424) (by decide +kernel)) rfl, tb_in (List.mem_of_getElem? (i := 291) (by decide +kernel)) rfl, tb_in (List.mem_of_getElem? (i := 292) (by decide +kernel)) rfl, tb_in (List.mem_of_getElem? (i := 38) (by decide +kernel)) rfl, tb_in (List.mem_of_getElem? (i := 293) (by decide +kernel)) rfl⟩, ⟨by decide, by decide, by decide +kernel⟩⟩
theorem g_N_57 : gV R_N 57 y_T_isNumber c_T_isNumber 4 (some .boolean) 2 := ⟨⟨tb_in (List.mem_of_getElem? (i := 425) (by decide +kernel)) rfl, tb_in (List.mem_of_getElem? (i := 426) (by decide +kernel)) rfl, tb_in (List.mem_of_getElem? (i := 427) (by decide +kernel)) rfl, tb_in (List.mem_of_getElem? (i := 38) (by decide +kernel)) rfl, tb_in (List.mem_of_getElem? (i := 428) (by decide +kernel)) rfl⟩, ⟨by decide, by decide, by decide +kernel⟩⟩
theorem g_N_61 : gV R_N 61 y_T_thirdOf c_T_thirdOf 2 (some .int) 1 := ⟨⟨tb_in (List.mem_of_getElem? (i := 429) (by decide +kernel)) rfl, tb_in (List.mem_of_getElem? (i := 307) (by decide +kernel)) rfl, tb_in (List.mem_of_getElem? (i := 308) (by decide +kernel)) rfl, tb_in (List.mem_of_getElem? (i := 38) (by decide +kernel)) rfl, tb_in (List.mem_of_getElem? (i := 309) (by decide +kernel)) rfl⟩, ⟨by decide, by decide, by decide +kernel⟩⟩
theorem g_N_64 : gV R_N 64 y_T_areAlike c_T_areAlike 3 (some .boolean) 2 := ⟨⟨tb_in (List.mem_of_getElem? (i := 430) (by decide +kernel)) rfl, tb_in (List.mem_of_getElem? (i := 259) (by decide +kernel)) rfl, tb_in (List.mem_of_getElem? (i := 260) (by decide +kernel)) rfl, tb_in (List.mem_of_getElem? (i := 38) (by decide +kernel)) rfl, tb_in (List.mem_of_getElem? (i := 261) (by decide +kernel)) rfl⟩, ⟨by decide, by decide, by decide +kernel⟩⟩
theorem g_L_39 : gV R_L 39 y_M_run c_M_run 8 (some .int) 2 := ⟨⟨tb_in (List.mem_of_getElem? (i := 431) (by decide +kernel)) rfl, tb_in (List.mem_of_getElem? (i := 432) (by decide +kernel)) rfl, tb_in (List.mem_of_getElem? (i := 433) (by decide +kernel)) rfl, tb_in (List.mem_of_getElem? (i := 37) (by decide +kernel)) rfl, tb_in (List.mem_of_getElem? (i := 434) (by decide +kernel)) rfl⟩, ⟨by decide, by decide, by decide +kernel⟩⟩
theorem g_M_117 : gV R_M 117 y_G_gather c_G_gather 3 none 1 := ⟨⟨tb_in (List.mem_of_getElem? (i := 435) (by decide +kernel)) rfl, tb_in (List.mem_of_getElem? (i := 436) (by decide +kernel)) rfl, tb_in (List.mem_of_getElem? (i := 437) (by decide +kernel)) rfl, tb_in (List.mem_of_getElem? (i := 42) (by decide +kernel)) rfl, tb_in (List.mem_of_getElem? (i := 438) (by decide +kernel)) rfl⟩, ⟨by decide, by decide, by decide +kernel⟩⟩
theorem g_G_30 : gV R_G 30 y_U_size c_U_size 1 (some .int) 0 := ⟨⟨tb_in (List.mem_of_getElem? (i := 439) (by decide +kernel)) rfl, tb_in (List.mem_of_getElem? (i := 440) (by decide +kernel)) rfl, tb_in (List.mem_of_getElem? (i := 441) (by decide +kernel)) rfl, tb_in (List.mem_of_getElem? (i := 39) (by decide +kernel)) rfl, tb_in (List.mem_of_getElem? (i := 442) (by decide +kernel)) rfl⟩, ⟨by decide, by decide, by decide +kernel⟩⟩
theorem g_G_35 : gV R_G 35 y_U_passesAndCovers c_U_passesAndCovers 3 (some .boolean) 2 := ⟨⟨tb_in (List.mem_of_getElem? (i := 443) (by decide +kernel)) rfl, tb_in (List.mem_of_getElem? (i := 444) (by decide +kernel)) rfl, tb_in (List.mem_of_getElem? (i := 445) (by decide +kernel)) rfl, tb_in (List.mem_of_getElem? (i := 39) (by decide +kernel)) rfl, tb_in (List.mem_of_getElem? (i := 446) (by decide +kernel)) rfl⟩, ⟨by decide, by decide, by decide +kernel⟩⟩
theorem g_U_44 : gSN R_U 44 y_M_bit R_M c_M_bit 1 (some .long) 1 := ⟨⟨(fun _ h => h.2.2), tb_in (List.mem_of_getElem? (i := 284) (by decide +kernel)) rfl, tb_in (List.mem_of_getElem? (i := 37) (by decide +kernel)) rfl, tb_in (List.mem_of_getElem? (i := 285) (by decide +kernel)) rfl⟩, ⟨by decide, by decide, by decide +kernel⟩⟩
theorem g_G_39 : gV R_G 39 y_U_rootOf c_U_rootOf 2 (some .int) 1 := ⟨⟨tb_in (List.mem_of_getElem? (i := 448) (by decide +kernel)) rfl, tb_in (List.mem_of_getElem? (i := 449) (by decide +kernel)) rfl, tb_in (List.mem_of_getElem? (i := 450) (by decide +kernel)) rfl, tb_in (List.mem_of_getElem? (i := 39) (by decide +kernel)) rfl, tb_in (List.mem_of_getElem? (i := 451) (by decide +kernel)) rfl⟩, ⟨by decide, by decide, by decide +kernel⟩⟩
theorem g_G_43 : gV R_G 43 y_T_wayBetween c_T_wayBetween 4 (some .int) 2 := ⟨⟨tb_in (List.mem_of_getElem? (i := 452) (by decide +kernel)) rfl, tb_in (List.mem_of_getElem? (i := 453) (by decide +kernel)) rfl, tb_in (List.mem_of_getElem? (i := 454) (by decide +kernel)) rfl, tb_in (List.mem_of_getElem? (i := 38) (by decide +kernel)) rfl, tb_in (List.mem_of_getElem? (i := 455) (by decide +kernel)) rfl⟩, ⟨by decide, by decide, by decide +kernel⟩⟩
theorem g_T_49 : gV R_T 49 y_T_goOnFrom c_T_goOnFrom 4 none 1 := ⟨⟨tb_in (List.mem_of_getElem? (i := 456) (by decide +kernel)) rfl, tb_in (List.mem_of_getElem? (i := 458) (by decide +kernel)) rfl, tb_in (List.mem_of_getElem? (i := 9) (by decide +kernel)) rfl, tb_in (List.mem_of_getElem? (i := 38) (by decide +kernel)) rfl, tb_in (List.mem_of_getElem? (i := 459) (by decide +kernel)) rfl⟩, ⟨by decide, by decide, by decide +kernel⟩⟩
theorem g_T_53 : gV R_T 53 y_T_shorten c_T_shorten 3 none 2 := ⟨⟨tb_in (List.mem_of_getElem? (i := 460) (by decide +kernel)) rfl, tb_in (List.mem_of_getElem? (i := 462) (by decide +kernel)) rfl, tb_in (List.mem_of_getElem? (i := 10) (by decide +kernel)) rfl, tb_in (List.mem_of_getElem? (i := 38) (by decide +kernel)) rfl, tb_in (List.mem_of_getElem? (i := 463) (by decide +kernel)) rfl⟩, ⟨by decide, by decide, by decide +kernel⟩⟩
theorem g_G_49 : gV R_G 49 y_G_insert c_G_insert 4 none 2 := ⟨⟨tb_in (List.mem_of_getElem? (i := 464) (by decide +kernel)) rfl, tb_in (List.mem_of_getElem? (i := 466) (by decide +kernel)) rfl, tb_in (List.mem_of_getElem? (i := 11) (by decide +kernel)) rfl, tb_in (List.mem_of_getElem? (i := 42) (by decide +kernel)) rfl, tb_in (List.mem_of_getElem? (i := 467) (by decide +kernel)) rfl⟩, ⟨by decide, by decide, by decide +kernel⟩⟩
theorem g_M_121 : gV R_M 121 y_G_size c_G_size 1 (some .int) 0 := ⟨⟨tb_in (List.mem_of_getElem? (i := 468) (by decide +kernel)) rfl, tb_in (List.mem_of_getElem? (i := 469) (by decide +kernel)) rfl, tb_in (List.mem_of_getElem? (i := 470) (by decide +kernel)) rfl, tb_in (List.mem_of_getElem? (i := 42) (by decide +kernel)) rfl, tb_in (List.mem_of_getElem? (i := 471) (by decide +kernel)) rfl⟩, ⟨by decide, by decide, by decide +kernel⟩⟩
theorem g_M_122 : gV R_M 122 y_G_at c_G_at 2 (some .int) 1 := ⟨⟨tb_in (List.mem_of_getElem? (i := 472) (by decide +kernel)) rfl, tb_in (List.mem_of_getElem? (i := 473) (by decide +kernel)) rfl, tb_in (List.mem_of_getElem? (i := 474) (by decide +kernel)) rfl, tb_in (List.mem_of_getElem? (i := 42) (by decide +kernel)) rfl, tb_in (List.mem_of_getElem? (i := 475) (by decide +kernel)) rfl⟩, ⟨by decide, by decide, by decide +kernel⟩⟩
theorem g_M_125 : gV R_M 125 y_U_judge c_U_judge 7 (some .int) 4 := ⟨⟨tb_in (List.mem_of_getElem? (i := 476) (by decide +kernel)) rfl, tb_in (List.mem_of_getElem? (i := 477) (by decide +kernel)) rfl, tb_in (List.mem_of_getElem? (i := 478) (by decide +kernel)) rfl, tb_in (List.mem_of_getElem? (i := 39) (by decide +kernel)) rfl, tb_in (List.mem_of_getElem? (i := 479) (by decide +kernel)) rfl⟩, ⟨by decide, by decide, by decide +kernel⟩⟩
theorem g_U_52 : gV R_U 52 y_K_changeAt c_K_changeAt 3 none 2 := ⟨⟨tb_in (List.mem_of_getElem? (i := 480) (by decide +kernel)) rfl, tb_in (List.mem_of_getElem? (i := 481) (by decide +kernel)) rfl, tb_in (List.mem_of_getElem? (i := 482) (by decide +kernel)) rfl, tb_in (List.mem_of_getElem? (i := 40) (by decide +kernel)) rfl, tb_in (List.mem_of_getElem? (i := 483) (by decide +kernel)) rfl⟩, ⟨by decide, by decide, by decide +kernel⟩⟩
theorem g_U_60 : gV R_U 60 y_K_unchange c_K_unchange 1 none 0 := ⟨⟨tb_in (List.mem_of_getElem? (i := 484) (by decide +kernel)) rfl, tb_in (List.mem_of_getElem? (i := 485) (by decide +kernel)) rfl, tb_in (List.mem_of_getElem? (i := 486) (by decide +kernel)) rfl, tb_in (List.mem_of_getElem? (i := 40) (by decide +kernel)) rfl, tb_in (List.mem_of_getElem? (i := 487) (by decide +kernel)) rfl⟩, ⟨by decide, by decide, by decide +kernel⟩⟩
theorem g_M_129 : gV R_M 129 y_N_settle c_N_settle 4 none 3 := ⟨⟨tb_in (List.mem_of_getElem? (i := 488) (by decide +kernel)) rfl, tb_in (List.mem_of_getElem? (i := 386) (by decide +kernel)) rfl, tb_in (List.mem_of_getElem? (i := 387) (by decide +kernel)) rfl, tb_in (List.mem_of_getElem? (i := 41) (by decide +kernel)) rfl, tb_in (List.mem_of_getElem? (i := 388) (by decide +kernel)) rfl⟩, ⟨by decide, by decide, by decide +kernel⟩⟩
theorem g_L_43 : gV R_L 43 y_M_order c_M_order 3 (some .int) 2 := ⟨⟨tb_in (List.mem_of_getElem? (i := 489) (by decide +kernel)) rfl, tb_in (List.mem_of_getElem? (i := 490) (by decide +kernel)) rfl, tb_in (List.mem_of_getElem? (i := 491) (by decide +kernel)) rfl, tb_in (List.mem_of_getElem? (i := 37) (by decide +kernel)) rfl, tb_in (List.mem_of_getElem? (i := 492) (by decide +kernel)) rfl⟩, ⟨by decide, by decide, by decide +kernel⟩⟩
theorem g_L_47 : gV R_L 47 y_M_distance c_M_distance 3 (some .int) 2 := ⟨⟨tb_in (List.mem_of_getElem? (i := 493) (by decide +kernel)) rfl, tb_in (List.mem_of_getElem? (i := 494) (by decide +kernel)) rfl, tb_in (List.mem_of_getElem? (i := 495) (by decide +kernel)) rfl, tb_in (List.mem_of_getElem? (i := 37) (by decide +kernel)) rfl, tb_in (List.mem_of_getElem? (i := 496) (by decide +kernel)) rfl⟩, ⟨by decide, by decide, by decide +kernel⟩⟩
theorem g_M_133 : gV R_M 133 y_U_rootOf c_U_rootOf 2 (some .int) 1 := ⟨⟨tb_in (List.mem_of_getElem? (i := 497) (by decide +kernel)) rfl, tb_in (List.mem_of_getElem? (i := 449) (by decide +kernel)) rfl, tb_in (List.mem_of_getElem? (i := 450) (by decide +kernel)) rfl, tb_in (List.mem_of_getElem? (i := 39) (by decide +kernel)) rfl, tb_in (List.mem_of_getElem? (i := 451) (by decide +kernel)) rfl⟩, ⟨by decide, by decide, by decide +kernel⟩⟩
theorem g_M_136 : gV R_M 136 y_T_wayBetween c_T_wayBetween 4 (some .int) 2 := ⟨⟨tb_in (List.mem_of_getElem? (i := 498) (by decide +kernel)) rfl, tb_in (List.mem_of_getElem? (i := 453) (by decide +kernel)) rfl, tb_in (List.mem_of_getElem? (i := 454) (by decide +kernel)) rfl, tb_in (List.mem_of_getElem? (i := 38) (by decide +kernel)) rfl, tb_in (List.mem_of_getElem? (i := 455) (by decide +kernel)) rfl⟩, ⟨by decide, by decide, by decide +kernel⟩⟩
theorem g_L_51 : gV R_L 51 y_M_change c_M_change 4 (some .int) 2 := ⟨⟨tb_in (List.mem_of_getElem? (i := 499) (by decide +kernel)) rfl, tb_in (List.mem_of_getElem? (i := 500) (by decide +kernel)) rfl, tb_in (List.mem_of_getElem? (i := 501) (by decide +kernel)) rfl, tb_in (List.mem_of_getElem? (i := 37) (by decide +kernel)) rfl, tb_in (List.mem_of_getElem? (i := 502) (by decide +kernel)) rfl⟩, ⟨by decide, by decide, by decide +kernel⟩⟩
theorem g_M_140 : gV R_M 140 y_T_numberOf c_T_numberOf 2 (some .long) 1 := ⟨⟨tb_in (List.mem_of_getElem? (i := 503) (by decide +kernel)) rfl, tb_in (List.mem_of_getElem? (i := 291) (by decide +kernel)) rfl, tb_in (List.mem_of_getElem? (i := 292) (by decide +kernel)) rfl, tb_in (List.mem_of_getElem? (i := 38) (by decide +kernel)) rfl, tb_in (List.mem_of_getElem? (i := 293) (by decide +kernel)) rfl⟩, ⟨by decide, by decide, by decide +kernel⟩⟩
theorem g_M_143 : gV R_M 143 y_T_renumber c_T_renumber 5 none 2 := ⟨⟨tb_in (List.mem_of_getElem? (i := 504) (by decide +kernel)) rfl, tb_in (List.mem_of_getElem? (i := 505) (by decide +kernel)) rfl, tb_in (List.mem_of_getElem? (i := 506) (by decide +kernel)) rfl, tb_in (List.mem_of_getElem? (i := 38) (by decide +kernel)) rfl, tb_in (List.mem_of_getElem? (i := 507) (by decide +kernel)) rfl⟩, ⟨by decide, by decide, by decide +kernel⟩⟩
theorem g_M_147 : gV R_M 147 y_U_retry c_U_retry 5 (some .long) 1 := ⟨⟨tb_in (List.mem_of_getElem? (i := 508) (by decide +kernel)) rfl, tb_in (List.mem_of_getElem? (i := 509) (by decide +kernel)) rfl, tb_in (List.mem_of_getElem? (i := 510) (by decide +kernel)) rfl, tb_in (List.mem_of_getElem? (i := 39) (by decide +kernel)) rfl, tb_in (List.mem_of_getElem? (i := 511) (by decide +kernel)) rfl⟩, ⟨by decide, by decide, by decide +kernel⟩⟩
theorem g_M_150 : gV R_M 150 y_N_forget c_N_forget 4 none 1 := ⟨⟨tb_in (List.mem_of_getElem? (i := 512) (by decide +kernel)) rfl, tb_in (List.mem_of_getElem? (i := 513) (by decide +kernel)) rfl, tb_in (List.mem_of_getElem? (i := 514) (by decide +kernel)) rfl, tb_in (List.mem_of_getElem? (i := 41) (by decide +kernel)) rfl, tb_in (List.mem_of_getElem? (i := 515) (by decide +kernel)) rfl⟩, ⟨by decide, by decide, by decide +kernel⟩⟩
theorem g_M_154 : gV R_M 154 y_U_countPassing c_U_countPassing 3 (some .int) 0 := ⟨⟨tb_in (List.mem_of_getElem? (i := 516) (by decide +kernel)) rfl, tb_in (List.mem_of_getElem? (i := 517) (by decide +kernel)) rfl, tb_in (List.mem_of_getElem? (i := 518) (by decide +kernel)) rfl, tb_in (List.mem_of_getElem? (i := 39) (by decide +kernel)) rfl, tb_in (List.mem_of_getElem? (i := 519) (by decide +kernel)) rfl⟩, ⟨by decide, by decide, by decide +kernel⟩⟩
theorem g_L_56 : gV R_L 56 y_M_sample c_M_sample 4 (some .boolean) 2 := ⟨⟨tb_in (List.mem_of_getElem? (i := 520) (by decide +kernel)) rfl, tb_in (List.mem_of_getElem? (i := 521) (by decide +kernel)) rfl, tb_in (List.mem_of_getElem? (i := 522) (by decide +kernel)) rfl, tb_in (List.mem_of_getElem? (i := 37) (by decide +kernel)) rfl, tb_in (List.mem_of_getElem? (i := 523) (by decide +kernel)) rfl⟩, ⟨by decide, by decide, by decide +kernel⟩⟩
theorem g_M_157 : gV R_M 157 y_D_shuffle c_D_shuffle 10 none 3 := ⟨⟨tb_in (List.mem_of_getElem? (i := 524) (by decide +kernel)) rfl, tb_in (List.mem_of_getElem? (i := 525) (by decide +kernel)) rfl, tb_in (List.mem_of_getElem? (i := 526) (by decide +kernel)) rfl, tb_in (List.mem_of_getElem? (i := 43) (by decide +kernel)) rfl, tb_in (List.mem_of_getElem? (i := 527) (by decide +kernel)) rfl⟩, ⟨by decide, by decide, by decide +kernel⟩⟩
theorem g_L_61 : gV R_L 61 y_M_sampled c_M_sampled 2 (some .int) 1 := ⟨⟨tb_in (List.mem_of_getElem? (i := 530) (by decide +kernel)) rfl, tb_in (List.mem_of_getElem? (i := 531) (by decide +kernel)) rfl, tb_in (List.mem_of_getElem? (i := 532) (by decide +kernel)) rfl, tb_in (List.mem_of_getElem? (i := 37) (by decide +kernel)) rfl, tb_in (List.mem_of_getElem? (i := 533) (by decide +kernel)) rfl⟩, ⟨by decide, by decide, by decide +kernel⟩⟩
theorem g_M_161 : gV R_M 161 y_D_at c_D_at 2 (some .int) 1 := ⟨⟨tb_in (List.mem_of_getElem? (i := 534) (by decide +kernel)) rfl, tb_in (List.mem_of_getElem? (i := 535) (by decide +kernel)) rfl, tb_in (List.mem_of_getElem? (i := 536) (by decide +kernel)) rfl, tb_in (List.mem_of_getElem? (i := 43) (by decide +kernel)) rfl, tb_in (List.mem_of_getElem? (i := 537) (by decide +kernel)) rfl⟩, ⟨by decide, by decide, by decide +kernel⟩⟩
theorem g_L_65 : gV R_L 65 y_M_score c_M_score 5 (some .int) 2 := ⟨⟨tb_in (List.mem_of_getElem? (i := 538) (by decide +kernel)) rfl, tb_in (List.mem_of_getElem? (i := 539) (by decide +kernel)) rfl, tb_in (List.mem_of_getElem? (i := 540) (by decide +kernel)) rfl, tb_in (List.mem_of_getElem? (i := 37) (by decide +kernel)) rfl, tb_in (List.mem_of_getElem? (i := 541) (by decide +kernel)) rfl⟩, ⟨by decide, by decide, by decide +kernel⟩⟩
theorem g_M_162 : gV R_M 162 y_N_isOnSide c_N_isOnSide 4 (some .boolean) 2 := ⟨⟨tb_in (List.mem_of_getElem? (i := 542) (by decide +kernel)) rfl, tb_in (List.mem_of_getElem? (i := 543) (by decide +kernel)) rfl, tb_in (List.mem_of_getElem? (i := 544) (by decide +kernel)) rfl, tb_in (List.mem_of_getElem? (i := 41) (by decide +kernel)) rfl, tb_in (List.mem_of_getElem? (i := 545) (by decide +kernel)) rfl⟩, ⟨by decide, by decide, by decide +kernel⟩⟩
theorem g_N_44 : gV R_N 44 y_N_isAlike c_N_isAlike 3 (some .boolean) 1 := ⟨⟨tb_in (List.mem_of_getElem? (i := 546) (by decide +kernel)) rfl, tb_in (List.mem_of_getElem? (i := 414) (by decide +kernel)) rfl, tb_in (List.mem_of_getElem? (i := 415) (by decide +kernel)) rfl, tb_in (List.mem_of_getElem? (i := 41) (by decide +kernel)) rfl, tb_in (List.mem_of_getElem? (i := 416) (by decide +kernel)) rfl⟩, ⟨by decide, by decide, by decide +kernel⟩⟩
theorem g_L_69 : gV R_L 69 y_M_miss c_M_miss 4 (some .int) 1 := ⟨⟨tb_in (List.mem_of_getElem? (i := 547) (by decide +kernel)) rfl, tb_in (List.mem_of_getElem? (i := 548) (by decide +kernel)) rfl, tb_in (List.mem_of_getElem? (i := 549) (by decide +kernel)) rfl, tb_in (List.mem_of_getElem? (i := 37) (by decide +kernel)) rfl, tb_in (List.mem_of_getElem? (i := 550) (by decide +kernel)) rfl⟩, ⟨by decide, by decide, by decide +kernel⟩⟩
theorem g_L_19 : gV R_L 19 y_R_node c_R_node 7 (some .int) 4 := ⟨⟨tb_in (List.mem_of_getElem? (i := 667) (by decide +kernel)) rfl, tb_in (List.mem_of_getElem? (i := 668) (by decide +kernel)) rfl, tb_in (List.mem_of_getElem? (i := 669) (by decide +kernel)) rfl, tb_in (List.mem_of_getElem? (i := 44) (by decide +kernel)) rfl, tb_in (List.mem_of_getElem? (i := 670) (by decide +kernel)) rfl⟩, ⟨by decide, by decide, by decide +kernel⟩⟩
theorem g_R_94 : gS R_R 94 y_R_in c_R_in 6 (some .boolean) 3 := ⟨⟨tb_in (List.mem_of_getElem? (i := 672) (by decide +kernel)) rfl, tb_in (List.mem_of_getElem? (i := 673) (by decide +kernel)) rfl, tb_in (List.mem_of_getElem? (i := 44) (by decide +kernel)) rfl, tb_in (List.mem_of_getElem? (i := 674) (by decide +kernel)) rfl⟩, ⟨by decide, by decide, by decide +kernel⟩⟩
theorem g_R_106 : gS R_R 106 y_R_parts c_R_parts 1 (some .int) 1 := ⟨⟨tb_in (List.mem_of_getElem? (i := 675) (by decide +kernel)) rfl, tb_in (List.mem_of_getElem? (i := 676) (by decide +kernel)) rfl, tb_in (List.mem_of_getElem? (i := 44) (by decide +kernel)) rfl, tb_in (List.mem_of_getElem? (i := 677) (by decide +kernel)) rfl⟩, ⟨by decide, by decide, by decide +kernel⟩⟩
theorem g_R_110 : gV R_R 110 y_R_isNode c_R_isNode 3 (some .boolean) 1 := ⟨⟨tb_in (List.mem_of_getElem? (i := 678) (by decide +kernel)) rfl, tb_in (List.mem_of_getElem? (i := 680) (by decide +kernel)) rfl, tb_in (List.mem_of_getElem? (i := 12) (by decide +kernel)) rfl, tb_in (List.mem_of_getElem? (i := 44) (by decide +kernel)) rfl, tb_in (List.mem_of_getElem? (i := 681) (by decide +kernel)) rfl⟩, ⟨by decide, by decide, by decide +kernel⟩⟩
theorem g_L_24 : gV R_L 24 y_R_test c_R_test 6 (some .int) 3 := ⟨⟨tb_in (List.mem_of_getElem? (i := 682) (by decide +kernel)) rfl, tb_in (List.mem_of_getElem? (i := 683) (by decide +kernel)) rfl, tb_in (List.mem_of_getElem? (i := 684) (by decide +kernel)) rfl, tb_in (List.mem_of_getElem? (i := 44) (by decide +kernel)) rfl, tb_in (List.mem_of_getElem? (i := 685) (by decide +kernel)) rfl⟩, ⟨by decide, by decide, by decide +kernel⟩⟩
theorem g_R_165 : gV R_R 165 y_R_tryOut c_R_tryOut 3 none 1 := ⟨⟨tb_in (List.mem_of_getElem? (i := 686) (by decide +kernel)) rfl, tb_in (List.mem_of_getElem? (i := 688) (by decide +kernel)) rfl, tb_in (List.mem_of_getElem? (i := 13) (by decide +kernel)) rfl, tb_in (List.mem_of_getElem? (i := 44) (by decide +kernel)) rfl, tb_in (List.mem_of_getElem? (i := 689) (by decide +kernel)) rfl⟩, ⟨by decide, by decide, by decide +kernel⟩⟩
theorem g_R_161 : gV R_R 161 y_R_workOut c_R_workOut 6 none 3 := ⟨⟨tb_in (List.mem_of_getElem? (i := 690) (by decide +kernel)) rfl, tb_in (List.mem_of_getElem? (i := 692) (by decide +kernel)) rfl, tb_in (List.mem_of_getElem? (i := 14) (by decide +kernel)) rfl, tb_in (List.mem_of_getElem? (i := 44) (by decide +kernel)) rfl, tb_in (List.mem_of_getElem? (i := 693) (by decide +kernel)) rfl⟩, ⟨by decide, by decide, by decide +kernel⟩⟩
theorem g_R_131 : gV R_R 131 y_R_enter c_R_enter 3 none 2 := ⟨⟨tb_in (List.mem_of_getElem? (i := 694) (by decide +kernel)) rfl, tb_in (List.mem_of_getElem? (i := 696) (by decide +kernel)) rfl, tb_in (List.mem_of_getElem? (i := 15) (by decide +kernel)) rfl, tb_in (List.mem_of_getElem? (i := 44) (by decide +kernel)) rfl, tb_in (List.mem_of_getElem? (i := 697) (by decide +kernel)) rfl⟩, ⟨by decide, by decide, by decide +kernel⟩⟩
theorem g_R_135 : gV R_R 135 y_R_goOn c_R_goOn 6 none 2 := ⟨⟨tb_in (List.mem_of_getElem? (i := 698) (by decide +kernel)) rfl, tb_in (List.mem_of_getElem? (i := 700) (by decide +kernel)) rfl, tb_in (List.mem_of_getElem? (i := 16) (by decide +kernel)) rfl, tb_in (List.mem_of_getElem? (i := 44) (by decide +kernel)) rfl, tb_in (List.mem_of_getElem? (i := 701) (by decide +kernel)) rfl⟩, ⟨by decide, by decide, by decide +kernel⟩⟩
theorem g_R_139 : gV R_R 139 y_R_is c_R_is 3 (some .boolean) 2 := ⟨⟨tb_in (List.mem_of_getElem? (i := 702) (by decide +kernel)) rfl, tb_in (List.mem_of_getElem? (i := 704) (by decide +kernel)) rfl, tb_in (List.mem_of_getElem? (i := 17) (by decide +kernel)) rfl, tb_in (List.mem_of_getElem? (i := 44) (by decide +kernel)) rfl, tb_in (List.mem_of_getElem? (i := 705) (by decide +kernel)) rfl⟩, ⟨by decide, by decide, by decide +kernel⟩⟩
theorem g_R_143 : gV R_R 143 y_R_leave c_R_leave 3 none 1 := ⟨⟨tb_in (List.mem_of_getElem? (i := 706) (by decide +kernel)) rfl, tb_in (List.mem_of_getElem? (i := 708) (by decide +kernel)) rfl, tb_in (List.mem_of_getElem? (i := 18) (by decide +kernel)) rfl, tb_in (List.mem_of_getElem? (i := 44) (by decide +kernel)) rfl, tb_in (List.mem_of_getElem? (i := 709) (by decide +kernel)) rfl⟩, ⟨by decide, by decide, by decide +kernel⟩⟩
theorem g_R_147 : gV R_R 147 y_R_choose c_R_choose 4 none 3 := ⟨⟨tb_in (List.mem_of_getElem? (i := 710) (by decide +kernel)) rfl, tb_in (List.mem_of_getElem? (i := 712) (by decide +kernel)) rfl, tb_in (List.mem_of_getElem? (i := 19) (by decide +kernel)) rfl, tb_in (List.mem_of_getElem? (i := 44) (by decide +kernel)) rfl, tb_in (List.mem_of_getElem? (i := 713) (by decide +kernel)) rfl⟩, ⟨by decide, by decide, by decide +kernel⟩⟩
theorem g_R_151 : gV R_R 151 y_R_loop c_R_loop 6 none 3 := ⟨⟨tb_in (List.mem_of_getElem? (i := 714) (by decide +kernel)) rfl, tb_in (List.mem_of_getElem? (i := 716) (by decide +kernel)) rfl, tb_in (List.mem_of_getElem? (i := 20) (by decide +kernel)) rfl, tb_in (List.mem_of_getElem? (i := 44) (by decide +kernel)) rfl, tb_in (List.mem_of_getElem? (i := 717) (by decide +kernel)) rfl⟩, ⟨by decide, by decide, by decide +kernel⟩⟩
theorem g_R_154 : gV R_R 154 y_R_both c_R_both 4 none 3 := ⟨⟨tb_in (List.mem_of_getElem? (i := 718) (by decide +kernel)) rfl, tb_in (List.mem_of_getElem? (i := 720) (by decide +kernel)) rfl, tb_in (List.mem_of_getElem? (i := 21) (by decide +kernel)) rfl, tb_in (List.mem_of_getElem? (i := 44) (by decide +kernel)) rfl, tb_in (List.mem_of_getElem? (i := 721) (by decide +kernel)) rfl⟩, ⟨by decide, by decide, by decide +kernel⟩⟩
theorem g_R_157 : gV R_R 157 y_R_made c_R_made 6 (some .long) 3 := ⟨⟨tb_in (List.mem_of_getElem? (i := 722) (by decide +kernel)) rfl, tb_in (List.mem_of_getElem? (i := 724) (by decide +kernel)) rfl, tb_in (List.mem_of_getElem? (i := 22) (by decide +kernel)) rfl, tb_in (List.mem_of_getElem? (i := 44) (by decide +kernel)) rfl, tb_in (List.mem_of_getElem? (i := 725) (by decide +kernel)) rfl⟩, ⟨by decide, by decide, by decide +kernel⟩⟩
theorem g_L_29 : gV R_L 29 y_R_about c_R_about 5 (some .int) 2 := ⟨⟨tb_in (List.mem_of_getElem? (i := 726) (by decide +kernel)) rfl, tb_in (List.mem_of_getElem? (i := 727) (by decide +kernel)) rfl, tb_in (List.mem_of_getElem? (i := 728) (by decide +kernel)) rfl, tb_in (List.mem_of_getElem? (i := 44) (by decide +kernel)) rfl, tb_in (List.mem_of_getElem? (i := 729) (by decide +kernel)) rfl⟩, ⟨by decide, by decide, by decide +kernel⟩⟩
theorem g_R_169 : gV R_R 169 y_R_isTest c_R_isTest 2 (some .boolean) 1 := ⟨⟨tb_in (List.mem_of_getElem? (i := 730) (by decide +kernel)) rfl, tb_in (List.mem_of_getElem? (i := 732) (by decide +kernel)) rfl, tb_in (List.mem_of_getElem? (i := 23) (by decide +kernel)) rfl, tb_in (List.mem_of_getElem? (i := 44) (by decide +kernel)) rfl, tb_in (List.mem_of_getElem? (i := 733) (by decide +kernel)) rfl⟩, ⟨by decide, by decide, by decide +kernel⟩⟩
theorem g_L_34 : gV R_L 34 y_R_make c_R_make 4 (some .int) 1 := ⟨⟨tb_in (List.mem_of_getElem? (i := 734) (by decide +kernel)) rfl, tb_in (List.mem_of_getElem? (i := 735) (by decide +kernel)) rfl, tb_in (List.mem_of_getElem? (i := 736) (by decide +kernel)) rfl, tb_in (List.mem_of_getElem? (i := 44) (by decide +kernel)) rfl, tb_in (List.mem_of_getElem? (i := 737) (by decide +kernel)) rfl⟩, ⟨by decide, by decide, by decide +kernel⟩⟩
theorem g_R_175 : gV R_R 175 y_R_isFor c_R_isFor 4 (some .boolean) 2 := ⟨⟨tb_in (List.mem_of_getElem? (i := 739) (by decide +kernel)) rfl, tb_in (List.mem_of_getElem? (i := 741) (by decide +kernel)) rfl, tb_in (List.mem_of_getElem? (i := 24) (by decide +kernel)) rfl, tb_in (List.mem_of_getElem? (i := 44) (by decide +kernel)) rfl, tb_in (List.mem_of_getElem? (i := 742) (by decide +kernel)) rfl⟩, ⟨by decide, by decide, by decide +kernel⟩⟩
theorem g_R_178 : gV R_R 178 y_R_isCovered c_R_isCovered 3 (some .boolean) 1 := ⟨⟨tb_in (List.mem_of_getElem? (i := 743) (by decide +kernel)) rfl, tb_in (List.mem_of_getElem? (i := 745) (by decide +kernel)) rfl, tb_in (List.mem_of_getElem? (i := 25) (by decide +kernel)) rfl, tb_in (List.mem_of_getElem? (i := 44) (by decide +kernel)) rfl, tb_in (List.mem_of_getElem? (i := 746) (by decide +kernel)) rfl⟩, ⟨by decide, by decide, by decide +kernel⟩⟩
theorem g_R_181 : gV R_R 181 y_R_isMade c_R_isMade 4 (some .boolean) 2 := ⟨⟨tb_in (List.mem_of_getElem? (i := 747) (by decide +kernel)) rfl, tb_in (List.mem_of_getElem? (i := 749) (by decide +kernel)) rfl, tb_in (List.mem_of_getElem? (i := 26) (by decide +kernel)) rfl, tb_in (List.mem_of_getElem? (i := 44) (by decide +kernel)) rfl, tb_in (List.mem_of_getElem? (i := 750) (by decide +kernel)) rfl⟩, ⟨by decide, by decide, by decide +kernel⟩⟩
theorem g_L_38 : gV R_L 38 y_R_mutant c_R_mutant 3 (some .int) 2 := ⟨⟨tb_in (List.mem_of_getElem? (i := 751) (by decide +kernel)) rfl, tb_in (List.mem_of_getElem? (i := 752) (by decide +kernel)) rfl, tb_in (List.mem_of_getElem? (i := 753) (by decide +kernel)) rfl, tb_in (List.mem_of_getElem? (i := 44) (by decide +kernel)) rfl, tb_in (List.mem_of_getElem? (i := 754) (by decide +kernel)) rfl⟩, ⟨by decide, by decide, by decide +kernel⟩⟩
theorem g_R_194 : gV R_R 194 y_R_isMutant c_R_isMutant 2 (some .boolean) 1 := ⟨⟨tb_in (List.mem_of_getElem? (i := 755) (by decide +kernel)) rfl, tb_in (List.mem_of_getElem? (i := 757) (by decide +kernel)) rfl, tb_in (List.mem_of_getElem? (i := 27) (by decide +kernel)) rfl, tb_in (List.mem_of_getElem? (i := 44) (by decide +kernel)) rfl, tb_in (List.mem_of_getElem? (i := 758) (by decide +kernel)) rfl⟩, ⟨by decide, by decide, by decide +kernel⟩⟩
theorem g_R_197 : gV R_R 197 y_R_isProved c_R_isProved 5 (some .boolean) 1 := ⟨⟨tb_in (List.mem_of_getElem? (i := 759) (by decide +kernel)) rfl, tb_in (List.mem_of_getElem? (i := 761) (by decide +kernel)) rfl, tb_in (List.mem_of_getElem? (i := 28) (by decide +kernel)) rfl, tb_in (List.mem_of_getElem? (i := 44) (by decide +kernel)) rfl, tb_in (List.mem_of_getElem? (i := 762) (by decide +kernel)) rfl⟩, ⟨by decide, by decide, by decide +kernel⟩⟩
theorem g_R_187 : gV R_R 187 y_R_isNumber c_R_isNumber 4 (some .boolean) 2 := ⟨⟨tb_in (List.mem_of_getElem? (i := 763) (by decide +kernel)) rfl, tb_in (List.mem_of_getElem? (i := 765) (by decide +kernel)) rfl, tb_in (List.mem_of_getElem? (i := 29) (by decide +kernel)) rfl, tb_in (List.mem_of_getElem? (i := 44) (by decide +kernel)) rfl, tb_in (List.mem_of_getElem? (i := 766) (by decide +kernel)) rfl⟩, ⟨by decide, by decide, by decide +kernel⟩⟩
theorem g_R_191 : gV R_R 191 y_R_layAlike c_R_layAlike 4 none 0 := ⟨⟨tb_in (List.mem_of_getElem? (i := 767) (by decide +kernel)) rfl, tb_in (List.mem_of_getElem? (i := 769) (by decide +kernel)) rfl, tb_in (List.mem_of_getElem? (i := 30) (by decide +kernel)) rfl, tb_in (List.mem_of_getElem? (i := 44) (by decide +kernel)) rfl, tb_in (List.mem_of_getElem? (i := 770) (by decide +kernel)) rfl⟩, ⟨by decide, by decide, by decide +kernel⟩⟩
theorem g_R_184 : gV R_R 184 y_R_areParts c_R_areParts 3 (some .boolean) 2 := ⟨⟨tb_in (List.mem_of_getElem? (i := 771) (by decide +kernel)) rfl, tb_in (List.mem_of_getElem? (i := 773) (by decide +kernel)) rfl, tb_in (List.mem_of_getElem? (i := 31) (by decide +kernel)) rfl, tb_in (List.mem_of_getElem? (i := 44) (by decide +kernel)) rfl, tb_in (List.mem_of_getElem? (i := 774) (by decide +kernel)) rfl⟩, ⟨by decide, by decide, by decide +kernel⟩⟩
theorem g_L_42 : gV R_L 42 y_R_run c_R_run 5 (some .int) 2 := ⟨⟨tb_in (List.mem_of_getElem? (i := 775) (by decide +kernel)) rfl, tb_in (List.mem_of_getElem? (i := 776) (by decide +kernel)) rfl, tb_in (List.mem_of_getElem? (i := 777) (by decide +kernel)) rfl, tb_in (List.mem_of_getElem? (i := 44) (by decide +kernel)) rfl, tb_in (List.mem_of_getElem? (i := 778) (by decide +kernel)) rfl⟩, ⟨by decide, by decide, by decide +kernel⟩⟩
theorem g_R_211 : gV R_R 211 y_R_layList c_R_layList 5 none 1 := ⟨⟨tb_in (List.mem_of_getElem? (i := 780) (by decide +kernel)) rfl, tb_in (List.mem_of_getElem? (i := 782) (by decide +kernel)) rfl, tb_in (List.mem_of_getElem? (i := 32) (by decide +kernel)) rfl, tb_in (List.mem_of_getElem? (i := 44) (by decide +kernel)) rfl, tb_in (List.mem_of_getElem? (i := 783) (by decide +kernel)) rfl⟩, ⟨by decide, by decide, by decide +kernel⟩⟩
theorem g_R_206 : gV R_R 206 y_R_layFar c_R_layFar 3 none 1 := ⟨⟨tb_in (List.mem_of_getElem? (i := 784) (by decide +kernel)) rfl, tb_in (List.mem_of_getElem? (i := 786) (by decide +kernel)) rfl, tb_in (List.mem_of_getElem? (i := 33) (by decide +kernel)) rfl, tb_in (List.mem_of_getElem? (i := 44) (by decide +kernel)) rfl, tb_in (List.mem_of_getElem? (i := 787) (by decide +kernel)) rfl⟩, ⟨by decide, by decide, by decide +kernel⟩⟩
theorem g_R_200 : gV R_R 200 y_R_comeTo c_R_comeTo 3 none 2 := ⟨⟨tb_in (List.mem_of_getElem? (i := 788) (by decide +kernel)) rfl, tb_in (List.mem_of_getElem? (i := 790) (by decide +kernel)) rfl, tb_in (List.mem_of_getElem? (i := 34) (by decide +kernel)) rfl, tb_in (List.mem_of_getElem? (i := 44) (by decide +kernel)) rfl, tb_in (List.mem_of_getElem? (i := 791) (by decide +kernel)) rfl⟩, ⟨by decide, by decide, by decide +kernel⟩⟩
theorem g_L_46 : gV R_L 46 y_R_order c_R_order 3 (some .int) 2 := ⟨⟨tb_in (List.mem_of_getElem? (i := 792) (by decide +kernel)) rfl, tb_in (List.mem_of_getElem? (i := 793) (by decide +kernel)) rfl, tb_in (List.mem_of_getElem? (i := 794) (by decide +kernel)) rfl, tb_in (List.mem_of_getElem? (i := 44) (by decide +kernel)) rfl, tb_in (List.mem_of_getElem? (i := 795) (by decide +kernel)) rfl⟩, ⟨by decide, by decide, by decide +kernel⟩⟩
theorem g_L_50 : gV R_L 50 y_R_distance c_R_distance 3 (some .int) 2 := ⟨⟨tb_in (List.mem_of_getElem? (i := 796) (by decide +kernel)) rfl, tb_in (List.mem_of_getElem? (i := 797) (by decide +kernel)) rfl, tb_in (List.mem_of_getElem? (i := 798) (by decide +kernel)) rfl, tb_in (List.mem_of_getElem? (i := 44) (by decide +kernel)) rfl, tb_in (List.mem_of_getElem? (i := 799) (by decide +kernel)) rfl⟩, ⟨by decide, by decide, by decide +kernel⟩⟩
theorem g_L_55 : gV R_L 55 y_R_change c_R_change 6 (some .int) 2 := ⟨⟨tb_in (List.mem_of_getElem? (i := 800) (by decide +kernel)) rfl, tb_in (List.mem_of_getElem? (i := 801) (by decide +kernel)) rfl, tb_in (List.mem_of_getElem? (i := 802) (by decide +kernel)) rfl, tb_in (List.mem_of_getElem? (i := 44) (by decide +kernel)) rfl, tb_in (List.mem_of_getElem? (i := 803) (by decide +kernel)) rfl⟩, ⟨by decide, by decide, by decide +kernel⟩⟩
theorem g_R_214 : gV R_R 214 y_R_isTouched c_R_isTouched 5 (some .boolean) 2 := ⟨⟨tb_in (List.mem_of_getElem? (i := 804) (by decide +kernel)) rfl, tb_in (List.mem_of_getElem? (i := 806) (by decide +kernel)) rfl, tb_in (List.mem_of_getElem? (i := 35) (by decide +kernel)) rfl, tb_in (List.mem_of_getElem? (i := 44) (by decide +kernel)) rfl, tb_in (List.mem_of_getElem? (i := 807) (by decide +kernel)) rfl⟩, ⟨by decide, by decide, by decide +kernel⟩⟩
theorem g_L_60 : gV R_L 60 y_R_sample c_R_sample 9 (some .boolean) 2 := ⟨⟨tb_in (List.mem_of_getElem? (i := 808) (by decide +kernel)) rfl, tb_in (List.mem_of_getElem? (i := 809) (by decide +kernel)) rfl, tb_in (List.mem_of_getElem? (i := 810) (by decide +kernel)) rfl, tb_in (List.mem_of_getElem? (i := 44) (by decide +kernel)) rfl, tb_in (List.mem_of_getElem? (i := 811) (by decide +kernel)) rfl⟩, ⟨by decide, by decide, by decide +kernel⟩⟩
theorem g_L_64 : gV R_L 64 y_R_sampled c_R_sampled 2 (some .int) 1 := ⟨⟨tb_in (List.mem_of_getElem? (i := 814) (by decide +kernel)) rfl, tb_in (List.mem_of_getElem? (i := 815) (by decide +kernel)) rfl, tb_in (List.mem_of_getElem? (i := 816) (by decide +kernel)) rfl, tb_in (List.mem_of_getElem? (i := 44) (by decide +kernel)) rfl, tb_in (List.mem_of_getElem? (i := 817) (by decide +kernel)) rfl⟩, ⟨by decide, by decide, by decide +kernel⟩⟩
theorem g_L_68 : gV R_L 68 y_R_score c_R_score 6 (some .int) 2 := ⟨⟨tb_in (List.mem_of_getElem? (i := 818) (by decide +kernel)) rfl, tb_in (List.mem_of_getElem? (i := 819) (by decide +kernel)) rfl, tb_in (List.mem_of_getElem? (i := 820) (by decide +kernel)) rfl, tb_in (List.mem_of_getElem? (i := 44) (by decide +kernel)) rfl, tb_in (List.mem_of_getElem? (i := 821) (by decide +kernel)) rfl⟩, ⟨by decide, by decide, by decide +kernel⟩⟩
theorem g_L_72 : gV R_L 72 y_R_miss c_R_miss 4 (some .int) 1 := ⟨⟨tb_in (List.mem_of_getElem? (i := 824) (by decide +kernel)) rfl, tb_in (List.mem_of_getElem? (i := 825) (by decide +kernel)) rfl, tb_in (List.mem_of_getElem? (i := 826) (by decide +kernel)) rfl, tb_in (List.mem_of_getElem? (i := 44) (by decide +kernel)) rfl, tb_in (List.mem_of_getElem? (i := 827) (by decide +kernel)) rfl⟩, ⟨by decide, by decide, by decide +kernel⟩⟩
end
section
/-- the classes of int[], long[], boolean[] -/
abbrev tyL (cs : ClassId × ClassId × ClassId) : List (ClassId × FieldType) := [(cs.1, .int), (cs.2.1, .long), (cs.2.2, .boolean)]
abbrev CS : Type := (Nat → Int32) × (Nat → Int64) × (Nat → Nat → Int32) × (Nat → Nat → Int64)
def cT_size (s : CS) : Int32 := s.1 0
def s_cT_size (s : CS) (v : Int32) : CS := (upd s.1 0 v, s.2)
def cU_size (s : CS) : Int32 := s.1 1
def s_cU_size (s : CS) (v : Int32) : CS := (upd s.1 1 v, s.2)
def cK_changeKind (s : CS) : Int32 := s.1 2
def s_cK_changeKind (s : CS) (v : Int32) : CS := (upd s.1 2 v, s.2)
def cK_changedNode (s : CS) : Int32 := s.1 3
def s_cK_changedNode (s : CS) (v : Int32) : CS := (upd s.1 3 v, s.2)
def cK_input (s : CS) : Int64 := s.2.1 0
def s_cK_input (s : CS) (v : Int64) : CS := (s.1, vp_updL s.2.1 0 v, s.2.2)
def cK_bound (s : CS) : Int32 := s.1 4
def s_cK_bound (s : CS) (v : Int32) : CS := (upd s.1 4 v, s.2)
def cK_steps (s : CS) : Int32 := s.1 5
def s_cK_steps (s : CS) (v : Int32) : CS := (upd s.1 5 v, s.2)
def cK_cut (s : CS) : Int32 := s.1 6
def s_cK_cut (s : CS) (v : Int32) : CS := (upd s.1 6 v, s.2)
def cK_covered (s : CS) : Int64 := s.2.1 1
def s_cK_covered (s : CS) (v : Int64) : CS := (s.1, vp_updL s.2.1 1 v, s.2.2)
def cK_acc (s : CS) : Int64 := s.2.1 2
def s_cK_acc (s : CS) (v : Int64) : CS := (s.1, vp_updL s.2.1 2 v, s.2.2)
def cN_size (s : CS) : Int32 := s.1 7
def s_cN_size (s : CS) (v : Int32) : CS := (upd s.1 7 v, s.2)
def cG_size (s : CS) : Int32 := s.1 8
def s_cG_size (s : CS) (v : Int32) : CS := (upd s.1 8 v, s.2)
def cD_size (s : CS) : Int32 := s.1 9
def s_cD_size (s : CS) (v : Int32) : CS := (upd s.1 9 v, s.2)
def cT_kinds (s : CS) : Nat → Int32 := s.2.2.1 0
def s_cT_kinds (s : CS) (k : Nat) (v : Int32) : CS := (s.1, s.2.1, va_up s.2.2.1 0 (upd (s.2.2.1 0) k v), s.2.2.2)
def cT_numbers (s : CS) : Nat → Int64 := s.2.2.2 0
def s_cT_numbers (s : CS) (k : Nat) (v : Int64) : CS := (s.1, s.2.1, s.2.2.1, va_up s.2.2.2 0 (vp_updL (s.2.2.2 0) k v))
def cT_firsts (s : CS) : Nat → Int32 := s.2.2.1 1
def s_cT_firsts (s : CS) (k : Nat) (v : Int32) : CS := (s.1, s.2.1, va_up s.2.2.1 1 (upd (s.2.2.1 1) k v), s.2.2.2)
def cT_seconds (s : CS) : Nat → Int32 := s.2.2.1 2
def s_cT_seconds (s : CS) (k : Nat) (v : Int32) : CS := (s.1, s.2.1, va_up s.2.2.1 2 (upd (s.2.2.1 2) k v), s.2.2.2)
def cT_thirds (s : CS) : Nat → Int32 := s.2.2.1 3
def s_cT_thirds (s : CS) (k : Nat) (v : Int32) : CS := (s.1, s.2.1, va_up s.2.2.1 3 (upd (s.2.2.1 3) k v), s.2.2.2)
def cT_shapes (s : CS) : Nat → Int32 := s.2.2.1 4
def s_cT_shapes (s : CS) (k : Nat) (v : Int32) : CS := (s.1, s.2.1, va_up s.2.2.1 4 (upd (s.2.2.1 4) k v), s.2.2.2)
def cT_ways (s : CS) : Nat → Int32 := s.2.2.1 5
def s_cT_ways (s : CS) (k : Nat) (v : Int32) : CS := (s.1, s.2.1, va_up s.2.2.1 5 (upd (s.2.2.1 5) k v), s.2.2.2)
def cU_roots (s : CS) : Nat → Int32 := s.2.2.1 6
def s_cU_roots (s : CS) (k : Nat) (v : Int32) : CS := (s.1, s.2.1, va_up s.2.2.1 6 (upd (s.2.2.1 6) k v), s.2.2.2)
def cU_inputs (s : CS) : Nat → Int64 := s.2.2.2 1
def s_cU_inputs (s : CS) (k : Nat) (v : Int64) : CS := (s.1, s.2.1, s.2.2.1, va_up s.2.2.2 1 (vp_updL (s.2.2.2 1) k v))
def cU_wanted (s : CS) : Nat → Int64 := s.2.2.2 2
def s_cU_wanted (s : CS) (k : Nat) (v : Int64) : CS := (s.1, s.2.1, s.2.2.1, va_up s.2.2.2 2 (vp_updL (s.2.2.2 2) k v))
def cU_states (s : CS) : Nat → Int32 := s.2.2.1 7
def s_cU_states (s : CS) (k : Nat) (v : Int32) : CS := (s.1, s.2.1, va_up s.2.2.1 7 (upd (s.2.2.1 7) k v), s.2.2.2)
def cU_steps (s : CS) : Nat → Int32 := s.2.2.1 8
def s_cU_steps (s : CS) (k : Nat) (v : Int32) : CS := (s.1, s.2.1, va_up s.2.2.1 8 (upd (s.2.2.1 8) k v), s.2.2.2)
def cU_covered (s : CS) : Nat → Int64 := s.2.2.2 3
def s_cU_covered (s : CS) (k : Nat) (v : Int64) : CS := (s.1, s.2.1, s.2.2.1, va_up s.2.2.2 3 (vp_updL (s.2.2.2 3) k v))
def cN_kinds (s : CS) : Nat → Int32 := s.2.2.1 9
def s_cN_kinds (s : CS) (k : Nat) (v : Int32) : CS := (s.1, s.2.1, va_up s.2.2.1 9 (upd (s.2.2.1 9) k v), s.2.2.2)
def cN_nodes (s : CS) : Nat → Int32 := s.2.2.1 10
def s_cN_nodes (s : CS) (k : Nat) (v : Int32) : CS := (s.1, s.2.1, va_up s.2.2.1 10 (upd (s.2.2.1 10) k v), s.2.2.2)
def cN_outcomes (s : CS) : Nat → Int32 := s.2.2.1 11
def s_cN_outcomes (s : CS) (k : Nat) (v : Int32) : CS := (s.1, s.2.1, va_up s.2.2.1 11 (upd (s.2.2.1 11) k v), s.2.2.2)
def cN_enders (s : CS) : Nat → Int32 := s.2.2.1 12
def s_cN_enders (s : CS) (k : Nat) (v : Int32) : CS := (s.1, s.2.1, va_up s.2.2.1 12 (upd (s.2.2.1 12) k v), s.2.2.2)
def cN_madeAt (s : CS) : Nat → Int64 := s.2.2.2 4
def s_cN_madeAt (s : CS) (k : Nat) (v : Int64) : CS := (s.1, s.2.1, s.2.2.1, va_up s.2.2.2 4 (vp_updL (s.2.2.2 4) k v))
def cG_line (s : CS) : Nat → Int32 := s.2.2.1 13
def s_cG_line (s : CS) (k : Nat) (v : Int32) : CS := (s.1, s.2.1, va_up s.2.2.1 13 (upd (s.2.2.1 13) k v), s.2.2.2)
def cG_distances (s : CS) : Nat → Int32 := s.2.2.1 14
def s_cG_distances (s : CS) (k : Nat) (v : Int32) : CS := (s.1, s.2.1, va_up s.2.2.1 14 (upd (s.2.2.1 14) k v), s.2.2.2)
def cD_row (s : CS) : Nat → Int32 := s.2.2.1 15
def s_cD_row (s : CS) (k : Nat) (v : Int32) : CS := (s.1, s.2.1, va_up s.2.2.1 15 (upd (s.2.2.1 15) k v), s.2.2.2)
/-- the cells, at the addresses A -/
abbrev cwC (A : Nat → Nat) (cs : ClassId × ClassId × ClassId) (st : CS) : va_W := [(A 0, .inr (0, [.ref (A 1), .ref (A 2), .ref (A 4), .ref (A 5), .ref (A 6)])),
  (A 1, .inr (1, [.ref (A 7), .ref (A 8), .ref (A 9), .ref (A 10), .ref (A 11), .ref (A 12), .ref (A 13), .int (cT_size st)])),
  (A 2, .inr (2, [.ref (A 3), .ref (A 14), .ref (A 15), .ref (A 16), .ref (A 17), .ref (A 18), .ref (A 19), .int (cU_size st)])),
  (A 3, .inr (3, [.ref (A 1), .int (cK_changeKind st), .int (cK_changedNode st), .long (cK_input st), .int (cK_bound st), .int (cK_steps st), .int (cK_cut st), .long (cK_covered st), .long (cK_acc st)])),
  (A 4, .inr (4, [.ref (A 1), .ref (A 20), .ref (A 21), .ref (A 22), .ref (A 23), .ref (A 24), .int (cN_size st)])),
  (A 5, .inr (5, [.ref (A 1), .ref (A 2), .ref (A 25), .ref (A 26), .int (cG_size st)])),
  (A 6, .inr (6, [.ref (A 27), .int (cD_size st)])),
  (A 7, .inl (cs.1, 64, .inl (cT_kinds st))),
  (A 8, .inl (cs.2.1, 64, .inr (.inl (cT_numbers st)))),
  (A 9, .inl (cs.1, 64, .inl (cT_firsts st))),
  (A 10, .inl (cs.1, 64, .inl (cT_seconds st))),
  (A 11, .inl (cs.1, 64, .inl (cT_thirds st))),
  (A 12, .inl (cs.1, 64, .inl (cT_shapes st))),
  (A 13, .inl (cs.1, 64, .inl (cT_ways st))),
  (A 14, .inl (cs.1, 24, .inl (cU_roots st))),
  (A 15, .inl (cs.2.1, 24, .inr (.inl (cU_inputs st)))),
  (A 16, .inl (cs.2.1, 24, .inr (.inl (cU_wanted st)))),
  (A 17, .inl (cs.1, 24, .inl (cU_states st))),
  (A 18, .inl (cs.1, 24, .inl (cU_steps st))),
  (A 19, .inl (cs.2.1, 24, .inr (.inl (cU_covered st)))),
  (A 20, .inl (cs.1, 100, .inl (cN_kinds st))),
  (A 21, .inl (cs.1, 100, .inl (cN_nodes st))),
  (A 22, .inl (cs.1, 100, .inl (cN_outcomes st))),
  (A 23, .inl (cs.1, 100, .inl (cN_enders st))),
  (A 24, .inl (cs.2.1, 6, .inr (.inl (cN_madeAt st)))),
  (A 25, .inl (cs.1, 24, .inl (cG_line st))),
  (A 26, .inl (cs.1, 24, .inl (cG_distances st))),
  (A 27, .inl (cs.1, 100, .inl (cD_row st)))]
section WORLDC
variable {p : Program} {l : Launch} {e : Env} {R : Room} {s : State} {m : MethodId} {args : Array Value} {below : List Frame} {meth : Method} {c : Code} {H H0 : Heap} {locs : List Loc} {cells slots : Nat} {Q : State → Prop} {D : va_G} {A0 : Nat → Prop} {own : String} {cc : ByteArray} {nL idx pc : Nat} {ls : Array Slot} {rest : List Value} {A : Nat → Nat} {cs : ClassId × ClassId × ClassId} {st st1 : CS} {i : Int32}
theorem g_cM_trees (E : EC own cc nL p s m args c D (tyL cs)) (I : IW D (cwC A cs st) A0 H0 H locs) (lk : Cond.fieldLink own idx "MutantRows" "trees" "LMutantRows$Trees;" ∈ TB) (d : decode cc pc = .ok (.getfield idx, 3)) (kk : W p l e R s m args below meth c H locs cells slots Q (F0 m (pc + 3) ls (.ref (A 1) :: rest))) : W p l e R s m args below meth c H locs cells slots Q (F0 m pc ls (.ref (A 0) :: rest)) :=
  va_get (D := D) (ci := 0) (v := .ref (A 1)) (C := R_M) (T := F_M) (N := 5) E.1 E.2.1 E.2.2.2.2.1 ii_M E.2.2.2.1 E.2.2.2.2.2.1 I.1 0 rfl rfl 0 (by decide) (E.2.2.2.2.1 _ lk) (fun _ h => h) rfl d kk
theorem g_cM_trials (E : EC own cc nL p s m args c D (tyL cs)) (I : IW D (cwC A cs st) A0 H0 H locs) (lk : Cond.fieldLink own idx "MutantRows" "trials" "LMutantRows$Trials;" ∈ TB) (d : decode cc pc = .ok (.getfield idx, 3)) (kk : W p l e R s m args below meth c H locs cells slots Q (F0 m (pc + 3) ls (.ref (A 2) :: rest))) : W p l e R s m args below meth c H locs cells slots Q (F0 m pc ls (.ref (A 0) :: rest)) :=
  va_get (D := D) (ci := 0) (v := .ref (A 2)) (C := R_M) (T := F_M) (N := 5) E.1 E.2.1 E.2.2.2.2.1 ii_M E.2.2.2.1 E.2.2.2.2.2.1 I.1 0 rfl rfl 1 (by decide) (E.2.2.2.2.1 _ lk) (fun _ h => h) rfl d kk
theorem g_cM_mutants (E : EC own cc nL p s m args c D (tyL cs)) (I : IW D (cwC A cs st) A0 H0 H locs) (lk : Cond.fieldLink own idx "MutantRows" "mutants" "LMutantRows$Mutants;" ∈ TB) (d : decode cc pc = .ok (.getfield idx, 3)) (kk : W p l e R s m args below meth c H locs cells slots Q (F0 m (pc + 3) ls (.ref (A 4) :: rest))) : W p l e R s m args below meth c H locs cells slots Q (F0 m pc ls (.ref (A 0) :: rest)) :=
  va_get (D := D) (ci := 0) (v := .ref (A 4)) (C := R_M) (T := F_M) (N := 5) E.1 E.2.1 E.2.2.2.2.1 ii_M E.2.2.2.1 E.2.2.2.2.2.1 I.1 0 rfl rfl 2 (by decide) (E.2.2.2.2.1 _ lk) (fun _ h => h) rfl d kk
theorem g_cM_lineup (E : EC own cc nL p s m args c D (tyL cs)) (I : IW D (cwC A cs st) A0 H0 H locs) (lk : Cond.fieldLink own idx "MutantRows" "lineup" "LMutantRows$Lineup;" ∈ TB) (d : decode cc pc = .ok (.getfield idx, 3)) (kk : W p l e R s m args below meth c H locs cells slots Q (F0 m (pc + 3) ls (.ref (A 5) :: rest))) : W p l e R s m args below meth c H locs cells slots Q (F0 m pc ls (.ref (A 0) :: rest)) :=
  va_get (D := D) (ci := 0) (v := .ref (A 5)) (C := R_M) (T := F_M) (N := 5) E.1 E.2.1 E.2.2.2.2.1 ii_M E.2.2.2.1 E.2.2.2.2.2.1 I.1 0 rfl rfl 3 (by decide) (E.2.2.2.2.1 _ lk) (fun _ h => h) rfl d kk
theorem g_cM_draw (E : EC own cc nL p s m args c D (tyL cs)) (I : IW D (cwC A cs st) A0 H0 H locs) (lk : Cond.fieldLink own idx "MutantRows" "draw" "LMutantRows$Draw;" ∈ TB) (d : decode cc pc = .ok (.getfield idx, 3)) (kk : W p l e R s m args below meth c H locs cells slots Q (F0 m (pc + 3) ls (.ref (A 6) :: rest))) : W p l e R s m args below meth c H locs cells slots Q (F0 m pc ls (.ref (A 0) :: rest)) :=
  va_get (D := D) (ci := 0) (v := .ref (A 6)) (C := R_M) (T := F_M) (N := 5) E.1 E.2.1 E.2.2.2.2.1 ii_M E.2.2.2.1 E.2.2.2.2.2.1 I.1 0 rfl rfl 4 (by decide) (E.2.2.2.2.1 _ lk) (fun _ h => h) rfl d kk
theorem g_cT_kinds (E : EC own cc nL p s m args c D (tyL cs)) (I : IW D (cwC A cs st) A0 H0 H locs) (lk : Cond.fieldLink own idx "MutantRows$Trees" "kinds" "[I" ∈ TB) (d : decode cc pc = .ok (.getfield idx, 3)) (kk : W p l e R s m args below meth c H locs cells slots Q (F0 m (pc + 3) ls (.ref (A 7) :: rest))) : W p l e R s m args below meth c H locs cells slots Q (F0 m pc ls (.ref (A 1) :: rest)) :=
  va_get (D := D) (ci := 1) (v := .ref (A 7)) (C := R_T) (T := F_T) (N := 8) E.1 E.2.1 E.2.2.2.2.1 ii_T E.2.2.2.1 E.2.2.2.2.2.1 I.1 1 rfl rfl 0 (by decide) (E.2.2.2.2.1 _ lk) (fun _ h => h) rfl d kk
theorem g_cT_numbers (E : EC own cc nL p s m args c D (tyL cs)) (I : IW D (cwC A cs st) A0 H0 H locs) (lk : Cond.fieldLink own idx "MutantRows$Trees" "numbers" "[J" ∈ TB) (d : decode cc pc = .ok (.getfield idx, 3)) (kk : W p l e R s m args below meth c H locs cells slots Q (F0 m (pc + 3) ls (.ref (A 8) :: rest))) : W p l e R s m args below meth c H locs cells slots Q (F0 m pc ls (.ref (A 1) :: rest)) :=
  va_get (D := D) (ci := 1) (v := .ref (A 8)) (C := R_T) (T := F_T) (N := 8) E.1 E.2.1 E.2.2.2.2.1 ii_T E.2.2.2.1 E.2.2.2.2.2.1 I.1 1 rfl rfl 1 (by decide) (E.2.2.2.2.1 _ lk) (fun _ h => h) rfl d kk
theorem g_cT_firsts (E : EC own cc nL p s m args c D (tyL cs)) (I : IW D (cwC A cs st) A0 H0 H locs) (lk : Cond.fieldLink own idx "MutantRows$Trees" "firsts" "[I" ∈ TB) (d : decode cc pc = .ok (.getfield idx, 3)) (kk : W p l e R s m args below meth c H locs cells slots Q (F0 m (pc + 3) ls (.ref (A 9) :: rest))) : W p l e R s m args below meth c H locs cells slots Q (F0 m pc ls (.ref (A 1) :: rest)) :=
  va_get (D := D) (ci := 1) (v := .ref (A 9)) (C := R_T) (T := F_T) (N := 8) E.1 E.2.1 E.2.2.2.2.1 ii_T E.2.2.2.1 E.2.2.2.2.2.1 I.1 1 rfl rfl 2 (by decide) (E.2.2.2.2.1 _ lk) (fun _ h => h) rfl d kk
theorem g_cT_seconds (E : EC own cc nL p s m args c D (tyL cs)) (I : IW D (cwC A cs st) A0 H0 H locs) (lk : Cond.fieldLink own idx "MutantRows$Trees" "seconds" "[I" ∈ TB) (d : decode cc pc = .ok (.getfield idx, 3)) (kk : W p l e R s m args below meth c H locs cells slots Q (F0 m (pc + 3) ls (.ref (A 10) :: rest))) : W p l e R s m args below meth c H locs cells slots Q (F0 m pc ls (.ref (A 1) :: rest)) :=
  va_get (D := D) (ci := 1) (v := .ref (A 10)) (C := R_T) (T := F_T) (N := 8) E.1 E.2.1 E.2.2.2.2.1 ii_T E.2.2.2.1 E.2.2.2.2.2.1 I.1 1 rfl rfl 3 (by decide) (E.2.2.2.2.1 _ lk) (fun _ h => h) rfl d kk
theorem g_cT_thirds (E : EC own cc nL p s m args c D (tyL cs)) (I : IW D (cwC A cs st) A0 H0 H locs) (lk : Cond.fieldLink own idx "MutantRows$Trees" "thirds" "[I" ∈ TB) (d : decode cc pc = .ok (.getfield idx, 3)) (kk : W p l e R s m args below meth c H locs cells slots Q (F0 m (pc + 3) ls (.ref (A 11) :: rest))) : W p l e R s m args below meth c H locs cells slots Q (F0 m pc ls (.ref (A 1) :: rest)) :=
  va_get (D := D) (ci := 1) (v := .ref (A 11)) (C := R_T) (T := F_T) (N := 8) E.1 E.2.1 E.2.2.2.2.1 ii_T E.2.2.2.1 E.2.2.2.2.2.1 I.1 1 rfl rfl 4 (by decide) (E.2.2.2.2.1 _ lk) (fun _ h => h) rfl d kk
theorem g_cT_shapes (E : EC own cc nL p s m args c D (tyL cs)) (I : IW D (cwC A cs st) A0 H0 H locs) (lk : Cond.fieldLink own idx "MutantRows$Trees" "shapes" "[I" ∈ TB) (d : decode cc pc = .ok (.getfield idx, 3)) (kk : W p l e R s m args below meth c H locs cells slots Q (F0 m (pc + 3) ls (.ref (A 12) :: rest))) : W p l e R s m args below meth c H locs cells slots Q (F0 m pc ls (.ref (A 1) :: rest)) :=
  va_get (D := D) (ci := 1) (v := .ref (A 12)) (C := R_T) (T := F_T) (N := 8) E.1 E.2.1 E.2.2.2.2.1 ii_T E.2.2.2.1 E.2.2.2.2.2.1 I.1 1 rfl rfl 5 (by decide) (E.2.2.2.2.1 _ lk) (fun _ h => h) rfl d kk
theorem g_cT_ways (E : EC own cc nL p s m args c D (tyL cs)) (I : IW D (cwC A cs st) A0 H0 H locs) (lk : Cond.fieldLink own idx "MutantRows$Trees" "ways" "[I" ∈ TB) (d : decode cc pc = .ok (.getfield idx, 3)) (kk : W p l e R s m args below meth c H locs cells slots Q (F0 m (pc + 3) ls (.ref (A 13) :: rest))) : W p l e R s m args below meth c H locs cells slots Q (F0 m pc ls (.ref (A 1) :: rest)) :=
  va_get (D := D) (ci := 1) (v := .ref (A 13)) (C := R_T) (T := F_T) (N := 8) E.1 E.2.1 E.2.2.2.2.1 ii_T E.2.2.2.1 E.2.2.2.2.2.1 I.1 1 rfl rfl 6 (by decide) (E.2.2.2.2.1 _ lk) (fun _ h => h) rfl d kk
theorem g_cT_size (E : EC own cc nL p s m args c D (tyL cs)) (I : IW D (cwC A cs st) A0 H0 H locs) (lk : Cond.fieldLink own idx "MutantRows$Trees" "size" "I" ∈ TB) (d : decode cc pc = .ok (.getfield idx, 3)) (kk : W p l e R s m args below meth c H locs cells slots Q (F0 m (pc + 3) ls (.int (cT_size st) :: rest))) : W p l e R s m args below meth c H locs cells slots Q (F0 m pc ls (.ref (A 1) :: rest)) :=
  va_get (D := D) (ci := 1) (v := .int (cT_size st)) (C := R_T) (T := F_T) (N := 8) E.1 E.2.1 E.2.2.2.2.1 ii_T E.2.2.2.1 E.2.2.2.2.2.1 I.1 1 rfl rfl 7 (by decide) (E.2.2.2.2.1 _ lk) (fun _ h => h) rfl d kk
theorem p_cT_size {v : Int32} (E : EC own cc nL p s m args c D (tyL cs)) (I : IW D (cwC A cs st) A0 H0 H locs) (e1 : st1 = s_cT_size st v) (lk : Cond.fieldLink own idx "MutantRows$Trees" "size" "I" ∈ TB) (d : decode cc pc = .ok (.putfield idx, 3)) (kk : ∀ (H1 : Heap) (locs1 : List Loc), IW D (cwC A cs st1) A0 H0 H1 locs1 → W p l e R s m args below meth c H1 locs1 cells slots Q (F0 m (pc + 3) ls (rest))) : W p l e R s m args below meth c H locs cells slots Q (F0 m pc ls (.int v :: .ref (A 1) :: rest)) := by
  subst e1
  exact va_put (D := D) (ci := 1) (v := .int v) (ty := .int) (C := R_T) (T := F_T) (N := 8) E.1 E.2.1 E.2.2.2.2.1 ii_T tt_T tt_T_ok nn_T E.2.2.2.1 E.2.2.2.2.2.1 I.1 I.2.1 I.2.2 1 rfl rfl 7 (by decide) (E.2.2.2.2.1 _ lk) (fun _ h => h) rfl (by decide +kernel) rfl rfl (Nat.le_of_ble_eq_true rfl) d (fun H1 locs1 h1 h2 h3 => kk H1 locs1 ⟨h1, h2, h3⟩)
theorem g_cU_worker (E : EC own cc nL p s m args c D (tyL cs)) (I : IW D (cwC A cs st) A0 H0 H locs) (lk : Cond.fieldLink own idx "MutantRows$Trials" "worker" "LMutantRows$Worker;" ∈ TB) (d : decode cc pc = .ok (.getfield idx, 3)) (kk : W p l e R s m args below meth c H locs cells slots Q (F0 m (pc + 3) ls (.ref (A 3) :: rest))) : W p l e R s m args below meth c H locs cells slots Q (F0 m pc ls (.ref (A 2) :: rest)) :=
  va_get (D := D) (ci := 2) (v := .ref (A 3)) (C := R_U) (T := F_U) (N := 8) E.1 E.2.1 E.2.2.2.2.1 ii_U E.2.2.2.1 E.2.2.2.2.2.1 I.1 2 rfl rfl 0 (by decide) (E.2.2.2.2.1 _ lk) (fun _ h => h) rfl d kk
theorem g_cU_roots (E : EC own cc nL p s m args c D (tyL cs)) (I : IW D (cwC A cs st) A0 H0 H locs) (lk : Cond.fieldLink own idx "MutantRows$Trials" "roots" "[I" ∈ TB) (d : decode cc pc = .ok (.getfield idx, 3)) (kk : W p l e R s m args below meth c H locs cells slots Q (F0 m (pc + 3) ls (.ref (A 14) :: rest))) : W p l e R s m args below meth c H locs cells slots Q (F0 m pc ls (.ref (A 2) :: rest)) :=
  va_get (D := D) (ci := 2) (v := .ref (A 14)) (C := R_U) (T := F_U) (N := 8) E.1 E.2.1 E.2.2.2.2.1 ii_U E.2.2.2.1 E.2.2.2.2.2.1 I.1 2 rfl rfl 1 (by decide) (E.2.2.2.2.1 _ lk) (fun _ h => h) rfl d kk
theorem g_cU_inputs (E : EC own cc nL p s m args c D (tyL cs)) (I : IW D (cwC A cs st) A0 H0 H locs) (lk : Cond.fieldLink own idx "MutantRows$Trials" "inputs" "[J" ∈ TB) (d : decode cc pc = .ok (.getfield idx, 3)) (kk : W p l e R s m args below meth c H locs cells slots Q (F0 m (pc + 3) ls (.ref (A 15) :: rest))) : W p l e R s m args below meth c H locs cells slots Q (F0 m pc ls (.ref (A 2) :: rest)) :=
  va_get (D := D) (ci := 2) (v := .ref (A 15)) (C := R_U) (T := F_U) (N := 8) E.1 E.2.1 E.2.2.2.2.1 ii_U E.2.2.2.1 E.2.2.2.2.2.1 I.1 2 rfl rfl 2 (by decide) (E.2.2.2.2.1 _ lk) (fun _ h => h) rfl d kk
theorem g_cU_wanted (E : EC own cc nL p s m args c D (tyL cs)) (I : IW D (cwC A cs st) A0 H0 H locs) (lk : Cond.fieldLink own idx "MutantRows$Trials" "wanted" "[J" ∈ TB) (d : decode cc pc = .ok (.getfield idx, 3)) (kk : W p l e R s m args below meth c H locs cells slots Q (F0 m (pc + 3) ls (.ref (A 16) :: rest))) : W p l e R s m args below meth c H locs cells slots Q (F0 m pc ls (.ref (A 2) :: rest)) :=
  va_get (D := D) (ci := 2) (v := .ref (A 16)) (C := R_U) (T := F_U) (N := 8) E.1 E.2.1 E.2.2.2.2.1 ii_U E.2.2.2.1 E.2.2.2.2.2.1 I.1 2 rfl rfl 3 (by decide) (E.2.2.2.2.1 _ lk) (fun _ h => h) rfl d kk
theorem g_cU_states (E : EC own cc nL p s m args c D (tyL cs)) (I : IW D (cwC A cs st) A0 H0 H locs) (lk : Cond.fieldLink own idx "MutantRows$Trials" "states" "[I" ∈ TB) (d : decode cc pc = .ok (.getfield idx, 3)) (kk : W p l e R s m args below meth c H locs cells slots Q (F0 m (pc + 3) ls (.ref (A 17) :: rest))) : W p l e R s m args below meth c H locs cells slots Q (F0 m pc ls (.ref (A 2) :: rest)) :=
  va_get (D := D) (ci := 2) (v := .ref (A 17)) (C := R_U) (T := F_U) (N := 8) E.1 E.2.1 E.2.2.2.2.1 ii_U E.2.2.2.1 E.2.2.2.2.2.1 I.1 2 rfl rfl 4 (by decide) (E.2.2.2.2.1 _ lk) (fun _ h => h) rfl d kk
theorem g_cU_steps (E : EC own cc nL p s m args c D (tyL cs)) (I : IW D (cwC A cs st) A0 H0 H locs) (lk : Cond.fieldLink own idx "MutantRows$Trials" "steps" "[I" ∈ TB) (d : decode cc pc = .ok (.getfield idx, 3)) (kk : W p l e R s m args below meth c H locs cells slots Q (F0 m (pc + 3) ls (.ref (A 18) :: rest))) : W p l e R s m args below meth c H locs cells slots Q (F0 m pc ls (.ref (A 2) :: rest)) :=
  va_get (D := D) (ci := 2) (v := .ref (A 18)) (C := R_U) (T := F_U) (N := 8) E.1 E.2.1 E.2.2.2.2.1 ii_U E.2.2.2.1 E.2.2.2.2.2.1 I.1 2 rfl rfl 5 (by decide) (E.2.2.2.2.1 _ lk) (fun _ h => h) rfl d kk
theorem g_cU_covered (E : EC own cc nL p s m args c D (tyL cs)) (I : IW D (cwC A cs st) A0 H0 H locs) (lk : Cond.fieldLink own idx "MutantRows$Trials" "covered" "[J" ∈ TB) (d : decode cc pc = .ok (.getfield idx, 3)) (kk : W p l e R s m args below meth c H locs cells slots Q (F0 m (pc + 3) ls (.ref (A 19) :: rest))) : W p l e R s m args below meth c H locs cells slots Q (F0 m pc ls (.ref (A 2) :: rest)) :=
  va_get (D := D) (ci := 2) (v := .ref (A 19)) (C := R_U) (T := F_U) (N := 8) E.1 E.2.1 E.2.2.2.2.1 ii_U E.2.2.2.1 E.2.2.2.2.2.1 I.1 2 rfl rfl 6 (by decide) (E.2.2.2.2.1 _ lk) (fun _ h => h) rfl d kk
theorem g_cU_size (E : EC own cc nL p s m args c D (tyL cs)) (I : IW D (cwC A cs st) A0 H0 H locs) (lk : Cond.fieldLink own idx "MutantRows$Trials" "size" "I" ∈ TB) (d : decode cc pc = .ok (.getfield idx, 3)) (kk : W p l e R s m args below meth c H locs cells slots Q (F0 m (pc + 3) ls (.int (cU_size st) :: rest))) : W p l e R s m args below meth c H locs cells slots Q (F0 m pc ls (.ref (A 2) :: rest)) :=
  va_get (D := D) (ci := 2) (v := .int (cU_size st)) (C := R_U) (T := F_U) (N := 8) E.1 E.2.1 E.2.2.2.2.1 ii_U E.2.2.2.1 E.2.2.2.2.2.1 I.1 2 rfl rfl 7 (by decide) (E.2.2.2.2.1 _ lk) (fun _ h => h) rfl d kk
theorem p_cU_size {v : Int32} (E : EC own cc nL p s m args c D (tyL cs)) (I : IW D (cwC A cs st) A0 H0 H locs) (e1 : st1 = s_cU_size st v) (lk : Cond.fieldLink own idx "MutantRows$Trials" "size" "I" ∈ TB) (d : decode cc pc = .ok (.putfield idx, 3)) (kk : ∀ (H1 : Heap) (locs1 : List Loc), IW D (cwC A cs st1) A0 H0 H1 locs1 → W p l e R s m args below meth c H1 locs1 cells slots Q (F0 m (pc + 3) ls (rest))) : W p l e R s m args below meth c H locs cells slots Q (F0 m pc ls (.int v :: .ref (A 2) :: rest)) := by
  subst e1
  exact va_put (D := D) (ci := 2) (v := .int v) (ty := .int) (C := R_U) (T := F_U) (N := 8) E.1 E.2.1 E.2.2.2.2.1 ii_U tt_U tt_U_ok nn_U E.2.2.2.1 E.2.2.2.2.2.1 I.1 I.2.1 I.2.2 2 rfl rfl 7 (by decide) (E.2.2.2.2.1 _ lk) (fun _ h => h) rfl (by decide +kernel) rfl rfl (Nat.le_of_ble_eq_true rfl) d (fun H1 locs1 h1 h2 h3 => kk H1 locs1 ⟨h1, h2, h3⟩)
theorem g_cK_trees (E : EC own cc nL p s m args c D (tyL cs)) (I : IW D (cwC A cs st) A0 H0 H locs) (lk : Cond.fieldLink own idx "MutantRows$Worker" "trees" "LMutantRows$Trees;" ∈ TB) (d : decode cc pc = .ok (.getfield idx, 3)) (kk : W p l e R s m args below meth c H locs cells slots Q (F0 m (pc + 3) ls (.ref (A 1) :: rest))) : W p l e R s m args below meth c H locs cells slots Q (F0 m pc ls (.ref (A 3) :: rest)) :=
  va_get (D := D) (ci := 3) (v := .ref (A 1)) (C := R_K) (T := F_K) (N := 9) E.1 E.2.1 E.2.2.2.2.1 ii_K E.2.2.2.1 E.2.2.2.2.2.1 I.1 3 rfl rfl 0 (by decide) (E.2.2.2.2.1 _ lk) (fun _ h => h) rfl d kk
theorem g_cK_changeKind (E : EC own cc nL p s m args c D (tyL cs)) (I : IW D (cwC A cs st) A0 H0 H locs) (lk : Cond.fieldLink own idx "MutantRows$Worker" "changeKind" "I" ∈ TB) (d : decode cc pc = .ok (.getfield idx, 3)) (kk : W p l e R s m args below meth c H locs cells slots Q (F0 m (pc + 3) ls (.int (cK_changeKind st) :: rest))) : W p l e R s m args below meth c H locs cells slots Q (F0 m pc ls (.ref (A 3) :: rest)) :=
  va_get (D := D) (ci := 3) (v := .int (cK_changeKind st)) (C := R_K) (T := F_K) (N := 9) E.1 E.2.1 E.2.2.2.2.1 ii_K E.2.2.2.1 E.2.2.2.2.2.1 I.1 3 rfl rfl 1 (by decide) (E.2.2.2.2.1 _ lk) (fun _ h => h) rfl d kk
theorem p_cK_changeKind {v : Int32} (E : EC own cc nL p s m args c D (tyL cs)) (I : IW D (cwC A cs st) A0 H0 H locs) (e1 : st1 = s_cK_changeKind st v) (lk : Cond.fieldLink own idx "MutantRows$Worker" "changeKind" "I" ∈ TB) (d : decode cc pc = .ok (.putfield idx, 3)) (kk : ∀ (H1 : Heap) (locs1 : List Loc), IW D (cwC A cs st1) A0 H0 H1 locs1 → W p l e R s m args below meth c H1 locs1 cells slots Q (F0 m (pc + 3) ls (rest))) : W p l e R s m args below meth c H locs cells slots Q (F0 m pc ls (.int v :: .ref (A 3) :: rest)) := by
  subst e1
  exact va_put (D := D) (ci := 3) (v := .int v) (ty := .int) (C := R_K) (T := F_K) (N := 9) E.1 E.2.1 E.2.2.2.2.1 ii_K tt_K tt_K_ok nn_K E.2.2.2.1 E.2.2.2.2.2.1 I.1 I.2.1 I.2.2 3 rfl rfl 1 (by decide) (E.2.2.2.2.1 _ lk) (fun _ h => h) rfl (by decide +kernel) rfl rfl (Nat.le_of_ble_eq_true rfl) d (fun H1 locs1 h1 h2 h3 => kk H1 locs1 ⟨h1, h2, h3⟩)
theorem g_cK_changedNode (E : EC own cc nL p s m args c D (tyL cs)) (I : IW D (cwC A cs st) A0 H0 H locs) (lk : Cond.fieldLink own idx "MutantRows$Worker" "changedNode" "I" ∈ TB) (d : decode cc pc = .ok (.getfield idx, 3)) (kk : W p l e R s m args below meth c H locs cells slots Q (F0 m (pc + 3) ls (.int (cK_changedNode st) :: rest))) : W p l e R s m args below meth c H locs cells slots Q (F0 m pc ls (.ref (A 3) :: rest)) :=
  va_get (D := D) (ci := 3) (v := .int (cK_changedNode st)) (C := R_K) (T := F_K) (N := 9) E.1 E.2.1 E.2.2.2.2.1 ii_K E.2.2.2.1 E.2.2.2.2.2.1 I.1 3 rfl rfl 2 (by decide) (E.2.2.2.2.1 _ lk) (fun _ h => h) rfl d kk
theorem p_cK_changedNode {v : Int32} (E : EC own cc nL p s m args c D (tyL cs)) (I : IW D (cwC A cs st) A0 H0 H locs) (e1 : st1 = s_cK_changedNode st v) (lk : Cond.fieldLink own idx "MutantRows$Worker" "changedNode" "I" ∈ TB) (d : decode cc pc = .ok (.putfield idx, 3)) (kk : ∀ (H1 : Heap) (locs1 : List Loc), IW D (cwC A cs st1) A0 H0 H1 locs1 → W p l e R s m args below meth c H1 locs1 cells slots Q (F0 m (pc + 3) ls (rest))) : W p l e R s m args below meth c H locs cells slots Q (F0 m pc ls (.int v :: .ref (A 3) :: rest)) := by
  subst e1
  exact va_put (D := D) (ci := 3) (v := .int v) (ty := .int) (C := R_K) (T := F_K) (N := 9) E.1 E.2.1 E.2.2.2.2.1 ii_K tt_K tt_K_ok nn_K E.2.2.2.1 E.2.2.2.2.2.1 I.1 I.2.1 I.2.2 3 rfl rfl 2 (by decide) (E.2.2.2.2.1 _ lk) (fun _ h => h) rfl (by decide +kernel) rfl rfl (Nat.le_of_ble_eq_true rfl) d (fun H1 locs1 h1 h2 h3 => kk H1 locs1 ⟨h1, h2, h3⟩)
theorem g_cK_input (E : EC own cc nL p s m args c D (tyL cs)) (I : IW D (cwC A cs st) A0 H0 H locs) (lk : Cond.fieldLink own idx "MutantRows$Worker" "input" "J" ∈ TB) (d : decode cc pc = .ok (.getfield idx, 3)) (kk : W p l e R s m args below meth c H locs cells slots Q (F0 m (pc + 3) ls (.long (cK_input st) :: rest))) : W p l e R s m args below meth c H locs cells slots Q (F0 m pc ls (.ref (A 3) :: rest)) :=
  va_get (D := D) (ci := 3) (v := .long (cK_input st)) (C := R_K) (T := F_K) (N := 9) E.1 E.2.1 E.2.2.2.2.1 ii_K E.2.2.2.1 E.2.2.2.2.2.1 I.1 3 rfl rfl 3 (by decide) (E.2.2.2.2.1 _ lk) (fun _ h => h) rfl d kk
theorem p_cK_input {v : Int64} (E : EC own cc nL p s m args c D (tyL cs)) (I : IW D (cwC A cs st) A0 H0 H locs) (e1 : st1 = s_cK_input st v) (lk : Cond.fieldLink own idx "MutantRows$Worker" "input" "J" ∈ TB) (d : decode cc pc = .ok (.putfield idx, 3)) (kk : ∀ (H1 : Heap) (locs1 : List Loc), IW D (cwC A cs st1) A0 H0 H1 locs1 → W p l e R s m args below meth c H1 locs1 cells slots Q (F0 m (pc + 3) ls (rest))) : W p l e R s m args below meth c H locs cells slots Q (F0 m pc ls (.long v :: .ref (A 3) :: rest)) := by
  subst e1
  exact va_put (D := D) (ci := 3) (v := .long v) (ty := .long) (C := R_K) (T := F_K) (N := 9) E.1 E.2.1 E.2.2.2.2.1 ii_K tt_K tt_K_ok nn_K E.2.2.2.1 E.2.2.2.2.2.1 I.1 I.2.1 I.2.2 3 rfl rfl 3 (by decide) (E.2.2.2.2.1 _ lk) (fun _ h => h) rfl (by decide +kernel) rfl rfl (Nat.le_of_ble_eq_true rfl) d (fun H1 locs1 h1 h2 h3 => kk H1 locs1 ⟨h1, h2, h3⟩)
theorem g_cK_bound (E : EC own cc nL p s m args c D (tyL cs)) (I : IW D (cwC A cs st) A0 H0 H locs) (lk : Cond.fieldLink own idx "MutantRows$Worker" "bound" "I" ∈ TB) (d : decode cc pc = .ok (.getfield idx, 3)) (kk : W p l e R s m args below meth c H locs cells slots Q (F0 m (pc + 3) ls (.int (cK_bound st) :: rest))) : W p l e R s m args below meth c H locs cells slots Q (F0 m pc ls (.ref (A 3) :: rest)) :=
  va_get (D := D) (ci := 3) (v := .int (cK_bound st)) (C := R_K) (T := F_K) (N := 9) E.1 E.2.1 E.2.2.2.2.1 ii_K E.2.2.2.1 E.2.2.2.2.2.1 I.1 3 rfl rfl 4 (by decide) (E.2.2.2.2.1 _ lk) (fun _ h => h) rfl d kk
theorem p_cK_bound {v : Int32} (E : EC own cc nL p s m args c D (tyL cs)) (I : IW D (cwC A cs st) A0 H0 H locs) (e1 : st1 = s_cK_bound st v) (lk : Cond.fieldLink own idx "MutantRows$Worker" "bound" "I" ∈ TB) (d : decode cc pc = .ok (.putfield idx, 3)) (kk : ∀ (H1 : Heap) (locs1 : List Loc), IW D (cwC A cs st1) A0 H0 H1 locs1 → W p l e R s m args below meth c H1 locs1 cells slots Q (F0 m (pc + 3) ls (rest))) : W p l e R s m args below meth c H locs cells slots Q (F0 m pc ls (.int v :: .ref (A 3) :: rest)) := by
  subst e1
  exact va_put (D := D) (ci := 3) (v := .int v) (ty := .int) (C := R_K) (T := F_K) (N := 9) E.1 E.2.1 E.2.2.2.2.1 ii_K tt_K tt_K_ok nn_K E.2.2.2.1 E.2.2.2.2.2.1 I.1 I.2.1 I.2.2 3 rfl rfl 4 (by decide) (E.2.2.2.2.1 _ lk) (fun _ h => h) rfl (by decide +kernel) rfl rfl (Nat.le_of_ble_eq_true rfl) d (fun H1 locs1 h1 h2 h3 => kk H1 locs1 ⟨h1, h2, h3⟩)
theorem g_cK_steps (E : EC own cc nL p s m args c D (tyL cs)) (I : IW D (cwC A cs st) A0 H0 H locs) (lk : Cond.fieldLink own idx "MutantRows$Worker" "steps" "I" ∈ TB) (d : decode cc pc = .ok (.getfield idx, 3)) (kk : W p l e R s m args below meth c H locs cells slots Q (F0 m (pc + 3) ls (.int (cK_steps st) :: rest))) : W p l e R s m args below meth c H locs cells slots Q (F0 m pc ls (.ref (A 3) :: rest)) :=
  va_get (D := D) (ci := 3) (v := .int (cK_steps st)) (C := R_K) (T := F_K) (N := 9) E.1 E.2.1 E.2.2.2.2.1 ii_K E.2.2.2.1 E.2.2.2.2.2.1 I.1 3 rfl rfl 5 (by decide) (E.2.2.2.2.1 _ lk) (fun _ h => h) rfl d kk
theorem p_cK_steps {v : Int32} (E : EC own cc nL p s m args c D (tyL cs)) (I : IW D (cwC A cs st) A0 H0 H locs) (e1 : st1 = s_cK_steps st v) (lk : Cond.fieldLink own idx "MutantRows$Worker" "steps" "I" ∈ TB) (d : decode cc pc = .ok (.putfield idx, 3)) (kk : ∀ (H1 : Heap) (locs1 : List Loc), IW D (cwC A cs st1) A0 H0 H1 locs1 → W p l e R s m args below meth c H1 locs1 cells slots Q (F0 m (pc + 3) ls (rest))) : W p l e R s m args below meth c H locs cells slots Q (F0 m pc ls (.int v :: .ref (A 3) :: rest)) := by
  subst e1
  exact va_put (D := D) (ci := 3) (v := .int v) (ty := .int) (C := R_K) (T := F_K) (N := 9) E.1 E.2.1 E.2.2.2.2.1 ii_K tt_K tt_K_ok nn_K E.2.2.2.1 E.2.2.2.2.2.1 I.1 I.2.1 I.2.2 3 rfl rfl 5 (by decide) (E.2.2.2.2.1 _ lk) (fun _ h => h) rfl (by decide +kernel) rfl rfl (Nat.le_of_ble_eq_true rfl) d (fun H1 locs1 h1 h2 h3 => kk H1 locs1 ⟨h1, h2, h3⟩)
theorem g_cK_cut (E : EC own cc nL p s m args c D (tyL cs)) (I : IW D (cwC A cs st) A0 H0 H locs) (lk : Cond.fieldLink own idx "MutantRows$Worker" "cut" "Z" ∈ TB) (d : decode cc pc = .ok (.getfield idx, 3)) (kk : W p l e R s m args below meth c H locs cells slots Q (F0 m (pc + 3) ls (.int (cK_cut st) :: rest))) : W p l e R s m args below meth c H locs cells slots Q (F0 m pc ls (.ref (A 3) :: rest)) :=
  va_get (D := D) (ci := 3) (v := .int (cK_cut st)) (C := R_K) (T := F_K) (N := 9) E.1 E.2.1 E.2.2.2.2.1 ii_K E.2.2.2.1 E.2.2.2.2.2.1 I.1 3 rfl rfl 6 (by decide) (E.2.2.2.2.1 _ lk) (fun _ h => h) rfl d kk
theorem p_cK_cut {v : Int32} (E : EC own cc nL p s m args c D (tyL cs)) (I : IW D (cwC A cs st) A0 H0 H locs) (e1 : st1 = s_cK_cut st v) (lk : Cond.fieldLink own idx "MutantRows$Worker" "cut" "Z" ∈ TB) (hz : v = 0 ∨ v = 1) (d : decode cc pc = .ok (.putfield idx, 3)) (kk : ∀ (H1 : Heap) (locs1 : List Loc), IW D (cwC A cs st1) A0 H0 H1 locs1 → W p l e R s m args below meth c H1 locs1 cells slots Q (F0 m (pc + 3) ls (rest))) : W p l e R s m args below meth c H locs cells slots Q (F0 m pc ls (.int v :: .ref (A 3) :: rest)) := by
  subst e1
  exact va_put (D := D) (ci := 3) (v := .int v) (ty := .boolean) (C := R_K) (T := F_K) (N := 9) E.1 E.2.1 E.2.2.2.2.1 ii_K tt_K tt_K_ok nn_K E.2.2.2.1 E.2.2.2.2.2.1 I.1 I.2.1 I.2.2 3 rfl rfl 6 (by decide) (E.2.2.2.2.1 _ lk) (fun _ h => h) rfl (by decide +kernel) (zr_nar hz) (zr_fit hz) (Nat.le_of_ble_eq_true rfl) d (fun H1 locs1 h1 h2 h3 => kk H1 locs1 ⟨h1, h2, h3⟩)
theorem g_cK_covered (E : EC own cc nL p s m args c D (tyL cs)) (I : IW D (cwC A cs st) A0 H0 H locs) (lk : Cond.fieldLink own idx "MutantRows$Worker" "covered" "J" ∈ TB) (d : decode cc pc = .ok (.getfield idx, 3)) (kk : W p l e R s m args below meth c H locs cells slots Q (F0 m (pc + 3) ls (.long (cK_covered st) :: rest))) : W p l e R s m args below meth c H locs cells slots Q (F0 m pc ls (.ref (A 3) :: rest)) :=
  va_get (D := D) (ci := 3) (v := .long (cK_covered st)) (C := R_K) (T := F_K) (N := 9) E.1 E.2.1 E.2.2.2.2.1 ii_K E.2.2.2.1 E.2.2.2.2.2.1 I.1 3 rfl rfl 7 (by decide) (E.2.2.2.2.1 _ lk) (fun _ h => h) rfl d kk
theorem p_cK_covered {v : Int64} (E : EC own cc nL p s m args c D (tyL cs)) (I : IW D (cwC A cs st) A0 H0 H locs) (e1 : st1 = s_cK_covered st v) (lk : Cond.fieldLink own idx "MutantRows$Worker" "covered" "J" ∈ TB) (d : decode cc pc = .ok (.putfield idx, 3)) (kk : ∀ (H1 : Heap) (locs1 : List Loc), IW D (cwC A cs st1) A0 H0 H1 locs1 → W p l e R s m args below meth c H1 locs1 cells slots Q (F0 m (pc + 3) ls (rest))) : W p l e R s m args below meth c H locs cells slots Q (F0 m pc ls (.long v :: .ref (A 3) :: rest)) := by
  subst e1
  exact va_put (D := D) (ci := 3) (v := .long v) (ty := .long) (C := R_K) (T := F_K) (N := 9) E.1 E.2.1 E.2.2.2.2.1 ii_K tt_K tt_K_ok nn_K E.2.2.2.1 E.2.2.2.2.2.1 I.1 I.2.1 I.2.2 3 rfl rfl 7 (by decide) (E.2.2.2.2.1 _ lk) (fun _ h => h) rfl (by decide +kernel) rfl rfl (Nat.le_of_ble_eq_true rfl) d (fun H1 locs1 h1 h2 h3 => kk H1 locs1 ⟨h1, h2, h3⟩)
theorem g_cK_acc (E : EC own cc nL p s m args c D (tyL cs)) (I : IW D (cwC A cs st) A0 H0 H locs) (lk : Cond.fieldLink own idx "MutantRows$Worker" "acc" "J" ∈ TB) (d : decode cc pc = .ok (.getfield idx, 3)) (kk : W p l e R s m args below meth c H locs cells slots Q (F0 m (pc + 3) ls (.long (cK_acc st) :: rest))) : W p l e R s m args below meth c H locs cells slots Q (F0 m pc ls (.ref (A 3) :: rest)) :=
  va_get (D := D) (ci := 3) (v := .long (cK_acc st)) (C := R_K) (T := F_K) (N := 9) E.1 E.2.1 E.2.2.2.2.1 ii_K E.2.2.2.1 E.2.2.2.2.2.1 I.1 3 rfl rfl 8 (by decide) (E.2.2.2.2.1 _ lk) (fun _ h => h) rfl d kk
theorem p_cK_acc {v : Int64} (E : EC own cc nL p s m args c D (tyL cs)) (I : IW D (cwC A cs st) A0 H0 H locs) (e1 : st1 = s_cK_acc st v) (lk : Cond.fieldLink own idx "MutantRows$Worker" "acc" "J" ∈ TB) (d : decode cc pc = .ok (.putfield idx, 3)) (kk : ∀ (H1 : Heap) (locs1 : List Loc), IW D (cwC A cs st1) A0 H0 H1 locs1 → W p l e R s m args below meth c H1 locs1 cells slots Q (F0 m (pc + 3) ls (rest))) : W p l e R s m args below meth c H locs cells slots Q (F0 m pc ls (.long v :: .ref (A 3) :: rest)) := by
  subst e1
  exact va_put (D := D) (ci := 3) (v := .long v) (ty := .long) (C := R_K) (T := F_K) (N := 9) E.1 E.2.1 E.2.2.2.2.1 ii_K tt_K tt_K_ok nn_K E.2.2.2.1 E.2.2.2.2.2.1 I.1 I.2.1 I.2.2 3 rfl rfl 8 (by decide) (E.2.2.2.2.1 _ lk) (fun _ h => h) rfl (by decide +kernel) rfl rfl (Nat.le_of_ble_eq_true rfl) d (fun H1 locs1 h1 h2 h3 => kk H1 locs1 ⟨h1, h2, h3⟩)
theorem g_cN_trees (E : EC own cc nL p s m args c D (tyL cs)) (I : IW D (cwC A cs st) A0 H0 H locs) (lk : Cond.fieldLink own idx "MutantRows$Mutants" "trees" "LMutantRows$Trees;" ∈ TB) (d : decode cc pc = .ok (.getfield idx, 3)) (kk : W p l e R s m args below meth c H locs cells slots Q (F0 m (pc + 3) ls (.ref (A 1) :: rest))) : W p l e R s m args below meth c H locs cells slots Q (F0 m pc ls (.ref (A 4) :: rest)) :=
  va_get (D := D) (ci := 4) (v := .ref (A 1)) (C := R_N) (T := F_N) (N := 7) E.1 E.2.1 E.2.2.2.2.1 ii_N E.2.2.2.1 E.2.2.2.2.2.1 I.1 4 rfl rfl 0 (by decide) (E.2.2.2.2.1 _ lk) (fun _ h => h) rfl d kk
theorem g_cN_kinds (E : EC own cc nL p s m args c D (tyL cs)) (I : IW D (cwC A cs st) A0 H0 H locs) (lk : Cond.fieldLink own idx "MutantRows$Mutants" "kinds" "[I" ∈ TB) (d : decode cc pc = .ok (.getfield idx, 3)) (kk : W p l e R s m args below meth c H locs cells slots Q (F0 m (pc + 3) ls (.ref (A 20) :: rest))) : W p l e R s m args below meth c H locs cells slots Q (F0 m pc ls (.ref (A 4) :: rest)) :=
  va_get (D := D) (ci := 4) (v := .ref (A 20)) (C := R_N) (T := F_N) (N := 7) E.1 E.2.1 E.2.2.2.2.1 ii_N E.2.2.2.1 E.2.2.2.2.2.1 I.1 4 rfl rfl 1 (by decide) (E.2.2.2.2.1 _ lk) (fun _ h => h) rfl d kk
theorem g_cN_nodes (E : EC own cc nL p s m args c D (tyL cs)) (I : IW D (cwC A cs st) A0 H0 H locs) (lk : Cond.fieldLink own idx "MutantRows$Mutants" "nodes" "[I" ∈ TB) (d : decode cc pc = .ok (.getfield idx, 3)) (kk : W p l e R s m args below meth c H locs cells slots Q (F0 m (pc + 3) ls (.ref (A 21) :: rest))) : W p l e R s m args below meth c H locs cells slots Q (F0 m pc ls (.ref (A 4) :: rest)) :=
  va_get (D := D) (ci := 4) (v := .ref (A 21)) (C := R_N) (T := F_N) (N := 7) E.1 E.2.1 E.2.2.2.2.1 ii_N E.2.2.2.1 E.2.2.2.2.2.1 I.1 4 rfl rfl 2 (by decide) (E.2.2.2.2.1 _ lk) (fun _ h => h) rfl d kk
theorem g_cN_outcomes (E : EC own cc nL p s m args c D (tyL cs)) (I : IW D (cwC A cs st) A0 H0 H locs) (lk : Cond.fieldLink own idx "MutantRows$Mutants" "outcomes" "[I" ∈ TB) (d : decode cc pc = .ok (.getfield idx, 3)) (kk : W p l e R s m args below meth c H locs cells slots Q (F0 m (pc + 3) ls (.ref (A 22) :: rest))) : W p l e R s m args below meth c H locs cells slots Q (F0 m pc ls (.ref (A 4) :: rest)) :=
  va_get (D := D) (ci := 4) (v := .ref (A 22)) (C := R_N) (T := F_N) (N := 7) E.1 E.2.1 E.2.2.2.2.1 ii_N E.2.2.2.1 E.2.2.2.2.2.1 I.1 4 rfl rfl 3 (by decide) (E.2.2.2.2.1 _ lk) (fun _ h => h) rfl d kk
theorem g_cN_enders (E : EC own cc nL p s m args c D (tyL cs)) (I : IW D (cwC A cs st) A0 H0 H locs) (lk : Cond.fieldLink own idx "MutantRows$Mutants" "enders" "[I" ∈ TB) (d : decode cc pc = .ok (.getfield idx, 3)) (kk : W p l e R s m args below meth c H locs cells slots Q (F0 m (pc + 3) ls (.ref (A 23) :: rest))) : W p l e R s m args below meth c H locs cells slots Q (F0 m pc ls (.ref (A 4) :: rest)) :=
  va_get (D := D) (ci := 4) (v := .ref (A 23)) (C := R_N) (T := F_N) (N := 7) E.1 E.2.1 E.2.2.2.2.1 ii_N E.2.2.2.1 E.2.2.2.2.2.1 I.1 4 rfl rfl 4 (by decide) (E.2.2.2.2.1 _ lk) (fun _ h => h) rfl d kk
theorem g_cN_madeAt (E : EC own cc nL p s m args c D (tyL cs)) (I : IW D (cwC A cs st) A0 H0 H locs) (lk : Cond.fieldLink own idx "MutantRows$Mutants" "madeAt" "[J" ∈ TB) (d : decode cc pc = .ok (.getfield idx, 3)) (kk : W p l e R s m args below meth c H locs cells slots Q (F0 m (pc + 3) ls (.ref (A 24) :: rest))) : W p l e R s m args below meth c H locs cells slots Q (F0 m pc ls (.ref (A 4) :: rest)) :=
  va_get (D := D) (ci := 4) (v := .ref (A 24)) (C := R_N) (T := F_N) (N := 7) E.1 E.2.1 E.2.2.2.2.1 ii_N E.2.2.2.1 E.2.2.2.2.2.1 I.1 4 rfl rfl 5 (by decide) (E.2.2.2.2.1 _ lk) (fun _ h => h) rfl d kk
theorem g_cN_size (E : EC own cc nL p s m args c D (tyL cs)) (I : IW D (cwC A cs st) A0 H0 H locs) (lk : Cond.fieldLink own idx "MutantRows$Mutants" "size" "I" ∈ TB) (d : decode cc pc = .ok (.getfield idx, 3)) (kk : W p l e R s m args below meth c H locs cells slots Q (F0 m (pc + 3) ls (.int (cN_size st) :: rest))) : W p l e R s m args below meth c H locs cells slots Q (F0 m pc ls (.ref (A 4) :: rest)) :=
  va_get (D := D) (ci := 4) (v := .int (cN_size st)) (C := R_N) (T := F_N) (N := 7) E.1 E.2.1 E.2.2.2.2.1 ii_N E.2.2.2.1 E.2.2.2.2.2.1 I.1 4 rfl rfl 6 (by decide) (E.2.2.2.2.1 _ lk) (fun _ h => h) rfl d kk
theorem p_cN_size {v : Int32} (E : EC own cc nL p s m args c D (tyL cs)) (I : IW D (cwC A cs st) A0 H0 H locs) (e1 : st1 = s_cN_size st v) (lk : Cond.fieldLink own idx "MutantRows$Mutants" "size" "I" ∈ TB) (d : decode cc pc = .ok (.putfield idx, 3)) (kk : ∀ (H1 : Heap) (locs1 : List Loc), IW D (cwC A cs st1) A0 H0 H1 locs1 → W p l e R s m args below meth c H1 locs1 cells slots Q (F0 m (pc + 3) ls (rest))) : W p l e R s m args below meth c H locs cells slots Q (F0 m pc ls (.int v :: .ref (A 4) :: rest)) := by
  subst e1
  exact va_put (D := D) (ci := 4) (v := .int v) (ty := .int) (C := R_N) (T := F_N) (N := 7) E.1 E.2.1 E.2.2.2.2.1 ii_N tt_N tt_N_ok nn_N E.2.2.2.1 E.2.2.2.2.2.1 I.1 I.2.1 I.2.2 4 rfl rfl 6 (by decide) (E.2.2.2.2.1 _ lk) (fun _ h => h) rfl (by decide +kernel) rfl rfl (Nat.le_of_ble_eq_true rfl) d (fun H1 locs1 h1 h2 h3 => kk H1 locs1 ⟨h1, h2, h3⟩)
theorem g_cG_trees (E : EC own cc nL p s m args c D (tyL cs)) (I : IW D (cwC A cs st) A0 H0 H locs) (lk : Cond.fieldLink own idx "MutantRows$Lineup" "trees" "LMutantRows$Trees;" ∈ TB) (d : decode cc pc = .ok (.getfield idx, 3)) (kk : W p l e R s m args below meth c H locs cells slots Q (F0 m (pc + 3) ls (.ref (A 1) :: rest))) : W p l e R s m args below meth c H locs cells slots Q (F0 m pc ls (.ref (A 5) :: rest)) :=
  va_get (D := D) (ci := 5) (v := .ref (A 1)) (C := R_G) (T := F_G) (N := 5) E.1 E.2.1 E.2.2.2.2.1 ii_G E.2.2.2.1 E.2.2.2.2.2.1 I.1 5 rfl rfl 0 (by decide) (E.2.2.2.2.1 _ lk) (fun _ h => h) rfl d kk
theorem g_cG_trials (E : EC own cc nL p s m args c D (tyL cs)) (I : IW D (cwC A cs st) A0 H0 H locs) (lk : Cond.fieldLink own idx "MutantRows$Lineup" "trials" "LMutantRows$Trials;" ∈ TB) (d : decode cc pc = .ok (.getfield idx, 3)) (kk : W p l e R s m args below meth c H locs cells slots Q (F0 m (pc + 3) ls (.ref (A 2) :: rest))) : W p l e R s m args below meth c H locs cells slots Q (F0 m pc ls (.ref (A 5) :: rest)) :=
  va_get (D := D) (ci := 5) (v := .ref (A 2)) (C := R_G) (T := F_G) (N := 5) E.1 E.2.1 E.2.2.2.2.1 ii_G E.2.2.2.1 E.2.2.2.2.2.1 I.1 5 rfl rfl 1 (by decide) (E.2.2.2.2.1 _ lk) (fun _ h => h) rfl d kk
theorem g_cG_line (E : EC own cc nL p s m args c D (tyL cs)) (I : IW D (cwC A cs st) A0 H0 H locs) (lk : Cond.fieldLink own idx "MutantRows$Lineup" "line" "[I" ∈ TB) (d : decode cc pc = .ok (.getfield idx, 3)) (kk : W p l e R s m args below meth c H locs cells slots Q (F0 m (pc + 3) ls (.ref (A 25) :: rest))) : W p l e R s m args below meth c H locs cells slots Q (F0 m pc ls (.ref (A 5) :: rest)) :=
  va_get (D := D) (ci := 5) (v := .ref (A 25)) (C := R_G) (T := F_G) (N := 5) E.1 E.2.1 E.2.2.2.2.1 ii_G E.2.2.2.1 E.2.2.2.2.2.1 I.1 5 rfl rfl 2 (by decide) (E.2.2.2.2.1 _ lk) (fun _ h => h) rfl d kk
theorem g_cG_distances (E : EC own cc nL p s m args c D (tyL cs)) (I : IW D (cwC A cs st) A0 H0 H locs) (lk : Cond.fieldLink own idx "MutantRows$Lineup" "distances" "[I" ∈ TB) (d : decode cc pc = .ok (.getfield idx, 3)) (kk : W p l e R s m args below meth c H locs cells slots Q (F0 m (pc + 3) ls (.ref (A 26) :: rest))) : W p l e R s m args below meth c H locs cells slots Q (F0 m pc ls (.ref (A 5) :: rest)) :=
  va_get (D := D) (ci := 5) (v := .ref (A 26)) (C := R_G) (T := F_G) (N := 5) E.1 E.2.1 E.2.2.2.2.1 ii_G E.2.2.2.1 E.2.2.2.2.2.1 I.1 5 rfl rfl 3 (by decide) (E.2.2.2.2.1 _ lk) (fun _ h => h) rfl d kk
theorem g_cG_size (E : EC own cc nL p s m args c D (tyL cs)) (I : IW D (cwC A cs st) A0 H0 H locs) (lk : Cond.fieldLink own idx "MutantRows$Lineup" "size" "I" ∈ TB) (d : decode cc pc = .ok (.getfield idx, 3)) (kk : W p l e R s m args below meth c H locs cells slots Q (F0 m (pc + 3) ls (.int (cG_size st) :: rest))) : W p l e R s m args below meth c H locs cells slots Q (F0 m pc ls (.ref (A 5) :: rest)) :=
  va_get (D := D) (ci := 5) (v := .int (cG_size st)) (C := R_G) (T := F_G) (N := 5) E.1 E.2.1 E.2.2.2.2.1 ii_G E.2.2.2.1 E.2.2.2.2.2.1 I.1 5 rfl rfl 4 (by decide) (E.2.2.2.2.1 _ lk) (fun _ h => h) rfl d kk
theorem p_cG_size {v : Int32} (E : EC own cc nL p s m args c D (tyL cs)) (I : IW D (cwC A cs st) A0 H0 H locs) (e1 : st1 = s_cG_size st v) (lk : Cond.fieldLink own idx "MutantRows$Lineup" "size" "I" ∈ TB) (d : decode cc pc = .ok (.putfield idx, 3)) (kk : ∀ (H1 : Heap) (locs1 : List Loc), IW D (cwC A cs st1) A0 H0 H1 locs1 → W p l e R s m args below meth c H1 locs1 cells slots Q (F0 m (pc + 3) ls (rest))) : W p l e R s m args below meth c H locs cells slots Q (F0 m pc ls (.int v :: .ref (A 5) :: rest)) := by
  subst e1
  exact va_put (D := D) (ci := 5) (v := .int v) (ty := .int) (C := R_G) (T := F_G) (N := 5) E.1 E.2.1 E.2.2.2.2.1 ii_G tt_G tt_G_ok nn_G E.2.2.2.1 E.2.2.2.2.2.1 I.1 I.2.1 I.2.2 5 rfl rfl 4 (by decide) (E.2.2.2.2.1 _ lk) (fun _ h => h) rfl (by decide +kernel) rfl rfl (Nat.le_of_ble_eq_true rfl) d (fun H1 locs1 h1 h2 h3 => kk H1 locs1 ⟨h1, h2, h3⟩)
theorem g_cD_row (E : EC own cc nL p s m args c D (tyL cs)) (I : IW D (cwC A cs st) A0 H0 H locs) (lk : Cond.fieldLink own idx "MutantRows$Draw" "row" "[I" ∈ TB) (d : decode cc pc = .ok (.getfield idx, 3)) (kk : W p l e R s m args below meth c H locs cells slots Q (F0 m (pc + 3) ls (.ref (A 27) :: rest))) : W p l e R s m args below meth c H locs cells slots Q (F0 m pc ls (.ref (A 6) :: rest)) :=
  va_get (D := D) (ci := 6) (v := .ref (A 27)) (C := R_D) (T := F_D) (N := 2) E.1 E.2.1 E.2.2.2.2.1 ii_D E.2.2.2.1 E.2.2.2.2.2.1 I.1 6 rfl rfl 0 (by decide) (E.2.2.2.2.1 _ lk) (fun _ h => h) rfl d kk
theorem g_cD_size (E : EC own cc nL p s m args c D (tyL cs)) (I : IW D (cwC A cs st) A0 H0 H locs) (lk : Cond.fieldLink own idx "MutantRows$Draw" "size" "I" ∈ TB) (d : decode cc pc = .ok (.getfield idx, 3)) (kk : W p l e R s m args below meth c H locs cells slots Q (F0 m (pc + 3) ls (.int (cD_size st) :: rest))) : W p l e R s m args below meth c H locs cells slots Q (F0 m pc ls (.ref (A 6) :: rest)) :=
  va_get (D := D) (ci := 6) (v := .int (cD_size st)) (C := R_D) (T := F_D) (N := 2) E.1 E.2.1 E.2.2.2.2.1 ii_D E.2.2.2.1 E.2.2.2.2.2.1 I.1 6 rfl rfl 1 (by decide) (E.2.2.2.2.1 _ lk) (fun _ h => h) rfl d kk
theorem p_cD_size {v : Int32} (E : EC own cc nL p s m args c D (tyL cs)) (I : IW D (cwC A cs st) A0 H0 H locs) (e1 : st1 = s_cD_size st v) (lk : Cond.fieldLink own idx "MutantRows$Draw" "size" "I" ∈ TB) (d : decode cc pc = .ok (.putfield idx, 3)) (kk : ∀ (H1 : Heap) (locs1 : List Loc), IW D (cwC A cs st1) A0 H0 H1 locs1 → W p l e R s m args below meth c H1 locs1 cells slots Q (F0 m (pc + 3) ls (rest))) : W p l e R s m args below meth c H locs cells slots Q (F0 m pc ls (.int v :: .ref (A 6) :: rest)) := by
  subst e1
  exact va_put (D := D) (ci := 6) (v := .int v) (ty := .int) (C := R_D) (T := F_D) (N := 2) E.1 E.2.1 E.2.2.2.2.1 ii_D tt_D tt_D_ok nn_D E.2.2.2.1 E.2.2.2.2.2.1 I.1 I.2.1 I.2.2 6 rfl rfl 1 (by decide) (E.2.2.2.2.1 _ lk) (fun _ h => h) rfl (by decide +kernel) rfl rfl (Nat.le_of_ble_eq_true rfl) d (fun H1 locs1 h1 h2 h3 => kk H1 locs1 ⟨h1, h2, h3⟩)
theorem l_cT_kinds (E : EC own cc nL p s m args c D (tyL cs)) (I : IW D (cwC A cs st) A0 H0 H locs) (b : vp_in i 64) (d : decode cc pc = .ok (.iaload, 1)) (kk : W p l e R s m args below meth c H locs cells slots Q (F0 m (pc + 1) ls (.int (cT_kinds st i.toNatClampNeg) :: rest))) : W p l e R s m args below meth c H locs cells slots Q (F0 m pc ls (.int i :: .ref (A 7) :: rest)) :=
  va_iald E.1 E.2.1 E.2.2.2.2.2.1 I.1 7 0 rfl rfl b d kk
theorem p_cT_kinds {v : Int32} (E : EC own cc nL p s m args c D (tyL cs)) (I : IW D (cwC A cs st) A0 H0 H locs) (b : vp_in i 64) (e1 : st1 = s_cT_kinds st i.toNatClampNeg v) (d : decode cc pc = .ok (.iastore, 1)) (kk : ∀ (H1 : Heap) (locs1 : List Loc), IW D (cwC A cs st1) A0 H0 H1 locs1 → W p l e R s m args below meth c H1 locs1 cells slots Q (F0 m (pc + 1) ls (rest))) : W p l e R s m args below meth c H locs cells slots Q (F0 m pc ls (.int v :: .int i :: .ref (A 7) :: rest)) := by
  subst e1
  exact va_iast E.1 E.2.1 E.2.2.2.2.2.1 I.1 I.2.1 I.2.2 7 0 rfl rfl b d (fun H1 locs1 h1 h2 h3 => kk H1 locs1 ⟨h1, h2, h3⟩)
theorem l_cT_numbers (E : EC own cc nL p s m args c D (tyL cs)) (I : IW D (cwC A cs st) A0 H0 H locs) (b : vp_in i 64) (d : decode cc pc = .ok (.laload, 1)) (kk : W p l e R s m args below meth c H locs cells slots Q (F0 m (pc + 1) ls (.long (cT_numbers st i.toNatClampNeg) :: rest))) : W p l e R s m args below meth c H locs cells slots Q (F0 m pc ls (.int i :: .ref (A 8) :: rest)) :=
  va_lald E.1 E.2.1 E.2.2.2.2.2.1 I.1 8 1 rfl rfl b d kk
theorem p_cT_numbers {v : Int64} (E : EC own cc nL p s m args c D (tyL cs)) (I : IW D (cwC A cs st) A0 H0 H locs) (b : vp_in i 64) (e1 : st1 = s_cT_numbers st i.toNatClampNeg v) (d : decode cc pc = .ok (.lastore, 1)) (kk : ∀ (H1 : Heap) (locs1 : List Loc), IW D (cwC A cs st1) A0 H0 H1 locs1 → W p l e R s m args below meth c H1 locs1 cells slots Q (F0 m (pc + 1) ls (rest))) : W p l e R s m args below meth c H locs cells slots Q (F0 m pc ls (.long v :: .int i :: .ref (A 8) :: rest)) := by
  subst e1
  exact va_last E.1 E.2.1 E.2.2.2.2.2.1 I.1 I.2.1 I.2.2 8 1 rfl rfl b d (fun H1 locs1 h1 h2 h3 => kk H1 locs1 ⟨h1, h2, h3⟩)
theorem l_cT_firsts (E : EC own cc nL p s m args c D (tyL cs)) (I : IW D (cwC A cs st) A0 H0 H locs) (b : vp_in i 64) (d : decode cc pc = .ok (.iaload, 1)) (kk : W p l e R s m args below meth c H locs cells slots Q (F0 m (pc + 1) ls (.int (cT_firsts st i.toNatClampNeg) :: rest))) : W p l e R s m args below meth c H locs cells slots Q (F0 m pc ls (.int i :: .ref (A 9) :: rest)) :=
  va_iald E.1 E.2.1 E.2.2.2.2.2.1 I.1 9 0 rfl rfl b d kk
theorem p_cT_firsts {v : Int32} (E : EC own cc nL p s m args c D (tyL cs)) (I : IW D (cwC A cs st) A0 H0 H locs) (b : vp_in i 64) (e1 : st1 = s_cT_firsts st i.toNatClampNeg v) (d : decode cc pc = .ok (.iastore, 1)) (kk : ∀ (H1 : Heap) (locs1 : List Loc), IW D (cwC A cs st1) A0 H0 H1 locs1 → W p l e R s m args below meth c H1 locs1 cells slots Q (F0 m (pc + 1) ls (rest))) : W p l e R s m args below meth c H locs cells slots Q (F0 m pc ls (.int v :: .int i :: .ref (A 9) :: rest)) := by
  subst e1
  exact va_iast E.1 E.2.1 E.2.2.2.2.2.1 I.1 I.2.1 I.2.2 9 0 rfl rfl b d (fun H1 locs1 h1 h2 h3 => kk H1 locs1 ⟨h1, h2, h3⟩)
theorem l_cT_seconds (E : EC own cc nL p s m args c D (tyL cs)) (I : IW D (cwC A cs st) A0 H0 H locs) (b : vp_in i 64) (d : decode cc pc = .ok (.iaload, 1)) (kk : W p l e R s m args below meth c H locs cells slots Q (F0 m (pc + 1) ls (.int (cT_seconds st i.toNatClampNeg) :: rest))) : W p l e R s m args below meth c H locs cells slots Q (F0 m pc ls (.int i :: .ref (A 10) :: rest)) :=
  va_iald E.1 E.2.1 E.2.2.2.2.2.1 I.1 10 0 rfl rfl b d kk
theorem p_cT_seconds {v : Int32} (E : EC own cc nL p s m args c D (tyL cs)) (I : IW D (cwC A cs st) A0 H0 H locs) (b : vp_in i 64) (e1 : st1 = s_cT_seconds st i.toNatClampNeg v) (d : decode cc pc = .ok (.iastore, 1)) (kk : ∀ (H1 : Heap) (locs1 : List Loc), IW D (cwC A cs st1) A0 H0 H1 locs1 → W p l e R s m args below meth c H1 locs1 cells slots Q (F0 m (pc + 1) ls (rest))) : W p l e R s m args below meth c H locs cells slots Q (F0 m pc ls (.int v :: .int i :: .ref (A 10) :: rest)) := by
  subst e1
  exact va_iast E.1 E.2.1 E.2.2.2.2.2.1 I.1 I.2.1 I.2.2 10 0 rfl rfl b d (fun H1 locs1 h1 h2 h3 => kk H1 locs1 ⟨h1, h2, h3⟩)
theorem l_cT_thirds (E : EC own cc nL p s m args c D (tyL cs)) (I : IW D (cwC A cs st) A0 H0 H locs) (b : vp_in i 64) (d : decode cc pc = .ok (.iaload, 1)) (kk : W p l e R s m args below meth c H locs cells slots Q (F0 m (pc + 1) ls (.int (cT_thirds st i.toNatClampNeg) :: rest))) : W p l e R s m args below meth c H locs cells slots Q (F0 m pc ls (.int i :: .ref (A 11) :: rest)) :=
  va_iald E.1 E.2.1 E.2.2.2.2.2.1 I.1 11 0 rfl rfl b d kk
theorem p_cT_thirds {v : Int32} (E : EC own cc nL p s m args c D (tyL cs)) (I : IW D (cwC A cs st) A0 H0 H locs) (b : vp_in i 64) (e1 : st1 = s_cT_thirds st i.toNatClampNeg v) (d : decode cc pc = .ok (.iastore, 1)) (kk : ∀ (H1 : Heap) (locs1 : List Loc), IW D (cwC A cs st1) A0 H0 H1 locs1 → W p l e R s m args below meth c H1 locs1 cells slots Q (F0 m (pc + 1) ls (rest))) : W p l e R s m args below meth c H locs cells slots Q (F0 m pc ls (.int v :: .int i :: .ref (A 11) :: rest)) := by
  subst e1
  exact va_iast E.1 E.2.1 E.2.2.2.2.2.1 I.1 I.2.1 I.2.2 11 0 rfl rfl b d (fun H1 locs1 h1 h2 h3 => kk H1 locs1 ⟨h1, h2, h3⟩)
theorem l_cT_shapes (E : EC own cc nL p s m args c D (tyL cs)) (I : IW D (cwC A cs st) A0 H0 H locs) (b : vp_in i 64) (d : decode cc pc = .ok (.iaload, 1)) (kk : W p l e R s m args below meth c H locs cells slots Q (F0 m (pc + 1) ls (.int (cT_shapes st i.toNatClampNeg) :: rest))) : W p l e R s m args below meth c H locs cells slots Q (F0 m pc ls (.int i :: .ref (A 12) :: rest)) :=
  va_iald E.1 E.2.1 E.2.2.2.2.2.1 I.1 12 0 rfl rfl b d kk
theorem p_cT_shapes {v : Int32} (E : EC own cc nL p s m args c D (tyL cs)) (I : IW D (cwC A cs st) A0 H0 H locs) (b : vp_in i 64) (e1 : st1 = s_cT_shapes st i.toNatClampNeg v) (d : decode cc pc = .ok (.iastore, 1)) (kk : ∀ (H1 : Heap) (locs1 : List Loc), IW D (cwC A cs st1) A0 H0 H1 locs1 → W p l e R s m args below meth c H1 locs1 cells slots Q (F0 m (pc + 1) ls (rest))) : W p l e R s m args below meth c H locs cells slots Q (F0 m pc ls (.int v :: .int i :: .ref (A 12) :: rest)) := by
  subst e1
  exact va_iast E.1 E.2.1 E.2.2.2.2.2.1 I.1 I.2.1 I.2.2 12 0 rfl rfl b d (fun H1 locs1 h1 h2 h3 => kk H1 locs1 ⟨h1, h2, h3⟩)
theorem l_cT_ways (E : EC own cc nL p s m args c D (tyL cs)) (I : IW D (cwC A cs st) A0 H0 H locs) (b : vp_in i 64) (d : decode cc pc = .ok (.iaload, 1)) (kk : W p l e R s m args below meth c H locs cells slots Q (F0 m (pc + 1) ls (.int (cT_ways st i.toNatClampNeg) :: rest))) : W p l e R s m args below meth c H locs cells slots Q (F0 m pc ls (.int i :: .ref (A 13) :: rest)) :=
  va_iald E.1 E.2.1 E.2.2.2.2.2.1 I.1 13 0 rfl rfl b d kk
theorem p_cT_ways {v : Int32} (E : EC own cc nL p s m args c D (tyL cs)) (I : IW D (cwC A cs st) A0 H0 H locs) (b : vp_in i 64) (e1 : st1 = s_cT_ways st i.toNatClampNeg v) (d : decode cc pc = .ok (.iastore, 1)) (kk : ∀ (H1 : Heap) (locs1 : List Loc), IW D (cwC A cs st1) A0 H0 H1 locs1 → W p l e R s m args below meth c H1 locs1 cells slots Q (F0 m (pc + 1) ls (rest))) : W p l e R s m args below meth c H locs cells slots Q (F0 m pc ls (.int v :: .int i :: .ref (A 13) :: rest)) := by
  subst e1
  exact va_iast E.1 E.2.1 E.2.2.2.2.2.1 I.1 I.2.1 I.2.2 13 0 rfl rfl b d (fun H1 locs1 h1 h2 h3 => kk H1 locs1 ⟨h1, h2, h3⟩)
theorem l_cU_roots (E : EC own cc nL p s m args c D (tyL cs)) (I : IW D (cwC A cs st) A0 H0 H locs) (b : vp_in i 24) (d : decode cc pc = .ok (.iaload, 1)) (kk : W p l e R s m args below meth c H locs cells slots Q (F0 m (pc + 1) ls (.int (cU_roots st i.toNatClampNeg) :: rest))) : W p l e R s m args below meth c H locs cells slots Q (F0 m pc ls (.int i :: .ref (A 14) :: rest)) :=
  va_iald E.1 E.2.1 E.2.2.2.2.2.1 I.1 14 0 rfl rfl b d kk
theorem p_cU_roots {v : Int32} (E : EC own cc nL p s m args c D (tyL cs)) (I : IW D (cwC A cs st) A0 H0 H locs) (b : vp_in i 24) (e1 : st1 = s_cU_roots st i.toNatClampNeg v) (d : decode cc pc = .ok (.iastore, 1)) (kk : ∀ (H1 : Heap) (locs1 : List Loc), IW D (cwC A cs st1) A0 H0 H1 locs1 → W p l e R s m args below meth c H1 locs1 cells slots Q (F0 m (pc + 1) ls (rest))) : W p l e R s m args below meth c H locs cells slots Q (F0 m pc ls (.int v :: .int i :: .ref (A 14) :: rest)) := by
  subst e1
  exact va_iast E.1 E.2.1 E.2.2.2.2.2.1 I.1 I.2.1 I.2.2 14 0 rfl rfl b d (fun H1 locs1 h1 h2 h3 => kk H1 locs1 ⟨h1, h2, h3⟩)
theorem l_cU_inputs (E : EC own cc nL p s m args c D (tyL cs)) (I : IW D (cwC A cs st) A0 H0 H locs) (b : vp_in i 24) (d : decode cc pc = .ok (.laload, 1)) (kk : W p l e R s m args below meth c H locs cells slots Q (F0 m (pc + 1) ls (.long (cU_inputs st i.toNatClampNeg) :: rest))) : W p l e R s m args below meth c H locs cells slots Q (F0 m pc ls (.int i :: .ref (A 15) :: rest)) :=
  va_lald E.1 E.2.1 E.2.2.2.2.2.1 I.1 15 1 rfl rfl b d kk
theorem p_cU_inputs {v : Int64} (E : EC own cc nL p s m args c D (tyL cs)) (I : IW D (cwC A cs st) A0 H0 H locs) (b : vp_in i 24) (e1 : st1 = s_cU_inputs st i.toNatClampNeg v) (d : decode cc pc = .ok (.lastore, 1)) (kk : ∀ (H1 : Heap) (locs1 : List Loc), IW D (cwC A cs st1) A0 H0 H1 locs1 → W p l e R s m args below meth c H1 locs1 cells slots Q (F0 m (pc + 1) ls (rest))) : W p l e R s m args below meth c H locs cells slots Q (F0 m pc ls (.long v :: .int i :: .ref (A 15) :: rest)) := by
  subst e1
  exact va_last E.1 E.2.1 E.2.2.2.2.2.1 I.1 I.2.1 I.2.2 15 1 rfl rfl b d (fun H1 locs1 h1 h2 h3 => kk H1 locs1 ⟨h1, h2, h3⟩)
theorem l_cU_wanted (E : EC own cc nL p s m args c D (tyL cs)) (I : IW D (cwC A cs st) A0 H0 H locs) (b : vp_in i 24) (d : decode cc pc = .ok (.laload, 1)) (kk : W p l e R s m args below meth c H locs cells slots Q (F0 m (pc + 1) ls (.long (cU_wanted st i.toNatClampNeg) :: rest))) : W p l e R s m args below meth c H locs cells slots Q (F0 m pc ls (.int i :: .ref (A 16) :: rest)) :=
  va_lald E.1 E.2.1 E.2.2.2.2.2.1 I.1 16 1 rfl rfl b d kk
theorem p_cU_wanted {v : Int64} (E : EC own cc nL p s m args c D (tyL cs)) (I : IW D (cwC A cs st) A0 H0 H locs) (b : vp_in i 24) (e1 : st1 = s_cU_wanted st i.toNatClampNeg v) (d : decode cc pc = .ok (.lastore, 1)) (kk : ∀ (H1 : Heap) (locs1 : List Loc), IW D (cwC A cs st1) A0 H0 H1 locs1 → W p l e R s m args below meth c H1 locs1 cells slots Q (F0 m (pc + 1) ls (rest))) : W p l e R s m args below meth c H locs cells slots Q (F0 m pc ls (.long v :: .int i :: .ref (A 16) :: rest)) := by
  subst e1
  exact va_last E.1 E.2.1 E.2.2.2.2.2.1 I.1 I.2.1 I.2.2 16 1 rfl rfl b d (fun H1 locs1 h1 h2 h3 => kk H1 locs1 ⟨h1, h2, h3⟩)
theorem l_cU_states (E : EC own cc nL p s m args c D (tyL cs)) (I : IW D (cwC A cs st) A0 H0 H locs) (b : vp_in i 24) (d : decode cc pc = .ok (.iaload, 1)) (kk : W p l e R s m args below meth c H locs cells slots Q (F0 m (pc + 1) ls (.int (cU_states st i.toNatClampNeg) :: rest))) : W p l e R s m args below meth c H locs cells slots Q (F0 m pc ls (.int i :: .ref (A 17) :: rest)) :=
  va_iald E.1 E.2.1 E.2.2.2.2.2.1 I.1 17 0 rfl rfl b d kk
theorem p_cU_states {v : Int32} (E : EC own cc nL p s m args c D (tyL cs)) (I : IW D (cwC A cs st) A0 H0 H locs) (b : vp_in i 24) (e1 : st1 = s_cU_states st i.toNatClampNeg v) (d : decode cc pc = .ok (.iastore, 1)) (kk : ∀ (H1 : Heap) (locs1 : List Loc), IW D (cwC A cs st1) A0 H0 H1 locs1 → W p l e R s m args below meth c H1 locs1 cells slots Q (F0 m (pc + 1) ls (rest))) : W p l e R s m args below meth c H locs cells slots Q (F0 m pc ls (.int v :: .int i :: .ref (A 17) :: rest)) := by
  subst e1
  exact va_iast E.1 E.2.1 E.2.2.2.2.2.1 I.1 I.2.1 I.2.2 17 0 rfl rfl b d (fun H1 locs1 h1 h2 h3 => kk H1 locs1 ⟨h1, h2, h3⟩)
theorem l_cU_steps (E : EC own cc nL p s m args c D (tyL cs)) (I : IW D (cwC A cs st) A0 H0 H locs) (b : vp_in i 24) (d : decode cc pc = .ok (.iaload, 1)) (kk : W p l e R s m args below meth c H locs cells slots Q (F0 m (pc + 1) ls (.int (cU_steps st i.toNatClampNeg) :: rest))) : W p l e R s m args below meth c H locs cells slots Q (F0 m pc ls (.int i :: .ref (A 18) :: rest)) :=
  va_iald E.1 E.2.1 E.2.2.2.2.2.1 I.1 18 0 rfl rfl b d kk
theorem p_cU_steps {v : Int32} (E : EC own cc nL p s m args c D (tyL cs)) (I : IW D (cwC A cs st) A0 H0 H locs) (b : vp_in i 24) (e1 : st1 = s_cU_steps st i.toNatClampNeg v) (d : decode cc pc = .ok (.iastore, 1)) (kk : ∀ (H1 : Heap) (locs1 : List Loc), IW D (cwC A cs st1) A0 H0 H1 locs1 → W p l e R s m args below meth c H1 locs1 cells slots Q (F0 m (pc + 1) ls (rest))) : W p l e R s m args below meth c H locs cells slots Q (F0 m pc ls (.int v :: .int i :: .ref (A 18) :: rest)) := by
  subst e1
  exact va_iast E.1 E.2.1 E.2.2.2.2.2.1 I.1 I.2.1 I.2.2 18 0 rfl rfl b d (fun H1 locs1 h1 h2 h3 => kk H1 locs1 ⟨h1, h2, h3⟩)
theorem l_cU_covered (E : EC own cc nL p s m args c D (tyL cs)) (I : IW D (cwC A cs st) A0 H0 H locs) (b : vp_in i 24) (d : decode cc pc = .ok (.laload, 1)) (kk : W p l e R s m args below meth c H locs cells slots Q (F0 m (pc + 1) ls (.long (cU_covered st i.toNatClampNeg) :: rest))) : W p l e R s m args below meth c H locs cells slots Q (F0 m pc ls (.int i :: .ref (A 19) :: rest)) :=
  va_lald E.1 E.2.1 E.2.2.2.2.2.1 I.1 19 1 rfl rfl b d kk
theorem p_cU_covered {v : Int64} (E : EC own cc nL p s m args c D (tyL cs)) (I : IW D (cwC A cs st) A0 H0 H locs) (b : vp_in i 24) (e1 : st1 = s_cU_covered st i.toNatClampNeg v) (d : decode cc pc = .ok (.lastore, 1)) (kk : ∀ (H1 : Heap) (locs1 : List Loc), IW D (cwC A cs st1) A0 H0 H1 locs1 → W p l e R s m args below meth c H1 locs1 cells slots Q (F0 m (pc + 1) ls (rest))) : W p l e R s m args below meth c H locs cells slots Q (F0 m pc ls (.long v :: .int i :: .ref (A 19) :: rest)) := by
  subst e1
  exact va_last E.1 E.2.1 E.2.2.2.2.2.1 I.1 I.2.1 I.2.2 19 1 rfl rfl b d (fun H1 locs1 h1 h2 h3 => kk H1 locs1 ⟨h1, h2, h3⟩)
theorem l_cN_kinds (E : EC own cc nL p s m args c D (tyL cs)) (I : IW D (cwC A cs st) A0 H0 H locs) (b : vp_in i 100) (d : decode cc pc = .ok (.iaload, 1)) (kk : W p l e R s m args below meth c H locs cells slots Q (F0 m (pc + 1) ls (.int (cN_kinds st i.toNatClampNeg) :: rest))) : W p l e R s m args below meth c H locs cells slots Q (F0 m pc ls (.int i :: .ref (A 20) :: rest)) :=
  va_iald E.1 E.2.1 E.2.2.2.2.2.1 I.1 20 0 rfl rfl b d kk
theorem p_cN_kinds {v : Int32} (E : EC own cc nL p s m args c D (tyL cs)) (I : IW D (cwC A cs st) A0 H0 H locs) (b : vp_in i 100) (e1 : st1 = s_cN_kinds st i.toNatClampNeg v) (d : decode cc pc = .ok (.iastore, 1)) (kk : ∀ (H1 : Heap) (locs1 : List Loc), IW D (cwC A cs st1) A0 H0 H1 locs1 → W p l e R s m args below meth c H1 locs1 cells slots Q (F0 m (pc + 1) ls (rest))) : W p l e R s m args below meth c H locs cells slots Q (F0 m pc ls (.int v :: .int i :: .ref (A 20) :: rest)) := by
  subst e1
  exact va_iast E.1 E.2.1 E.2.2.2.2.2.1 I.1 I.2.1 I.2.2 20 0 rfl rfl b d (fun H1 locs1 h1 h2 h3 => kk H1 locs1 ⟨h1, h2, h3⟩)
theorem l_cN_nodes (E : EC own cc nL p s m args c D (tyL cs)) (I : IW D (cwC A cs st) A0 H0 H locs) (b : vp_in i 100) (d : decode cc pc = .ok (.iaload, 1)) (kk : W p l e R s m args below meth c H locs cells slots Q (F0 m (pc + 1) ls (.int (cN_nodes st i.toNatClampNeg) :: rest))) : W p l e R s m args below meth c H locs cells slots Q (F0 m pc ls (.int i :: .ref (A 21) :: rest)) :=
  va_iald E.1 E.2.1 E.2.2.2.2.2.1 I.1 21 0 rfl rfl b d kk
theorem p_cN_nodes {v : Int32} (E : EC own cc nL p s m args c D (tyL cs)) (I : IW D (cwC A cs st) A0 H0 H locs) (b : vp_in i 100) (e1 : st1 = s_cN_nodes st i.toNatClampNeg v) (d : decode cc pc = .ok (.iastore, 1)) (kk : ∀ (H1 : Heap) (locs1 : List Loc), IW D (cwC A cs st1) A0 H0 H1 locs1 → W p l e R s m args below meth c H1 locs1 cells slots Q (F0 m (pc + 1) ls (rest))) : W p l e R s m args below meth c H locs cells slots Q (F0 m pc ls (.int v :: .int i :: .ref (A 21) :: rest)) := by
  subst e1
  exact va_iast E.1 E.2.1 E.2.2.2.2.2.1 I.1 I.2.1 I.2.2 21 0 rfl rfl b d (fun H1 locs1 h1 h2 h3 => kk H1 locs1 ⟨h1, h2, h3⟩)
theorem l_cN_outcomes (E : EC own cc nL p s m args c D (tyL cs)) (I : IW D (cwC A cs st) A0 H0 H locs) (b : vp_in i 100) (d : decode cc pc = .ok (.iaload, 1)) (kk : W p l e R s m args below meth c H locs cells slots Q (F0 m (pc + 1) ls (.int (cN_outcomes st i.toNatClampNeg) :: rest))) : W p l e R s m args below meth c H locs cells slots Q (F0 m pc ls (.int i :: .ref (A 22) :: rest)) :=
  va_iald E.1 E.2.1 E.2.2.2.2.2.1 I.1 22 0 rfl rfl b d kk
theorem p_cN_outcomes {v : Int32} (E : EC own cc nL p s m args c D (tyL cs)) (I : IW D (cwC A cs st) A0 H0 H locs) (b : vp_in i 100) (e1 : st1 = s_cN_outcomes st i.toNatClampNeg v) (d : decode cc pc = .ok (.iastore, 1)) (kk : ∀ (H1 : Heap) (locs1 : List Loc), IW D (cwC A cs st1) A0 H0 H1 locs1 → W p l e R s m args below meth c H1 locs1 cells slots Q (F0 m (pc + 1) ls (rest))) : W p l e R s m args below meth c H locs cells slots Q (F0 m pc ls (.int v :: .int i :: .ref (A 22) :: rest)) := by
  subst e1
  exact va_iast E.1 E.2.1 E.2.2.2.2.2.1 I.1 I.2.1 I.2.2 22 0 rfl rfl b d (fun H1 locs1 h1 h2 h3 => kk H1 locs1 ⟨h1, h2, h3⟩)
theorem l_cN_enders (E : EC own cc nL p s m args c D (tyL cs)) (I : IW D (cwC A cs st) A0 H0 H locs) (b : vp_in i 100) (d : decode cc pc = .ok (.iaload, 1)) (kk : W p l e R s m args below meth c H locs cells slots Q (F0 m (pc + 1) ls (.int (cN_enders st i.toNatClampNeg) :: rest))) : W p l e R s m args below meth c H locs cells slots Q (F0 m pc ls (.int i :: .ref (A 23) :: rest)) :=
  va_iald E.1 E.2.1 E.2.2.2.2.2.1 I.1 23 0 rfl rfl b d kk
theorem p_cN_enders {v : Int32} (E : EC own cc nL p s m args c D (tyL cs)) (I : IW D (cwC A cs st) A0 H0 H locs) (b : vp_in i 100) (e1 : st1 = s_cN_enders st i.toNatClampNeg v) (d : decode cc pc = .ok (.iastore, 1)) (kk : ∀ (H1 : Heap) (locs1 : List Loc), IW D (cwC A cs st1) A0 H0 H1 locs1 → W p l e R s m args below meth c H1 locs1 cells slots Q (F0 m (pc + 1) ls (rest))) : W p l e R s m args below meth c H locs cells slots Q (F0 m pc ls (.int v :: .int i :: .ref (A 23) :: rest)) := by
  subst e1
  exact va_iast E.1 E.2.1 E.2.2.2.2.2.1 I.1 I.2.1 I.2.2 23 0 rfl rfl b d (fun H1 locs1 h1 h2 h3 => kk H1 locs1 ⟨h1, h2, h3⟩)
theorem l_cN_madeAt (E : EC own cc nL p s m args c D (tyL cs)) (I : IW D (cwC A cs st) A0 H0 H locs) (b : vp_in i 6) (d : decode cc pc = .ok (.laload, 1)) (kk : W p l e R s m args below meth c H locs cells slots Q (F0 m (pc + 1) ls (.long (cN_madeAt st i.toNatClampNeg) :: rest))) : W p l e R s m args below meth c H locs cells slots Q (F0 m pc ls (.int i :: .ref (A 24) :: rest)) :=
  va_lald E.1 E.2.1 E.2.2.2.2.2.1 I.1 24 1 rfl rfl b d kk
theorem p_cN_madeAt {v : Int64} (E : EC own cc nL p s m args c D (tyL cs)) (I : IW D (cwC A cs st) A0 H0 H locs) (b : vp_in i 6) (e1 : st1 = s_cN_madeAt st i.toNatClampNeg v) (d : decode cc pc = .ok (.lastore, 1)) (kk : ∀ (H1 : Heap) (locs1 : List Loc), IW D (cwC A cs st1) A0 H0 H1 locs1 → W p l e R s m args below meth c H1 locs1 cells slots Q (F0 m (pc + 1) ls (rest))) : W p l e R s m args below meth c H locs cells slots Q (F0 m pc ls (.long v :: .int i :: .ref (A 24) :: rest)) := by
  subst e1
  exact va_last E.1 E.2.1 E.2.2.2.2.2.1 I.1 I.2.1 I.2.2 24 1 rfl rfl b d (fun H1 locs1 h1 h2 h3 => kk H1 locs1 ⟨h1, h2, h3⟩)
theorem l_cG_line (E : EC own cc nL p s m args c D (tyL cs)) (I : IW D (cwC A cs st) A0 H0 H locs) (b : vp_in i 24) (d : decode cc pc = .ok (.iaload, 1)) (kk : W p l e R s m args below meth c H locs cells slots Q (F0 m (pc + 1) ls (.int (cG_line st i.toNatClampNeg) :: rest))) : W p l e R s m args below meth c H locs cells slots Q (F0 m pc ls (.int i :: .ref (A 25) :: rest)) :=
  va_iald E.1 E.2.1 E.2.2.2.2.2.1 I.1 25 0 rfl rfl b d kk
theorem p_cG_line {v : Int32} (E : EC own cc nL p s m args c D (tyL cs)) (I : IW D (cwC A cs st) A0 H0 H locs) (b : vp_in i 24) (e1 : st1 = s_cG_line st i.toNatClampNeg v) (d : decode cc pc = .ok (.iastore, 1)) (kk : ∀ (H1 : Heap) (locs1 : List Loc), IW D (cwC A cs st1) A0 H0 H1 locs1 → W p l e R s m args below meth c H1 locs1 cells slots Q (F0 m (pc + 1) ls (rest))) : W p l e R s m args below meth c H locs cells slots Q (F0 m pc ls (.int v :: .int i :: .ref (A 25) :: rest)) := by
  subst e1
  exact va_iast E.1 E.2.1 E.2.2.2.2.2.1 I.1 I.2.1 I.2.2 25 0 rfl rfl b d (fun H1 locs1 h1 h2 h3 => kk H1 locs1 ⟨h1, h2, h3⟩)
theorem l_cG_distances (E : EC own cc nL p s m args c D (tyL cs)) (I : IW D (cwC A cs st) A0 H0 H locs) (b : vp_in i 24) (d : decode cc pc = .ok (.iaload, 1)) (kk : W p l e R s m args below meth c H locs cells slots Q (F0 m (pc + 1) ls (.int (cG_distances st i.toNatClampNeg) :: rest))) : W p l e R s m args below meth c H locs cells slots Q (F0 m pc ls (.int i :: .ref (A 26) :: rest)) :=
  va_iald E.1 E.2.1 E.2.2.2.2.2.1 I.1 26 0 rfl rfl b d kk
theorem p_cG_distances {v : Int32} (E : EC own cc nL p s m args c D (tyL cs)) (I : IW D (cwC A cs st) A0 H0 H locs) (b : vp_in i 24) (e1 : st1 = s_cG_distances st i.toNatClampNeg v) (d : decode cc pc = .ok (.iastore, 1)) (kk : ∀ (H1 : Heap) (locs1 : List Loc), IW D (cwC A cs st1) A0 H0 H1 locs1 → W p l e R s m args below meth c H1 locs1 cells slots Q (F0 m (pc + 1) ls (rest))) : W p l e R s m args below meth c H locs cells slots Q (F0 m pc ls (.int v :: .int i :: .ref (A 26) :: rest)) := by
  subst e1
  exact va_iast E.1 E.2.1 E.2.2.2.2.2.1 I.1 I.2.1 I.2.2 26 0 rfl rfl b d (fun H1 locs1 h1 h2 h3 => kk H1 locs1 ⟨h1, h2, h3⟩)
theorem l_cD_row (E : EC own cc nL p s m args c D (tyL cs)) (I : IW D (cwC A cs st) A0 H0 H locs) (b : vp_in i 100) (d : decode cc pc = .ok (.iaload, 1)) (kk : W p l e R s m args below meth c H locs cells slots Q (F0 m (pc + 1) ls (.int (cD_row st i.toNatClampNeg) :: rest))) : W p l e R s m args below meth c H locs cells slots Q (F0 m pc ls (.int i :: .ref (A 27) :: rest)) :=
  va_iald E.1 E.2.1 E.2.2.2.2.2.1 I.1 27 0 rfl rfl b d kk
theorem p_cD_row {v : Int32} (E : EC own cc nL p s m args c D (tyL cs)) (I : IW D (cwC A cs st) A0 H0 H locs) (b : vp_in i 100) (e1 : st1 = s_cD_row st i.toNatClampNeg v) (d : decode cc pc = .ok (.iastore, 1)) (kk : ∀ (H1 : Heap) (locs1 : List Loc), IW D (cwC A cs st1) A0 H0 H1 locs1 → W p l e R s m args below meth c H1 locs1 cells slots Q (F0 m (pc + 1) ls (rest))) : W p l e R s m args below meth c H locs cells slots Q (F0 m pc ls (.int v :: .int i :: .ref (A 27) :: rest)) := by
  subst e1
  exact va_iast E.1 E.2.1 E.2.2.2.2.2.1 I.1 I.2.1 I.2.2 27 0 rfl rfl b d (fun H1 locs1 h1 h2 h3 => kk H1 locs1 ⟨h1, h2, h3⟩)
end WORLDC
end
section
abbrev RS : Type := (Nat → Int32) × (Nat → Int64) × (Nat → Nat → Int32) × (Nat → Nat → Int64)
def r_nodes (s : RS) : Int32 := s.1 0
def s_r_nodes (s : RS) (v : Int32) : RS := (upd s.1 0 v, s.2)
def r_tests (s : RS) : Int32 := s.1 1
def s_r_tests (s : RS) (v : Int32) : RS := (upd s.1 1 v, s.2)
def r_mutants (s : RS) : Int32 := s.1 2
def s_r_mutants (s : RS) (v : Int32) : RS := (upd s.1 2 v, s.2)
def r_sampledMany (s : RS) : Int32 := s.1 3
def s_r_sampledMany (s : RS) (v : Int32) : RS := (upd s.1 3 v, s.2)
def r_changedKind (s : RS) : Int32 := s.1 4
def s_r_changedKind (s : RS) (v : Int32) : RS := (upd s.1 4 v, s.2)
def r_changedNode (s : RS) : Int32 := s.1 5
def s_r_changedNode (s : RS) (v : Int32) : RS := (upd s.1 5 v, s.2)
def r_steps (s : RS) : Int32 := s.1 6
def s_r_steps (s : RS) (v : Int32) : RS := (upd s.1 6 v, s.2)
def r_isCut (s : RS) : Int32 := s.1 7
def s_r_isCut (s : RS) (v : Int32) : RS := (upd s.1 7 v, s.2)
def r_high (s : RS) : Int32 := s.1 8
def s_r_high (s : RS) (v : Int32) : RS := (upd s.1 8 v, s.2)
def r_acc (s : RS) : Int64 := s.2.1 0
def s_r_acc (s : RS) (v : Int64) : RS := (s.1, vp_updL s.2.1 0 v, s.2.2)
def r_given (s : RS) : Int64 := s.2.1 1
def s_r_given (s : RS) (v : Int64) : RS := (s.1, vp_updL s.2.1 1 v, s.2.2)
def r_listed (s : RS) : Int32 := s.1 9
def s_r_listed (s : RS) (v : Int32) : RS := (upd s.1 9 v, s.2)
def r_kindOf (s : RS) : Nat → Int32 := s.2.2.1 0
def s_r_kindOf (s : RS) (k : Nat) (v : Int32) : RS := (s.1, s.2.1, va_up s.2.2.1 0 (upd (s.2.2.1 0) k v), s.2.2.2)
def r_number (s : RS) : Nat → Int64 := s.2.2.2 0
def s_r_number (s : RS) (k : Nat) (v : Int64) : RS := (s.1, s.2.1, s.2.2.1, va_up s.2.2.2 0 (vp_updL (s.2.2.2 0) k v))
def r_partA (s : RS) : Nat → Int32 := s.2.2.1 1
def s_r_partA (s : RS) (k : Nat) (v : Int32) : RS := (s.1, s.2.1, va_up s.2.2.1 1 (upd (s.2.2.1 1) k v), s.2.2.2)
def r_partB (s : RS) : Nat → Int32 := s.2.2.1 2
def s_r_partB (s : RS) (k : Nat) (v : Int32) : RS := (s.1, s.2.1, va_up s.2.2.1 2 (upd (s.2.2.1 2) k v), s.2.2.2)
def r_partC (s : RS) : Nat → Int32 := s.2.2.1 3
def s_r_partC (s : RS) (k : Nat) (v : Int32) : RS := (s.1, s.2.1, va_up s.2.2.1 3 (upd (s.2.2.1 3) k v), s.2.2.2)
def r_root (s : RS) : Nat → Int32 := s.2.2.1 4
def s_r_root (s : RS) (k : Nat) (v : Int32) : RS := (s.1, s.2.1, va_up s.2.2.1 4 (upd (s.2.2.1 4) k v), s.2.2.2)
def r_input (s : RS) : Nat → Int64 := s.2.2.2 1
def s_r_input (s : RS) (k : Nat) (v : Int64) : RS := (s.1, s.2.1, s.2.2.1, va_up s.2.2.2 1 (vp_updL (s.2.2.2 1) k v))
def r_wanted (s : RS) : Nat → Int64 := s.2.2.2 2
def s_r_wanted (s : RS) (k : Nat) (v : Int64) : RS := (s.1, s.2.1, s.2.2.1, va_up s.2.2.2 2 (vp_updL (s.2.2.2 2) k v))
def r_passes (s : RS) : Nat → Int32 := s.2.2.1 5
def s_r_passes (s : RS) (k : Nat) (v : Int32) : RS := (s.1, s.2.1, va_up s.2.2.1 5 (upd (s.2.2.1 5) k v), s.2.2.2)
def r_stepsOf (s : RS) : Nat → Int32 := s.2.2.1 6
def s_r_stepsOf (s : RS) (k : Nat) (v : Int32) : RS := (s.1, s.2.1, va_up s.2.2.1 6 (upd (s.2.2.1 6) k v), s.2.2.2)
def r_covers (s : RS) : Nat → Int32 := s.2.2.1 7
def s_r_covers (s : RS) (k : Nat) (v : Int32) : RS := (s.1, s.2.1, va_up s.2.2.1 7 (upd (s.2.2.1 7) k v), s.2.2.2)
def r_covered (s : RS) : Nat → Int32 := s.2.2.1 8
def s_r_covered (s : RS) (k : Nat) (v : Int32) : RS := (s.1, s.2.1, va_up s.2.2.1 8 (upd (s.2.2.1 8) k v), s.2.2.2)
def r_kindM (s : RS) : Nat → Int32 := s.2.2.1 9
def s_r_kindM (s : RS) (k : Nat) (v : Int32) : RS := (s.1, s.2.1, va_up s.2.2.1 9 (upd (s.2.2.1 9) k v), s.2.2.2)
def r_nodeM (s : RS) : Nat → Int32 := s.2.2.1 10
def s_r_nodeM (s : RS) (k : Nat) (v : Int32) : RS := (s.1, s.2.1, va_up s.2.2.1 10 (upd (s.2.2.1 10) k v), s.2.2.2)
def r_outcome (s : RS) : Nat → Int32 := s.2.2.1 11
def s_r_outcome (s : RS) (k : Nat) (v : Int32) : RS := (s.1, s.2.1, va_up s.2.2.1 11 (upd (s.2.2.1 11) k v), s.2.2.2)
def r_ender (s : RS) : Nat → Int32 := s.2.2.1 12
def s_r_ender (s : RS) (k : Nat) (v : Int32) : RS := (s.1, s.2.1, va_up s.2.2.1 12 (upd (s.2.2.1 12) k v), s.2.2.2)
def r_sampleRow (s : RS) : Nat → Int32 := s.2.2.1 13
def s_r_sampleRow (s : RS) (k : Nat) (v : Int32) : RS := (s.1, s.2.1, va_up s.2.2.1 13 (upd (s.2.2.1 13) k v), s.2.2.2)
def r_marked (s : RS) : Nat → Int32 := s.2.2.1 14
def s_r_marked (s : RS) (k : Nat) (v : Int32) : RS := (s.1, s.2.1, va_up s.2.2.1 14 (upd (s.2.2.1 14) k v), s.2.2.2)
def r_waits (s : RS) : Nat → Int32 := s.2.2.1 15
def s_r_waits (s : RS) (k : Nat) (v : Int32) : RS := (s.1, s.2.1, va_up s.2.2.1 15 (upd (s.2.2.1 15) k v), s.2.2.2)
def r_phase (s : RS) : Nat → Int32 := s.2.2.1 16
def s_r_phase (s : RS) (k : Nat) (v : Int32) : RS := (s.1, s.2.1, va_up s.2.2.1 16 (upd (s.2.2.1 16) k v), s.2.2.2)
def r_first (s : RS) : Nat → Int64 := s.2.2.2 3
def s_r_first (s : RS) (k : Nat) (v : Int64) : RS := (s.1, s.2.1, s.2.2.1, va_up s.2.2.2 3 (vp_updL (s.2.2.2 3) k v))
def r_far (s : RS) : Nat → Int32 := s.2.2.1 17
def s_r_far (s : RS) (k : Nat) (v : Int32) : RS := (s.1, s.2.1, va_up s.2.2.1 17 (upd (s.2.2.1 17) k v), s.2.2.2)
def r_list (s : RS) : Nat → Int32 := s.2.2.1 18
def s_r_list (s : RS) (k : Nat) (v : Int32) : RS := (s.1, s.2.1, va_up s.2.2.1 18 (upd (s.2.2.1 18) k v), s.2.2.2)
def r_alike (s : RS) : Nat → Int32 := s.2.2.1 19
def s_r_alike (s : RS) (k : Nat) (v : Int32) : RS := (s.1, s.2.1, va_up s.2.2.1 19 (upd (s.2.2.1 19) k v), s.2.2.2)
/-- the cells, at the addresses A -/
abbrev cwR (A : Nat → Nat) (cs : ClassId × ClassId × ClassId) (st : RS) : va_W := [(A 0, .inr (7, [.int (r_nodes st), .ref (A 1), .ref (A 2), .ref (A 3), .ref (A 4), .ref (A 5), .int (r_tests st), .ref (A 6), .ref (A 7), .ref (A 8), .ref (A 9), .ref (A 10), .ref (A 11), .ref (A 12), .int (r_mutants st), .ref (A 13), .ref (A 14), .ref (A 15), .ref (A 16), .int (r_sampledMany st), .ref (A 17), .int (r_changedKind st), .int (r_changedNode st), .int (r_steps st), .int (r_isCut st), .ref (A 18), .int (r_high st), .ref (A 19), .ref (A 20), .ref (A 21), .long (r_acc st), .long (r_given st), .ref (A 22), .int (r_listed st), .ref (A 23), .ref (A 24)])),
  (A 1, .inl (cs.1, 64, .inl (r_kindOf st))),
  (A 2, .inl (cs.2.1, 64, .inr (.inl (r_number st)))),
  (A 3, .inl (cs.1, 64, .inl (r_partA st))),
  (A 4, .inl (cs.1, 64, .inl (r_partB st))),
  (A 5, .inl (cs.1, 64, .inl (r_partC st))),
  (A 6, .inl (cs.1, 24, .inl (r_root st))),
  (A 7, .inl (cs.2.1, 24, .inr (.inl (r_input st)))),
  (A 8, .inl (cs.2.1, 24, .inr (.inl (r_wanted st)))),
  (A 9, .inl (cs.1, 24, .inl (r_passes st))),
  (A 10, .inl (cs.1, 24, .inl (r_stepsOf st))),
  (A 11, .inl (cs.2.2, 1536, .inl (r_covers st))),
  (A 12, .inl (cs.2.2, 1536, .inl (r_covered st))),
  (A 13, .inl (cs.1, 100, .inl (r_kindM st))),
  (A 14, .inl (cs.1, 100, .inl (r_nodeM st))),
  (A 15, .inl (cs.1, 100, .inl (r_outcome st))),
  (A 16, .inl (cs.1, 100, .inl (r_ender st))),
  (A 17, .inl (cs.1, 100, .inl (r_sampleRow st))),
  (A 18, .inl (cs.2.2, 64, .inl (r_marked st))),
  (A 19, .inl (cs.1, 65, .inl (r_waits st))),
  (A 20, .inl (cs.1, 65, .inl (r_phase st))),
  (A 21, .inl (cs.2.1, 65, .inr (.inl (r_first st)))),
  (A 22, .inl (cs.1, 64, .inl (r_far st))),
  (A 23, .inl (cs.1, 24, .inl (r_list st))),
  (A 24, .inl (cs.2.2, 4096, .inl (r_alike st)))]
section WORLDR
variable {p : Program} {l : Launch} {e : Env} {R : Room} {s : State} {m : MethodId} {args : Array Value} {below : List Frame} {meth : Method} {c : Code} {H H0 : Heap} {locs : List Loc} {cells slots : Nat} {Q : State → Prop} {D : va_G} {A0 : Nat → Prop} {own : String} {cc : ByteArray} {nL idx pc : Nat} {ls : Array Slot} {rest : List Value} {A : Nat → Nat} {cs : ClassId × ClassId × ClassId} {st st1 : RS} {i : Int32}
theorem g_r_nodes (E : EC own cc nL p s m args c D (tyL cs)) (I : IW D (cwR A cs st) A0 H0 H locs) (lk : Cond.fieldLink own idx "MutantRowsModel" "nodes" "I" ∈ TB) (d : decode cc pc = .ok (.getfield idx, 3)) (kk : W p l e R s m args below meth c H locs cells slots Q (F0 m (pc + 3) ls (.int (r_nodes st) :: rest))) : W p l e R s m args below meth c H locs cells slots Q (F0 m pc ls (.ref (A 0) :: rest)) :=
  va_get (D := D) (ci := 7) (v := .int (r_nodes st)) (C := R_R) (T := F_R) (N := 36) E.1 E.2.1 E.2.2.2.2.1 ii_R E.2.2.2.1 E.2.2.2.2.2.1 I.1 0 rfl rfl 0 (by decide) (E.2.2.2.2.1 _ lk) (fun _ h => h) rfl d kk
theorem p_r_nodes {v : Int32} (E : EC own cc nL p s m args c D (tyL cs)) (I : IW D (cwR A cs st) A0 H0 H locs) (e1 : st1 = s_r_nodes st v) (lk : Cond.fieldLink own idx "MutantRowsModel" "nodes" "I" ∈ TB) (d : decode cc pc = .ok (.putfield idx, 3)) (kk : ∀ (H1 : Heap) (locs1 : List Loc), IW D (cwR A cs st1) A0 H0 H1 locs1 → W p l e R s m args below meth c H1 locs1 cells slots Q (F0 m (pc + 3) ls (rest))) : W p l e R s m args below meth c H locs cells slots Q (F0 m pc ls (.int v :: .ref (A 0) :: rest)) := by
  subst e1
  exact va_put (D := D) (ci := 7) (v := .int v) (ty := .int) (C := R_R) (T := F_R) (N := 36) E.1 E.2.1 E.2.2.2.2.1 ii_R tt_R tt_R_ok nn_R E.2.2.2.1 E.2.2.2.2.2.1 I.1 I.2.1 I.2.2 0 rfl rfl 0 (by decide) (E.2.2.2.2.1 _ lk) (fun _ h => h) rfl (by decide +kernel) rfl rfl (Nat.le_of_ble_eq_true rfl) d (fun H1 locs1 h1 h2 h3 => kk H1 locs1 ⟨h1, h2, h3⟩)
theorem g_rR_kindOf (E : EC own cc nL p s m args c D (tyL cs)) (I : IW D (cwR A cs st) A0 H0 H locs) (lk : Cond.fieldLink own idx "MutantRowsModel" "kindOf" "[I" ∈ TB) (d : decode cc pc = .ok (.getfield idx, 3)) (kk : W p l e R s m args below meth c H locs cells slots Q (F0 m (pc + 3) ls (.ref (A 1) :: rest))) : W p l e R s m args below meth c H locs cells slots Q (F0 m pc ls (.ref (A 0) :: rest)) :=
  va_get (D := D) (ci := 7) (v := .ref (A 1)) (C := R_R) (T := F_R) (N := 36) E.1 E.2.1 E.2.2.2.2.1 ii_R E.2.2.2.1 E.2.2.2.2.2.1 I.1 0 rfl rfl 1 (by decide) (E.2.2.2.2.1 _ lk) (fun _ h => h) rfl d kk
theorem g_rR_number (E : EC own cc nL p s m args c D (tyL cs)) (I : IW D (cwR A cs st) A0 H0 H locs) (lk : Cond.fieldLink own idx "MutantRowsModel" "number" "[J" ∈ TB) (d : decode cc pc = .ok (.getfield idx, 3)) (kk : W p l e R s m args below meth c H locs cells slots Q (F0 m (pc + 3) ls (.ref (A 2) :: rest))) : W p l e R s m args below meth c H locs cells slots Q (F0 m pc ls (.ref (A 0) :: rest)) :=
  va_get (D := D) (ci := 7) (v := .ref (A 2)) (C := R_R) (T := F_R) (N := 36) E.1 E.2.1 E.2.2.2.2.1 ii_R E.2.2.2.1 E.2.2.2.2.2.1 I.1 0 rfl rfl 2 (by decide) (E.2.2.2.2.1 _ lk) (fun _ h => h) rfl d kk
theorem g_rR_partA (E : EC own cc nL p s m args c D (tyL cs)) (I : IW D (cwR A cs st) A0 H0 H locs) (lk : Cond.fieldLink own idx "MutantRowsModel" "partA" "[I" ∈ TB) (d : decode cc pc = .ok (.getfield idx, 3)) (kk : W p l e R s m args below meth c H locs cells slots Q (F0 m (pc + 3) ls (.ref (A 3) :: rest))) : W p l e R s m args below meth c H locs cells slots Q (F0 m pc ls (.ref (A 0) :: rest)) :=
  va_get (D := D) (ci := 7) (v := .ref (A 3)) (C := R_R) (T := F_R) (N := 36) E.1 E.2.1 E.2.2.2.2.1 ii_R E.2.2.2.1 E.2.2.2.2.2.1 I.1 0 rfl rfl 3 (by decide) (E.2.2.2.2.1 _ lk) (fun _ h => h) rfl d kk
theorem g_rR_partB (E : EC own cc nL p s m args c D (tyL cs)) (I : IW D (cwR A cs st) A0 H0 H locs) (lk : Cond.fieldLink own idx "MutantRowsModel" "partB" "[I" ∈ TB) (d : decode cc pc = .ok (.getfield idx, 3)) (kk : W p l e R s m args below meth c H locs cells slots Q (F0 m (pc + 3) ls (.ref (A 4) :: rest))) : W p l e R s m args below meth c H locs cells slots Q (F0 m pc ls (.ref (A 0) :: rest)) :=
  va_get (D := D) (ci := 7) (v := .ref (A 4)) (C := R_R) (T := F_R) (N := 36) E.1 E.2.1 E.2.2.2.2.1 ii_R E.2.2.2.1 E.2.2.2.2.2.1 I.1 0 rfl rfl 4 (by decide) (E.2.2.2.2.1 _ lk) (fun _ h => h) rfl d kk
theorem g_rR_partC (E : EC own cc nL p s m args c D (tyL cs)) (I : IW D (cwR A cs st) A0 H0 H locs) (lk : Cond.fieldLink own idx "MutantRowsModel" "partC" "[I" ∈ TB) (d : decode cc pc = .ok (.getfield idx, 3)) (kk : W p l e R s m args below meth c H locs cells slots Q (F0 m (pc + 3) ls (.ref (A 5) :: rest))) : W p l e R s m args below meth c H locs cells slots Q (F0 m pc ls (.ref (A 0) :: rest)) :=
  va_get (D := D) (ci := 7) (v := .ref (A 5)) (C := R_R) (T := F_R) (N := 36) E.1 E.2.1 E.2.2.2.2.1 ii_R E.2.2.2.1 E.2.2.2.2.2.1 I.1 0 rfl rfl 5 (by decide) (E.2.2.2.2.1 _ lk) (fun _ h => h) rfl d kk
theorem g_r_tests (E : EC own cc nL p s m args c D (tyL cs)) (I : IW D (cwR A cs st) A0 H0 H locs) (lk : Cond.fieldLink own idx "MutantRowsModel" "tests" "I" ∈ TB) (d : decode cc pc = .ok (.getfield idx, 3)) (kk : W p l e R s m args below meth c H locs cells slots Q (F0 m (pc + 3) ls (.int (r_tests st) :: rest))) : W p l e R s m args below meth c H locs cells slots Q (F0 m pc ls (.ref (A 0) :: rest)) :=
  va_get (D := D) (ci := 7) (v := .int (r_tests st)) (C := R_R) (T := F_R) (N := 36) E.1 E.2.1 E.2.2.2.2.1 ii_R E.2.2.2.1 E.2.2.2.2.2.1 I.1 0 rfl rfl 6 (by decide) (E.2.2.2.2.1 _ lk) (fun _ h => h) rfl d kk
theorem p_r_tests {v : Int32} (E : EC own cc nL p s m args c D (tyL cs)) (I : IW D (cwR A cs st) A0 H0 H locs) (e1 : st1 = s_r_tests st v) (lk : Cond.fieldLink own idx "MutantRowsModel" "tests" "I" ∈ TB) (d : decode cc pc = .ok (.putfield idx, 3)) (kk : ∀ (H1 : Heap) (locs1 : List Loc), IW D (cwR A cs st1) A0 H0 H1 locs1 → W p l e R s m args below meth c H1 locs1 cells slots Q (F0 m (pc + 3) ls (rest))) : W p l e R s m args below meth c H locs cells slots Q (F0 m pc ls (.int v :: .ref (A 0) :: rest)) := by
  subst e1
  exact va_put (D := D) (ci := 7) (v := .int v) (ty := .int) (C := R_R) (T := F_R) (N := 36) E.1 E.2.1 E.2.2.2.2.1 ii_R tt_R tt_R_ok nn_R E.2.2.2.1 E.2.2.2.2.2.1 I.1 I.2.1 I.2.2 0 rfl rfl 6 (by decide) (E.2.2.2.2.1 _ lk) (fun _ h => h) rfl (by decide +kernel) rfl rfl (Nat.le_of_ble_eq_true rfl) d (fun H1 locs1 h1 h2 h3 => kk H1 locs1 ⟨h1, h2, h3⟩)
theorem g_rR_root (E : EC own cc nL p s m args c D (tyL cs)) (I : IW D (cwR A cs st) A0 H0 H locs) (lk : Cond.fieldLink own idx "MutantRowsModel" "root" "[I" ∈ TB) (d : decode cc pc = .ok (.getfield idx, 3)) (kk : W p l e R s m args below meth c H locs cells slots Q (F0 m (pc + 3) ls (.ref (A 6) :: rest))) : W p l e R s m args below meth c H locs cells slots Q (F0 m pc ls (.ref (A 0) :: rest)) :=
  va_get (D := D) (ci := 7) (v := .ref (A 6)) (C := R_R) (T := F_R) (N := 36) E.1 E.2.1 E.2.2.2.2.1 ii_R E.2.2.2.1 E.2.2.2.2.2.1 I.1 0 rfl rfl 7 (by decide) (E.2.2.2.2.1 _ lk) (fun _ h => h) rfl d kk
theorem g_rR_input (E : EC own cc nL p s m args c D (tyL cs)) (I : IW D (cwR A cs st) A0 H0 H locs) (lk : Cond.fieldLink own idx "MutantRowsModel" "input" "[J" ∈ TB) (d : decode cc pc = .ok (.getfield idx, 3)) (kk : W p l e R s m args below meth c H locs cells slots Q (F0 m (pc + 3) ls (.ref (A 7) :: rest))) : W p l e R s m args below meth c H locs cells slots Q (F0 m pc ls (.ref (A 0) :: rest)) :=
  va_get (D := D) (ci := 7) (v := .ref (A 7)) (C := R_R) (T := F_R) (N := 36) E.1 E.2.1 E.2.2.2.2.1 ii_R E.2.2.2.1 E.2.2.2.2.2.1 I.1 0 rfl rfl 8 (by decide) (E.2.2.2.2.1 _ lk) (fun _ h => h) rfl d kk
theorem g_rR_wanted (E : EC own cc nL p s m args c D (tyL cs)) (I : IW D (cwR A cs st) A0 H0 H locs) (lk : Cond.fieldLink own idx "MutantRowsModel" "wanted" "[J" ∈ TB) (d : decode cc pc = .ok (.getfield idx, 3)) (kk : W p l e R s m args below meth c H locs cells slots Q (F0 m (pc + 3) ls (.ref (A 8) :: rest))) : W p l e R s m args below meth c H locs cells slots Q (F0 m pc ls (.ref (A 0) :: rest)) :=
  va_get (D := D) (ci := 7) (v := .ref (A 8)) (C := R_R) (T := F_R) (N := 36) E.1 E.2.1 E.2.2.2.2.1 ii_R E.2.2.2.1 E.2.2.2.2.2.1 I.1 0 rfl rfl 9 (by decide) (E.2.2.2.2.1 _ lk) (fun _ h => h) rfl d kk
theorem g_rR_passes (E : EC own cc nL p s m args c D (tyL cs)) (I : IW D (cwR A cs st) A0 H0 H locs) (lk : Cond.fieldLink own idx "MutantRowsModel" "passes" "[I" ∈ TB) (d : decode cc pc = .ok (.getfield idx, 3)) (kk : W p l e R s m args below meth c H locs cells slots Q (F0 m (pc + 3) ls (.ref (A 9) :: rest))) : W p l e R s m args below meth c H locs cells slots Q (F0 m pc ls (.ref (A 0) :: rest)) :=
  va_get (D := D) (ci := 7) (v := .ref (A 9)) (C := R_R) (T := F_R) (N := 36) E.1 E.2.1 E.2.2.2.2.1 ii_R E.2.2.2.1 E.2.2.2.2.2.1 I.1 0 rfl rfl 10 (by decide) (E.2.2.2.2.1 _ lk) (fun _ h => h) rfl d kk
theorem g_rR_stepsOf (E : EC own cc nL p s m args c D (tyL cs)) (I : IW D (cwR A cs st) A0 H0 H locs) (lk : Cond.fieldLink own idx "MutantRowsModel" "stepsOf" "[I" ∈ TB) (d : decode cc pc = .ok (.getfield idx, 3)) (kk : W p l e R s m args below meth c H locs cells slots Q (F0 m (pc + 3) ls (.ref (A 10) :: rest))) : W p l e R s m args below meth c H locs cells slots Q (F0 m pc ls (.ref (A 0) :: rest)) :=
  va_get (D := D) (ci := 7) (v := .ref (A 10)) (C := R_R) (T := F_R) (N := 36) E.1 E.2.1 E.2.2.2.2.1 ii_R E.2.2.2.1 E.2.2.2.2.2.1 I.1 0 rfl rfl 11 (by decide) (E.2.2.2.2.1 _ lk) (fun _ h => h) rfl d kk
theorem g_rR_covers (E : EC own cc nL p s m args c D (tyL cs)) (I : IW D (cwR A cs st) A0 H0 H locs) (lk : Cond.fieldLink own idx "MutantRowsModel" "covers" "[Z" ∈ TB) (d : decode cc pc = .ok (.getfield idx, 3)) (kk : W p l e R s m args below meth c H locs cells slots Q (F0 m (pc + 3) ls (.ref (A 11) :: rest))) : W p l e R s m args below meth c H locs cells slots Q (F0 m pc ls (.ref (A 0) :: rest)) :=
  va_get (D := D) (ci := 7) (v := .ref (A 11)) (C := R_R) (T := F_R) (N := 36) E.1 E.2.1 E.2.2.2.2.1 ii_R E.2.2.2.1 E.2.2.2.2.2.1 I.1 0 rfl rfl 12 (by decide) (E.2.2.2.2.1 _ lk) (fun _ h => h) rfl d kk
theorem g_rR_covered (E : EC own cc nL p s m args c D (tyL cs)) (I : IW D (cwR A cs st) A0 H0 H locs) (lk : Cond.fieldLink own idx "MutantRowsModel" "covered" "[Z" ∈ TB) (d : decode cc pc = .ok (.getfield idx, 3)) (kk : W p l e R s m args below meth c H locs cells slots Q (F0 m (pc + 3) ls (.ref (A 12) :: rest))) : W p l e R s m args below meth c H locs cells slots Q (F0 m pc ls (.ref (A 0) :: rest)) :=
  va_get (D := D) (ci := 7) (v := .ref (A 12)) (C := R_R) (T := F_R) (N := 36) E.1 E.2.1 E.2.2.2.2.1 ii_R E.2.2.2.1 E.2.2.2.2.2.1 I.1 0 rfl rfl 13 (by decide) (E.2.2.2.2.1 _ lk) (fun _ h => h) rfl d kk
theorem g_r_mutants (E : EC own cc nL p s m args c D (tyL cs)) (I : IW D (cwR A cs st) A0 H0 H locs) (lk : Cond.fieldLink own idx "MutantRowsModel" "mutants" "I" ∈ TB) (d : decode cc pc = .ok (.getfield idx, 3)) (kk : W p l e R s m args below meth c H locs cells slots Q (F0 m (pc + 3) ls (.int (r_mutants st) :: rest))) : W p l e R s m args below meth c H locs cells slots Q (F0 m pc ls (.ref (A 0) :: rest)) :=
  va_get (D := D) (ci := 7) (v := .int (r_mutants st)) (C := R_R) (T := F_R) (N := 36) E.1 E.2.1 E.2.2.2.2.1 ii_R E.2.2.2.1 E.2.2.2.2.2.1 I.1 0 rfl rfl 14 (by decide) (E.2.2.2.2.1 _ lk) (fun _ h => h) rfl d kk
theorem p_r_mutants {v : Int32} (E : EC own cc nL p s m args c D (tyL cs)) (I : IW D (cwR A cs st) A0 H0 H locs) (e1 : st1 = s_r_mutants st v) (lk : Cond.fieldLink own idx "MutantRowsModel" "mutants" "I" ∈ TB) (d : decode cc pc = .ok (.putfield idx, 3)) (kk : ∀ (H1 : Heap) (locs1 : List Loc), IW D (cwR A cs st1) A0 H0 H1 locs1 → W p l e R s m args below meth c H1 locs1 cells slots Q (F0 m (pc + 3) ls (rest))) : W p l e R s m args below meth c H locs cells slots Q (F0 m pc ls (.int v :: .ref (A 0) :: rest)) := by
  subst e1
  exact va_put (D := D) (ci := 7) (v := .int v) (ty := .int) (C := R_R) (T := F_R) (N := 36) E.1 E.2.1 E.2.2.2.2.1 ii_R tt_R tt_R_ok nn_R E.2.2.2.1 E.2.2.2.2.2.1 I.1 I.2.1 I.2.2 0 rfl rfl 14 (by decide) (E.2.2.2.2.1 _ lk) (fun _ h => h) rfl (by decide +kernel) rfl rfl (Nat.le_of_ble_eq_true rfl) d (fun H1 locs1 h1 h2 h3 => kk H1 locs1 ⟨h1, h2, h3⟩)
theorem g_rR_kindM (E : EC own cc nL p s m args c D (tyL cs)) (I : IW D (cwR A cs st) A0 H0 H locs) (lk : Cond.fieldLink own idx "MutantRowsModel" "kindM" "[I" ∈ TB) (d : decode cc pc = .ok (.getfield idx, 3)) (kk : W p l e R s m args below meth c H locs cells slots Q (F0 m (pc + 3) ls (.ref (A 13) :: rest))) : W p l e R s m args below meth c H locs cells slots Q (F0 m pc ls (.ref (A 0) :: rest)) :=
  va_get (D := D) (ci := 7) (v := .ref (A 13)) (C := R_R) (T := F_R) (N := 36) E.1 E.2.1 E.2.2.2.2.1 ii_R E.2.2.2.1 E.2.2.2.2.2.1 I.1 0 rfl rfl 15 (by decide) (E.2.2.2.2.1 _ lk) (fun _ h => h) rfl d kk
theorem g_rR_nodeM (E : EC own cc nL p s m args c D (tyL cs)) (I : IW D (cwR A cs st) A0 H0 H locs) (lk : Cond.fieldLink own idx "MutantRowsModel" "nodeM" "[I" ∈ TB) (d : decode cc pc = .ok (.getfield idx, 3)) (kk : W p l e R s m args below meth c H locs cells slots Q (F0 m (pc + 3) ls (.ref (A 14) :: rest))) : W p l e R s m args below meth c H locs cells slots Q (F0 m pc ls (.ref (A 0) :: rest)) :=
  va_get (D := D) (ci := 7) (v := .ref (A 14)) (C := R_R) (T := F_R) (N := 36) E.1 E.2.1 E.2.2.2.2.1 ii_R E.2.2.2.1 E.2.2.2.2.2.1 I.1 0 rfl rfl 16 (by decide) (E.2.2.2.2.1 _ lk) (fun _ h => h) rfl d kk
theorem g_rR_outcome (E : EC own cc nL p s m args c D (tyL cs)) (I : IW D (cwR A cs st) A0 H0 H locs) (lk : Cond.fieldLink own idx "MutantRowsModel" "outcome" "[I" ∈ TB) (d : decode cc pc = .ok (.getfield idx, 3)) (kk : W p l e R s m args below meth c H locs cells slots Q (F0 m (pc + 3) ls (.ref (A 15) :: rest))) : W p l e R s m args below meth c H locs cells slots Q (F0 m pc ls (.ref (A 0) :: rest)) :=
  va_get (D := D) (ci := 7) (v := .ref (A 15)) (C := R_R) (T := F_R) (N := 36) E.1 E.2.1 E.2.2.2.2.1 ii_R E.2.2.2.1 E.2.2.2.2.2.1 I.1 0 rfl rfl 17 (by decide) (E.2.2.2.2.1 _ lk) (fun _ h => h) rfl d kk
theorem g_rR_ender (E : EC own cc nL p s m args c D (tyL cs)) (I : IW D (cwR A cs st) A0 H0 H locs) (lk : Cond.fieldLink own idx "MutantRowsModel" "ender" "[I" ∈ TB) (d : decode cc pc = .ok (.getfield idx, 3)) (kk : W p l e R s m args below meth c H locs cells slots Q (F0 m (pc + 3) ls (.ref (A 16) :: rest))) : W p l e R s m args below meth c H locs cells slots Q (F0 m pc ls (.ref (A 0) :: rest)) :=
  va_get (D := D) (ci := 7) (v := .ref (A 16)) (C := R_R) (T := F_R) (N := 36) E.1 E.2.1 E.2.2.2.2.1 ii_R E.2.2.2.1 E.2.2.2.2.2.1 I.1 0 rfl rfl 18 (by decide) (E.2.2.2.2.1 _ lk) (fun _ h => h) rfl d kk
theorem g_r_sampledMany (E : EC own cc nL p s m args c D (tyL cs)) (I : IW D (cwR A cs st) A0 H0 H locs) (lk : Cond.fieldLink own idx "MutantRowsModel" "sampledMany" "I" ∈ TB) (d : decode cc pc = .ok (.getfield idx, 3)) (kk : W p l e R s m args below meth c H locs cells slots Q (F0 m (pc + 3) ls (.int (r_sampledMany st) :: rest))) : W p l e R s m args below meth c H locs cells slots Q (F0 m pc ls (.ref (A 0) :: rest)) :=
  va_get (D := D) (ci := 7) (v := .int (r_sampledMany st)) (C := R_R) (T := F_R) (N := 36) E.1 E.2.1 E.2.2.2.2.1 ii_R E.2.2.2.1 E.2.2.2.2.2.1 I.1 0 rfl rfl 19 (by decide) (E.2.2.2.2.1 _ lk) (fun _ h => h) rfl d kk
theorem p_r_sampledMany {v : Int32} (E : EC own cc nL p s m args c D (tyL cs)) (I : IW D (cwR A cs st) A0 H0 H locs) (e1 : st1 = s_r_sampledMany st v) (lk : Cond.fieldLink own idx "MutantRowsModel" "sampledMany" "I" ∈ TB) (d : decode cc pc = .ok (.putfield idx, 3)) (kk : ∀ (H1 : Heap) (locs1 : List Loc), IW D (cwR A cs st1) A0 H0 H1 locs1 → W p l e R s m args below meth c H1 locs1 cells slots Q (F0 m (pc + 3) ls (rest))) : W p l e R s m args below meth c H locs cells slots Q (F0 m pc ls (.int v :: .ref (A 0) :: rest)) := by
  subst e1
  exact va_put (D := D) (ci := 7) (v := .int v) (ty := .int) (C := R_R) (T := F_R) (N := 36) E.1 E.2.1 E.2.2.2.2.1 ii_R tt_R tt_R_ok nn_R E.2.2.2.1 E.2.2.2.2.2.1 I.1 I.2.1 I.2.2 0 rfl rfl 19 (by decide) (E.2.2.2.2.1 _ lk) (fun _ h => h) rfl (by decide +kernel) rfl rfl (Nat.le_of_ble_eq_true rfl) d (fun H1 locs1 h1 h2 h3 => kk H1 locs1 ⟨h1, h2, h3⟩)
theorem g_rR_sampleRow (E : EC own cc nL p s m args c D (tyL cs)) (I : IW D (cwR A cs st) A0 H0 H locs) (lk : Cond.fieldLink own idx "MutantRowsModel" "sampleRow" "[I" ∈ TB) (d : decode cc pc = .ok (.getfield idx, 3)) (kk : W p l e R s m args below meth c H locs cells slots Q (F0 m (pc + 3) ls (.ref (A 17) :: rest))) : W p l e R s m args below meth c H locs cells slots Q (F0 m pc ls (.ref (A 0) :: rest)) :=
  va_get (D := D) (ci := 7) (v := .ref (A 17)) (C := R_R) (T := F_R) (N := 36) E.1 E.2.1 E.2.2.2.2.1 ii_R E.2.2.2.1 E.2.2.2.2.2.1 I.1 0 rfl rfl 20 (by decide) (E.2.2.2.2.1 _ lk) (fun _ h => h) rfl d kk
theorem g_r_changedKind (E : EC own cc nL p s m args c D (tyL cs)) (I : IW D (cwR A cs st) A0 H0 H locs) (lk : Cond.fieldLink own idx "MutantRowsModel" "changedKind" "I" ∈ TB) (d : decode cc pc = .ok (.getfield idx, 3)) (kk : W p l e R s m args below meth c H locs cells slots Q (F0 m (pc + 3) ls (.int (r_changedKind st) :: rest))) : W p l e R s m args below meth c H locs cells slots Q (F0 m pc ls (.ref (A 0) :: rest)) :=
  va_get (D := D) (ci := 7) (v := .int (r_changedKind st)) (C := R_R) (T := F_R) (N := 36) E.1 E.2.1 E.2.2.2.2.1 ii_R E.2.2.2.1 E.2.2.2.2.2.1 I.1 0 rfl rfl 21 (by decide) (E.2.2.2.2.1 _ lk) (fun _ h => h) rfl d kk
theorem p_r_changedKind {v : Int32} (E : EC own cc nL p s m args c D (tyL cs)) (I : IW D (cwR A cs st) A0 H0 H locs) (e1 : st1 = s_r_changedKind st v) (lk : Cond.fieldLink own idx "MutantRowsModel" "changedKind" "I" ∈ TB) (d : decode cc pc = .ok (.putfield idx, 3)) (kk : ∀ (H1 : Heap) (locs1 : List Loc), IW D (cwR A cs st1) A0 H0 H1 locs1 → W p l e R s m args below meth c H1 locs1 cells slots Q (F0 m (pc + 3) ls (rest))) : W p l e R s m args below meth c H locs cells slots Q (F0 m pc ls (.int v :: .ref (A 0) :: rest)) := by
  subst e1
  exact va_put (D := D) (ci := 7) (v := .int v) (ty := .int) (C := R_R) (T := F_R) (N := 36) E.1 E.2.1 E.2.2.2.2.1 ii_R tt_R tt_R_ok nn_R E.2.2.2.1 E.2.2.2.2.2.1 I.1 I.2.1 I.2.2 0 rfl rfl 21 (by decide) (E.2.2.2.2.1 _ lk) (fun _ h => h) rfl (by decide +kernel) rfl rfl (Nat.le_of_ble_eq_true rfl) d (fun H1 locs1 h1 h2 h3 => kk H1 locs1 ⟨h1, h2, h3⟩)
theorem g_r_changedNode (E : EC own cc nL p s m args c D (tyL cs)) (I : IW D (cwR A cs st) A0 H0 H locs) (lk : Cond.fieldLink own idx "MutantRowsModel" "changedNode" "I" ∈ TB) (d : decode cc pc = .ok (.getfield idx, 3)) (kk : W p l e R s m args below meth c H locs cells slots Q (F0 m (pc + 3) ls (.int (r_changedNode st) :: rest))) : W p l e R s m args below meth c H locs cells slots Q (F0 m pc ls (.ref (A 0) :: rest)) :=
  va_get (D := D) (ci := 7) (v := .int (r_changedNode st)) (C := R_R) (T := F_R) (N := 36) E.1 E.2.1 E.2.2.2.2.1 ii_R E.2.2.2.1 E.2.2.2.2.2.1 I.1 0 rfl rfl 22 (by decide) (E.2.2.2.2.1 _ lk) (fun _ h => h) rfl d kk
theorem p_r_changedNode {v : Int32} (E : EC own cc nL p s m args c D (tyL cs)) (I : IW D (cwR A cs st) A0 H0 H locs) (e1 : st1 = s_r_changedNode st v) (lk : Cond.fieldLink own idx "MutantRowsModel" "changedNode" "I" ∈ TB) (d : decode cc pc = .ok (.putfield idx, 3)) (kk : ∀ (H1 : Heap) (locs1 : List Loc), IW D (cwR A cs st1) A0 H0 H1 locs1 → W p l e R s m args below meth c H1 locs1 cells slots Q (F0 m (pc + 3) ls (rest))) : W p l e R s m args below meth c H locs cells slots Q (F0 m pc ls (.int v :: .ref (A 0) :: rest)) := by
  subst e1
  exact va_put (D := D) (ci := 7) (v := .int v) (ty := .int) (C := R_R) (T := F_R) (N := 36) E.1 E.2.1 E.2.2.2.2.1 ii_R tt_R tt_R_ok nn_R E.2.2.2.1 E.2.2.2.2.2.1 I.1 I.2.1 I.2.2 0 rfl rfl 22 (by decide) (E.2.2.2.2.1 _ lk) (fun _ h => h) rfl (by decide +kernel) rfl rfl (Nat.le_of_ble_eq_true rfl) d (fun H1 locs1 h1 h2 h3 => kk H1 locs1 ⟨h1, h2, h3⟩)
theorem g_r_steps (E : EC own cc nL p s m args c D (tyL cs)) (I : IW D (cwR A cs st) A0 H0 H locs) (lk : Cond.fieldLink own idx "MutantRowsModel" "steps" "I" ∈ TB) (d : decode cc pc = .ok (.getfield idx, 3)) (kk : W p l e R s m args below meth c H locs cells slots Q (F0 m (pc + 3) ls (.int (r_steps st) :: rest))) : W p l e R s m args below meth c H locs cells slots Q (F0 m pc ls (.ref (A 0) :: rest)) :=
  va_get (D := D) (ci := 7) (v := .int (r_steps st)) (C := R_R) (T := F_R) (N := 36) E.1 E.2.1 E.2.2.2.2.1 ii_R E.2.2.2.1 E.2.2.2.2.2.1 I.1 0 rfl rfl 23 (by decide) (E.2.2.2.2.1 _ lk) (fun _ h => h) rfl d kk
theorem p_r_steps {v : Int32} (E : EC own cc nL p s m args c D (tyL cs)) (I : IW D (cwR A cs st) A0 H0 H locs) (e1 : st1 = s_r_steps st v) (lk : Cond.fieldLink own idx "MutantRowsModel" "steps" "I" ∈ TB) (d : decode cc pc = .ok (.putfield idx, 3)) (kk : ∀ (H1 : Heap) (locs1 : List Loc), IW D (cwR A cs st1) A0 H0 H1 locs1 → W p l e R s m args below meth c H1 locs1 cells slots Q (F0 m (pc + 3) ls (rest))) : W p l e R s m args below meth c H locs cells slots Q (F0 m pc ls (.int v :: .ref (A 0) :: rest)) := by
  subst e1
  exact va_put (D := D) (ci := 7) (v := .int v) (ty := .int) (C := R_R) (T := F_R) (N := 36) E.1 E.2.1 E.2.2.2.2.1 ii_R tt_R tt_R_ok nn_R E.2.2.2.1 E.2.2.2.2.2.1 I.1 I.2.1 I.2.2 0 rfl rfl 23 (by decide) (E.2.2.2.2.1 _ lk) (fun _ h => h) rfl (by decide +kernel) rfl rfl (Nat.le_of_ble_eq_true rfl) d (fun H1 locs1 h1 h2 h3 => kk H1 locs1 ⟨h1, h2, h3⟩)
theorem g_r_isCut (E : EC own cc nL p s m args c D (tyL cs)) (I : IW D (cwR A cs st) A0 H0 H locs) (lk : Cond.fieldLink own idx "MutantRowsModel" "isCut" "Z" ∈ TB) (d : decode cc pc = .ok (.getfield idx, 3)) (kk : W p l e R s m args below meth c H locs cells slots Q (F0 m (pc + 3) ls (.int (r_isCut st) :: rest))) : W p l e R s m args below meth c H locs cells slots Q (F0 m pc ls (.ref (A 0) :: rest)) :=
  va_get (D := D) (ci := 7) (v := .int (r_isCut st)) (C := R_R) (T := F_R) (N := 36) E.1 E.2.1 E.2.2.2.2.1 ii_R E.2.2.2.1 E.2.2.2.2.2.1 I.1 0 rfl rfl 24 (by decide) (E.2.2.2.2.1 _ lk) (fun _ h => h) rfl d kk
theorem p_r_isCut {v : Int32} (E : EC own cc nL p s m args c D (tyL cs)) (I : IW D (cwR A cs st) A0 H0 H locs) (e1 : st1 = s_r_isCut st v) (lk : Cond.fieldLink own idx "MutantRowsModel" "isCut" "Z" ∈ TB) (hz : v = 0 ∨ v = 1) (d : decode cc pc = .ok (.putfield idx, 3)) (kk : ∀ (H1 : Heap) (locs1 : List Loc), IW D (cwR A cs st1) A0 H0 H1 locs1 → W p l e R s m args below meth c H1 locs1 cells slots Q (F0 m (pc + 3) ls (rest))) : W p l e R s m args below meth c H locs cells slots Q (F0 m pc ls (.int v :: .ref (A 0) :: rest)) := by
  subst e1
  exact va_put (D := D) (ci := 7) (v := .int v) (ty := .boolean) (C := R_R) (T := F_R) (N := 36) E.1 E.2.1 E.2.2.2.2.1 ii_R tt_R tt_R_ok nn_R E.2.2.2.1 E.2.2.2.2.2.1 I.1 I.2.1 I.2.2 0 rfl rfl 24 (by decide) (E.2.2.2.2.1 _ lk) (fun _ h => h) rfl (by decide +kernel) (zr_nar hz) (zr_fit hz) (Nat.le_of_ble_eq_true rfl) d (fun H1 locs1 h1 h2 h3 => kk H1 locs1 ⟨h1, h2, h3⟩)
theorem g_rR_marked (E : EC own cc nL p s m args c D (tyL cs)) (I : IW D (cwR A cs st) A0 H0 H locs) (lk : Cond.fieldLink own idx "MutantRowsModel" "marked" "[Z" ∈ TB) (d : decode cc pc = .ok (.getfield idx, 3)) (kk : W p l e R s m args below meth c H locs cells slots Q (F0 m (pc + 3) ls (.ref (A 18) :: rest))) : W p l e R s m args below meth c H locs cells slots Q (F0 m pc ls (.ref (A 0) :: rest)) :=
  va_get (D := D) (ci := 7) (v := .ref (A 18)) (C := R_R) (T := F_R) (N := 36) E.1 E.2.1 E.2.2.2.2.1 ii_R E.2.2.2.1 E.2.2.2.2.2.1 I.1 0 rfl rfl 25 (by decide) (E.2.2.2.2.1 _ lk) (fun _ h => h) rfl d kk
theorem g_r_high (E : EC own cc nL p s m args c D (tyL cs)) (I : IW D (cwR A cs st) A0 H0 H locs) (lk : Cond.fieldLink own idx "MutantRowsModel" "high" "I" ∈ TB) (d : decode cc pc = .ok (.getfield idx, 3)) (kk : W p l e R s m args below meth c H locs cells slots Q (F0 m (pc + 3) ls (.int (r_high st) :: rest))) : W p l e R s m args below meth c H locs cells slots Q (F0 m pc ls (.ref (A 0) :: rest)) :=
  va_get (D := D) (ci := 7) (v := .int (r_high st)) (C := R_R) (T := F_R) (N := 36) E.1 E.2.1 E.2.2.2.2.1 ii_R E.2.2.2.1 E.2.2.2.2.2.1 I.1 0 rfl rfl 26 (by decide) (E.2.2.2.2.1 _ lk) (fun _ h => h) rfl d kk
theorem p_r_high {v : Int32} (E : EC own cc nL p s m args c D (tyL cs)) (I : IW D (cwR A cs st) A0 H0 H locs) (e1 : st1 = s_r_high st v) (lk : Cond.fieldLink own idx "MutantRowsModel" "high" "I" ∈ TB) (d : decode cc pc = .ok (.putfield idx, 3)) (kk : ∀ (H1 : Heap) (locs1 : List Loc), IW D (cwR A cs st1) A0 H0 H1 locs1 → W p l e R s m args below meth c H1 locs1 cells slots Q (F0 m (pc + 3) ls (rest))) : W p l e R s m args below meth c H locs cells slots Q (F0 m pc ls (.int v :: .ref (A 0) :: rest)) := by
  subst e1
  exact va_put (D := D) (ci := 7) (v := .int v) (ty := .int) (C := R_R) (T := F_R) (N := 36) E.1 E.2.1 E.2.2.2.2.1 ii_R tt_R tt_R_ok nn_R E.2.2.2.1 E.2.2.2.2.2.1 I.1 I.2.1 I.2.2 0 rfl rfl 26 (by decide) (E.2.2.2.2.1 _ lk) (fun _ h => h) rfl (by decide +kernel) rfl rfl (Nat.le_of_ble_eq_true rfl) d (fun H1 locs1 h1 h2 h3 => kk H1 locs1 ⟨h1, h2, h3⟩)
theorem g_rR_waits (E : EC own cc nL p s m args c D (tyL cs)) (I : IW D (cwR A cs st) A0 H0 H locs) (lk : Cond.fieldLink own idx "MutantRowsModel" "waits" "[I" ∈ TB) (d : decode cc pc = .ok (.getfield idx, 3)) (kk : W p l e R s m args below meth c H locs cells slots Q (F0 m (pc + 3) ls (.ref (A 19) :: rest))) : W p l e R s m args below meth c H locs cells slots Q (F0 m pc ls (.ref (A 0) :: rest)) :=
  va_get (D := D) (ci := 7) (v := .ref (A 19)) (C := R_R) (T := F_R) (N := 36) E.1 E.2.1 E.2.2.2.2.1 ii_R E.2.2.2.1 E.2.2.2.2.2.1 I.1 0 rfl rfl 27 (by decide) (E.2.2.2.2.1 _ lk) (fun _ h => h) rfl d kk
theorem g_rR_phase (E : EC own cc nL p s m args c D (tyL cs)) (I : IW D (cwR A cs st) A0 H0 H locs) (lk : Cond.fieldLink own idx "MutantRowsModel" "phase" "[I" ∈ TB) (d : decode cc pc = .ok (.getfield idx, 3)) (kk : W p l e R s m args below meth c H locs cells slots Q (F0 m (pc + 3) ls (.ref (A 20) :: rest))) : W p l e R s m args below meth c H locs cells slots Q (F0 m pc ls (.ref (A 0) :: rest)) :=
  va_get (D := D) (ci := 7) (v := .ref (A 20)) (C := R_R) (T := F_R) (N := 36) E.1 E.2.1 E.2.2.2.2.1 ii_R E.2.2.2.1 E.2.2.2.2.2.1 I.1 0 rfl rfl 28 (by decide) (E.2.2.2.2.1 _ lk) (fun _ h => h) rfl d kk
theorem g_rR_first (E : EC own cc nL p s m args c D (tyL cs)) (I : IW D (cwR A cs st) A0 H0 H locs) (lk : Cond.fieldLink own idx "MutantRowsModel" "first" "[J" ∈ TB) (d : decode cc pc = .ok (.getfield idx, 3)) (kk : W p l e R s m args below meth c H locs cells slots Q (F0 m (pc + 3) ls (.ref (A 21) :: rest))) : W p l e R s m args below meth c H locs cells slots Q (F0 m pc ls (.ref (A 0) :: rest)) :=
  va_get (D := D) (ci := 7) (v := .ref (A 21)) (C := R_R) (T := F_R) (N := 36) E.1 E.2.1 E.2.2.2.2.1 ii_R E.2.2.2.1 E.2.2.2.2.2.1 I.1 0 rfl rfl 29 (by decide) (E.2.2.2.2.1 _ lk) (fun _ h => h) rfl d kk
theorem g_r_acc (E : EC own cc nL p s m args c D (tyL cs)) (I : IW D (cwR A cs st) A0 H0 H locs) (lk : Cond.fieldLink own idx "MutantRowsModel" "acc" "J" ∈ TB) (d : decode cc pc = .ok (.getfield idx, 3)) (kk : W p l e R s m args below meth c H locs cells slots Q (F0 m (pc + 3) ls (.long (r_acc st) :: rest))) : W p l e R s m args below meth c H locs cells slots Q (F0 m pc ls (.ref (A 0) :: rest)) :=
  va_get (D := D) (ci := 7) (v := .long (r_acc st)) (C := R_R) (T := F_R) (N := 36) E.1 E.2.1 E.2.2.2.2.1 ii_R E.2.2.2.1 E.2.2.2.2.2.1 I.1 0 rfl rfl 30 (by decide) (E.2.2.2.2.1 _ lk) (fun _ h => h) rfl d kk
theorem p_r_acc {v : Int64} (E : EC own cc nL p s m args c D (tyL cs)) (I : IW D (cwR A cs st) A0 H0 H locs) (e1 : st1 = s_r_acc st v) (lk : Cond.fieldLink own idx "MutantRowsModel" "acc" "J" ∈ TB) (d : decode cc pc = .ok (.putfield idx, 3)) (kk : ∀ (H1 : Heap) (locs1 : List Loc), IW D (cwR A cs st1) A0 H0 H1 locs1 → W p l e R s m args below meth c H1 locs1 cells slots Q (F0 m (pc + 3) ls (rest))) : W p l e R s m args below meth c H locs cells slots Q (F0 m pc ls (.long v :: .ref (A 0) :: rest)) := by
  subst e1
  exact va_put (D := D) (ci := 7) (v := .long v) (ty := .long) (C := R_R) (T := F_R) (N := 36) E.1 E.2.1 E.2.2.2.2.1 ii_R tt_R tt_R_ok nn_R E.2.2.2.1 E.2.2.2.2.2.1 I.1 I.2.1 I.2.2 0 rfl rfl 30 (by decide) (E.2.2.2.2.1 _ lk) (fun _ h => h) rfl (by decide +kernel) rfl rfl (Nat.le_of_ble_eq_true rfl) d (fun H1 locs1 h1 h2 h3 => kk H1 locs1 ⟨h1, h2, h3⟩)
theorem g_r_given (E : EC own cc nL p s m args c D (tyL cs)) (I : IW D (cwR A cs st) A0 H0 H locs) (lk : Cond.fieldLink own idx "MutantRowsModel" "given" "J" ∈ TB) (d : decode cc pc = .ok (.getfield idx, 3)) (kk : W p l e R s m args below meth c H locs cells slots Q (F0 m (pc + 3) ls (.long (r_given st) :: rest))) : W p l e R s m args below meth c H locs cells slots Q (F0 m pc ls (.ref (A 0) :: rest)) :=
  va_get (D := D) (ci := 7) (v := .long (r_given st)) (C := R_R) (T := F_R) (N := 36) E.1 E.2.1 E.2.2.2.2.1 ii_R E.2.2.2.1 E.2.2.2.2.2.1 I.1 0 rfl rfl 31 (by decide) (E.2.2.2.2.1 _ lk) (fun _ h => h) rfl d kk
theorem p_r_given {v : Int64} (E : EC own cc nL p s m args c D (tyL cs)) (I : IW D (cwR A cs st) A0 H0 H locs) (e1 : st1 = s_r_given st v) (lk : Cond.fieldLink own idx "MutantRowsModel" "given" "J" ∈ TB) (d : decode cc pc = .ok (.putfield idx, 3)) (kk : ∀ (H1 : Heap) (locs1 : List Loc), IW D (cwR A cs st1) A0 H0 H1 locs1 → W p l e R s m args below meth c H1 locs1 cells slots Q (F0 m (pc + 3) ls (rest))) : W p l e R s m args below meth c H locs cells slots Q (F0 m pc ls (.long v :: .ref (A 0) :: rest)) := by
  subst e1
  exact va_put (D := D) (ci := 7) (v := .long v) (ty := .long) (C := R_R) (T := F_R) (N := 36) E.1 E.2.1 E.2.2.2.2.1 ii_R tt_R tt_R_ok nn_R E.2.2.2.1 E.2.2.2.2.2.1 I.1 I.2.1 I.2.2 0 rfl rfl 31 (by decide) (E.2.2.2.2.1 _ lk) (fun _ h => h) rfl (by decide +kernel) rfl rfl (Nat.le_of_ble_eq_true rfl) d (fun H1 locs1 h1 h2 h3 => kk H1 locs1 ⟨h1, h2, h3⟩)
theorem g_rR_far (E : EC own cc nL p s m args c D (tyL cs)) (I : IW D (cwR A cs st) A0 H0 H locs) (lk : Cond.fieldLink own idx "MutantRowsModel" "far" "[I" ∈ TB) (d : decode cc pc = .ok (.getfield idx, 3)) (kk : W p l e R s m args below meth c H locs cells slots Q (F0 m (pc + 3) ls (.ref (A 22) :: rest))) : W p l e R s m args below meth c H locs cells slots Q (F0 m pc ls (.ref (A 0) :: rest)) :=
  va_get (D := D) (ci := 7) (v := .ref (A 22)) (C := R_R) (T := F_R) (N := 36) E.1 E.2.1 E.2.2.2.2.1 ii_R E.2.2.2.1 E.2.2.2.2.2.1 I.1 0 rfl rfl 32 (by decide) (E.2.2.2.2.1 _ lk) (fun _ h => h) rfl d kk
theorem g_r_listed (E : EC own cc nL p s m args c D (tyL cs)) (I : IW D (cwR A cs st) A0 H0 H locs) (lk : Cond.fieldLink own idx "MutantRowsModel" "listed" "I" ∈ TB) (d : decode cc pc = .ok (.getfield idx, 3)) (kk : W p l e R s m args below meth c H locs cells slots Q (F0 m (pc + 3) ls (.int (r_listed st) :: rest))) : W p l e R s m args below meth c H locs cells slots Q (F0 m pc ls (.ref (A 0) :: rest)) :=
  va_get (D := D) (ci := 7) (v := .int (r_listed st)) (C := R_R) (T := F_R) (N := 36) E.1 E.2.1 E.2.2.2.2.1 ii_R E.2.2.2.1 E.2.2.2.2.2.1 I.1 0 rfl rfl 33 (by decide) (E.2.2.2.2.1 _ lk) (fun _ h => h) rfl d kk
theorem p_r_listed {v : Int32} (E : EC own cc nL p s m args c D (tyL cs)) (I : IW D (cwR A cs st) A0 H0 H locs) (e1 : st1 = s_r_listed st v) (lk : Cond.fieldLink own idx "MutantRowsModel" "listed" "I" ∈ TB) (d : decode cc pc = .ok (.putfield idx, 3)) (kk : ∀ (H1 : Heap) (locs1 : List Loc), IW D (cwR A cs st1) A0 H0 H1 locs1 → W p l e R s m args below meth c H1 locs1 cells slots Q (F0 m (pc + 3) ls (rest))) : W p l e R s m args below meth c H locs cells slots Q (F0 m pc ls (.int v :: .ref (A 0) :: rest)) := by
  subst e1
  exact va_put (D := D) (ci := 7) (v := .int v) (ty := .int) (C := R_R) (T := F_R) (N := 36) E.1 E.2.1 E.2.2.2.2.1 ii_R tt_R tt_R_ok nn_R E.2.2.2.1 E.2.2.2.2.2.1 I.1 I.2.1 I.2.2 0 rfl rfl 33 (by decide) (E.2.2.2.2.1 _ lk) (fun _ h => h) rfl (by decide +kernel) rfl rfl (Nat.le_of_ble_eq_true rfl) d (fun H1 locs1 h1 h2 h3 => kk H1 locs1 ⟨h1, h2, h3⟩)
theorem g_rR_list (E : EC own cc nL p s m args c D (tyL cs)) (I : IW D (cwR A cs st) A0 H0 H locs) (lk : Cond.fieldLink own idx "MutantRowsModel" "list" "[I" ∈ TB) (d : decode cc pc = .ok (.getfield idx, 3)) (kk : W p l e R s m args below meth c H locs cells slots Q (F0 m (pc + 3) ls (.ref (A 23) :: rest))) : W p l e R s m args below meth c H locs cells slots Q (F0 m pc ls (.ref (A 0) :: rest)) :=
  va_get (D := D) (ci := 7) (v := .ref (A 23)) (C := R_R) (T := F_R) (N := 36) E.1 E.2.1 E.2.2.2.2.1 ii_R E.2.2.2.1 E.2.2.2.2.2.1 I.1 0 rfl rfl 34 (by decide) (E.2.2.2.2.1 _ lk) (fun _ h => h) rfl d kk
theorem g_rR_alike (E : EC own cc nL p s m args c D (tyL cs)) (I : IW D (cwR A cs st) A0 H0 H locs) (lk : Cond.fieldLink own idx "MutantRowsModel" "alike" "[Z" ∈ TB) (d : decode cc pc = .ok (.getfield idx, 3)) (kk : W p l e R s m args below meth c H locs cells slots Q (F0 m (pc + 3) ls (.ref (A 24) :: rest))) : W p l e R s m args below meth c H locs cells slots Q (F0 m pc ls (.ref (A 0) :: rest)) :=
  va_get (D := D) (ci := 7) (v := .ref (A 24)) (C := R_R) (T := F_R) (N := 36) E.1 E.2.1 E.2.2.2.2.1 ii_R E.2.2.2.1 E.2.2.2.2.2.1 I.1 0 rfl rfl 35 (by decide) (E.2.2.2.2.1 _ lk) (fun _ h => h) rfl d kk
theorem l_r_kindOf (E : EC own cc nL p s m args c D (tyL cs)) (I : IW D (cwR A cs st) A0 H0 H locs) (b : vp_in i 64) (d : decode cc pc = .ok (.iaload, 1)) (kk : W p l e R s m args below meth c H locs cells slots Q (F0 m (pc + 1) ls (.int (r_kindOf st i.toNatClampNeg) :: rest))) : W p l e R s m args below meth c H locs cells slots Q (F0 m pc ls (.int i :: .ref (A 1) :: rest)) :=
  va_iald E.1 E.2.1 E.2.2.2.2.2.1 I.1 1 0 rfl rfl b d kk
theorem p_r_kindOf {v : Int32} (E : EC own cc nL p s m args c D (tyL cs)) (I : IW D (cwR A cs st) A0 H0 H locs) (b : vp_in i 64) (e1 : st1 = s_r_kindOf st i.toNatClampNeg v) (d : decode cc pc = .ok (.iastore, 1)) (kk : ∀ (H1 : Heap) (locs1 : List Loc), IW D (cwR A cs st1) A0 H0 H1 locs1 → W p l e R s m args below meth c H1 locs1 cells slots Q (F0 m (pc + 1) ls (rest))) : W p l e R s m args below meth c H locs cells slots Q (F0 m pc ls (.int v :: .int i :: .ref (A 1) :: rest)) := by
  subst e1
  exact va_iast E.1 E.2.1 E.2.2.2.2.2.1 I.1 I.2.1 I.2.2 1 0 rfl rfl b d (fun H1 locs1 h1 h2 h3 => kk H1 locs1 ⟨h1, h2, h3⟩)
theorem l_r_number (E : EC own cc nL p s m args c D (tyL cs)) (I : IW D (cwR A cs st) A0 H0 H locs) (b : vp_in i 64) (d : decode cc pc = .ok (.laload, 1)) (kk : W p l e R s m args below meth c H locs cells slots Q (F0 m (pc + 1) ls (.long (r_number st i.toNatClampNeg) :: rest))) : W p l e R s m args below meth c H locs cells slots Q (F0 m pc ls (.int i :: .ref (A 2) :: rest)) :=
  va_lald E.1 E.2.1 E.2.2.2.2.2.1 I.1 2 1 rfl rfl b d kk
theorem p_r_number {v : Int64} (E : EC own cc nL p s m args c D (tyL cs)) (I : IW D (cwR A cs st) A0 H0 H locs) (b : vp_in i 64) (e1 : st1 = s_r_number st i.toNatClampNeg v) (d : decode cc pc = .ok (.lastore, 1)) (kk : ∀ (H1 : Heap) (locs1 : List Loc), IW D (cwR A cs st1) A0 H0 H1 locs1 → W p l e R s m args below meth c H1 locs1 cells slots Q (F0 m (pc + 1) ls (rest))) : W p l e R s m args below meth c H locs cells slots Q (F0 m pc ls (.long v :: .int i :: .ref (A 2) :: rest)) := by
  subst e1
  exact va_last E.1 E.2.1 E.2.2.2.2.2.1 I.1 I.2.1 I.2.2 2 1 rfl rfl b d (fun H1 locs1 h1 h2 h3 => kk H1 locs1 ⟨h1, h2, h3⟩)
theorem l_r_partA (E : EC own cc nL p s m args c D (tyL cs)) (I : IW D (cwR A cs st) A0 H0 H locs) (b : vp_in i 64) (d : decode cc pc = .ok (.iaload, 1)) (kk : W p l e R s m args below meth c H locs cells slots Q (F0 m (pc + 1) ls (.int (r_partA st i.toNatClampNeg) :: rest))) : W p l e R s m args below meth c H locs cells slots Q (F0 m pc ls (.int i :: .ref (A 3) :: rest)) :=
  va_iald E.1 E.2.1 E.2.2.2.2.2.1 I.1 3 0 rfl rfl b d kk
theorem p_r_partA {v : Int32} (E : EC own cc nL p s m args c D (tyL cs)) (I : IW D (cwR A cs st) A0 H0 H locs) (b : vp_in i 64) (e1 : st1 = s_r_partA st i.toNatClampNeg v) (d : decode cc pc = .ok (.iastore, 1)) (kk : ∀ (H1 : Heap) (locs1 : List Loc), IW D (cwR A cs st1) A0 H0 H1 locs1 → W p l e R s m args below meth c H1 locs1 cells slots Q (F0 m (pc + 1) ls (rest))) : W p l e R s m args below meth c H locs cells slots Q (F0 m pc ls (.int v :: .int i :: .ref (A 3) :: rest)) := by
  subst e1
  exact va_iast E.1 E.2.1 E.2.2.2.2.2.1 I.1 I.2.1 I.2.2 3 0 rfl rfl b d (fun H1 locs1 h1 h2 h3 => kk H1 locs1 ⟨h1, h2, h3⟩)
theorem l_r_partB (E : EC own cc nL p s m args c D (tyL cs)) (I : IW D (cwR A cs st) A0 H0 H locs) (b : vp_in i 64) (d : decode cc pc = .ok (.iaload, 1)) (kk : W p l e R s m args below meth c H locs cells slots Q (F0 m (pc + 1) ls (.int (r_partB st i.toNatClampNeg) :: rest))) : W p l e R s m args below meth c H locs cells slots Q (F0 m pc ls (.int i :: .ref (A 4) :: rest)) :=
  va_iald E.1 E.2.1 E.2.2.2.2.2.1 I.1 4 0 rfl rfl b d kk
theorem p_r_partB {v : Int32} (E : EC own cc nL p s m args c D (tyL cs)) (I : IW D (cwR A cs st) A0 H0 H locs) (b : vp_in i 64) (e1 : st1 = s_r_partB st i.toNatClampNeg v) (d : decode cc pc = .ok (.iastore, 1)) (kk : ∀ (H1 : Heap) (locs1 : List Loc), IW D (cwR A cs st1) A0 H0 H1 locs1 → W p l e R s m args below meth c H1 locs1 cells slots Q (F0 m (pc + 1) ls (rest))) : W p l e R s m args below meth c H locs cells slots Q (F0 m pc ls (.int v :: .int i :: .ref (A 4) :: rest)) := by
  subst e1
  exact va_iast E.1 E.2.1 E.2.2.2.2.2.1 I.1 I.2.1 I.2.2 4 0 rfl rfl b d (fun H1 locs1 h1 h2 h3 => kk H1 locs1 ⟨h1, h2, h3⟩)
theorem l_r_partC (E : EC own cc nL p s m args c D (tyL cs)) (I : IW D (cwR A cs st) A0 H0 H locs) (b : vp_in i 64) (d : decode cc pc = .ok (.iaload, 1)) (kk : W p l e R s m args below meth c H locs cells slots Q (F0 m (pc + 1) ls (.int (r_partC st i.toNatClampNeg) :: rest))) : W p l e R s m args below meth c H locs cells slots Q (F0 m pc ls (.int i :: .ref (A 5) :: rest)) :=
  va_iald E.1 E.2.1 E.2.2.2.2.2.1 I.1 5 0 rfl rfl b d kk
theorem p_r_partC {v : Int32} (E : EC own cc nL p s m args c D (tyL cs)) (I : IW D (cwR A cs st) A0 H0 H locs) (b : vp_in i 64) (e1 : st1 = s_r_partC st i.toNatClampNeg v) (d : decode cc pc = .ok (.iastore, 1)) (kk : ∀ (H1 : Heap) (locs1 : List Loc), IW D (cwR A cs st1) A0 H0 H1 locs1 → W p l e R s m args below meth c H1 locs1 cells slots Q (F0 m (pc + 1) ls (rest))) : W p l e R s m args below meth c H locs cells slots Q (F0 m pc ls (.int v :: .int i :: .ref (A 5) :: rest)) := by
  subst e1
  exact va_iast E.1 E.2.1 E.2.2.2.2.2.1 I.1 I.2.1 I.2.2 5 0 rfl rfl b d (fun H1 locs1 h1 h2 h3 => kk H1 locs1 ⟨h1, h2, h3⟩)
theorem l_r_root (E : EC own cc nL p s m args c D (tyL cs)) (I : IW D (cwR A cs st) A0 H0 H locs) (b : vp_in i 24) (d : decode cc pc = .ok (.iaload, 1)) (kk : W p l e R s m args below meth c H locs cells slots Q (F0 m (pc + 1) ls (.int (r_root st i.toNatClampNeg) :: rest))) : W p l e R s m args below meth c H locs cells slots Q (F0 m pc ls (.int i :: .ref (A 6) :: rest)) :=
  va_iald E.1 E.2.1 E.2.2.2.2.2.1 I.1 6 0 rfl rfl b d kk
theorem p_r_root {v : Int32} (E : EC own cc nL p s m args c D (tyL cs)) (I : IW D (cwR A cs st) A0 H0 H locs) (b : vp_in i 24) (e1 : st1 = s_r_root st i.toNatClampNeg v) (d : decode cc pc = .ok (.iastore, 1)) (kk : ∀ (H1 : Heap) (locs1 : List Loc), IW D (cwR A cs st1) A0 H0 H1 locs1 → W p l e R s m args below meth c H1 locs1 cells slots Q (F0 m (pc + 1) ls (rest))) : W p l e R s m args below meth c H locs cells slots Q (F0 m pc ls (.int v :: .int i :: .ref (A 6) :: rest)) := by
  subst e1
  exact va_iast E.1 E.2.1 E.2.2.2.2.2.1 I.1 I.2.1 I.2.2 6 0 rfl rfl b d (fun H1 locs1 h1 h2 h3 => kk H1 locs1 ⟨h1, h2, h3⟩)
theorem l_r_input (E : EC own cc nL p s m args c D (tyL cs)) (I : IW D (cwR A cs st) A0 H0 H locs) (b : vp_in i 24) (d : decode cc pc = .ok (.laload, 1)) (kk : W p l e R s m args below meth c H locs cells slots Q (F0 m (pc + 1) ls (.long (r_input st i.toNatClampNeg) :: rest))) : W p l e R s m args below meth c H locs cells slots Q (F0 m pc ls (.int i :: .ref (A 7) :: rest)) :=
  va_lald E.1 E.2.1 E.2.2.2.2.2.1 I.1 7 1 rfl rfl b d kk
theorem p_r_input {v : Int64} (E : EC own cc nL p s m args c D (tyL cs)) (I : IW D (cwR A cs st) A0 H0 H locs) (b : vp_in i 24) (e1 : st1 = s_r_input st i.toNatClampNeg v) (d : decode cc pc = .ok (.lastore, 1)) (kk : ∀ (H1 : Heap) (locs1 : List Loc), IW D (cwR A cs st1) A0 H0 H1 locs1 → W p l e R s m args below meth c H1 locs1 cells slots Q (F0 m (pc + 1) ls (rest))) : W p l e R s m args below meth c H locs cells slots Q (F0 m pc ls (.long v :: .int i :: .ref (A 7) :: rest)) := by
  subst e1
  exact va_last E.1 E.2.1 E.2.2.2.2.2.1 I.1 I.2.1 I.2.2 7 1 rfl rfl b d (fun H1 locs1 h1 h2 h3 => kk H1 locs1 ⟨h1, h2, h3⟩)
theorem l_r_wanted (E : EC own cc nL p s m args c D (tyL cs)) (I : IW D (cwR A cs st) A0 H0 H locs) (b : vp_in i 24) (d : decode cc pc = .ok (.laload, 1)) (kk : W p l e R s m args below meth c H locs cells slots Q (F0 m (pc + 1) ls (.long (r_wanted st i.toNatClampNeg) :: rest))) : W p l e R s m args below meth c H locs cells slots Q (F0 m pc ls (.int i :: .ref (A 8) :: rest)) :=
  va_lald E.1 E.2.1 E.2.2.2.2.2.1 I.1 8 1 rfl rfl b d kk
theorem p_r_wanted {v : Int64} (E : EC own cc nL p s m args c D (tyL cs)) (I : IW D (cwR A cs st) A0 H0 H locs) (b : vp_in i 24) (e1 : st1 = s_r_wanted st i.toNatClampNeg v) (d : decode cc pc = .ok (.lastore, 1)) (kk : ∀ (H1 : Heap) (locs1 : List Loc), IW D (cwR A cs st1) A0 H0 H1 locs1 → W p l e R s m args below meth c H1 locs1 cells slots Q (F0 m (pc + 1) ls (rest))) : W p l e R s m args below meth c H locs cells slots Q (F0 m pc ls (.long v :: .int i :: .ref (A 8) :: rest)) := by
  subst e1
  exact va_last E.1 E.2.1 E.2.2.2.2.2.1 I.1 I.2.1 I.2.2 8 1 rfl rfl b d (fun H1 locs1 h1 h2 h3 => kk H1 locs1 ⟨h1, h2, h3⟩)
theorem l_r_passes (E : EC own cc nL p s m args c D (tyL cs)) (I : IW D (cwR A cs st) A0 H0 H locs) (b : vp_in i 24) (d : decode cc pc = .ok (.iaload, 1)) (kk : W p l e R s m args below meth c H locs cells slots Q (F0 m (pc + 1) ls (.int (r_passes st i.toNatClampNeg) :: rest))) : W p l e R s m args below meth c H locs cells slots Q (F0 m pc ls (.int i :: .ref (A 9) :: rest)) :=
  va_iald E.1 E.2.1 E.2.2.2.2.2.1 I.1 9 0 rfl rfl b d kk
theorem p_r_passes {v : Int32} (E : EC own cc nL p s m args c D (tyL cs)) (I : IW D (cwR A cs st) A0 H0 H locs) (b : vp_in i 24) (e1 : st1 = s_r_passes st i.toNatClampNeg v) (d : decode cc pc = .ok (.iastore, 1)) (kk : ∀ (H1 : Heap) (locs1 : List Loc), IW D (cwR A cs st1) A0 H0 H1 locs1 → W p l e R s m args below meth c H1 locs1 cells slots Q (F0 m (pc + 1) ls (rest))) : W p l e R s m args below meth c H locs cells slots Q (F0 m pc ls (.int v :: .int i :: .ref (A 9) :: rest)) := by
  subst e1
  exact va_iast E.1 E.2.1 E.2.2.2.2.2.1 I.1 I.2.1 I.2.2 9 0 rfl rfl b d (fun H1 locs1 h1 h2 h3 => kk H1 locs1 ⟨h1, h2, h3⟩)
theorem l_r_stepsOf (E : EC own cc nL p s m args c D (tyL cs)) (I : IW D (cwR A cs st) A0 H0 H locs) (b : vp_in i 24) (d : decode cc pc = .ok (.iaload, 1)) (kk : W p l e R s m args below meth c H locs cells slots Q (F0 m (pc + 1) ls (.int (r_stepsOf st i.toNatClampNeg) :: rest))) : W p l e R s m args below meth c H locs cells slots Q (F0 m pc ls (.int i :: .ref (A 10) :: rest)) :=
  va_iald E.1 E.2.1 E.2.2.2.2.2.1 I.1 10 0 rfl rfl b d kk
theorem p_r_stepsOf {v : Int32} (E : EC own cc nL p s m args c D (tyL cs)) (I : IW D (cwR A cs st) A0 H0 H locs) (b : vp_in i 24) (e1 : st1 = s_r_stepsOf st i.toNatClampNeg v) (d : decode cc pc = .ok (.iastore, 1)) (kk : ∀ (H1 : Heap) (locs1 : List Loc), IW D (cwR A cs st1) A0 H0 H1 locs1 → W p l e R s m args below meth c H1 locs1 cells slots Q (F0 m (pc + 1) ls (rest))) : W p l e R s m args below meth c H locs cells slots Q (F0 m pc ls (.int v :: .int i :: .ref (A 10) :: rest)) := by
  subst e1
  exact va_iast E.1 E.2.1 E.2.2.2.2.2.1 I.1 I.2.1 I.2.2 10 0 rfl rfl b d (fun H1 locs1 h1 h2 h3 => kk H1 locs1 ⟨h1, h2, h3⟩)
theorem l_r_covers (E : EC own cc nL p s m args c D (tyL cs)) (I : IW D (cwR A cs st) A0 H0 H locs) (b : vp_in i 1536) (d : decode cc pc = .ok (.baload, 1)) (kk : W p l e R s m args below meth c H locs cells slots Q (F0 m (pc + 1) ls (.int (r_covers st i.toNatClampNeg) :: rest))) : W p l e R s m args below meth c H locs cells slots Q (F0 m pc ls (.int i :: .ref (A 11) :: rest)) :=
  va_zald E.1 E.2.1 E.2.2.2.2.2.1 I.1 11 2 rfl rfl b d kk
theorem p_r_covers {v : Int32} (E : EC own cc nL p s m args c D (tyL cs)) (I : IW D (cwR A cs st) A0 H0 H locs) (b : vp_in i 1536) (e1 : st1 = s_r_covers st i.toNatClampNeg (vp_nar .boolean v)) (d : decode cc pc = .ok (.bastore, 1)) (kk : ∀ (H1 : Heap) (locs1 : List Loc), IW D (cwR A cs st1) A0 H0 H1 locs1 → W p l e R s m args below meth c H1 locs1 cells slots Q (F0 m (pc + 1) ls (rest))) : W p l e R s m args below meth c H locs cells slots Q (F0 m pc ls (.int v :: .int i :: .ref (A 11) :: rest)) := by
  subst e1
  exact va_zast E.1 E.2.1 E.2.2.2.2.2.1 I.1 I.2.1 I.2.2 11 2 rfl rfl b d (fun H1 locs1 h1 h2 h3 => kk H1 locs1 ⟨h1, h2, h3⟩)
theorem l_r_covered (E : EC own cc nL p s m args c D (tyL cs)) (I : IW D (cwR A cs st) A0 H0 H locs) (b : vp_in i 1536) (d : decode cc pc = .ok (.baload, 1)) (kk : W p l e R s m args below meth c H locs cells slots Q (F0 m (pc + 1) ls (.int (r_covered st i.toNatClampNeg) :: rest))) : W p l e R s m args below meth c H locs cells slots Q (F0 m pc ls (.int i :: .ref (A 12) :: rest)) :=
  va_zald E.1 E.2.1 E.2.2.2.2.2.1 I.1 12 2 rfl rfl b d kk
theorem p_r_covered {v : Int32} (E : EC own cc nL p s m args c D (tyL cs)) (I : IW D (cwR A cs st) A0 H0 H locs) (b : vp_in i 1536) (e1 : st1 = s_r_covered st i.toNatClampNeg (vp_nar .boolean v)) (d : decode cc pc = .ok (.bastore, 1)) (kk : ∀ (H1 : Heap) (locs1 : List Loc), IW D (cwR A cs st1) A0 H0 H1 locs1 → W p l e R s m args below meth c H1 locs1 cells slots Q (F0 m (pc + 1) ls (rest))) : W p l e R s m args below meth c H locs cells slots Q (F0 m pc ls (.int v :: .int i :: .ref (A 12) :: rest)) := by
  subst e1
  exact va_zast E.1 E.2.1 E.2.2.2.2.2.1 I.1 I.2.1 I.2.2 12 2 rfl rfl b d (fun H1 locs1 h1 h2 h3 => kk H1 locs1 ⟨h1, h2, h3⟩)
theorem l_r_kindM (E : EC own cc nL p s m args c D (tyL cs)) (I : IW D (cwR A cs st) A0 H0 H locs) (b : vp_in i 100) (d : decode cc pc = .ok (.iaload, 1)) (kk : W p l e R s m args below meth c H locs cells slots Q (F0 m (pc + 1) ls (.int (r_kindM st i.toNatClampNeg) :: rest))) : W p l e R s m args below meth c H locs cells slots Q (F0 m pc ls (.int i :: .ref (A 13) :: rest)) :=
  va_iald E.1 E.2.1 E.2.2.2.2.2.1 I.1 13 0 rfl rfl b d kk
theorem p_r_kindM {v : Int32} (E : EC own cc nL p s m args c D (tyL cs)) (I : IW D (cwR A cs st) A0 H0 H locs) (b : vp_in i 100) (e1 : st1 = s_r_kindM st i.toNatClampNeg v) (d : decode cc pc = .ok (.iastore, 1)) (kk : ∀ (H1 : Heap) (locs1 : List Loc), IW D (cwR A cs st1) A0 H0 H1 locs1 → W p l e R s m args below meth c H1 locs1 cells slots Q (F0 m (pc + 1) ls (rest))) : W p l e R s m args below meth c H locs cells slots Q (F0 m pc ls (.int v :: .int i :: .ref (A 13) :: rest)) := by
  subst e1
  exact va_iast E.1 E.2.1 E.2.2.2.2.2.1 I.1 I.2.1 I.2.2 13 0 rfl rfl b d (fun H1 locs1 h1 h2 h3 => kk H1 locs1 ⟨h1, h2, h3⟩)
theorem l_r_nodeM (E : EC own cc nL p s m args c D (tyL cs)) (I : IW D (cwR A cs st) A0 H0 H locs) (b : vp_in i 100) (d : decode cc pc = .ok (.iaload, 1)) (kk : W p l e R s m args below meth c H locs cells slots Q (F0 m (pc + 1) ls (.int (r_nodeM st i.toNatClampNeg) :: rest))) : W p l e R s m args below meth c H locs cells slots Q (F0 m pc ls (.int i :: .ref (A 14) :: rest)) :=
  va_iald E.1 E.2.1 E.2.2.2.2.2.1 I.1 14 0 rfl rfl b d kk
theorem p_r_nodeM {v : Int32} (E : EC own cc nL p s m args c D (tyL cs)) (I : IW D (cwR A cs st) A0 H0 H locs) (b : vp_in i 100) (e1 : st1 = s_r_nodeM st i.toNatClampNeg v) (d : decode cc pc = .ok (.iastore, 1)) (kk : ∀ (H1 : Heap) (locs1 : List Loc), IW D (cwR A cs st1) A0 H0 H1 locs1 → W p l e R s m args below meth c H1 locs1 cells slots Q (F0 m (pc + 1) ls (rest))) : W p l e R s m args below meth c H locs cells slots Q (F0 m pc ls (.int v :: .int i :: .ref (A 14) :: rest)) := by
  subst e1
  exact va_iast E.1 E.2.1 E.2.2.2.2.2.1 I.1 I.2.1 I.2.2 14 0 rfl rfl b d (fun H1 locs1 h1 h2 h3 => kk H1 locs1 ⟨h1, h2, h3⟩)
theorem l_r_outcome (E : EC own cc nL p s m args c D (tyL cs)) (I : IW D (cwR A cs st) A0 H0 H locs) (b : vp_in i 100) (d : decode cc pc = .ok (.iaload, 1)) (kk : W p l e R s m args below meth c H locs cells slots Q (F0 m (pc + 1) ls (.int (r_outcome st i.toNatClampNeg) :: rest))) : W p l e R s m args below meth c H locs cells slots Q (F0 m pc ls (.int i :: .ref (A 15) :: rest)) :=
  va_iald E.1 E.2.1 E.2.2.2.2.2.1 I.1 15 0 rfl rfl b d kk
theorem p_r_outcome {v : Int32} (E : EC own cc nL p s m args c D (tyL cs)) (I : IW D (cwR A cs st) A0 H0 H locs) (b : vp_in i 100) (e1 : st1 = s_r_outcome st i.toNatClampNeg v) (d : decode cc pc = .ok (.iastore, 1)) (kk : ∀ (H1 : Heap) (locs1 : List Loc), IW D (cwR A cs st1) A0 H0 H1 locs1 → W p l e R s m args below meth c H1 locs1 cells slots Q (F0 m (pc + 1) ls (rest))) : W p l e R s m args below meth c H locs cells slots Q (F0 m pc ls (.int v :: .int i :: .ref (A 15) :: rest)) := by
  subst e1
  exact va_iast E.1 E.2.1 E.2.2.2.2.2.1 I.1 I.2.1 I.2.2 15 0 rfl rfl b d (fun H1 locs1 h1 h2 h3 => kk H1 locs1 ⟨h1, h2, h3⟩)
theorem l_r_ender (E : EC own cc nL p s m args c D (tyL cs)) (I : IW D (cwR A cs st) A0 H0 H locs) (b : vp_in i 100) (d : decode cc pc = .ok (.iaload, 1)) (kk : W p l e R s m args below meth c H locs cells slots Q (F0 m (pc + 1) ls (.int (r_ender st i.toNatClampNeg) :: rest))) : W p l e R s m args below meth c H locs cells slots Q (F0 m pc ls (.int i :: .ref (A 16) :: rest)) :=
  va_iald E.1 E.2.1 E.2.2.2.2.2.1 I.1 16 0 rfl rfl b d kk
theorem p_r_ender {v : Int32} (E : EC own cc nL p s m args c D (tyL cs)) (I : IW D (cwR A cs st) A0 H0 H locs) (b : vp_in i 100) (e1 : st1 = s_r_ender st i.toNatClampNeg v) (d : decode cc pc = .ok (.iastore, 1)) (kk : ∀ (H1 : Heap) (locs1 : List Loc), IW D (cwR A cs st1) A0 H0 H1 locs1 → W p l e R s m args below meth c H1 locs1 cells slots Q (F0 m (pc + 1) ls (rest))) : W p l e R s m args below meth c H locs cells slots Q (F0 m pc ls (.int v :: .int i :: .ref (A 16) :: rest)) := by
  subst e1
  exact va_iast E.1 E.2.1 E.2.2.2.2.2.1 I.1 I.2.1 I.2.2 16 0 rfl rfl b d (fun H1 locs1 h1 h2 h3 => kk H1 locs1 ⟨h1, h2, h3⟩)
theorem l_r_sampleRow (E : EC own cc nL p s m args c D (tyL cs)) (I : IW D (cwR A cs st) A0 H0 H locs) (b : vp_in i 100) (d : decode cc pc = .ok (.iaload, 1)) (kk : W p l e R s m args below meth c H locs cells slots Q (F0 m (pc + 1) ls (.int (r_sampleRow st i.toNatClampNeg) :: rest))) : W p l e R s m args below meth c H locs cells slots Q (F0 m pc ls (.int i :: .ref (A 17) :: rest)) :=
  va_iald E.1 E.2.1 E.2.2.2.2.2.1 I.1 17 0 rfl rfl b d kk
theorem p_r_sampleRow {v : Int32} (E : EC own cc nL p s m args c D (tyL cs)) (I : IW D (cwR A cs st) A0 H0 H locs) (b : vp_in i 100) (e1 : st1 = s_r_sampleRow st i.toNatClampNeg v) (d : decode cc pc = .ok (.iastore, 1)) (kk : ∀ (H1 : Heap) (locs1 : List Loc), IW D (cwR A cs st1) A0 H0 H1 locs1 → W p l e R s m args below meth c H1 locs1 cells slots Q (F0 m (pc + 1) ls (rest))) : W p l e R s m args below meth c H locs cells slots Q (F0 m pc ls (.int v :: .int i :: .ref (A 17) :: rest)) := by
  subst e1
  exact va_iast E.1 E.2.1 E.2.2.2.2.2.1 I.1 I.2.1 I.2.2 17 0 rfl rfl b d (fun H1 locs1 h1 h2 h3 => kk H1 locs1 ⟨h1, h2, h3⟩)
theorem l_r_marked (E : EC own cc nL p s m args c D (tyL cs)) (I : IW D (cwR A cs st) A0 H0 H locs) (b : vp_in i 64) (d : decode cc pc = .ok (.baload, 1)) (kk : W p l e R s m args below meth c H locs cells slots Q (F0 m (pc + 1) ls (.int (r_marked st i.toNatClampNeg) :: rest))) : W p l e R s m args below meth c H locs cells slots Q (F0 m pc ls (.int i :: .ref (A 18) :: rest)) :=
  va_zald E.1 E.2.1 E.2.2.2.2.2.1 I.1 18 2 rfl rfl b d kk
theorem p_r_marked {v : Int32} (E : EC own cc nL p s m args c D (tyL cs)) (I : IW D (cwR A cs st) A0 H0 H locs) (b : vp_in i 64) (e1 : st1 = s_r_marked st i.toNatClampNeg (vp_nar .boolean v)) (d : decode cc pc = .ok (.bastore, 1)) (kk : ∀ (H1 : Heap) (locs1 : List Loc), IW D (cwR A cs st1) A0 H0 H1 locs1 → W p l e R s m args below meth c H1 locs1 cells slots Q (F0 m (pc + 1) ls (rest))) : W p l e R s m args below meth c H locs cells slots Q (F0 m pc ls (.int v :: .int i :: .ref (A 18) :: rest)) := by
  subst e1
  exact va_zast E.1 E.2.1 E.2.2.2.2.2.1 I.1 I.2.1 I.2.2 18 2 rfl rfl b d (fun H1 locs1 h1 h2 h3 => kk H1 locs1 ⟨h1, h2, h3⟩)
theorem l_r_waits (E : EC own cc nL p s m args c D (tyL cs)) (I : IW D (cwR A cs st) A0 H0 H locs) (b : vp_in i 65) (d : decode cc pc = .ok (.iaload, 1)) (kk : W p l e R s m args below meth c H locs cells slots Q (F0 m (pc + 1) ls (.int (r_waits st i.toNatClampNeg) :: rest))) : W p l e R s m args below meth c H locs cells slots Q (F0 m pc ls (.int i :: .ref (A 19) :: rest)) :=
  va_iald E.1 E.2.1 E.2.2.2.2.2.1 I.1 19 0 rfl rfl b d kk
theorem p_r_waits {v : Int32} (E : EC own cc nL p s m args c D (tyL cs)) (I : IW D (cwR A cs st) A0 H0 H locs) (b : vp_in i 65) (e1 : st1 = s_r_waits st i.toNatClampNeg v) (d : decode cc pc = .ok (.iastore, 1)) (kk : ∀ (H1 : Heap) (locs1 : List Loc), IW D (cwR A cs st1) A0 H0 H1 locs1 → W p l e R s m args below meth c H1 locs1 cells slots Q (F0 m (pc + 1) ls (rest))) : W p l e R s m args below meth c H locs cells slots Q (F0 m pc ls (.int v :: .int i :: .ref (A 19) :: rest)) := by
  subst e1
  exact va_iast E.1 E.2.1 E.2.2.2.2.2.1 I.1 I.2.1 I.2.2 19 0 rfl rfl b d (fun H1 locs1 h1 h2 h3 => kk H1 locs1 ⟨h1, h2, h3⟩)
theorem l_r_phase (E : EC own cc nL p s m args c D (tyL cs)) (I : IW D (cwR A cs st) A0 H0 H locs) (b : vp_in i 65) (d : decode cc pc = .ok (.iaload, 1)) (kk : W p l e R s m args below meth c H locs cells slots Q (F0 m (pc + 1) ls (.int (r_phase st i.toNatClampNeg) :: rest))) : W p l e R s m args below meth c H locs cells slots Q (F0 m pc ls (.int i :: .ref (A 20) :: rest)) :=
  va_iald E.1 E.2.1 E.2.2.2.2.2.1 I.1 20 0 rfl rfl b d kk
theorem p_r_phase {v : Int32} (E : EC own cc nL p s m args c D (tyL cs)) (I : IW D (cwR A cs st) A0 H0 H locs) (b : vp_in i 65) (e1 : st1 = s_r_phase st i.toNatClampNeg v) (d : decode cc pc = .ok (.iastore, 1)) (kk : ∀ (H1 : Heap) (locs1 : List Loc), IW D (cwR A cs st1) A0 H0 H1 locs1 → W p l e R s m args below meth c H1 locs1 cells slots Q (F0 m (pc + 1) ls (rest))) : W p l e R s m args below meth c H locs cells slots Q (F0 m pc ls (.int v :: .int i :: .ref (A 20) :: rest)) := by
  subst e1
  exact va_iast E.1 E.2.1 E.2.2.2.2.2.1 I.1 I.2.1 I.2.2 20 0 rfl rfl b d (fun H1 locs1 h1 h2 h3 => kk H1 locs1 ⟨h1, h2, h3⟩)
theorem l_r_first (E : EC own cc nL p s m args c D (tyL cs)) (I : IW D (cwR A cs st) A0 H0 H locs) (b : vp_in i 65) (d : decode cc pc = .ok (.laload, 1)) (kk : W p l e R s m args below meth c H locs cells slots Q (F0 m (pc + 1) ls (.long (r_first st i.toNatClampNeg) :: rest))) : W p l e R s m args below meth c H locs cells slots Q (F0 m pc ls (.int i :: .ref (A 21) :: rest)) :=
  va_lald E.1 E.2.1 E.2.2.2.2.2.1 I.1 21 1 rfl rfl b d kk
theorem p_r_first {v : Int64} (E : EC own cc nL p s m args c D (tyL cs)) (I : IW D (cwR A cs st) A0 H0 H locs) (b : vp_in i 65) (e1 : st1 = s_r_first st i.toNatClampNeg v) (d : decode cc pc = .ok (.lastore, 1)) (kk : ∀ (H1 : Heap) (locs1 : List Loc), IW D (cwR A cs st1) A0 H0 H1 locs1 → W p l e R s m args below meth c H1 locs1 cells slots Q (F0 m (pc + 1) ls (rest))) : W p l e R s m args below meth c H locs cells slots Q (F0 m pc ls (.long v :: .int i :: .ref (A 21) :: rest)) := by
  subst e1
  exact va_last E.1 E.2.1 E.2.2.2.2.2.1 I.1 I.2.1 I.2.2 21 1 rfl rfl b d (fun H1 locs1 h1 h2 h3 => kk H1 locs1 ⟨h1, h2, h3⟩)
theorem l_r_far (E : EC own cc nL p s m args c D (tyL cs)) (I : IW D (cwR A cs st) A0 H0 H locs) (b : vp_in i 64) (d : decode cc pc = .ok (.iaload, 1)) (kk : W p l e R s m args below meth c H locs cells slots Q (F0 m (pc + 1) ls (.int (r_far st i.toNatClampNeg) :: rest))) : W p l e R s m args below meth c H locs cells slots Q (F0 m pc ls (.int i :: .ref (A 22) :: rest)) :=
  va_iald E.1 E.2.1 E.2.2.2.2.2.1 I.1 22 0 rfl rfl b d kk
theorem p_r_far {v : Int32} (E : EC own cc nL p s m args c D (tyL cs)) (I : IW D (cwR A cs st) A0 H0 H locs) (b : vp_in i 64) (e1 : st1 = s_r_far st i.toNatClampNeg v) (d : decode cc pc = .ok (.iastore, 1)) (kk : ∀ (H1 : Heap) (locs1 : List Loc), IW D (cwR A cs st1) A0 H0 H1 locs1 → W p l e R s m args below meth c H1 locs1 cells slots Q (F0 m (pc + 1) ls (rest))) : W p l e R s m args below meth c H locs cells slots Q (F0 m pc ls (.int v :: .int i :: .ref (A 22) :: rest)) := by
  subst e1
  exact va_iast E.1 E.2.1 E.2.2.2.2.2.1 I.1 I.2.1 I.2.2 22 0 rfl rfl b d (fun H1 locs1 h1 h2 h3 => kk H1 locs1 ⟨h1, h2, h3⟩)
theorem l_r_list (E : EC own cc nL p s m args c D (tyL cs)) (I : IW D (cwR A cs st) A0 H0 H locs) (b : vp_in i 24) (d : decode cc pc = .ok (.iaload, 1)) (kk : W p l e R s m args below meth c H locs cells slots Q (F0 m (pc + 1) ls (.int (r_list st i.toNatClampNeg) :: rest))) : W p l e R s m args below meth c H locs cells slots Q (F0 m pc ls (.int i :: .ref (A 23) :: rest)) :=
  va_iald E.1 E.2.1 E.2.2.2.2.2.1 I.1 23 0 rfl rfl b d kk
theorem p_r_list {v : Int32} (E : EC own cc nL p s m args c D (tyL cs)) (I : IW D (cwR A cs st) A0 H0 H locs) (b : vp_in i 24) (e1 : st1 = s_r_list st i.toNatClampNeg v) (d : decode cc pc = .ok (.iastore, 1)) (kk : ∀ (H1 : Heap) (locs1 : List Loc), IW D (cwR A cs st1) A0 H0 H1 locs1 → W p l e R s m args below meth c H1 locs1 cells slots Q (F0 m (pc + 1) ls (rest))) : W p l e R s m args below meth c H locs cells slots Q (F0 m pc ls (.int v :: .int i :: .ref (A 23) :: rest)) := by
  subst e1
  exact va_iast E.1 E.2.1 E.2.2.2.2.2.1 I.1 I.2.1 I.2.2 23 0 rfl rfl b d (fun H1 locs1 h1 h2 h3 => kk H1 locs1 ⟨h1, h2, h3⟩)
theorem l_r_alike (E : EC own cc nL p s m args c D (tyL cs)) (I : IW D (cwR A cs st) A0 H0 H locs) (b : vp_in i 4096) (d : decode cc pc = .ok (.baload, 1)) (kk : W p l e R s m args below meth c H locs cells slots Q (F0 m (pc + 1) ls (.int (r_alike st i.toNatClampNeg) :: rest))) : W p l e R s m args below meth c H locs cells slots Q (F0 m pc ls (.int i :: .ref (A 24) :: rest)) :=
  va_zald E.1 E.2.1 E.2.2.2.2.2.1 I.1 24 2 rfl rfl b d kk
theorem p_r_alike {v : Int32} (E : EC own cc nL p s m args c D (tyL cs)) (I : IW D (cwR A cs st) A0 H0 H locs) (b : vp_in i 4096) (e1 : st1 = s_r_alike st i.toNatClampNeg (vp_nar .boolean v)) (d : decode cc pc = .ok (.bastore, 1)) (kk : ∀ (H1 : Heap) (locs1 : List Loc), IW D (cwR A cs st1) A0 H0 H1 locs1 → W p l e R s m args below meth c H1 locs1 cells slots Q (F0 m (pc + 1) ls (rest))) : W p l e R s m args below meth c H locs cells slots Q (F0 m pc ls (.int v :: .int i :: .ref (A 24) :: rest)) := by
  subst e1
  exact va_zast E.1 E.2.1 E.2.2.2.2.2.1 I.1 I.2.1 I.2.2 24 2 rfl rfl b d (fun H1 locs1 h1 h2 h3 => kk H1 locs1 ⟨h1, h2, h3⟩)
end WORLDR
end
section
section Mmc1
variable {p : Program} {l : Launch} {e : Env} {s : State} {m : MethodId} {args : Array Value} {below : List Frame} {meth : Method} {c : Code} {Q : State → Prop} {D : va_G} {A0 : Nat → Prop} {H0 : Heap} {A : Nat → Nat} {cs : ClassId × ClassId × ClassId}
abbrev rm_K_worth (d : Nat) : Room := { frames := 2 * d + 1, cells := 0, slots := 0, locals := 80 * d + 40 }
abbrev rm_K_worthOfChoice (d : Nat) : Room := { frames := 2 * d + 2, cells := 0, slots := 0, locals := 80 * d + 80 }
abbrev rm_K_worthOfLoop (d : Nat) : Room := { frames := 2 * d + 2, cells := 0, slots := 0, locals := 80 * d + 80 }
abbrev rm_K_worthOfTwo (d : Nat) : Room := { frames := 2 * d + 2, cells := 0, slots := 0, locals := 80 * d + 80 }
abbrev rm_T_partCount : Room := { frames := 0, cells := 0, slots := 0, locals := 0 }
def f_T_partCount (x0 : Int32) (st : CS) : Option (Int32 × CS) :=
  if (2 : Int32) < x0 then (
    if x0 = (8 : Int32) then (
      some ((3 : Int32), st)
    ) else (
      some ((2 : Int32), st)
    )
  ) else (
    some ((0 : Int32), st)
  )
set_option maxHeartbeats 4000000 in
set_option maxRecDepth 100000 in
theorem w_T_partCount  {r : Int32} {t : CS} (E : EC R_T c_T_partCount 1 p s m args c D (tyL cs)) (hA : ∀ q, H0.size ≤ q → A0 q) (kr : ∀ (H : Heap) (locs : List Loc) (pc : Nat) (ls : Array Slot), IW D (cwC A cs t) A0 H0 H locs → decode c_T_partCount pc = .ok (.ireturn, 1) → W p l e rm_T_partCount s m args below meth c H locs 0 0 Q (F0 m pc ls [.int r])) : ∀ (x0 : Int32) (st : CS) (H : Heap) (locs : List Loc) (ls : Array Slot), f_T_partCount x0 st = some (r, t) → IW D (cwC A cs st) A0 H0 H locs → lv_has ls 1 [(0, .int x0)] → W p l e rm_T_partCount s m args below meth c H locs 0 0 Q (F0 m 0 ls []) := by
  intro x0 st H locs ls h I hl
  have hx := E.1
  have hb := E.2.1
  rw [f_T_partCount] at h
  refine lv_iload_n hx hb d_T_partCount_0 rfl (lv_at hl 0 rfl) ?_
  refine lv_iconst (v := 2) hx hb d_T_partCount_1 (by decide) ?_
  refine lv_icmp_gt (tgt := 7) hx hb d_T_partCount_2 (by decide) (fun c1 => ?_) (fun c1 => ?_)
  · have h := ifp c1 h
    refine lv_iload_n hx hb d_T_partCount_7 rfl (lv_at hl 0 rfl) ?_
    refine lv_bipush (v := 8) hx hb d_T_partCount_8 (by decide) ?_
    refine lv_icmp_ne (tgt := 17) hx hb d_T_partCount_10 (by decide) (fun c2 => ?_) (fun c2 => ?_)
    · have h := ifn c2 h
      refine lv_iconst (v := 2) hx hb d_T_partCount_17 (by decide) ?_
      cases h
      exact kr _ _ _ _ I d_T_partCount_18
    · have h := ifp c2 h
      refine lv_iconst (v := 3) hx hb d_T_partCount_13 (by decide) ?_
      refine lv_goto (tgt := 18) hx hb d_T_partCount_14 (by decide) ?_
      cases h
      exact kr _ _ _ _ I d_T_partCount_18
  · have h := ifn c1 h
    refine lv_iconst (v := 0) hx hb d_T_partCount_5 (by decide) ?_
    cases h
    exact kr _ _ _ _ I d_T_partCount_6
set_option maxHeartbeats 4000000 in
set_option maxRecDepth 100000 in
theorem k_T_partCount {x0 : Int32} {st t : CS} {r : Int32} (h : f_T_partCount x0 st = some (r, t)) : Cn l y_T_partCount c_T_partCount 1 (some .int) rm_T_partCount D (tyL cs) (cwC A cs st) (cwC A cs t) [.int x0] (some (.int r)) := by
  refine cn_intro (by decide) (Nat.le_of_ble_eq_true rfl) ?_
  intro p e s m below meth c A0 Q ls E hr hlk hA hA0 hQ I hl
  exact w_T_partCount E hA (rt_i E hr hlk hA0 hQ) x0 st _ _ _ h I (lv_sub hl [0] rfl)
abbrev rm_T_has : Room := { frames := 0, cells := 0, slots := 0, locals := 0 }
def f_T_has (x1 : Int32) (st : CS) : Option (Int32 × CS) :=
  if x1 < 0 then (
    some ((0 : Int32), st)
  ) else (
    if (cT_size st) ≤ x1 then (
      some ((0 : Int32), st)
    ) else (
      some ((1 : Int32), st)
    )
  )
set_option maxHeartbeats 4000000 in
set_option maxRecDepth 100000 in
theorem w_T_has  {r : Int32} {t : CS} (E : EC R_T c_T_has 2 p s m args c D (tyL cs)) (hA : ∀ q, H0.size ≤ q → A0 q) (kr : ∀ (H : Heap) (locs : List Loc) (pc : Nat) (ls : Array Slot), IW D (cwC A cs t) A0 H0 H locs → narrow .boolean (.int r) = .int r → decode c_T_has pc = .ok (.ireturn, 1) → W p l e rm_T_has s m args below meth c H locs 0 0 Q (F0 m pc ls [.int r])) : ∀ (x1 : Int32) (st : CS) (H : Heap) (locs : List Loc) (ls : Array Slot), f_T_has x1 st = some (r, t) → IW D (cwC A cs st) A0 H0 H locs → lv_has ls 2 [(0, .ref (A 1)), (1, .int x1)] → W p l e rm_T_has s m args below meth c H locs 0 0 Q (F0 m 0 ls []) := by
  intro x1 st H locs ls h I hl
  have hx := E.1
  have hb := E.2.1
  rw [f_T_has] at h
  refine lv_iload_n hx hb d_T_has_0 rfl (lv_at hl 1 rfl) ?_
  refine lv_if_lt (tgt := 16) hx hb d_T_has_1 (by decide) (fun c1 => ?_) (fun c1 => ?_)
  · have h := ifp c1 h
    refine lv_iconst (v := 0) hx hb d_T_has_16 (by decide) ?_
    cases h
    exact kr _ _ _ _ I (by decide) d_T_has_17
  · have h := ifn c1 h
    refine lv_iload_n hx hb d_T_has_4 rfl (lv_at hl 1 rfl) ?_
    refine lv_aload_n hx hb d_T_has_5 rfl (lv_at hl 0 rfl) ?_
    refine g_cT_size E I k_T_34 d_T_has_6 ?_
    refine lv_icmp_ge (tgt := 16) hx hb d_T_has_9 (by decide) (fun c2 => ?_) (fun c2 => ?_)
    · have h := ifp c2 h
      refine lv_iconst (v := 0) hx hb d_T_has_16 (by decide) ?_
      cases h
      exact kr _ _ _ _ I (by decide) d_T_has_17
    · have h := ifn c2 h
      refine lv_iconst (v := 1) hx hb d_T_has_12 (by decide) ?_
      refine lv_goto (tgt := 17) hx hb d_T_has_13 (by decide) ?_
      cases h
      exact kr _ _ _ _ I (by decide) d_T_has_17
set_option maxHeartbeats 4000000 in
set_option maxRecDepth 100000 in
theorem k_T_has {x1 : Int32} {st t : CS} {r : Int32} (h : f_T_has x1 st = some (r, t)) : Cn l y_T_has c_T_has 2 (some .boolean) rm_T_has D (tyL cs) (cwC A cs st) (cwC A cs t) [.ref (A 1), .int x1] (some (.int r)) := by
  refine cn_intro (by decide) (Nat.le_of_ble_eq_true rfl) ?_
  intro p e s m below meth c A0 Q ls E hr hlk hA hA0 hQ I hl
  exact w_T_has E hA (rt_z E hr hlk hA0 hQ) x1 st _ _ _ h I (lv_sub hl [0, 1] rfl)
abbrev rm_T_areEarlier : Room := { frames := 1, cells := 0, slots := 0, locals := 21 }
def f_T_areEarlier (x1 : Int32) (x2 : Int64) (x4 : Int32) (x5 : Int32) (st : CS) : Option (Int32 × CS) :=
  if x2 < (0 : Int64) then (
    some ((0 : Int32), st)
  ) else (
    if (cT_size st).toInt64 ≤ x2 then (
      some ((0 : Int32), st)
    ) else (
      bd (f_T_has x4 st) fun r4 st3 =>
      if r4 = 0 then (
        some ((0 : Int32), st3)
      ) else (
        if x1 < (3 : Int32) then (
          some ((1 : Int32), st3)
        ) else (
          bd (f_T_has x5 st3) fun r9 st8 =>
          if r9 = 0 then (
            some ((0 : Int32), st8)
          ) else (
            some ((1 : Int32), st8)
          )
        )
      )
    )
  )
set_option maxHeartbeats 4000000 in
set_option maxRecDepth 100000 in
theorem w_T_areEarlier  {r : Int32} {t : CS} (E : EC R_T c_T_areEarlier 6 p s m args c D (tyL cs)) (hA : ∀ q, H0.size ≤ q → A0 q) (kr : ∀ (H : Heap) (locs : List Loc) (pc : Nat) (ls : Array Slot), IW D (cwC A cs t) A0 H0 H locs → narrow .boolean (.int r) = .int r → decode c_T_areEarlier pc = .ok (.ireturn, 1) → W p l e rm_T_areEarlier s m args below meth c H locs 0 0 Q (F0 m pc ls [.int r])) : ∀ (x1 : Int32) (x2 : Int64) (x4 : Int32) (x5 : Int32) (st : CS) (H : Heap) (locs : List Loc) (ls : Array Slot), f_T_areEarlier x1 x2 x4 x5 st = some (r, t) → IW D (cwC A cs st) A0 H0 H locs → lv_has ls 6 [(0, .ref (A 1)), (1, .int x1), (2, .long x2), (4, .int x4), (5, .int x5)] → W p l e rm_T_areEarlier s m args below meth c H locs 0 0 Q (F0 m 0 ls []) := by
  intro x1 x2 x4 x5 st H locs ls h I hl
  have hx := E.1
  have hb := E.2.1
  rw [f_T_areEarlier] at h
  refine lv_lload_n hx hb d_T_areEarlier_0 rfl (lv_at hl 2 rfl) ?_
  refine lv_lconst (v := 0) hx hb d_T_areEarlier_1 (by decide) ?_
  refine W.lcmp hx hb d_T_areEarlier_2 ?_
  refine lv_if_lt (tgt := 43) hx hb d_T_areEarlier_3 (by decide) (fun c1 => ?_) (fun c1 => ?_)
  · have c1 := (lg_cmp_lt _ _).mp c1
    have h := ifp c1 h
    refine lv_iconst (v := 0) hx hb d_T_areEarlier_43 (by decide) ?_
    cases h
    exact kr _ _ _ _ I (by decide) d_T_areEarlier_44
  · have c1 := mt (lg_cmp_lt _ _).mpr c1
    have h := ifn c1 h
    refine lv_lload_n hx hb d_T_areEarlier_6 rfl (lv_at hl 2 rfl) ?_
    refine lv_aload_n hx hb d_T_areEarlier_7 rfl (lv_at hl 0 rfl) ?_
    refine g_cT_size E I k_T_34 d_T_areEarlier_8 ?_
    refine lv_i2l hx hb d_T_areEarlier_11 rfl ?_
    refine W.lcmp hx hb d_T_areEarlier_12 ?_
    refine lv_if_ge (tgt := 43) hx hb d_T_areEarlier_13 (by decide) (fun c2 => ?_) (fun c2 => ?_)
    · have c2 := (lg_cmp_ge _ _).mp c2
      have h := ifp c2 h
      refine lv_iconst (v := 0) hx hb d_T_areEarlier_43 (by decide) ?_
      cases h
      exact kr _ _ _ _ I (by decide) d_T_areEarlier_44
    · have c2 := mt (lg_cmp_ge _ _).mpr c2
      have h := ifn c2 h
      refine lv_aload_n hx hb d_T_areEarlier_16 rfl (lv_at hl 0 rfl) ?_
      refine lv_iload hx hb d_T_areEarlier_17 (lv_at hl 3 rfl) ?_
      obtain ⟨r4, st3, h5, h⟩ := bd_some h
      refine cV (As := [.int x4]) (rest := []) E I hA (k_T_has h5) g_T_57 ⟨rfl, rfl⟩ 1 rfl rfl rfl hl rfl (Nat.le_of_ble_eq_true rfl) ⟨Nat.le_of_ble_eq_true rfl, Nat.le_of_ble_eq_true rfl⟩ ⟨Nat.zero_le _, Nat.zero_le _⟩ d_T_areEarlier_19 rfl (fun H locs I => ?_)
      refine lv_if_eq (tgt := 43) hx hb d_T_areEarlier_22 (by decide) (fun c6 => ?_) (fun c6 => ?_)
      · have h := ifp c6 h
        refine lv_iconst (v := 0) hx hb d_T_areEarlier_43 (by decide) ?_
        cases h
        exact kr _ _ _ _ I (by decide) d_T_areEarlier_44
      · have h := ifn c6 h
        refine lv_iload_n hx hb d_T_areEarlier_25 rfl (lv_at hl 1 rfl) ?_
        refine lv_iconst (v := 3) hx hb d_T_areEarlier_26 (by decide) ?_
        refine lv_icmp_lt (tgt := 39) hx hb d_T_areEarlier_27 (by decide) (fun c7 => ?_) (fun c7 => ?_)
        · have h := ifp c7 h
          refine lv_iconst (v := 1) hx hb d_T_areEarlier_39 (by decide) ?_
          refine lv_goto (tgt := 44) hx hb d_T_areEarlier_40 (by decide) ?_
          cases h
          exact kr _ _ _ _ I (by decide) d_T_areEarlier_44
        · have h := ifn c7 h
          refine lv_aload_n hx hb d_T_areEarlier_30 rfl (lv_at hl 0 rfl) ?_
          refine lv_iload hx hb d_T_areEarlier_31 (lv_at hl 4 rfl) ?_
          obtain ⟨r9, st8, h10, h⟩ := bd_some h
          refine cV (As := [.int x5]) (rest := []) E I hA (k_T_has h10) g_T_57 ⟨rfl, rfl⟩ 1 rfl rfl rfl hl rfl (Nat.le_of_ble_eq_true rfl) ⟨Nat.le_of_ble_eq_true rfl, Nat.le_of_ble_eq_true rfl⟩ ⟨Nat.zero_le _, Nat.zero_le _⟩ d_T_areEarlier_33 rfl (fun H locs I => ?_)
          refine lv_if_eq (tgt := 43) hx hb d_T_areEarlier_36 (by decide) (fun c11 => ?_) (fun c11 => ?_)
          · have h := ifp c11 h
            refine lv_iconst (v := 0) hx hb d_T_areEarlier_43 (by decide) ?_
            cases h
            exact kr _ _ _ _ I (by decide) d_T_areEarlier_44
          · have h := ifn c11 h
            refine lv_iconst (v := 1) hx hb d_T_areEarlier_39 (by decide) ?_
            refine lv_goto (tgt := 44) hx hb d_T_areEarlier_40 (by decide) ?_
            cases h
            exact kr _ _ _ _ I (by decide) d_T_areEarlier_44
set_option maxHeartbeats 4000000 in
set_option maxRecDepth 100000 in
theorem k_T_areEarlier {x1 : Int32} {x2 : Int64} {x4 : Int32} {x5 : Int32} {st t : CS} {r : Int32} (h : f_T_areEarlier x1 x2 x4 x5 st = some (r, t)) : Cn l y_T_areEarlier c_T_areEarlier 6 (some .boolean) rm_T_areEarlier D (tyL cs) (cwC A cs st) (cwC A cs t) [.ref (A 1), .int x1, .long x2, .int x4, .int x5] (some (.int r)) := by
  refine cn_intro (by decide) (Nat.le_of_ble_eq_true rfl) ?_
  intro p e s m below meth c A0 Q ls E hr hlk hA hA0 hQ I hl
  exact w_T_areEarlier E hA (rt_z E hr hlk hA0 hQ) x1 x2 x4 x5 st _ _ _ h I (lv_sub hl [0, 1, 2, 3, 4] rfl)
abbrev rm_T_areAlike : Room := { frames := 0, cells := 0, slots := 0, locals := 0 }
def f_T_areAlike (x1 : Int32) (x2 : Int32) (st : CS) : Option (Int32 × CS) :=
  ck x1 64 <|
  ck x2 64 <|
  if (cT_shapes st x1.toNatClampNeg) = (cT_shapes st x2.toNatClampNeg) then (
    some ((1 : Int32), st)
  ) else (
    some ((0 : Int32), st)
  )
set_option maxHeartbeats 4000000 in
set_option maxRecDepth 100000 in
theorem w_T_areAlike  {r : Int32} {t : CS} (E : EC R_T c_T_areAlike 3 p s m args c D (tyL cs)) (hA : ∀ q, H0.size ≤ q → A0 q) (kr : ∀ (H : Heap) (locs : List Loc) (pc : Nat) (ls : Array Slot), IW D (cwC A cs t) A0 H0 H locs → narrow .boolean (.int r) = .int r → decode c_T_areAlike pc = .ok (.ireturn, 1) → W p l e rm_T_areAlike s m args below meth c H locs 0 0 Q (F0 m pc ls [.int r])) : ∀ (x1 : Int32) (x2 : Int32) (st : CS) (H : Heap) (locs : List Loc) (ls : Array Slot), f_T_areAlike x1 x2 st = some (r, t) → IW D (cwC A cs st) A0 H0 H locs → lv_has ls 3 [(0, .ref (A 1)), (1, .int x1), (2, .int x2)] → W p l e rm_T_areAlike s m args below meth c H locs 0 0 Q (F0 m 0 ls []) := by
  intro x1 x2 st H locs ls h I hl
  have hx := E.1
  have hb := E.2.1
  rw [f_T_areAlike] at h
  refine lv_aload_n hx hb d_T_areAlike_0 rfl (lv_at hl 0 rfl) ?_
  refine g_cT_shapes E I k_T_28 d_T_areAlike_1 ?_
  refine lv_iload_n hx hb d_T_areAlike_4 rfl (lv_at hl 1 rfl) ?_
  obtain ⟨b1, h⟩ := ck_some h
  refine l_cT_shapes E I b1 d_T_areAlike_5 ?_
  refine lv_aload_n hx hb d_T_areAlike_6 rfl (lv_at hl 0 rfl) ?_
  refine g_cT_shapes E I k_T_28 d_T_areAlike_7 ?_
  refine lv_iload_n hx hb d_T_areAlike_10 rfl (lv_at hl 2 rfl) ?_
  obtain ⟨b2, h⟩ := ck_some h
  refine l_cT_shapes E I b2 d_T_areAlike_11 ?_
  refine lv_icmp_ne (tgt := 19) hx hb d_T_areAlike_12 (by decide) (fun c3 => ?_) (fun c3 => ?_)
  · have h := ifn c3 h
    refine lv_iconst (v := 0) hx hb d_T_areAlike_19 (by decide) ?_
    cases h
    exact kr _ _ _ _ I (by decide) d_T_areAlike_20
  · have h := ifp c3 h
    refine lv_iconst (v := 1) hx hb d_T_areAlike_15 (by decide) ?_
    refine lv_goto (tgt := 20) hx hb d_T_areAlike_16 (by decide) ?_
    cases h
    exact kr _ _ _ _ I (by decide) d_T_areAlike_20
set_option maxHeartbeats 4000000 in
set_option maxRecDepth 100000 in
theorem k_T_areAlike {x1 : Int32} {x2 : Int32} {st t : CS} {r : Int32} (h : f_T_areAlike x1 x2 st = some (r, t)) : Cn l y_T_areAlike c_T_areAlike 3 (some .boolean) rm_T_areAlike D (tyL cs) (cwC A cs st) (cwC A cs t) [.ref (A 1), .int x1, .int x2] (some (.int r)) := by
  refine cn_intro (by decide) (Nat.le_of_ble_eq_true rfl) ?_
  intro p e s m below meth c A0 Q ls E hr hlk hA hA0 hQ I hl
  exact w_T_areAlike E hA (rt_z E hr hlk hA0 hQ) x1 x2 st _ _ _ h I (lv_sub hl [0, 1, 2] rfl)
abbrev rm_T_haveAlikeParts : Room := { frames := 1, cells := 0, slots := 0, locals := 22 }
def f_T_haveAlikeParts (x1 : Int32) (x2 : Int32) (st : CS) : Option (Int32 × CS) :=
  ck x1 64 <|
  bd (f_T_partCount (cT_kinds st x1.toNatClampNeg) st) fun r3 st2 =>
  if r3 = 0 then (
    some ((1 : Int32), st2)
  ) else (
    ck x1 64 <|
    ck x2 64 <|
    bd (f_T_areAlike (cT_firsts st2 x1.toNatClampNeg) (cT_firsts st2 x2.toNatClampNeg) st2) fun r9 st8 =>
    if r9 = 0 then (
      some ((0 : Int32), st8)
    ) else (
      ck x1 64 <|
      ck x2 64 <|
      bd (f_T_areAlike (cT_seconds st8 x1.toNatClampNeg) (cT_seconds st8 x2.toNatClampNeg) st8) fun r15 st14 =>
      if r15 = 0 then (
        some ((0 : Int32), st14)
      ) else (
        if r3 < (3 : Int32) then (
          some ((1 : Int32), st14)
        ) else (
          ck x1 64 <|
          ck x2 64 <|
          bd (f_T_areAlike (cT_thirds st14 x1.toNatClampNeg) (cT_thirds st14 x2.toNatClampNeg) st14) fun r22 st21 =>
          if r22 = 0 then (
            some ((0 : Int32), st21)
          ) else (
            some ((1 : Int32), st21)
          )
        )
      )
    )
  )
set_option maxHeartbeats 4000000 in
set_option maxRecDepth 100000 in
theorem w_T_haveAlikeParts  {r : Int32} {t : CS} (E : EC R_T c_T_haveAlikeParts 4 p s m args c D (tyL cs)) (hA : ∀ q, H0.size ≤ q → A0 q) (kr : ∀ (H : Heap) (locs : List Loc) (pc : Nat) (ls : Array Slot), IW D (cwC A cs t) A0 H0 H locs → narrow .boolean (.int r) = .int r → decode c_T_haveAlikeParts pc = .ok (.ireturn, 1) → W p l e rm_T_haveAlikeParts s m args below meth c H locs 0 0 Q (F0 m pc ls [.int r])) : ∀ (x1 : Int32) (x2 : Int32) (st : CS) (H : Heap) (locs : List Loc) (ls : Array Slot), f_T_haveAlikeParts x1 x2 st = some (r, t) → IW D (cwC A cs st) A0 H0 H locs → lv_has ls 4 [(0, .ref (A 1)), (1, .int x1), (2, .int x2)] → W p l e rm_T_haveAlikeParts s m args below meth c H locs 0 0 Q (F0 m 0 ls []) := by
  intro x1 x2 st H locs ls h I hl
  have hx := E.1
  have hb := E.2.1
  rw [f_T_haveAlikeParts] at h
  refine lv_aload_n hx hb d_T_haveAlikeParts_0 rfl (lv_at hl 0 rfl) ?_
  refine g_cT_kinds E I k_T_9 d_T_haveAlikeParts_1 ?_
  refine lv_iload_n hx hb d_T_haveAlikeParts_4 rfl (lv_at hl 1 rfl) ?_
  obtain ⟨b1, h⟩ := ck_some h
  refine l_cT_kinds E I b1 d_T_haveAlikeParts_5 ?_
  obtain ⟨r3, st2, h4, h⟩ := bd_some h
  refine cS (As := [.int (cT_kinds st x1.toNatClampNeg)]) (rest := []) E I hA (k_T_partCount h4) g_T_38 ⟨rfl, rfl⟩ rfl hl rfl (Nat.le_of_ble_eq_true rfl) ⟨Nat.le_of_ble_eq_true rfl, Nat.le_of_ble_eq_true rfl⟩ ⟨Nat.zero_le _, Nat.zero_le _⟩ d_T_haveAlikeParts_6 rfl (fun H locs I => ?_)
  refine lv_istore_n (lv' := [(3, .int r3), (0, .ref (A 1)), (1, .int x1), (2, .int x2)]) hx hb d_T_haveAlikeParts_9 rfl hl (by decide) rfl (fun ls hl => ?_)
  refine lv_iload_n hx hb d_T_haveAlikeParts_10 rfl (lv_at hl 0 rfl) ?_
  refine lv_if_ne (tgt := 16) hx hb d_T_haveAlikeParts_11 (by decide) (fun c5 => ?_) (fun c5 => ?_)
  · have h := ifn c5 h
    refine lv_aload_n hx hb d_T_haveAlikeParts_16 rfl (lv_at hl 1 rfl) ?_
    refine lv_aload_n hx hb d_T_haveAlikeParts_17 rfl (lv_at hl 1 rfl) ?_
    refine g_cT_firsts E I k_T_19 d_T_haveAlikeParts_18 ?_
    refine lv_iload_n hx hb d_T_haveAlikeParts_21 rfl (lv_at hl 2 rfl) ?_
    obtain ⟨b6, h⟩ := ck_some h
    refine l_cT_firsts E I b6 d_T_haveAlikeParts_22 ?_
    refine lv_aload_n hx hb d_T_haveAlikeParts_23 rfl (lv_at hl 1 rfl) ?_
    refine g_cT_firsts E I k_T_19 d_T_haveAlikeParts_24 ?_
    refine lv_iload_n hx hb d_T_haveAlikeParts_27 rfl (lv_at hl 3 rfl) ?_
    obtain ⟨b7, h⟩ := ck_some h
    refine l_cT_firsts E I b7 d_T_haveAlikeParts_28 ?_
    obtain ⟨r9, st8, h10, h⟩ := bd_some h
    refine cV (As := [.int (cT_firsts st2 x1.toNatClampNeg), .int (cT_firsts st2 x2.toNatClampNeg)]) (rest := []) E I hA (k_T_areAlike h10) g_T_65 ⟨rfl, rfl⟩ 1 rfl rfl rfl hl rfl (Nat.le_of_ble_eq_true rfl) ⟨Nat.le_of_ble_eq_true rfl, Nat.le_of_ble_eq_true rfl⟩ ⟨Nat.zero_le _, Nat.zero_le _⟩ d_T_haveAlikeParts_29 rfl (fun H locs I => ?_)
    refine lv_if_eq (tgt := 82) hx hb d_T_haveAlikeParts_32 (by decide) (fun c11 => ?_) (fun c11 => ?_)
    · have h := ifp c11 h
      refine lv_iconst (v := 0) hx hb d_T_haveAlikeParts_82 (by decide) ?_
      cases h
      exact kr _ _ _ _ I (by decide) d_T_haveAlikeParts_83
    · have h := ifn c11 h
      refine lv_aload_n hx hb d_T_haveAlikeParts_35 rfl (lv_at hl 1 rfl) ?_
      refine lv_aload_n hx hb d_T_haveAlikeParts_36 rfl (lv_at hl 1 rfl) ?_
      refine g_cT_seconds E I k_T_22 d_T_haveAlikeParts_37 ?_
      refine lv_iload_n hx hb d_T_haveAlikeParts_40 rfl (lv_at hl 2 rfl) ?_
      obtain ⟨b12, h⟩ := ck_some h
      refine l_cT_seconds E I b12 d_T_haveAlikeParts_41 ?_
      refine lv_aload_n hx hb d_T_haveAlikeParts_42 rfl (lv_at hl 1 rfl) ?_
      refine g_cT_seconds E I k_T_22 d_T_haveAlikeParts_43 ?_
      refine lv_iload_n hx hb d_T_haveAlikeParts_46 rfl (lv_at hl 3 rfl) ?_
      obtain ⟨b13, h⟩ := ck_some h
      refine l_cT_seconds E I b13 d_T_haveAlikeParts_47 ?_
      obtain ⟨r15, st14, h16, h⟩ := bd_some h
      refine cV (As := [.int (cT_seconds st8 x1.toNatClampNeg), .int (cT_seconds st8 x2.toNatClampNeg)]) (rest := []) E I hA (k_T_areAlike h16) g_T_65 ⟨rfl, rfl⟩ 1 rfl rfl rfl hl rfl (Nat.le_of_ble_eq_true rfl) ⟨Nat.le_of_ble_eq_true rfl, Nat.le_of_ble_eq_true rfl⟩ ⟨Nat.zero_le _, Nat.zero_le _⟩ d_T_haveAlikeParts_48 rfl (fun H locs I => ?_)
      refine lv_if_eq (tgt := 82) hx hb d_T_haveAlikeParts_51 (by decide) (fun c17 => ?_) (fun c17 => ?_)
      · have h := ifp c17 h
        refine lv_iconst (v := 0) hx hb d_T_haveAlikeParts_82 (by decide) ?_
        cases h
        exact kr _ _ _ _ I (by decide) d_T_haveAlikeParts_83
      · have h := ifn c17 h
        refine lv_iload_n hx hb d_T_haveAlikeParts_54 rfl (lv_at hl 0 rfl) ?_
        refine lv_iconst (v := 3) hx hb d_T_haveAlikeParts_55 (by decide) ?_
        refine lv_icmp_lt (tgt := 78) hx hb d_T_haveAlikeParts_56 (by decide) (fun c18 => ?_) (fun c18 => ?_)
        · have h := ifp c18 h
          refine lv_iconst (v := 1) hx hb d_T_haveAlikeParts_78 (by decide) ?_
          refine lv_goto (tgt := 83) hx hb d_T_haveAlikeParts_79 (by decide) ?_
          cases h
          exact kr _ _ _ _ I (by decide) d_T_haveAlikeParts_83
        · have h := ifn c18 h
          refine lv_aload_n hx hb d_T_haveAlikeParts_59 rfl (lv_at hl 1 rfl) ?_
          refine lv_aload_n hx hb d_T_haveAlikeParts_60 rfl (lv_at hl 1 rfl) ?_
          refine g_cT_thirds E I k_T_25 d_T_haveAlikeParts_61 ?_
          refine lv_iload_n hx hb d_T_haveAlikeParts_64 rfl (lv_at hl 2 rfl) ?_
          obtain ⟨b19, h⟩ := ck_some h
          refine l_cT_thirds E I b19 d_T_haveAlikeParts_65 ?_
          refine lv_aload_n hx hb d_T_haveAlikeParts_66 rfl (lv_at hl 1 rfl) ?_
          refine g_cT_thirds E I k_T_25 d_T_haveAlikeParts_67 ?_
          refine lv_iload_n hx hb d_T_haveAlikeParts_70 rfl (lv_at hl 3 rfl) ?_
          obtain ⟨b20, h⟩ := ck_some h
          refine l_cT_thirds E I b20 d_T_haveAlikeParts_71 ?_
          obtain ⟨r22, st21, h23, h⟩ := bd_some h
          refine cV (As := [.int (cT_thirds st14 x1.toNatClampNeg), .int (cT_thirds st14 x2.toNatClampNeg)]) (rest := []) E I hA (k_T_areAlike h23) g_T_65 ⟨rfl, rfl⟩ 1 rfl rfl rfl hl rfl (Nat.le_of_ble_eq_true rfl) ⟨Nat.le_of_ble_eq_true rfl, Nat.le_of_ble_eq_true rfl⟩ ⟨Nat.zero_le _, Nat.zero_le _⟩ d_T_haveAlikeParts_72 rfl (fun H locs I => ?_)
          refine lv_if_eq (tgt := 82) hx hb d_T_haveAlikeParts_75 (by decide) (fun c24 => ?_) (fun c24 => ?_)
          · have h := ifp c24 h
            refine lv_iconst (v := 0) hx hb d_T_haveAlikeParts_82 (by decide) ?_
            cases h
            exact kr _ _ _ _ I (by decide) d_T_haveAlikeParts_83
          · have h := ifn c24 h
            refine lv_iconst (v := 1) hx hb d_T_haveAlikeParts_78 (by decide) ?_
            refine lv_goto (tgt := 83) hx hb d_T_haveAlikeParts_79 (by decide) ?_
            cases h
            exact kr _ _ _ _ I (by decide) d_T_haveAlikeParts_83
  · have h := ifp c5 h
    refine lv_iconst (v := 1) hx hb d_T_haveAlikeParts_14 (by decide) ?_
    cases h
    exact kr _ _ _ _ I (by decide) d_T_haveAlikeParts_15
set_option maxHeartbeats 4000000 in
set_option maxRecDepth 100000 in
theorem k_T_haveAlikeParts {x1 : Int32} {x2 : Int32} {st t : CS} {r : Int32} (h : f_T_haveAlikeParts x1 x2 st = some (r, t)) : Cn l y_T_haveAlikeParts c_T_haveAlikeParts 4 (some .boolean) rm_T_haveAlikeParts D (tyL cs) (cwC A cs st) (cwC A cs t) [.ref (A 1), .int x1, .int x2] (some (.int r)) := by
  refine cn_intro (by decide) (Nat.le_of_ble_eq_true rfl) ?_
  intro p e s m below meth c A0 Q ls E hr hlk hA hA0 hQ I hl
  exact w_T_haveAlikeParts E hA (rt_z E hr hlk hA0 hQ) x1 x2 st _ _ _ h I (lv_sub hl [0, 1, 2] rfl)
abbrev rm_T_shapeFor : Room := { frames := 2, cells := 0, slots := 0, locals := 45 }
def f_T_shapeFor_2 : Nat → Int32 → Int32 → CS → Option (Int32 × CS)
  | 0, _, _, _ => none
  | n + 1, x1, x2, st =>
    if x1 ≤ x2 then (
      some (x1, st)
    ) else (
      ck x2 64 <|
      ck x1 64 <|
      if (cT_kinds st x2.toNatClampNeg) = (cT_kinds st x1.toNatClampNeg) then (
        ck x2 64 <|
        ck x1 64 <|
        if (cT_numbers st x2.toNatClampNeg) = (cT_numbers st x1.toNatClampNeg) then (
          bd (f_T_haveAlikeParts x2 x1 st) fun r11 st10 =>
          if r11 = 0 then (
            nx (x2 + 1) fun x2_14 =>
            f_T_shapeFor_2 n x1 x2_14 st10
          ) else (
            some (x2, st10)
          )
        ) else (
          nx (x2 + 1) fun x2_9 =>
          f_T_shapeFor_2 n x1 x2_9 st
        )
      ) else (
        nx (x2 + 1) fun x2_5 =>
        f_T_shapeFor_2 n x1 x2_5 st
      )
    )
def f_T_shapeFor (x1 : Int32) (st : CS) : Option (Int32 × CS) :=
  f_T_shapeFor_2 FU x1 (0 : Int32) st
set_option maxHeartbeats 4000000 in
set_option maxRecDepth 100000 in
theorem w_T_shapeFor_2  {r : Int32} {t : CS} (E : EC R_T c_T_shapeFor 3 p s m args c D (tyL cs)) (hA : ∀ q, H0.size ≤ q → A0 q) (kr : ∀ (H : Heap) (locs : List Loc) (pc : Nat) (ls : Array Slot), IW D (cwC A cs t) A0 H0 H locs → decode c_T_shapeFor pc = .ok (.ireturn, 1) → W p l e rm_T_shapeFor s m args below meth c H locs 0 0 Q (F0 m pc ls [.int r])) : ∀ (n : Nat), ∀ (x1 : Int32) (x2 : Int32) (st : CS) (H : Heap) (locs : List Loc) (ls : Array Slot), f_T_shapeFor_2 n x1 x2 st = some (r, t) → IW D (cwC A cs st) A0 H0 H locs → lv_has ls 3 [(0, .ref (A 1)), (1, .int x1), (2, .int x2)] → W p l e rm_T_shapeFor s m args below meth c H locs 0 0 Q (F0 m 2 ls []) := by
  intro n
  induction n with
  | zero => intro x1 x2 st H locs ls h I hl; cases h
  | succ n ih =>
    intro x1 x2 st H locs ls h I hl
    have hx := E.1
    have hb := E.2.1
    rw [f_T_shapeFor_2] at h
    refine lv_iload_n hx hb d_T_shapeFor_2 rfl (lv_at hl 2 rfl) ?_
    refine lv_iload_n hx hb d_T_shapeFor_3 rfl (lv_at hl 1 rfl) ?_
    refine lv_icmp_ge (tgt := 55) hx hb d_T_shapeFor_4 (by decide) (fun c1 => ?_) (fun c1 => ?_)
    · have h := ifp c1 h
      refine lv_iload_n hx hb d_T_shapeFor_55 rfl (lv_at hl 1 rfl) ?_
      cases h
      exact kr _ _ _ _ I d_T_shapeFor_56
    · have h := ifn c1 h
      refine lv_aload_n hx hb d_T_shapeFor_7 rfl (lv_at hl 0 rfl) ?_
      refine g_cT_kinds E I k_T_9 d_T_shapeFor_8 ?_
      refine lv_iload_n hx hb d_T_shapeFor_11 rfl (lv_at hl 2 rfl) ?_
      obtain ⟨b2, h⟩ := ck_some h
      refine l_cT_kinds E I b2 d_T_shapeFor_12 ?_
      refine lv_aload_n hx hb d_T_shapeFor_13 rfl (lv_at hl 0 rfl) ?_
      refine g_cT_kinds E I k_T_9 d_T_shapeFor_14 ?_
      refine lv_iload_n hx hb d_T_shapeFor_17 rfl (lv_at hl 1 rfl) ?_
      obtain ⟨b3, h⟩ := ck_some h
      refine l_cT_kinds E I b3 d_T_shapeFor_18 ?_
      refine lv_icmp_ne (tgt := 49) hx hb d_T_shapeFor_19 (by decide) (fun c4 => ?_) (fun c4 => ?_)
      · have h := ifn c4 h
        obtain ⟨x2_5, ex2_5⟩ : ∃ y : Int32, y = (x2 + 1) := ⟨_, rfl⟩
        have h := nx_k ex2_5 h
        refine lv_iinc (v := x2_5) (lv' := [(2, .int x2_5), (0, .ref (A 1)), (1, .int x1)]) hx hb d_T_shapeFor_49 hl (k := 2) rfl (by rw [ex2_5]; rfl) (by decide) rfl (fun ls hl => ?_)
        refine lv_goto (tgt := 2) hx hb d_T_shapeFor_52 (by decide) ?_
        exact ih x1 x2_5 st _ _ _ h I (lv_sub hl [1, 2, 0] rfl)
      · have h := ifp c4 h
        refine lv_aload_n hx hb d_T_shapeFor_22 rfl (lv_at hl 0 rfl) ?_
        refine g_cT_numbers E I k_T_15 d_T_shapeFor_23 ?_
        refine lv_iload_n hx hb d_T_shapeFor_26 rfl (lv_at hl 2 rfl) ?_
        obtain ⟨b6, h⟩ := ck_some h
        refine l_cT_numbers E I b6 d_T_shapeFor_27 ?_
        refine lv_aload_n hx hb d_T_shapeFor_28 rfl (lv_at hl 0 rfl) ?_
        refine g_cT_numbers E I k_T_15 d_T_shapeFor_29 ?_
        refine lv_iload_n hx hb d_T_shapeFor_32 rfl (lv_at hl 1 rfl) ?_
        obtain ⟨b7, h⟩ := ck_some h
        refine l_cT_numbers E I b7 d_T_shapeFor_33 ?_
        refine W.lcmp hx hb d_T_shapeFor_34 ?_
        refine lv_if_ne (tgt := 49) hx hb d_T_shapeFor_35 (by decide) (fun c8 => ?_) (fun c8 => ?_)
        · have c8 := mt (lg_cmp_eq _ _).mpr c8
          have h := ifn c8 h
          obtain ⟨x2_9, ex2_9⟩ : ∃ y : Int32, y = (x2 + 1) := ⟨_, rfl⟩
          have h := nx_k ex2_9 h
          refine lv_iinc (v := x2_9) (lv' := [(2, .int x2_9), (0, .ref (A 1)), (1, .int x1)]) hx hb d_T_shapeFor_49 hl (k := 2) rfl (by rw [ex2_9]; rfl) (by decide) rfl (fun ls hl => ?_)
          refine lv_goto (tgt := 2) hx hb d_T_shapeFor_52 (by decide) ?_
          exact ih x1 x2_9 st _ _ _ h I (lv_sub hl [1, 2, 0] rfl)
        · have c8 := (lg_cmp_eq _ _).mp c8
          have h := ifp c8 h
          refine lv_aload_n hx hb d_T_shapeFor_38 rfl (lv_at hl 0 rfl) ?_
          refine lv_iload_n hx hb d_T_shapeFor_39 rfl (lv_at hl 2 rfl) ?_
          refine lv_iload_n hx hb d_T_shapeFor_40 rfl (lv_at hl 1 rfl) ?_
          obtain ⟨r11, st10, h12, h⟩ := bd_some h
          refine cV (As := [.int x2, .int x1]) (rest := []) E I hA (k_T_haveAlikeParts h12) g_T_61 ⟨rfl, rfl⟩ 1 rfl rfl rfl hl rfl (Nat.le_of_ble_eq_true rfl) ⟨Nat.le_of_ble_eq_true rfl, Nat.le_of_ble_eq_true rfl⟩ ⟨Nat.zero_le _, Nat.zero_le _⟩ d_T_shapeFor_41 rfl (fun H locs I => ?_)
          refine lv_if_eq (tgt := 49) hx hb d_T_shapeFor_44 (by decide) (fun c13 => ?_) (fun c13 => ?_)
          · have h := ifp c13 h
            obtain ⟨x2_14, ex2_14⟩ : ∃ y : Int32, y = (x2 + 1) := ⟨_, rfl⟩
            have h := nx_k ex2_14 h
            refine lv_iinc (v := x2_14) (lv' := [(2, .int x2_14), (0, .ref (A 1)), (1, .int x1)]) hx hb d_T_shapeFor_49 hl (k := 2) rfl (by rw [ex2_14]; rfl) (by decide) rfl (fun ls hl => ?_)
            refine lv_goto (tgt := 2) hx hb d_T_shapeFor_52 (by decide) ?_
            exact ih x1 x2_14 st10 _ _ _ h I (lv_sub hl [1, 2, 0] rfl)
          · have h := ifn c13 h
            refine lv_iload_n hx hb d_T_shapeFor_47 rfl (lv_at hl 2 rfl) ?_
            cases h
            exact kr _ _ _ _ I d_T_shapeFor_48
set_option maxHeartbeats 4000000 in
set_option maxRecDepth 100000 in
theorem w_T_shapeFor  {r : Int32} {t : CS} (E : EC R_T c_T_shapeFor 3 p s m args c D (tyL cs)) (hA : ∀ q, H0.size ≤ q → A0 q) (kr : ∀ (H : Heap) (locs : List Loc) (pc : Nat) (ls : Array Slot), IW D (cwC A cs t) A0 H0 H locs → decode c_T_shapeFor pc = .ok (.ireturn, 1) → W p l e rm_T_shapeFor s m args below meth c H locs 0 0 Q (F0 m pc ls [.int r])) : ∀ (x1 : Int32) (st : CS) (H : Heap) (locs : List Loc) (ls : Array Slot), f_T_shapeFor x1 st = some (r, t) → IW D (cwC A cs st) A0 H0 H locs → lv_has ls 3 [(0, .ref (A 1)), (1, .int x1)] → W p l e rm_T_shapeFor s m args below meth c H locs 0 0 Q (F0 m 0 ls []) := by
  intro x1 st H locs ls h I hl
  have hx := E.1
  have hb := E.2.1
  rw [f_T_shapeFor] at h
  refine lv_iconst (v := 0) hx hb d_T_shapeFor_0 (by decide) ?_
  refine lv_istore_n (lv' := [(2, .int (0 : Int32)), (0, .ref (A 1)), (1, .int x1)]) hx hb d_T_shapeFor_1 rfl hl (by decide) rfl (fun ls hl => ?_)
  exact w_T_shapeFor_2 E hA kr FU x1 (0 : Int32) st _ _ _ h I (lv_sub hl [1, 2, 0] rfl)
set_option maxHeartbeats 4000000 in
set_option maxRecDepth 100000 in
theorem k_T_shapeFor {x1 : Int32} {st t : CS} {r : Int32} (h : f_T_shapeFor x1 st = some (r, t)) : Cn l y_T_shapeFor c_T_shapeFor 3 (some .int) rm_T_shapeFor D (tyL cs) (cwC A cs st) (cwC A cs t) [.ref (A 1), .int x1] (some (.int r)) := by
  refine cn_intro (by decide) (Nat.le_of_ble_eq_true rfl) ?_
  intro p e s m below meth c A0 Q ls E hr hlk hA hA0 hQ I hl
  exact w_T_shapeFor E hA (rt_i E hr hlk hA0 hQ) x1 st _ _ _ h I (lv_sub hl [0, 1] rfl)
abbrev rm_T_grow : Room := { frames := 3, cells := 0, slots := 0, locals := 67 }
def f_T_grow_142 (x7 : Int32) (s1 : Int32) (s2 : Int32) (st : CS) : Option (Int32 × CS) :=
  ck s1 64 <|
  nx (s_cT_thirds st s1.toNatClampNeg s2) fun st2 =>
  bd (f_T_shapeFor x7 st2) fun r4 st3 =>
  ck x7 64 <|
  nx (s_cT_shapes st3 x7.toNatClampNeg r4) fun st7 =>
  some (x7, st7)
def f_T_grow_123 (x5 : Int32) (x6 : Int32) (x7 : Int32) (s1 : Int32) (s2 : Int32) (st : CS) : Option (Int32 × CS) :=
  ck s1 64 <|
  nx (s_cT_seconds st s1.toNatClampNeg s2) fun st9 =>
  if x6 ≤ (2 : Int32) then (
    f_T_grow_142 x7 x7 (-1 : Int32) st9
  ) else (
    f_T_grow_142 x7 x7 x5 st9
  )
def f_T_grow_105 (x4 : Int32) (x5 : Int32) (x6 : Int32) (x7 : Int32) (s1 : Int32) (s2 : Int32) (st : CS) : Option (Int32 × CS) :=
  ck s1 64 <|
  nx (s_cT_firsts st s1.toNatClampNeg s2) fun st12 =>
  if x6 ≤ 0 then (
    f_T_grow_123 x5 x6 x7 x7 (-1 : Int32) st12
  ) else (
    f_T_grow_123 x5 x6 x7 x7 x4 st12
  )
def f_T_grow_87 (x2 : Int64) (x4 : Int32) (x5 : Int32) (x6 : Int32) (x7 : Int32) (s1 : Int32) (s2 : Int64) (st : CS) : Option (Int32 × CS) :=
  ck s1 64 <|
  nx (s_cT_numbers st s1.toNatClampNeg s2) fun st15 =>
  if x6 ≤ 0 then (
    f_T_grow_105 x4 x5 x6 x7 x7 (-1 : Int32) st15
  ) else (
    f_T_grow_105 x4 x5 x6 x7 x7 (x2.toInt32) st15
  )
def f_T_grow_48 (x1 : Int32) (x2 : Int64) (x4 : Int32) (x5 : Int32) (x6 : Int32) (st : CS) : Option (Int32 × CS) :=
  nx (cT_size st) fun x7_17 =>
  nx (s_cT_size st ((cT_size st) + (1 : Int32))) fun st18 =>
  ck x7_17 64 <|
  nx (s_cT_kinds st18 x7_17.toNatClampNeg x1) fun st20 =>
  if x1 = 0 then (
    f_T_grow_87 x2 x4 x5 x6 x7_17 x7_17 x2 st20
  ) else (
    f_T_grow_87 x2 x4 x5 x6 x7_17 x7_17 (0 : Int64) st20
  )
def f_T_grow (x1 : Int32) (x2 : Int64) (x4 : Int32) (x5 : Int32) (st : CS) : Option (Int32 × CS) :=
  if (64 : Int32) ≤ (cT_size st) then (
    some ((-1 : Int32), st)
  ) else (
    if x1 < 0 then (
      some ((-1 : Int32), st)
    ) else (
      if x1 ≤ (9 : Int32) then (
        bd (f_T_partCount x1 st) fun r26 st25 =>
        if r26 ≤ 0 then (
          f_T_grow_48 x1 x2 x4 x5 r26 st25
        ) else (
          bd (f_T_areEarlier r26 x2 x4 x5 st25) fun r30 st29 =>
          if r30 = 0 then (
            some ((-1 : Int32), st29)
          ) else (
            f_T_grow_48 x1 x2 x4 x5 r26 st29
          )
        )
      ) else (
        some ((-1 : Int32), st)
      )
    )
  )
set_option maxHeartbeats 4000000 in
set_option maxRecDepth 100000 in
theorem w_T_grow_142  {r : Int32} {t : CS} (E : EC R_T c_T_grow 8 p s m args c D (tyL cs)) (hA : ∀ q, H0.size ≤ q → A0 q) (kr : ∀ (H : Heap) (locs : List Loc) (pc : Nat) (ls : Array Slot), IW D (cwC A cs t) A0 H0 H locs → decode c_T_grow pc = .ok (.ireturn, 1) → W p l e rm_T_grow s m args below meth c H locs 0 0 Q (F0 m pc ls [.int r])) : ∀ (x7 : Int32) (s1 : Int32) (s2 : Int32) (st : CS) (H : Heap) (locs : List Loc) (ls : Array Slot), f_T_grow_142 x7 s1 s2 st = some (r, t) → IW D (cwC A cs st) A0 H0 H locs → lv_has ls 8 [(0, .ref (A 1)), (7, .int x7)] → W p l e rm_T_grow s m args below meth c H locs 0 0 Q (F0 m 142 ls [.int s2, .int s1, .ref (A 11)]) := by
  intro x7 s1 s2 st H locs ls h I hl
  have hx := E.1
  have hb := E.2.1
  rw [f_T_grow_142] at h
  obtain ⟨b1, h⟩ := ck_some h
  obtain ⟨st2, est2⟩ : ∃ y : CS, y = (s_cT_thirds st s1.toNatClampNeg s2) := ⟨_, rfl⟩
  have h := nx_k est2 h
  refine p_cT_thirds E I b1 est2 d_T_grow_142 (fun H locs I => ?_)
  refine lv_aload_n hx hb d_T_grow_143 rfl (lv_at hl 0 rfl) ?_
  refine g_cT_shapes E I k_T_28 d_T_grow_144 ?_
  refine lv_iload hx hb d_T_grow_147 (lv_at hl 1 rfl) ?_
  refine lv_aload_n hx hb d_T_grow_149 rfl (lv_at hl 0 rfl) ?_
  refine lv_iload hx hb d_T_grow_150 (lv_at hl 1 rfl) ?_
  obtain ⟨r4, st3, h5, h⟩ := bd_some h
  refine cV (As := [.int x7]) (rest := [.int x7, .ref (A 12)]) E I hA (k_T_shapeFor h5) g_T_46 ⟨rfl, rfl⟩ 1 rfl rfl rfl hl rfl (Nat.le_of_ble_eq_true rfl) ⟨Nat.le_of_ble_eq_true rfl, Nat.le_of_ble_eq_true rfl⟩ ⟨Nat.zero_le _, Nat.zero_le _⟩ d_T_grow_152 rfl (fun H locs I => ?_)
  obtain ⟨b6, h⟩ := ck_some h
  obtain ⟨st7, est7⟩ : ∃ y : CS, y = (s_cT_shapes st3 x7.toNatClampNeg r4) := ⟨_, rfl⟩
  have h := nx_k est7 h
  refine p_cT_shapes E I b6 est7 d_T_grow_155 (fun H locs I => ?_)
  refine lv_iload hx hb d_T_grow_156 (lv_at hl 1 rfl) ?_
  cases h
  exact kr _ _ _ _ I d_T_grow_158
set_option maxHeartbeats 4000000 in
set_option maxRecDepth 100000 in
theorem w_T_grow_123  {r : Int32} {t : CS} (E : EC R_T c_T_grow 8 p s m args c D (tyL cs)) (hA : ∀ q, H0.size ≤ q → A0 q) (kr : ∀ (H : Heap) (locs : List Loc) (pc : Nat) (ls : Array Slot), IW D (cwC A cs t) A0 H0 H locs → decode c_T_grow pc = .ok (.ireturn, 1) → W p l e rm_T_grow s m args below meth c H locs 0 0 Q (F0 m pc ls [.int r])) : ∀ (x5 : Int32) (x6 : Int32) (x7 : Int32) (s1 : Int32) (s2 : Int32) (st : CS) (H : Heap) (locs : List Loc) (ls : Array Slot), f_T_grow_123 x5 x6 x7 s1 s2 st = some (r, t) → IW D (cwC A cs st) A0 H0 H locs → lv_has ls 8 [(0, .ref (A 1)), (5, .int x5), (6, .int x6), (7, .int x7)] → W p l e rm_T_grow s m args below meth c H locs 0 0 Q (F0 m 123 ls [.int s2, .int s1, .ref (A 10)]) := by
  intro x5 x6 x7 s1 s2 st H locs ls h I hl
  have hx := E.1
  have hb := E.2.1
  rw [f_T_grow_123] at h
  obtain ⟨b8, h⟩ := ck_some h
  obtain ⟨st9, est9⟩ : ∃ y : CS, y = (s_cT_seconds st s1.toNatClampNeg s2) := ⟨_, rfl⟩
  have h := nx_k est9 h
  refine p_cT_seconds E I b8 est9 d_T_grow_123 (fun H locs I => ?_)
  refine lv_aload_n hx hb d_T_grow_124 rfl (lv_at hl 0 rfl) ?_
  refine g_cT_thirds E I k_T_25 d_T_grow_125 ?_
  refine lv_iload hx hb d_T_grow_128 (lv_at hl 3 rfl) ?_
  refine lv_iload hx hb d_T_grow_130 (lv_at hl 2 rfl) ?_
  refine lv_iconst (v := 2) hx hb d_T_grow_132 (by decide) ?_
  refine lv_icmp_le (tgt := 141) hx hb d_T_grow_133 (by decide) (fun c10 => ?_) (fun c10 => ?_)
  · have h := ifp c10 h
    refine lv_iconst (v := -1) hx hb d_T_grow_141 (by decide) ?_
    exact w_T_grow_142 E hA kr x7 x7 (-1 : Int32) st9 _ _ _ h I (lv_sub hl [0, 3] rfl)
  · have h := ifn c10 h
    refine lv_iload hx hb d_T_grow_136 (lv_at hl 1 rfl) ?_
    refine lv_goto (tgt := 142) hx hb d_T_grow_138 (by decide) ?_
    exact w_T_grow_142 E hA kr x7 x7 x5 st9 _ _ _ h I (lv_sub hl [0, 3] rfl)
set_option maxHeartbeats 4000000 in
set_option maxRecDepth 100000 in
theorem w_T_grow_105  {r : Int32} {t : CS} (E : EC R_T c_T_grow 8 p s m args c D (tyL cs)) (hA : ∀ q, H0.size ≤ q → A0 q) (kr : ∀ (H : Heap) (locs : List Loc) (pc : Nat) (ls : Array Slot), IW D (cwC A cs t) A0 H0 H locs → decode c_T_grow pc = .ok (.ireturn, 1) → W p l e rm_T_grow s m args below meth c H locs 0 0 Q (F0 m pc ls [.int r])) : ∀ (x4 : Int32) (x5 : Int32) (x6 : Int32) (x7 : Int32) (s1 : Int32) (s2 : Int32) (st : CS) (H : Heap) (locs : List Loc) (ls : Array Slot), f_T_grow_105 x4 x5 x6 x7 s1 s2 st = some (r, t) → IW D (cwC A cs st) A0 H0 H locs → lv_has ls 8 [(0, .ref (A 1)), (4, .int x4), (5, .int x5), (6, .int x6), (7, .int x7)] → W p l e rm_T_grow s m args below meth c H locs 0 0 Q (F0 m 105 ls [.int s2, .int s1, .ref (A 9)]) := by
  intro x4 x5 x6 x7 s1 s2 st H locs ls h I hl
  have hx := E.1
  have hb := E.2.1
  rw [f_T_grow_105] at h
  obtain ⟨b11, h⟩ := ck_some h
  obtain ⟨st12, est12⟩ : ∃ y : CS, y = (s_cT_firsts st s1.toNatClampNeg s2) := ⟨_, rfl⟩
  have h := nx_k est12 h
  refine p_cT_firsts E I b11 est12 d_T_grow_105 (fun H locs I => ?_)
  refine lv_aload_n hx hb d_T_grow_106 rfl (lv_at hl 0 rfl) ?_
  refine g_cT_seconds E I k_T_22 d_T_grow_107 ?_
  refine lv_iload hx hb d_T_grow_110 (lv_at hl 4 rfl) ?_
  refine lv_iload hx hb d_T_grow_112 (lv_at hl 3 rfl) ?_
  refine lv_if_le (tgt := 122) hx hb d_T_grow_114 (by decide) (fun c13 => ?_) (fun c13 => ?_)
  · have h := ifp c13 h
    refine lv_iconst (v := -1) hx hb d_T_grow_122 (by decide) ?_
    exact w_T_grow_123 E hA kr x5 x6 x7 x7 (-1 : Int32) st12 _ _ _ h I (lv_sub hl [0, 2, 3, 4] rfl)
  · have h := ifn c13 h
    refine lv_iload hx hb d_T_grow_117 (lv_at hl 1 rfl) ?_
    refine lv_goto (tgt := 123) hx hb d_T_grow_119 (by decide) ?_
    exact w_T_grow_123 E hA kr x5 x6 x7 x7 x4 st12 _ _ _ h I (lv_sub hl [0, 2, 3, 4] rfl)
set_option maxHeartbeats 4000000 in
set_option maxRecDepth 100000 in
theorem w_T_grow_87  {r : Int32} {t : CS} (E : EC R_T c_T_grow 8 p s m args c D (tyL cs)) (hA : ∀ q, H0.size ≤ q → A0 q) (kr : ∀ (H : Heap) (locs : List Loc) (pc : Nat) (ls : Array Slot), IW D (cwC A cs t) A0 H0 H locs → decode c_T_grow pc = .ok (.ireturn, 1) → W p l e rm_T_grow s m args below meth c H locs 0 0 Q (F0 m pc ls [.int r])) : ∀ (x2 : Int64) (x4 : Int32) (x5 : Int32) (x6 : Int32) (x7 : Int32) (s1 : Int32) (s2 : Int64) (st : CS) (H : Heap) (locs : List Loc) (ls : Array Slot), f_T_grow_87 x2 x4 x5 x6 x7 s1 s2 st = some (r, t) → IW D (cwC A cs st) A0 H0 H locs → lv_has ls 8 [(0, .ref (A 1)), (2, .long x2), (4, .int x4), (5, .int x5), (6, .int x6), (7, .int x7)] → W p l e rm_T_grow s m args below meth c H locs 0 0 Q (F0 m 87 ls [.long s2, .int s1, .ref (A 8)]) := by
  intro x2 x4 x5 x6 x7 s1 s2 st H locs ls h I hl
  have hx := E.1
  have hb := E.2.1
  rw [f_T_grow_87] at h
  obtain ⟨b14, h⟩ := ck_some h
  obtain ⟨st15, est15⟩ : ∃ y : CS, y = (s_cT_numbers st s1.toNatClampNeg s2) := ⟨_, rfl⟩
  have h := nx_k est15 h
  refine p_cT_numbers E I b14 est15 d_T_grow_87 (fun H locs I => ?_)
  refine lv_aload_n hx hb d_T_grow_88 rfl (lv_at hl 0 rfl) ?_
  refine g_cT_firsts E I k_T_19 d_T_grow_89 ?_
  refine lv_iload hx hb d_T_grow_92 (lv_at hl 5 rfl) ?_
  refine lv_iload hx hb d_T_grow_94 (lv_at hl 4 rfl) ?_
  refine lv_if_le (tgt := 104) hx hb d_T_grow_96 (by decide) (fun c16 => ?_) (fun c16 => ?_)
  · have h := ifp c16 h
    refine lv_iconst (v := -1) hx hb d_T_grow_104 (by decide) ?_
    exact w_T_grow_105 E hA kr x4 x5 x6 x7 x7 (-1 : Int32) st15 _ _ _ h I (lv_sub hl [0, 2, 3, 4, 5] rfl)
  · have h := ifn c16 h
    refine lv_lload_n hx hb d_T_grow_99 rfl (lv_at hl 1 rfl) ?_
    refine lv_l2i hx hb d_T_grow_100 rfl ?_
    refine lv_goto (tgt := 105) hx hb d_T_grow_101 (by decide) ?_
    exact w_T_grow_105 E hA kr x4 x5 x6 x7 x7 (x2.toInt32) st15 _ _ _ h I (lv_sub hl [0, 2, 3, 4, 5] rfl)
set_option maxHeartbeats 4000000 in
set_option maxRecDepth 100000 in
theorem w_T_grow_48  {r : Int32} {t : CS} (E : EC R_T c_T_grow 8 p s m args c D (tyL cs)) (hA : ∀ q, H0.size ≤ q → A0 q) (kr : ∀ (H : Heap) (locs : List Loc) (pc : Nat) (ls : Array Slot), IW D (cwC A cs t) A0 H0 H locs → decode c_T_grow pc = .ok (.ireturn, 1) → W p l e rm_T_grow s m args below meth c H locs 0 0 Q (F0 m pc ls [.int r])) : ∀ (x1 : Int32) (x2 : Int64) (x4 : Int32) (x5 : Int32) (x6 : Int32) (st : CS) (H : Heap) (locs : List Loc) (ls : Array Slot), f_T_grow_48 x1 x2 x4 x5 x6 st = some (r, t) → IW D (cwC A cs st) A0 H0 H locs → lv_has ls 8 [(0, .ref (A 1)), (1, .int x1), (2, .long x2), (4, .int x4), (5, .int x5), (6, .int x6)] → W p l e rm_T_grow s m args below meth c H locs 0 0 Q (F0 m 48 ls []) := by
  intro x1 x2 x4 x5 x6 st H locs ls h I hl
  have hx := E.1
  have hb := E.2.1
  rw [f_T_grow_48] at h
  refine lv_aload_n hx hb d_T_grow_48 rfl (lv_at hl 0 rfl) ?_
  refine g_cT_size E I k_T_34 d_T_grow_49 ?_
  refine lv_topi (fun x7_17 ex7_17 => ?_)
  have h := nx_k ex7_17 h
  refine lv_istore (lv' := [(7, .int x7_17), (0, .ref (A 1)), (1, .int x1), (2, .long x2), (4, .int x4), (5, .int x5), (6, .int x6)]) hx hb d_T_grow_52 hl (by decide) rfl (fun ls hl => ?_)
  refine lv_aload_n hx hb d_T_grow_54 rfl (lv_at hl 1 rfl) ?_
  refine lv_dup hx hb d_T_grow_55 rfl ?_
  refine g_cT_size E I k_T_34 d_T_grow_56 ?_
  refine lv_iconst (v := 1) hx hb d_T_grow_59 (by decide) ?_
  refine lv_iadd hx hb d_T_grow_60 ?_
  obtain ⟨st18, est18⟩ : ∃ y : CS, y = (s_cT_size st ((cT_size st) + (1 : Int32))) := ⟨_, rfl⟩
  have h := nx_k est18 h
  refine p_cT_size E I est18 k_T_34 d_T_grow_61 (fun H locs I => ?_)
  refine lv_aload_n hx hb d_T_grow_64 rfl (lv_at hl 1 rfl) ?_
  refine g_cT_kinds E I k_T_9 d_T_grow_65 ?_
  refine lv_iload hx hb d_T_grow_68 (lv_at hl 0 rfl) ?_
  refine lv_iload_n hx hb d_T_grow_70 rfl (lv_at hl 2 rfl) ?_
  obtain ⟨b19, h⟩ := ck_some h
  obtain ⟨st20, est20⟩ : ∃ y : CS, y = (s_cT_kinds st18 x7_17.toNatClampNeg x1) := ⟨_, rfl⟩
  have h := nx_k est20 h
  refine p_cT_kinds E I b19 est20 d_T_grow_71 (fun H locs I => ?_)
  refine lv_aload_n hx hb d_T_grow_72 rfl (lv_at hl 1 rfl) ?_
  refine g_cT_numbers E I k_T_15 d_T_grow_73 ?_
  refine lv_iload hx hb d_T_grow_76 (lv_at hl 0 rfl) ?_
  refine lv_iload_n hx hb d_T_grow_78 rfl (lv_at hl 2 rfl) ?_
  refine lv_if_ne (tgt := 86) hx hb d_T_grow_79 (by decide) (fun c21 => ?_) (fun c21 => ?_)
  · have h := ifn c21 h
    refine lv_lconst (v := 0) hx hb d_T_grow_86 (by decide) ?_
    exact w_T_grow_87 E hA kr x2 x4 x5 x6 x7_17 x7_17 (0 : Int64) st20 _ _ _ h I (lv_sub hl [1, 3, 4, 5, 6, 0] rfl)
  · have h := ifp c21 h
    refine lv_lload_n hx hb d_T_grow_82 rfl (lv_at hl 3 rfl) ?_
    refine lv_goto (tgt := 87) hx hb d_T_grow_83 (by decide) ?_
    exact w_T_grow_87 E hA kr x2 x4 x5 x6 x7_17 x7_17 x2 st20 _ _ _ h I (lv_sub hl [1, 3, 4, 5, 6, 0] rfl)
set_option maxHeartbeats 4000000 in
set_option maxRecDepth 100000 in
theorem w_T_grow  {r : Int32} {t : CS} (E : EC R_T c_T_grow 8 p s m args c D (tyL cs)) (hA : ∀ q, H0.size ≤ q → A0 q) (kr : ∀ (H : Heap) (locs : List Loc) (pc : Nat) (ls : Array Slot), IW D (cwC A cs t) A0 H0 H locs → decode c_T_grow pc = .ok (.ireturn, 1) → W p l e rm_T_grow s m args below meth c H locs 0 0 Q (F0 m pc ls [.int r])) : ∀ (x1 : Int32) (x2 : Int64) (x4 : Int32) (x5 : Int32) (st : CS) (H : Heap) (locs : List Loc) (ls : Array Slot), f_T_grow x1 x2 x4 x5 st = some (r, t) → IW D (cwC A cs st) A0 H0 H locs → lv_has ls 8 [(0, .ref (A 1)), (1, .int x1), (2, .long x2), (4, .int x4), (5, .int x5)] → W p l e rm_T_grow s m args below meth c H locs 0 0 Q (F0 m 0 ls []) := by
  intro x1 x2 x4 x5 st H locs ls h I hl
  have hx := E.1
  have hb := E.2.1
  rw [f_T_grow] at h
  refine lv_aload_n hx hb d_T_grow_0 rfl (lv_at hl 0 rfl) ?_
  refine g_cT_size E I k_T_34 d_T_grow_1 ?_
  refine lv_bipush (v := 64) hx hb d_T_grow_4 (by decide) ?_
  refine lv_icmp_ge (tgt := 19) hx hb d_T_grow_6 (by decide) (fun c22 => ?_) (fun c22 => ?_)
  · have h := ifp c22 h
    refine lv_iconst (v := -1) hx hb d_T_grow_19 (by decide) ?_
    cases h
    exact kr _ _ _ _ I d_T_grow_20
  · have h := ifn c22 h
    refine lv_iload_n hx hb d_T_grow_9 rfl (lv_at hl 1 rfl) ?_
    refine lv_if_lt (tgt := 19) hx hb d_T_grow_10 (by decide) (fun c23 => ?_) (fun c23 => ?_)
    · have h := ifp c23 h
      refine lv_iconst (v := -1) hx hb d_T_grow_19 (by decide) ?_
      cases h
      exact kr _ _ _ _ I d_T_grow_20
    · have h := ifn c23 h
      refine lv_iload_n hx hb d_T_grow_13 rfl (lv_at hl 1 rfl) ?_
      refine lv_bipush (v := 9) hx hb d_T_grow_14 (by decide) ?_
      refine lv_icmp_le (tgt := 21) hx hb d_T_grow_16 (by decide) (fun c24 => ?_) (fun c24 => ?_)
      · have h := ifp c24 h
        refine lv_iload_n hx hb d_T_grow_21 rfl (lv_at hl 1 rfl) ?_
        obtain ⟨r26, st25, h27, h⟩ := bd_some h
        refine cS (As := [.int x1]) (rest := []) E I hA (k_T_partCount h27) g_T_38 ⟨rfl, rfl⟩ rfl hl rfl (Nat.le_of_ble_eq_true rfl) ⟨Nat.le_of_ble_eq_true rfl, Nat.le_of_ble_eq_true rfl⟩ ⟨Nat.zero_le _, Nat.zero_le _⟩ d_T_grow_22 rfl (fun H locs I => ?_)
        refine lv_istore (lv' := [(6, .int r26), (0, .ref (A 1)), (1, .int x1), (2, .long x2), (4, .int x4), (5, .int x5)]) hx hb d_T_grow_25 hl (by decide) rfl (fun ls hl => ?_)
        refine lv_iload hx hb d_T_grow_27 (lv_at hl 0 rfl) ?_
        refine lv_if_le (tgt := 48) hx hb d_T_grow_29 (by decide) (fun c28 => ?_) (fun c28 => ?_)
        · have h := ifp c28 h
          exact w_T_grow_48 E hA kr x1 x2 x4 x5 r26 st25 _ _ _ h I (lv_sub hl [1, 2, 3, 4, 5, 0] rfl)
        · have h := ifn c28 h
          refine lv_aload_n hx hb d_T_grow_32 rfl (lv_at hl 1 rfl) ?_
          refine lv_iload hx hb d_T_grow_33 (lv_at hl 0 rfl) ?_
          refine lv_lload_n hx hb d_T_grow_35 rfl (lv_at hl 3 rfl) ?_
          refine lv_iload hx hb d_T_grow_36 (lv_at hl 4 rfl) ?_
          refine lv_iload hx hb d_T_grow_38 (lv_at hl 5 rfl) ?_
          obtain ⟨r30, st29, h31, h⟩ := bd_some h
          refine cV (As := [.int r26, .long x2, .int x4, .int x5]) (rest := []) E I hA (k_T_areEarlier h31) g_T_42 ⟨rfl, rfl⟩ 1 rfl rfl rfl hl rfl (Nat.le_of_ble_eq_true rfl) ⟨Nat.le_of_ble_eq_true rfl, Nat.le_of_ble_eq_true rfl⟩ ⟨Nat.zero_le _, Nat.zero_le _⟩ d_T_grow_40 rfl (fun H locs I => ?_)
          refine lv_if_ne (tgt := 48) hx hb d_T_grow_43 (by decide) (fun c32 => ?_) (fun c32 => ?_)
          · have h := ifn c32 h
            exact w_T_grow_48 E hA kr x1 x2 x4 x5 r26 st29 _ _ _ h I (lv_sub hl [1, 2, 3, 4, 5, 0] rfl)
          · have h := ifp c32 h
            refine lv_iconst (v := -1) hx hb d_T_grow_46 (by decide) ?_
            cases h
            exact kr _ _ _ _ I d_T_grow_47
      · have h := ifn c24 h
        refine lv_iconst (v := -1) hx hb d_T_grow_19 (by decide) ?_
        cases h
        exact kr _ _ _ _ I d_T_grow_20
set_option maxHeartbeats 4000000 in
set_option maxRecDepth 100000 in
theorem k_T_grow {x1 : Int32} {x2 : Int64} {x4 : Int32} {x5 : Int32} {st t : CS} {r : Int32} (h : f_T_grow x1 x2 x4 x5 st = some (r, t)) : Cn l y_T_grow c_T_grow 8 (some .int) rm_T_grow D (tyL cs) (cwC A cs st) (cwC A cs t) [.ref (A 1), .int x1, .long x2, .int x4, .int x5] (some (.int r)) := by
  refine cn_intro (by decide) (Nat.le_of_ble_eq_true rfl) ?_
  intro p e s m below meth c A0 Q ls E hr hlk hA hA0 hQ I hl
  exact w_T_grow E hA (rt_i E hr hlk hA0 hQ) x1 x2 x4 x5 st _ _ _ h I (lv_sub hl [0, 1, 2, 3, 4] rfl)
abbrev rm_M_node : Room := { frames := 4, cells := 0, slots := 0, locals := 94 }
def f_M_node (x1 : Int32) (x2 : Int64) (x4 : Int32) (x5 : Int32) (st : CS) : Option (Int32 × CS) :=
  bd (f_T_grow x1 x2 x4 x5 st) fun r2 st1 =>
  some (r2, st1)
set_option maxHeartbeats 4000000 in
set_option maxRecDepth 100000 in
theorem w_M_node  {r : Int32} {t : CS} (E : EC R_M c_M_node 6 p s m args c D (tyL cs)) (hA : ∀ q, H0.size ≤ q → A0 q) (kr : ∀ (H : Heap) (locs : List Loc) (pc : Nat) (ls : Array Slot), IW D (cwC A cs t) A0 H0 H locs → decode c_M_node pc = .ok (.ireturn, 1) → W p l e rm_M_node s m args below meth c H locs 0 0 Q (F0 m pc ls [.int r])) : ∀ (x1 : Int32) (x2 : Int64) (x4 : Int32) (x5 : Int32) (st : CS) (H : Heap) (locs : List Loc) (ls : Array Slot), f_M_node x1 x2 x4 x5 st = some (r, t) → IW D (cwC A cs st) A0 H0 H locs → lv_has ls 6 [(0, .ref (A 0)), (1, .int x1), (2, .long x2), (4, .int x4), (5, .int x5)] → W p l e rm_M_node s m args below meth c H locs 0 0 Q (F0 m 0 ls []) := by
  intro x1 x2 x4 x5 st H locs ls h I hl
  have hx := E.1
  have hb := E.2.1
  rw [f_M_node] at h
  refine lv_aload_n hx hb d_M_node_0 rfl (lv_at hl 0 rfl) ?_
  refine g_cM_trees E I k_M_10 d_M_node_1 ?_
  refine lv_iload_n hx hb d_M_node_4 rfl (lv_at hl 1 rfl) ?_
  refine lv_lload_n hx hb d_M_node_5 rfl (lv_at hl 2 rfl) ?_
  refine lv_iload hx hb d_M_node_6 (lv_at hl 3 rfl) ?_
  refine lv_iload hx hb d_M_node_8 (lv_at hl 4 rfl) ?_
  obtain ⟨r2, st1, h3, h⟩ := bd_some h
  refine cV (As := [.int x1, .long x2, .int x4, .int x5]) (rest := []) E I hA (k_T_grow h3) g_M_48 ⟨rfl, rfl⟩ 1 rfl rfl rfl hl rfl (Nat.le_of_ble_eq_true rfl) ⟨Nat.le_of_ble_eq_true rfl, Nat.le_of_ble_eq_true rfl⟩ ⟨Nat.zero_le _, Nat.zero_le _⟩ d_M_node_10 rfl (fun H locs I => ?_)
  cases h
  exact kr _ _ _ _ I d_M_node_13
set_option maxHeartbeats 4000000 in
set_option maxRecDepth 100000 in
theorem k_M_node {x1 : Int32} {x2 : Int64} {x4 : Int32} {x5 : Int32} {st t : CS} {r : Int32} (h : f_M_node x1 x2 x4 x5 st = some (r, t)) : Cn l y_M_node c_M_node 6 (some .int) rm_M_node D (tyL cs) (cwC A cs st) (cwC A cs t) [.ref (A 0), .int x1, .long x2, .int x4, .int x5] (some (.int r)) := by
  refine cn_intro (by decide) (Nat.le_of_ble_eq_true rfl) ?_
  intro p e s m below meth c A0 Q ls E hr hlk hA hA0 hQ I hl
  exact w_M_node E hA (rt_i E hr hlk hA0 hQ) x1 x2 x4 x5 st _ _ _ h I (lv_sub hl [0, 1, 2, 3, 4] rfl)
abbrev rm_M_bit : Room := { frames := 0, cells := 0, slots := 0, locals := 0 }
def f_M_bit (x0 : Int32) (st : CS) : Option (Int64 × CS) :=
  some (((1 : Int64) <<< (x0.toInt64 &&& 63)), st)
set_option maxHeartbeats 4000000 in
set_option maxRecDepth 100000 in
theorem w_M_bit  {r : Int64} {t : CS} (E : EC R_M c_M_bit 1 p s m args c D (tyL cs)) (hA : ∀ q, H0.size ≤ q → A0 q) (kr : ∀ (H : Heap) (locs : List Loc) (pc : Nat) (ls : Array Slot), IW D (cwC A cs t) A0 H0 H locs → decode c_M_bit pc = .ok (.lreturn, 1) → W p l e rm_M_bit s m args below meth c H locs 0 0 Q (F0 m pc ls [.long r])) : ∀ (x0 : Int32) (st : CS) (H : Heap) (locs : List Loc) (ls : Array Slot), f_M_bit x0 st = some (r, t) → IW D (cwC A cs st) A0 H0 H locs → lv_has ls 1 [(0, .int x0)] → W p l e rm_M_bit s m args below meth c H locs 0 0 Q (F0 m 0 ls []) := by
  intro x0 st H locs ls h I hl
  have hx := E.1
  have hb := E.2.1
  rw [f_M_bit] at h
  refine lv_lconst (v := 1) hx hb d_M_bit_0 (by decide) ?_
  refine lv_iload_n hx hb d_M_bit_1 rfl (lv_at hl 0 rfl) ?_
  refine lv_lshl hx hb d_M_bit_2 rfl ?_
  cases h
  exact kr _ _ _ _ I d_M_bit_3
set_option maxHeartbeats 4000000 in
set_option maxRecDepth 100000 in
theorem k_M_bit {x0 : Int32} {st t : CS} {r : Int64} (h : f_M_bit x0 st = some (r, t)) : Cn l y_M_bit c_M_bit 1 (some .long) rm_M_bit D (tyL cs) (cwC A cs st) (cwC A cs t) [.int x0] (some (.long r)) := by
  refine cn_intro (by decide) (Nat.le_of_ble_eq_true rfl) ?_
  intro p e s m below meth c A0 Q ls E hr hlk hA hA0 hQ I hl
  exact w_M_bit E hA (rt_l E hr hlk hA0 hQ) x0 st _ _ _ h I (lv_sub hl [0] rfl)
abbrev rm_T_kindOf : Room := { frames := 0, cells := 0, slots := 0, locals := 0 }
def f_T_kindOf (x1 : Int32) (st : CS) : Option (Int32 × CS) :=
  ck x1 64 <|
  some ((cT_kinds st x1.toNatClampNeg), st)
set_option maxHeartbeats 4000000 in
set_option maxRecDepth 100000 in
theorem w_T_kindOf  {r : Int32} {t : CS} (E : EC R_T c_T_kindOf 2 p s m args c D (tyL cs)) (hA : ∀ q, H0.size ≤ q → A0 q) (kr : ∀ (H : Heap) (locs : List Loc) (pc : Nat) (ls : Array Slot), IW D (cwC A cs t) A0 H0 H locs → decode c_T_kindOf pc = .ok (.ireturn, 1) → W p l e rm_T_kindOf s m args below meth c H locs 0 0 Q (F0 m pc ls [.int r])) : ∀ (x1 : Int32) (st : CS) (H : Heap) (locs : List Loc) (ls : Array Slot), f_T_kindOf x1 st = some (r, t) → IW D (cwC A cs st) A0 H0 H locs → lv_has ls 2 [(0, .ref (A 1)), (1, .int x1)] → W p l e rm_T_kindOf s m args below meth c H locs 0 0 Q (F0 m 0 ls []) := by
  intro x1 st H locs ls h I hl
  have hx := E.1
  have hb := E.2.1
  rw [f_T_kindOf] at h
  refine lv_aload_n hx hb d_T_kindOf_0 rfl (lv_at hl 0 rfl) ?_
  refine g_cT_kinds E I k_T_9 d_T_kindOf_1 ?_
  refine lv_iload_n hx hb d_T_kindOf_4 rfl (lv_at hl 1 rfl) ?_
  obtain ⟨b1, h⟩ := ck_some h
  refine l_cT_kinds E I b1 d_T_kindOf_5 ?_
  cases h
  exact kr _ _ _ _ I d_T_kindOf_6
set_option maxHeartbeats 4000000 in
set_option maxRecDepth 100000 in
theorem k_T_kindOf {x1 : Int32} {st t : CS} {r : Int32} (h : f_T_kindOf x1 st = some (r, t)) : Cn l y_T_kindOf c_T_kindOf 2 (some .int) rm_T_kindOf D (tyL cs) (cwC A cs st) (cwC A cs t) [.ref (A 1), .int x1] (some (.int r)) := by
  refine cn_intro (by decide) (Nat.le_of_ble_eq_true rfl) ?_
  intro p e s m below meth c A0 Q ls E hr hlk hA hA0 hQ I hl
  exact w_T_kindOf E hA (rt_i E hr hlk hA0 hQ) x1 st _ _ _ h I (lv_sub hl [0, 1] rfl)
abbrev rm_T_numberOf : Room := { frames := 0, cells := 0, slots := 0, locals := 0 }
def f_T_numberOf (x1 : Int32) (st : CS) : Option (Int64 × CS) :=
  ck x1 64 <|
  some ((cT_numbers st x1.toNatClampNeg), st)
set_option maxHeartbeats 4000000 in
set_option maxRecDepth 100000 in
theorem w_T_numberOf  {r : Int64} {t : CS} (E : EC R_T c_T_numberOf 2 p s m args c D (tyL cs)) (hA : ∀ q, H0.size ≤ q → A0 q) (kr : ∀ (H : Heap) (locs : List Loc) (pc : Nat) (ls : Array Slot), IW D (cwC A cs t) A0 H0 H locs → decode c_T_numberOf pc = .ok (.lreturn, 1) → W p l e rm_T_numberOf s m args below meth c H locs 0 0 Q (F0 m pc ls [.long r])) : ∀ (x1 : Int32) (st : CS) (H : Heap) (locs : List Loc) (ls : Array Slot), f_T_numberOf x1 st = some (r, t) → IW D (cwC A cs st) A0 H0 H locs → lv_has ls 2 [(0, .ref (A 1)), (1, .int x1)] → W p l e rm_T_numberOf s m args below meth c H locs 0 0 Q (F0 m 0 ls []) := by
  intro x1 st H locs ls h I hl
  have hx := E.1
  have hb := E.2.1
  rw [f_T_numberOf] at h
  refine lv_aload_n hx hb d_T_numberOf_0 rfl (lv_at hl 0 rfl) ?_
  refine g_cT_numbers E I k_T_15 d_T_numberOf_1 ?_
  refine lv_iload_n hx hb d_T_numberOf_4 rfl (lv_at hl 1 rfl) ?_
  obtain ⟨b1, h⟩ := ck_some h
  refine l_cT_numbers E I b1 d_T_numberOf_5 ?_
  cases h
  exact kr _ _ _ _ I d_T_numberOf_6
set_option maxHeartbeats 4000000 in
set_option maxRecDepth 100000 in
theorem k_T_numberOf {x1 : Int32} {st t : CS} {r : Int64} (h : f_T_numberOf x1 st = some (r, t)) : Cn l y_T_numberOf c_T_numberOf 2 (some .long) rm_T_numberOf D (tyL cs) (cwC A cs st) (cwC A cs t) [.ref (A 1), .int x1] (some (.long r)) := by
  refine cn_intro (by decide) (Nat.le_of_ble_eq_true rfl) ?_
  intro p e s m below meth c A0 Q ls E hr hlk hA hA0 hQ I hl
  exact w_T_numberOf E hA (rt_l E hr hlk hA0 hQ) x1 st _ _ _ h I (lv_sub hl [0, 1] rfl)
abbrev rm_T_firstOf : Room := { frames := 0, cells := 0, slots := 0, locals := 0 }
def f_T_firstOf (x1 : Int32) (st : CS) : Option (Int32 × CS) :=
  ck x1 64 <|
  some ((cT_firsts st x1.toNatClampNeg), st)
set_option maxHeartbeats 4000000 in
set_option maxRecDepth 100000 in
theorem w_T_firstOf  {r : Int32} {t : CS} (E : EC R_T c_T_firstOf 2 p s m args c D (tyL cs)) (hA : ∀ q, H0.size ≤ q → A0 q) (kr : ∀ (H : Heap) (locs : List Loc) (pc : Nat) (ls : Array Slot), IW D (cwC A cs t) A0 H0 H locs → decode c_T_firstOf pc = .ok (.ireturn, 1) → W p l e rm_T_firstOf s m args below meth c H locs 0 0 Q (F0 m pc ls [.int r])) : ∀ (x1 : Int32) (st : CS) (H : Heap) (locs : List Loc) (ls : Array Slot), f_T_firstOf x1 st = some (r, t) → IW D (cwC A cs st) A0 H0 H locs → lv_has ls 2 [(0, .ref (A 1)), (1, .int x1)] → W p l e rm_T_firstOf s m args below meth c H locs 0 0 Q (F0 m 0 ls []) := by
  intro x1 st H locs ls h I hl
  have hx := E.1
  have hb := E.2.1
  rw [f_T_firstOf] at h
  refine lv_aload_n hx hb d_T_firstOf_0 rfl (lv_at hl 0 rfl) ?_
  refine g_cT_firsts E I k_T_19 d_T_firstOf_1 ?_
  refine lv_iload_n hx hb d_T_firstOf_4 rfl (lv_at hl 1 rfl) ?_
  obtain ⟨b1, h⟩ := ck_some h
  refine l_cT_firsts E I b1 d_T_firstOf_5 ?_
  cases h
  exact kr _ _ _ _ I d_T_firstOf_6
set_option maxHeartbeats 4000000 in
set_option maxRecDepth 100000 in
theorem k_T_firstOf {x1 : Int32} {st t : CS} {r : Int32} (h : f_T_firstOf x1 st = some (r, t)) : Cn l y_T_firstOf c_T_firstOf 2 (some .int) rm_T_firstOf D (tyL cs) (cwC A cs st) (cwC A cs t) [.ref (A 1), .int x1] (some (.int r)) := by
  refine cn_intro (by decide) (Nat.le_of_ble_eq_true rfl) ?_
  intro p e s m below meth c A0 Q ls E hr hlk hA hA0 hQ I hl
  exact w_T_firstOf E hA (rt_i E hr hlk hA0 hQ) x1 st _ _ _ h I (lv_sub hl [0, 1] rfl)
abbrev rm_T_secondOf : Room := { frames := 0, cells := 0, slots := 0, locals := 0 }
def f_T_secondOf (x1 : Int32) (st : CS) : Option (Int32 × CS) :=
  ck x1 64 <|
  some ((cT_seconds st x1.toNatClampNeg), st)
set_option maxHeartbeats 4000000 in
set_option maxRecDepth 100000 in
theorem w_T_secondOf  {r : Int32} {t : CS} (E : EC R_T c_T_secondOf 2 p s m args c D (tyL cs)) (hA : ∀ q, H0.size ≤ q → A0 q) (kr : ∀ (H : Heap) (locs : List Loc) (pc : Nat) (ls : Array Slot), IW D (cwC A cs t) A0 H0 H locs → decode c_T_secondOf pc = .ok (.ireturn, 1) → W p l e rm_T_secondOf s m args below meth c H locs 0 0 Q (F0 m pc ls [.int r])) : ∀ (x1 : Int32) (st : CS) (H : Heap) (locs : List Loc) (ls : Array Slot), f_T_secondOf x1 st = some (r, t) → IW D (cwC A cs st) A0 H0 H locs → lv_has ls 2 [(0, .ref (A 1)), (1, .int x1)] → W p l e rm_T_secondOf s m args below meth c H locs 0 0 Q (F0 m 0 ls []) := by
  intro x1 st H locs ls h I hl
  have hx := E.1
  have hb := E.2.1
  rw [f_T_secondOf] at h
  refine lv_aload_n hx hb d_T_secondOf_0 rfl (lv_at hl 0 rfl) ?_
  refine g_cT_seconds E I k_T_22 d_T_secondOf_1 ?_
  refine lv_iload_n hx hb d_T_secondOf_4 rfl (lv_at hl 1 rfl) ?_
  obtain ⟨b1, h⟩ := ck_some h
  refine l_cT_seconds E I b1 d_T_secondOf_5 ?_
  cases h
  exact kr _ _ _ _ I d_T_secondOf_6
set_option maxHeartbeats 4000000 in
set_option maxRecDepth 100000 in
theorem k_T_secondOf {x1 : Int32} {st t : CS} {r : Int32} (h : f_T_secondOf x1 st = some (r, t)) : Cn l y_T_secondOf c_T_secondOf 2 (some .int) rm_T_secondOf D (tyL cs) (cwC A cs st) (cwC A cs t) [.ref (A 1), .int x1] (some (.int r)) := by
  refine cn_intro (by decide) (Nat.le_of_ble_eq_true rfl) ?_
  intro p e s m below meth c A0 Q ls E hr hlk hA hA0 hQ I hl
  exact w_T_secondOf E hA (rt_i E hr hlk hA0 hQ) x1 st _ _ _ h I (lv_sub hl [0, 1] rfl)
abbrev rm_T_thirdOf : Room := { frames := 0, cells := 0, slots := 0, locals := 0 }
def f_T_thirdOf (x1 : Int32) (st : CS) : Option (Int32 × CS) :=
  ck x1 64 <|
  some ((cT_thirds st x1.toNatClampNeg), st)
set_option maxHeartbeats 4000000 in
set_option maxRecDepth 100000 in
theorem w_T_thirdOf  {r : Int32} {t : CS} (E : EC R_T c_T_thirdOf 2 p s m args c D (tyL cs)) (hA : ∀ q, H0.size ≤ q → A0 q) (kr : ∀ (H : Heap) (locs : List Loc) (pc : Nat) (ls : Array Slot), IW D (cwC A cs t) A0 H0 H locs → decode c_T_thirdOf pc = .ok (.ireturn, 1) → W p l e rm_T_thirdOf s m args below meth c H locs 0 0 Q (F0 m pc ls [.int r])) : ∀ (x1 : Int32) (st : CS) (H : Heap) (locs : List Loc) (ls : Array Slot), f_T_thirdOf x1 st = some (r, t) → IW D (cwC A cs st) A0 H0 H locs → lv_has ls 2 [(0, .ref (A 1)), (1, .int x1)] → W p l e rm_T_thirdOf s m args below meth c H locs 0 0 Q (F0 m 0 ls []) := by
  intro x1 st H locs ls h I hl
  have hx := E.1
  have hb := E.2.1
  rw [f_T_thirdOf] at h
  refine lv_aload_n hx hb d_T_thirdOf_0 rfl (lv_at hl 0 rfl) ?_
  refine g_cT_thirds E I k_T_25 d_T_thirdOf_1 ?_
  refine lv_iload_n hx hb d_T_thirdOf_4 rfl (lv_at hl 1 rfl) ?_
  obtain ⟨b1, h⟩ := ck_some h
  refine l_cT_thirds E I b1 d_T_thirdOf_5 ?_
  cases h
  exact kr _ _ _ _ I d_T_thirdOf_6
set_option maxHeartbeats 4000000 in
set_option maxRecDepth 100000 in
theorem k_T_thirdOf {x1 : Int32} {st t : CS} {r : Int32} (h : f_T_thirdOf x1 st = some (r, t)) : Cn l y_T_thirdOf c_T_thirdOf 2 (some .int) rm_T_thirdOf D (tyL cs) (cwC A cs st) (cwC A cs t) [.ref (A 1), .int x1] (some (.int r)) := by
  refine cn_intro (by decide) (Nat.le_of_ble_eq_true rfl) ?_
  intro p e s m below meth c A0 Q ls E hr hlk hA hA0 hQ I hl
  exact w_T_thirdOf E hA (rt_i E hr hlk hA0 hQ) x1 st _ _ _ h I (lv_sub hl [0, 1] rfl)
def f_K_worthOfChoice_42 (fw : Int32 → CS → Option (Int64 × CS)) (x1 : Int32) (s0 : Int32) (st : CS) : Option (Int64 × CS) :=
  if s0 = 0 then (
    bd (f_T_thirdOf x1 st) fun r3 st2 =>
    bd (fw r3 st2) fun r6 st5 =>
    some (r6, st5)
  ) else (
    bd (f_T_secondOf x1 st) fun r9 st8 =>
    bd (fw r9 st8) fun r12 st11 =>
    some (r12, st11)
  )
def f_K_worthOfChoice_22 (fw : Int32 → CS → Option (Int64 × CS)) (x1 : Int32) (x2 : Int32) (s0 : Int32) (st : CS) : Option (Int64 × CS) :=
  if x2 = (3 : Int32) then (
    if s0 = (1 : Int32) then (
      f_K_worthOfChoice_42 fw x1 (0 : Int32) st
    ) else (
      f_K_worthOfChoice_42 fw x1 (1 : Int32) st
    )
  ) else (
    if s0 = (0 : Int32) then (
      f_K_worthOfChoice_42 fw x1 (0 : Int32) st
    ) else (
      f_K_worthOfChoice_42 fw x1 (1 : Int32) st
    )
  )
def f_K_worthOfChoice (fw : Int32 → CS → Option (Int64 × CS)) (x1 : Int32) (x2 : Int32) (st : CS) : Option (Int64 × CS) :=
  bd (f_T_firstOf x1 st) fun r18 st17 =>
  bd (fw r18 st17) fun r21 st20 =>
  if r21 = (0 : Int64) then (
    f_K_worthOfChoice_22 fw x1 x2 (0 : Int32) st20
  ) else (
    f_K_worthOfChoice_22 fw x1 x2 (1 : Int32) st20
  )
set_option maxHeartbeats 4000000 in
set_option maxRecDepth 100000 in
theorem w_K_worthOfChoice_42  {d : Nat} {fw : Int32 → CS → Option (Int64 × CS)} (hfw : ∀ (x1 : Int32) (st : CS) (r : Int64) (t : CS), fw x1 st = some (r, t) → Cn l y_K_worth c_K_worth 4 (some .long) (rm_K_worth d) D (tyL cs) (cwC A cs st) (cwC A cs t) [.ref (A 3), .int x1] (some (.long r))) {r : Int64} {t : CS} (E : EC R_K c_K_worthOfChoice 5 p s m args c D (tyL cs)) (hA : ∀ q, H0.size ≤ q → A0 q) (kr : ∀ (H : Heap) (locs : List Loc) (pc : Nat) (ls : Array Slot), IW D (cwC A cs t) A0 H0 H locs → decode c_K_worthOfChoice pc = .ok (.lreturn, 1) → W p l e (rm_K_worthOfChoice d) s m args below meth c H locs 0 0 Q (F0 m pc ls [.long r])) : ∀ (x1 : Int32) (s0 : Int32) (st : CS) (H : Heap) (locs : List Loc) (ls : Array Slot), f_K_worthOfChoice_42 fw x1 s0 st = some (r, t) → IW D (cwC A cs st) A0 H0 H locs → lv_has ls 5 [(0, .ref (A 3)), (1, .int x1)] → W p l e (rm_K_worthOfChoice d) s m args below meth c H locs 0 0 Q (F0 m 42 ls [.int s0]) := by
  intro x1 s0 st H locs ls h I hl
  have hx := E.1
  have hb := E.2.1
  rw [f_K_worthOfChoice_42] at h
  refine lv_istore (lv' := [(4, .int s0), (0, .ref (A 3)), (1, .int x1)]) hx hb d_K_worthOfChoice_42 hl (by decide) rfl (fun ls hl => ?_)
  refine lv_aload_n hx hb d_K_worthOfChoice_44 rfl (lv_at hl 1 rfl) ?_
  refine lv_iload hx hb d_K_worthOfChoice_45 (lv_at hl 0 rfl) ?_
  refine lv_if_eq (tgt := 61) hx hb d_K_worthOfChoice_47 (by decide) (fun c1 => ?_) (fun c1 => ?_)
  · have h := ifp c1 h
    refine lv_aload_n hx hb d_K_worthOfChoice_61 rfl (lv_at hl 1 rfl) ?_
    refine g_cK_trees E I k_K_9 d_K_worthOfChoice_62 ?_
    refine lv_iload_n hx hb d_K_worthOfChoice_65 rfl (lv_at hl 2 rfl) ?_
    obtain ⟨r3, st2, h4, h⟩ := bd_some h
    refine cV (As := [.int x1]) (rest := [.ref (A 3)]) E I hA (k_T_thirdOf h4) g_K_75 ⟨rfl, rfl⟩ 1 rfl rfl rfl hl rfl (Nat.le_of_ble_eq_true rfl) ⟨by dsimp only [rm_K_worth, rm_K_worthOfChoice, rm_K_worthOfLoop, rm_K_worthOfTwo]; omega, by dsimp only [rm_K_worth, rm_K_worthOfChoice, rm_K_worthOfLoop, rm_K_worthOfTwo]; omega⟩ ⟨Nat.zero_le _, Nat.zero_le _⟩ d_K_worthOfChoice_66 rfl (fun H locs I => ?_)
    obtain ⟨r6, st5, h7, h⟩ := bd_some h
    refine cV (As := [.int r3]) (rest := []) E I hA (hfw _ _ _ _ h7) g_K_42 ⟨rfl, rfl⟩ 3 rfl rfl rfl hl rfl (Nat.le_of_ble_eq_true rfl) ⟨by dsimp only [rm_K_worth, rm_K_worthOfChoice, rm_K_worthOfLoop, rm_K_worthOfTwo]; omega, by dsimp only [rm_K_worth, rm_K_worthOfChoice, rm_K_worthOfLoop, rm_K_worthOfTwo]; omega⟩ ⟨Nat.zero_le _, Nat.zero_le _⟩ d_K_worthOfChoice_69 rfl (fun H locs I => ?_)
    cases h
    exact kr _ _ _ _ I d_K_worthOfChoice_72
  · have h := ifn c1 h
    refine lv_aload_n hx hb d_K_worthOfChoice_50 rfl (lv_at hl 1 rfl) ?_
    refine g_cK_trees E I k_K_9 d_K_worthOfChoice_51 ?_
    refine lv_iload_n hx hb d_K_worthOfChoice_54 rfl (lv_at hl 2 rfl) ?_
    obtain ⟨r9, st8, h10, h⟩ := bd_some h
    refine cV (As := [.int x1]) (rest := [.ref (A 3)]) E I hA (k_T_secondOf h10) g_K_72 ⟨rfl, rfl⟩ 1 rfl rfl rfl hl rfl (Nat.le_of_ble_eq_true rfl) ⟨by dsimp only [rm_K_worth, rm_K_worthOfChoice, rm_K_worthOfLoop, rm_K_worthOfTwo]; omega, by dsimp only [rm_K_worth, rm_K_worthOfChoice, rm_K_worthOfLoop, rm_K_worthOfTwo]; omega⟩ ⟨Nat.zero_le _, Nat.zero_le _⟩ d_K_worthOfChoice_55 rfl (fun H locs I => ?_)
    refine lv_goto (tgt := 69) hx hb d_K_worthOfChoice_58 (by decide) ?_
    obtain ⟨r12, st11, h13, h⟩ := bd_some h
    refine cV (As := [.int r9]) (rest := []) E I hA (hfw _ _ _ _ h13) g_K_42 ⟨rfl, rfl⟩ 3 rfl rfl rfl hl rfl (Nat.le_of_ble_eq_true rfl) ⟨by dsimp only [rm_K_worth, rm_K_worthOfChoice, rm_K_worthOfLoop, rm_K_worthOfTwo]; omega, by dsimp only [rm_K_worth, rm_K_worthOfChoice, rm_K_worthOfLoop, rm_K_worthOfTwo]; omega⟩ ⟨Nat.zero_le _, Nat.zero_le _⟩ d_K_worthOfChoice_69 rfl (fun H locs I => ?_)
    cases h
    exact kr _ _ _ _ I d_K_worthOfChoice_72
set_option maxHeartbeats 4000000 in
set_option maxRecDepth 100000 in
theorem w_K_worthOfChoice_22  {d : Nat} {fw : Int32 → CS → Option (Int64 × CS)} (hfw : ∀ (x1 : Int32) (st : CS) (r : Int64) (t : CS), fw x1 st = some (r, t) → Cn l y_K_worth c_K_worth 4 (some .long) (rm_K_worth d) D (tyL cs) (cwC A cs st) (cwC A cs t) [.ref (A 3), .int x1] (some (.long r))) {r : Int64} {t : CS} (E : EC R_K c_K_worthOfChoice 5 p s m args c D (tyL cs)) (hA : ∀ q, H0.size ≤ q → A0 q) (kr : ∀ (H : Heap) (locs : List Loc) (pc : Nat) (ls : Array Slot), IW D (cwC A cs t) A0 H0 H locs → decode c_K_worthOfChoice pc = .ok (.lreturn, 1) → W p l e (rm_K_worthOfChoice d) s m args below meth c H locs 0 0 Q (F0 m pc ls [.long r])) : ∀ (x1 : Int32) (x2 : Int32) (s0 : Int32) (st : CS) (H : Heap) (locs : List Loc) (ls : Array Slot), f_K_worthOfChoice_22 fw x1 x2 s0 st = some (r, t) → IW D (cwC A cs st) A0 H0 H locs → lv_has ls 5 [(0, .ref (A 3)), (1, .int x1), (2, .int x2)] → W p l e (rm_K_worthOfChoice d) s m args below meth c H locs 0 0 Q (F0 m 22 ls [.int s0]) := by
  intro x1 x2 s0 st H locs ls h I hl
  have hx := E.1
  have hb := E.2.1
  rw [f_K_worthOfChoice_22] at h
  refine lv_istore_n (lv' := [(3, .int s0), (0, .ref (A 3)), (1, .int x1), (2, .int x2)]) hx hb d_K_worthOfChoice_22 rfl hl (by decide) rfl (fun ls hl => ?_)
  refine lv_iload_n hx hb d_K_worthOfChoice_23 rfl (lv_at hl 0 rfl) ?_
  refine lv_iload_n hx hb d_K_worthOfChoice_24 rfl (lv_at hl 3 rfl) ?_
  refine lv_iconst (v := 3) hx hb d_K_worthOfChoice_25 (by decide) ?_
  refine lv_icmp_ne (tgt := 33) hx hb d_K_worthOfChoice_26 (by decide) (fun c14 => ?_) (fun c14 => ?_)
  · have h := ifn c14 h
    refine lv_iconst (v := 0) hx hb d_K_worthOfChoice_33 (by decide) ?_
    refine lv_icmp_eq (tgt := 41) hx hb d_K_worthOfChoice_34 (by decide) (fun c15 => ?_) (fun c15 => ?_)
    · have h := ifp c15 h
      refine lv_iconst (v := 0) hx hb d_K_worthOfChoice_41 (by decide) ?_
      exact w_K_worthOfChoice_42 hfw E hA kr x1 (0 : Int32) st _ _ _ h I (lv_sub hl [1, 2] rfl)
    · have h := ifn c15 h
      refine lv_iconst (v := 1) hx hb d_K_worthOfChoice_37 (by decide) ?_
      refine lv_goto (tgt := 42) hx hb d_K_worthOfChoice_38 (by decide) ?_
      exact w_K_worthOfChoice_42 hfw E hA kr x1 (1 : Int32) st _ _ _ h I (lv_sub hl [1, 2] rfl)
  · have h := ifp c14 h
    refine lv_iconst (v := 1) hx hb d_K_worthOfChoice_29 (by decide) ?_
    refine lv_goto (tgt := 34) hx hb d_K_worthOfChoice_30 (by decide) ?_
    refine lv_icmp_eq (tgt := 41) hx hb d_K_worthOfChoice_34 (by decide) (fun c16 => ?_) (fun c16 => ?_)
    · have h := ifp c16 h
      refine lv_iconst (v := 0) hx hb d_K_worthOfChoice_41 (by decide) ?_
      exact w_K_worthOfChoice_42 hfw E hA kr x1 (0 : Int32) st _ _ _ h I (lv_sub hl [1, 2] rfl)
    · have h := ifn c16 h
      refine lv_iconst (v := 1) hx hb d_K_worthOfChoice_37 (by decide) ?_
      refine lv_goto (tgt := 42) hx hb d_K_worthOfChoice_38 (by decide) ?_
      exact w_K_worthOfChoice_42 hfw E hA kr x1 (1 : Int32) st _ _ _ h I (lv_sub hl [1, 2] rfl)
set_option maxHeartbeats 4000000 in
set_option maxRecDepth 100000 in
theorem w_K_worthOfChoice  {d : Nat} {fw : Int32 → CS → Option (Int64 × CS)} (hfw : ∀ (x1 : Int32) (st : CS) (r : Int64) (t : CS), fw x1 st = some (r, t) → Cn l y_K_worth c_K_worth 4 (some .long) (rm_K_worth d) D (tyL cs) (cwC A cs st) (cwC A cs t) [.ref (A 3), .int x1] (some (.long r))) {r : Int64} {t : CS} (E : EC R_K c_K_worthOfChoice 5 p s m args c D (tyL cs)) (hA : ∀ q, H0.size ≤ q → A0 q) (kr : ∀ (H : Heap) (locs : List Loc) (pc : Nat) (ls : Array Slot), IW D (cwC A cs t) A0 H0 H locs → decode c_K_worthOfChoice pc = .ok (.lreturn, 1) → W p l e (rm_K_worthOfChoice d) s m args below meth c H locs 0 0 Q (F0 m pc ls [.long r])) : ∀ (x1 : Int32) (x2 : Int32) (st : CS) (H : Heap) (locs : List Loc) (ls : Array Slot), f_K_worthOfChoice fw x1 x2 st = some (r, t) → IW D (cwC A cs st) A0 H0 H locs → lv_has ls 5 [(0, .ref (A 3)), (1, .int x1), (2, .int x2)] → W p l e (rm_K_worthOfChoice d) s m args below meth c H locs 0 0 Q (F0 m 0 ls []) := by
  intro x1 x2 st H locs ls h I hl
  have hx := E.1
  have hb := E.2.1
  rw [f_K_worthOfChoice] at h
  refine lv_aload_n hx hb d_K_worthOfChoice_0 rfl (lv_at hl 0 rfl) ?_
  refine lv_aload_n hx hb d_K_worthOfChoice_1 rfl (lv_at hl 0 rfl) ?_
  refine g_cK_trees E I k_K_9 d_K_worthOfChoice_2 ?_
  refine lv_iload_n hx hb d_K_worthOfChoice_5 rfl (lv_at hl 1 rfl) ?_
  obtain ⟨r18, st17, h19, h⟩ := bd_some h
  refine cV (As := [.int x1]) (rest := [.ref (A 3)]) E I hA (k_T_firstOf h19) g_K_69 ⟨rfl, rfl⟩ 1 rfl rfl rfl hl rfl (Nat.le_of_ble_eq_true rfl) ⟨by dsimp only [rm_K_worth, rm_K_worthOfChoice, rm_K_worthOfLoop, rm_K_worthOfTwo]; omega, by dsimp only [rm_K_worth, rm_K_worthOfChoice, rm_K_worthOfLoop, rm_K_worthOfTwo]; omega⟩ ⟨Nat.zero_le _, Nat.zero_le _⟩ d_K_worthOfChoice_6 rfl (fun H locs I => ?_)
  obtain ⟨r21, st20, h22, h⟩ := bd_some h
  refine cV (As := [.int r18]) (rest := []) E I hA (hfw _ _ _ _ h22) g_K_42 ⟨rfl, rfl⟩ 3 rfl rfl rfl hl rfl (Nat.le_of_ble_eq_true rfl) ⟨by dsimp only [rm_K_worth, rm_K_worthOfChoice, rm_K_worthOfLoop, rm_K_worthOfTwo]; omega, by dsimp only [rm_K_worth, rm_K_worthOfChoice, rm_K_worthOfLoop, rm_K_worthOfTwo]; omega⟩ ⟨Nat.zero_le _, Nat.zero_le _⟩ d_K_worthOfChoice_9 rfl (fun H locs I => ?_)
  refine lv_lconst (v := 0) hx hb d_K_worthOfChoice_12 (by decide) ?_
  refine W.lcmp hx hb d_K_worthOfChoice_13 ?_
  refine lv_if_eq (tgt := 21) hx hb d_K_worthOfChoice_14 (by decide) (fun c23 => ?_) (fun c23 => ?_)
  · have c23 := (lg_cmp_eq _ _).mp c23
    have h := ifp c23 h
    refine lv_iconst (v := 0) hx hb d_K_worthOfChoice_21 (by decide) ?_
    exact w_K_worthOfChoice_22 hfw E hA kr x1 x2 (0 : Int32) st20 _ _ _ h I (lv_sub hl [0, 1, 2] rfl)
  · have c23 := mt (lg_cmp_eq _ _).mpr c23
    have h := ifn c23 h
    refine lv_iconst (v := 1) hx hb d_K_worthOfChoice_17 (by decide) ?_
    refine lv_goto (tgt := 22) hx hb d_K_worthOfChoice_18 (by decide) ?_
    exact w_K_worthOfChoice_22 hfw E hA kr x1 x2 (1 : Int32) st20 _ _ _ h I (lv_sub hl [0, 1, 2] rfl)
set_option maxHeartbeats 4000000 in
set_option maxRecDepth 100000 in
theorem k_K_worthOfChoice {d : Nat} {fw : Int32 → CS → Option (Int64 × CS)} (hfw : ∀ (x1 : Int32) (st : CS) (r : Int64) (t : CS), fw x1 st = some (r, t) → Cn l y_K_worth c_K_worth 4 (some .long) (rm_K_worth d) D (tyL cs) (cwC A cs st) (cwC A cs t) [.ref (A 3), .int x1] (some (.long r))) {x1 : Int32} {x2 : Int32} {st t : CS} {r : Int64} (h : f_K_worthOfChoice fw x1 x2 st = some (r, t)) : Cn l y_K_worthOfChoice c_K_worthOfChoice 5 (some .long) (rm_K_worthOfChoice d) D (tyL cs) (cwC A cs st) (cwC A cs t) [.ref (A 3), .int x1, .int x2] (some (.long r)) := by
  refine cn_intro (by decide) (Nat.le_of_ble_eq_true rfl) ?_
  intro p e s m below meth c A0 Q ls E hr hlk hA hA0 hQ I hl
  exact w_K_worthOfChoice hfw E hA (rt_l E hr hlk hA0 hQ) x1 x2 st _ _ _ h I (lv_sub hl [0, 1, 2] rfl)
def f_K_worthOfLoop_27 (fw : Int32 → CS → Option (Int64 × CS)) : Nat → Int32 → Int64 → Int64 → Int32 → CS → Option (Int64 × CS)
  | 0, _, _, _, _, _ => none
  | n + 1, x1, x2, x4, x6, st =>
    if (cK_bound st) ≤ x6 then (
      nx (cK_acc st) fun x6_2 =>
      nx (s_cK_acc st x2) fun st3 =>
      some (x6_2, st3)
    ) else (
      if (cK_cut st) = 0 then (
        if x4 ≤ (cK_acc st) then (
          nx (cK_acc st) fun x6_8 =>
          nx (s_cK_acc st x2) fun st9 =>
          some (x6_8, st9)
        ) else (
          bd (f_T_secondOf x1 st) fun r11 st10 =>
          bd (fw r11 st10) fun r14 st13 =>
          nx (s_cK_acc st13 r14) fun st16 =>
          bd (f_T_firstOf x1 st16) fun r18 st17 =>
          bd (fw r18 st17) fun r21 st20 =>
          nx (x6 + 1) fun x6_23 =>
          f_K_worthOfLoop_27 fw n x1 x2 r21 x6_23 st20
        )
      ) else (
        nx (cK_acc st) fun x6_5 =>
        nx (s_cK_acc st x2) fun st6 =>
        some (x6_5, st6)
      )
    )
def f_K_worthOfLoop (fw : Int32 → CS → Option (Int64 × CS)) (x1 : Int32) (st : CS) : Option (Int64 × CS) :=
  nx (cK_acc st) fun x2_24 =>
  nx (s_cK_acc st (0 : Int64)) fun st25 =>
  bd (f_T_firstOf x1 st25) fun r27 st26 =>
  bd (fw r27 st26) fun r30 st29 =>
  f_K_worthOfLoop_27 fw FU x1 x2_24 r30 (0 : Int32) st29
set_option maxHeartbeats 4000000 in
set_option maxRecDepth 100000 in
theorem w_K_worthOfLoop_27  {d : Nat} {fw : Int32 → CS → Option (Int64 × CS)} (hfw : ∀ (x1 : Int32) (st : CS) (r : Int64) (t : CS), fw x1 st = some (r, t) → Cn l y_K_worth c_K_worth 4 (some .long) (rm_K_worth d) D (tyL cs) (cwC A cs st) (cwC A cs t) [.ref (A 3), .int x1] (some (.long r))) {r : Int64} {t : CS} (E : EC R_K c_K_worthOfLoop 8 p s m args c D (tyL cs)) (hA : ∀ q, H0.size ≤ q → A0 q) (kr : ∀ (H : Heap) (locs : List Loc) (pc : Nat) (ls : Array Slot), IW D (cwC A cs t) A0 H0 H locs → decode c_K_worthOfLoop pc = .ok (.lreturn, 1) → W p l e (rm_K_worthOfLoop d) s m args below meth c H locs 0 0 Q (F0 m pc ls [.long r])) : ∀ (n : Nat), ∀ (x1 : Int32) (x2 : Int64) (x4 : Int64) (x6 : Int32) (st : CS) (H : Heap) (locs : List Loc) (ls : Array Slot), f_K_worthOfLoop_27 fw n x1 x2 x4 x6 st = some (r, t) → IW D (cwC A cs st) A0 H0 H locs → lv_has ls 8 [(0, .ref (A 3)), (1, .int x1), (2, .long x2), (4, .long x4), (6, .int x6)] → W p l e (rm_K_worthOfLoop d) s m args below meth c H locs 0 0 Q (F0 m 27 ls []) := by
  intro n
  induction n with
  | zero => intro x1 x2 x4 x6 st H locs ls h I hl; cases h
  | succ n ih =>
    intro x1 x2 x4 x6 st H locs ls h I hl
    have hx := E.1
    have hb := E.2.1
    rw [f_K_worthOfLoop_27] at h
    refine lv_iload hx hb d_K_worthOfLoop_27 (lv_at hl 4 rfl) ?_
    refine lv_aload_n hx hb d_K_worthOfLoop_29 rfl (lv_at hl 0 rfl) ?_
    refine g_cK_bound E I k_K_36 d_K_worthOfLoop_30 ?_
    refine lv_icmp_ge (tgt := 89) hx hb d_K_worthOfLoop_33 (by decide) (fun c1 => ?_) (fun c1 => ?_)
    · have h := ifp c1 h
      refine lv_aload_n hx hb d_K_worthOfLoop_89 rfl (lv_at hl 0 rfl) ?_
      refine g_cK_acc E I k_K_39 d_K_worthOfLoop_90 ?_
      refine lv_topl (fun x6_2 ex6_2 => ?_)
      have h := nx_k ex6_2 h
      refine lv_lstore (lv' := [(6, .long x6_2), (0, .ref (A 3)), (1, .int x1), (2, .long x2), (4, .long x4)]) hx hb d_K_worthOfLoop_93 hl (by decide) rfl (fun ls hl => ?_)
      refine lv_aload_n hx hb d_K_worthOfLoop_95 rfl (lv_at hl 1 rfl) ?_
      refine lv_lload_n hx hb d_K_worthOfLoop_96 rfl (lv_at hl 3 rfl) ?_
      obtain ⟨st3, est3⟩ : ∃ y : CS, y = (s_cK_acc st x2) := ⟨_, rfl⟩
      have h := nx_k est3 h
      refine p_cK_acc E I est3 k_K_39 d_K_worthOfLoop_97 (fun H locs I => ?_)
      refine lv_lload hx hb d_K_worthOfLoop_100 (lv_at hl 0 rfl) ?_
      cases h
      exact kr _ _ _ _ I d_K_worthOfLoop_102
    · have h := ifn c1 h
      refine lv_aload_n hx hb d_K_worthOfLoop_36 rfl (lv_at hl 0 rfl) ?_
      refine g_cK_cut E I k_K_25 d_K_worthOfLoop_37 ?_
      refine lv_if_ne (tgt := 89) hx hb d_K_worthOfLoop_40 (by decide) (fun c4 => ?_) (fun c4 => ?_)
      · have h := ifn c4 h
        refine lv_aload_n hx hb d_K_worthOfLoop_89 rfl (lv_at hl 0 rfl) ?_
        refine g_cK_acc E I k_K_39 d_K_worthOfLoop_90 ?_
        refine lv_topl (fun x6_5 ex6_5 => ?_)
        have h := nx_k ex6_5 h
        refine lv_lstore (lv' := [(6, .long x6_5), (0, .ref (A 3)), (1, .int x1), (2, .long x2), (4, .long x4)]) hx hb d_K_worthOfLoop_93 hl (by decide) rfl (fun ls hl => ?_)
        refine lv_aload_n hx hb d_K_worthOfLoop_95 rfl (lv_at hl 1 rfl) ?_
        refine lv_lload_n hx hb d_K_worthOfLoop_96 rfl (lv_at hl 3 rfl) ?_
        obtain ⟨st6, est6⟩ : ∃ y : CS, y = (s_cK_acc st x2) := ⟨_, rfl⟩
        have h := nx_k est6 h
        refine p_cK_acc E I est6 k_K_39 d_K_worthOfLoop_97 (fun H locs I => ?_)
        refine lv_lload hx hb d_K_worthOfLoop_100 (lv_at hl 0 rfl) ?_
        cases h
        exact kr _ _ _ _ I d_K_worthOfLoop_102
      · have h := ifp c4 h
        refine lv_aload_n hx hb d_K_worthOfLoop_43 rfl (lv_at hl 0 rfl) ?_
        refine g_cK_acc E I k_K_39 d_K_worthOfLoop_44 ?_
        refine lv_lload hx hb d_K_worthOfLoop_47 (lv_at hl 3 rfl) ?_
        refine W.lcmp hx hb d_K_worthOfLoop_49 ?_
        refine lv_if_ge (tgt := 89) hx hb d_K_worthOfLoop_50 (by decide) (fun c7 => ?_) (fun c7 => ?_)
        · have c7 := (lg_cmp_ge _ _).mp c7
          have h := ifp c7 h
          refine lv_aload_n hx hb d_K_worthOfLoop_89 rfl (lv_at hl 0 rfl) ?_
          refine g_cK_acc E I k_K_39 d_K_worthOfLoop_90 ?_
          refine lv_topl (fun x6_8 ex6_8 => ?_)
          have h := nx_k ex6_8 h
          refine lv_lstore (lv' := [(6, .long x6_8), (0, .ref (A 3)), (1, .int x1), (2, .long x2), (4, .long x4)]) hx hb d_K_worthOfLoop_93 hl (by decide) rfl (fun ls hl => ?_)
          refine lv_aload_n hx hb d_K_worthOfLoop_95 rfl (lv_at hl 1 rfl) ?_
          refine lv_lload_n hx hb d_K_worthOfLoop_96 rfl (lv_at hl 3 rfl) ?_
          obtain ⟨st9, est9⟩ : ∃ y : CS, y = (s_cK_acc st x2) := ⟨_, rfl⟩
          have h := nx_k est9 h
          refine p_cK_acc E I est9 k_K_39 d_K_worthOfLoop_97 (fun H locs I => ?_)
          refine lv_lload hx hb d_K_worthOfLoop_100 (lv_at hl 0 rfl) ?_
          cases h
          exact kr _ _ _ _ I d_K_worthOfLoop_102
        · have c7 := mt (lg_cmp_ge _ _).mpr c7
          have h := ifn c7 h
          refine lv_aload_n hx hb d_K_worthOfLoop_53 rfl (lv_at hl 0 rfl) ?_
          refine lv_aload_n hx hb d_K_worthOfLoop_54 rfl (lv_at hl 0 rfl) ?_
          refine lv_aload_n hx hb d_K_worthOfLoop_55 rfl (lv_at hl 0 rfl) ?_
          refine g_cK_trees E I k_K_9 d_K_worthOfLoop_56 ?_
          refine lv_iload_n hx hb d_K_worthOfLoop_59 rfl (lv_at hl 1 rfl) ?_
          obtain ⟨r11, st10, h12, h⟩ := bd_some h
          refine cV (As := [.int x1]) (rest := [.ref (A 3), .ref (A 3)]) E I hA (k_T_secondOf h12) g_K_72 ⟨rfl, rfl⟩ 1 rfl rfl rfl hl rfl (Nat.le_of_ble_eq_true rfl) ⟨by dsimp only [rm_K_worth, rm_K_worthOfChoice, rm_K_worthOfLoop, rm_K_worthOfTwo]; omega, by dsimp only [rm_K_worth, rm_K_worthOfChoice, rm_K_worthOfLoop, rm_K_worthOfTwo]; omega⟩ ⟨Nat.zero_le _, Nat.zero_le _⟩ d_K_worthOfLoop_60 rfl (fun H locs I => ?_)
          obtain ⟨r14, st13, h15, h⟩ := bd_some h
          refine cV (As := [.int r11]) (rest := [.ref (A 3)]) E I hA (hfw _ _ _ _ h15) g_K_42 ⟨rfl, rfl⟩ 3 rfl rfl rfl hl rfl (Nat.le_of_ble_eq_true rfl) ⟨by dsimp only [rm_K_worth, rm_K_worthOfChoice, rm_K_worthOfLoop, rm_K_worthOfTwo]; omega, by dsimp only [rm_K_worth, rm_K_worthOfChoice, rm_K_worthOfLoop, rm_K_worthOfTwo]; omega⟩ ⟨Nat.zero_le _, Nat.zero_le _⟩ d_K_worthOfLoop_63 rfl (fun H locs I => ?_)
          obtain ⟨st16, est16⟩ : ∃ y : CS, y = (s_cK_acc st13 r14) := ⟨_, rfl⟩
          have h := nx_k est16 h
          refine p_cK_acc E I est16 k_K_39 d_K_worthOfLoop_66 (fun H locs I => ?_)
          refine lv_aload_n hx hb d_K_worthOfLoop_69 rfl (lv_at hl 0 rfl) ?_
          refine lv_aload_n hx hb d_K_worthOfLoop_70 rfl (lv_at hl 0 rfl) ?_
          refine g_cK_trees E I k_K_9 d_K_worthOfLoop_71 ?_
          refine lv_iload_n hx hb d_K_worthOfLoop_74 rfl (lv_at hl 1 rfl) ?_
          obtain ⟨r18, st17, h19, h⟩ := bd_some h
          refine cV (As := [.int x1]) (rest := [.ref (A 3)]) E I hA (k_T_firstOf h19) g_K_69 ⟨rfl, rfl⟩ 1 rfl rfl rfl hl rfl (Nat.le_of_ble_eq_true rfl) ⟨by dsimp only [rm_K_worth, rm_K_worthOfChoice, rm_K_worthOfLoop, rm_K_worthOfTwo]; omega, by dsimp only [rm_K_worth, rm_K_worthOfChoice, rm_K_worthOfLoop, rm_K_worthOfTwo]; omega⟩ ⟨Nat.zero_le _, Nat.zero_le _⟩ d_K_worthOfLoop_75 rfl (fun H locs I => ?_)
          obtain ⟨r21, st20, h22, h⟩ := bd_some h
          refine cV (As := [.int r18]) (rest := []) E I hA (hfw _ _ _ _ h22) g_K_42 ⟨rfl, rfl⟩ 3 rfl rfl rfl hl rfl (Nat.le_of_ble_eq_true rfl) ⟨by dsimp only [rm_K_worth, rm_K_worthOfChoice, rm_K_worthOfLoop, rm_K_worthOfTwo]; omega, by dsimp only [rm_K_worth, rm_K_worthOfChoice, rm_K_worthOfLoop, rm_K_worthOfTwo]; omega⟩ ⟨Nat.zero_le _, Nat.zero_le _⟩ d_K_worthOfLoop_78 rfl (fun H locs I => ?_)
          refine lv_lstore (lv' := [(4, .long r21), (0, .ref (A 3)), (1, .int x1), (2, .long x2), (6, .int x6)]) hx hb d_K_worthOfLoop_81 hl (by decide) rfl (fun ls hl => ?_)
          obtain ⟨x6_23, ex6_23⟩ : ∃ y : Int32, y = (x6 + 1) := ⟨_, rfl⟩
          have h := nx_k ex6_23 h
          refine lv_iinc (v := x6_23) (lv' := [(6, .int x6_23), (4, .long r21), (0, .ref (A 3)), (1, .int x1), (2, .long x2)]) hx hb d_K_worthOfLoop_83 hl (k := 4) rfl (by rw [ex6_23]; rfl) (by decide) rfl (fun ls hl => ?_)
          refine lv_goto (tgt := 27) hx hb d_K_worthOfLoop_86 (by decide) ?_
          exact ih x1 x2 r21 x6_23 st20 _ _ _ h I (lv_sub hl [2, 3, 4, 1, 0] rfl)
set_option maxHeartbeats 4000000 in
set_option maxRecDepth 100000 in
theorem w_K_worthOfLoop  {d : Nat} {fw : Int32 → CS → Option (Int64 × CS)} (hfw : ∀ (x1 : Int32) (st : CS) (r : Int64) (t : CS), fw x1 st = some (r, t) → Cn l y_K_worth c_K_worth 4 (some .long) (rm_K_worth d) D (tyL cs) (cwC A cs st) (cwC A cs t) [.ref (A 3), .int x1] (some (.long r))) {r : Int64} {t : CS} (E : EC R_K c_K_worthOfLoop 8 p s m args c D (tyL cs)) (hA : ∀ q, H0.size ≤ q → A0 q) (kr : ∀ (H : Heap) (locs : List Loc) (pc : Nat) (ls : Array Slot), IW D (cwC A cs t) A0 H0 H locs → decode c_K_worthOfLoop pc = .ok (.lreturn, 1) → W p l e (rm_K_worthOfLoop d) s m args below meth c H locs 0 0 Q (F0 m pc ls [.long r])) : ∀ (x1 : Int32) (st : CS) (H : Heap) (locs : List Loc) (ls : Array Slot), f_K_worthOfLoop fw x1 st = some (r, t) → IW D (cwC A cs st) A0 H0 H locs → lv_has ls 8 [(0, .ref (A 3)), (1, .int x1)] → W p l e (rm_K_worthOfLoop d) s m args below meth c H locs 0 0 Q (F0 m 0 ls []) := by
  intro x1 st H locs ls h I hl
  have hx := E.1
  have hb := E.2.1
  rw [f_K_worthOfLoop] at h
  refine lv_aload_n hx hb d_K_worthOfLoop_0 rfl (lv_at hl 0 rfl) ?_
  refine g_cK_acc E I k_K_39 d_K_worthOfLoop_1 ?_
  refine lv_topl (fun x2_24 ex2_24 => ?_)
  have h := nx_k ex2_24 h
  refine lv_lstore_n (lv' := [(2, .long x2_24), (0, .ref (A 3)), (1, .int x1)]) hx hb d_K_worthOfLoop_4 rfl hl (by decide) rfl (fun ls hl => ?_)
  refine lv_aload_n hx hb d_K_worthOfLoop_5 rfl (lv_at hl 1 rfl) ?_
  refine lv_lconst (v := 0) hx hb d_K_worthOfLoop_6 (by decide) ?_
  obtain ⟨st25, est25⟩ : ∃ y : CS, y = (s_cK_acc st (0 : Int64)) := ⟨_, rfl⟩
  have h := nx_k est25 h
  refine p_cK_acc E I est25 k_K_39 d_K_worthOfLoop_7 (fun H locs I => ?_)
  refine lv_aload_n hx hb d_K_worthOfLoop_10 rfl (lv_at hl 1 rfl) ?_
  refine lv_aload_n hx hb d_K_worthOfLoop_11 rfl (lv_at hl 1 rfl) ?_
  refine g_cK_trees E I k_K_9 d_K_worthOfLoop_12 ?_
  refine lv_iload_n hx hb d_K_worthOfLoop_15 rfl (lv_at hl 2 rfl) ?_
  obtain ⟨r27, st26, h28, h⟩ := bd_some h
  refine cV (As := [.int x1]) (rest := [.ref (A 3)]) E I hA (k_T_firstOf h28) g_K_69 ⟨rfl, rfl⟩ 1 rfl rfl rfl hl rfl (Nat.le_of_ble_eq_true rfl) ⟨by dsimp only [rm_K_worth, rm_K_worthOfChoice, rm_K_worthOfLoop, rm_K_worthOfTwo]; omega, by dsimp only [rm_K_worth, rm_K_worthOfChoice, rm_K_worthOfLoop, rm_K_worthOfTwo]; omega⟩ ⟨Nat.zero_le _, Nat.zero_le _⟩ d_K_worthOfLoop_16 rfl (fun H locs I => ?_)
  obtain ⟨r30, st29, h31, h⟩ := bd_some h
  refine cV (As := [.int r27]) (rest := []) E I hA (hfw _ _ _ _ h31) g_K_42 ⟨rfl, rfl⟩ 3 rfl rfl rfl hl rfl (Nat.le_of_ble_eq_true rfl) ⟨by dsimp only [rm_K_worth, rm_K_worthOfChoice, rm_K_worthOfLoop, rm_K_worthOfTwo]; omega, by dsimp only [rm_K_worth, rm_K_worthOfChoice, rm_K_worthOfLoop, rm_K_worthOfTwo]; omega⟩ ⟨Nat.zero_le _, Nat.zero_le _⟩ d_K_worthOfLoop_19 rfl (fun H locs I => ?_)
  refine lv_lstore (lv' := [(4, .long r30), (2, .long x2_24), (0, .ref (A 3)), (1, .int x1)]) hx hb d_K_worthOfLoop_22 hl (by decide) rfl (fun ls hl => ?_)
  refine lv_iconst (v := 0) hx hb d_K_worthOfLoop_24 (by decide) ?_
  refine lv_istore (lv' := [(6, .int (0 : Int32)), (4, .long r30), (2, .long x2_24), (0, .ref (A 3)), (1, .int x1)]) hx hb d_K_worthOfLoop_25 hl (by decide) rfl (fun ls hl => ?_)
  exact w_K_worthOfLoop_27 hfw E hA kr FU x1 x2_24 r30 (0 : Int32) st29 _ _ _ h I (lv_sub hl [3, 4, 2, 1, 0] rfl)
set_option maxHeartbeats 4000000 in
set_option maxRecDepth 100000 in
theorem k_K_worthOfLoop {d : Nat} {fw : Int32 → CS → Option (Int64 × CS)} (hfw : ∀ (x1 : Int32) (st : CS) (r : Int64) (t : CS), fw x1 st = some (r, t) → Cn l y_K_worth c_K_worth 4 (some .long) (rm_K_worth d) D (tyL cs) (cwC A cs st) (cwC A cs t) [.ref (A 3), .int x1] (some (.long r))) {x1 : Int32} {st t : CS} {r : Int64} (h : f_K_worthOfLoop fw x1 st = some (r, t)) : Cn l y_K_worthOfLoop c_K_worthOfLoop 8 (some .long) (rm_K_worthOfLoop d) D (tyL cs) (cwC A cs st) (cwC A cs t) [.ref (A 3), .int x1] (some (.long r)) := by
  refine cn_intro (by decide) (Nat.le_of_ble_eq_true rfl) ?_
  intro p e s m below meth c A0 Q ls E hr hlk hA hA0 hQ I hl
  exact w_K_worthOfLoop hfw E hA (rt_l E hr hlk hA0 hQ) x1 st _ _ _ h I (lv_sub hl [0, 1] rfl)
end Mmc1
end
