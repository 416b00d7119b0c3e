/-! whole fields and arrays set; setting twice -/
theorem upd_upd (f : Nat → Int32) (k : Nat) (a b : Int32) : upd (upd f k a) k b = upd f k b := by funext j; simp only [upd]; split <;> rfl
theorem updL_updL (f : Nat → Int64) (k : Nat) (a b : Int64) : vp_updL (vp_updL f k a) k b = vp_updL f k b := by funext j; simp only [vp_updL]; split <;> rfl
theorem upd_self (f : Nat → Int32) (k : Nat) : upd f k (f k) = f := by funext j; simp only [upd]; split <;> simp_all
theorem updL_self (f : Nat → Int64) (k : Nat) : vp_updL f k (f k) = f := by funext j; simp only [vp_updL]; split <;> simp_all
theorem vup_self {α : Type} (f : Nat → α) (k : Nat) : va_up f k (f k) = f := by funext j; simp only [va_up]; split <;> simp_all
theorem ss_cT_size (s : CS) (a b : Int32) : s_cT_size (s_cT_size s a) b = s_cT_size s b := by simp only [s_cT_size, upd_upd]
theorem sg_cT_size (s : CS) : s_cT_size s (cT_size s) = s := by simp only [s_cT_size, cT_size, upd_self]
theorem ss_cU_size (s : CS) (a b : Int32) : s_cU_size (s_cU_size s a) b = s_cU_size s b := by simp only [s_cU_size, upd_upd]
theorem sg_cU_size (s : CS) : s_cU_size s (cU_size s) = s := by simp only [s_cU_size, cU_size, upd_self]
theorem ss_cK_changeKind (s : CS) (a b : Int32) : s_cK_changeKind (s_cK_changeKind s a) b = s_cK_changeKind s b := by simp only [s_cK_changeKind, upd_upd]
theorem sg_cK_changeKind (s : CS) : s_cK_changeKind s (cK_changeKind s) = s := by simp only [s_cK_changeKind, cK_changeKind, upd_self]
theorem ss_cK_changedNode (s : CS) (a b : Int32) : s_cK_changedNode (s_cK_changedNode s a) b = s_cK_changedNode s b := by simp only [s_cK_changedNode, upd_upd]
theorem sg_cK_changedNode (s : CS) : s_cK_changedNode s (cK_changedNode s) = s := by simp only [s_cK_changedNode, cK_changedNode, upd_self]
theorem ss_cK_input (s : CS) (a b : Int64) : s_cK_input (s_cK_input s a) b = s_cK_input s b := by simp only [s_cK_input, updL_updL]
theorem sg_cK_input (s : CS) : s_cK_input s (cK_input s) = s := by simp only [s_cK_input, cK_input, updL_self]
theorem ss_cK_bound (s : CS) (a b : Int32) : s_cK_bound (s_cK_bound s a) b = s_cK_bound s b := by simp only [s_cK_bound, upd_upd]
theorem sg_cK_bound (s : CS) : s_cK_bound s (cK_bound s) = s := by simp only [s_cK_bound, cK_bound, upd_self]
theorem ss_cK_steps (s : CS) (a b : Int32) : s_cK_steps (s_cK_steps s a) b = s_cK_steps s b := by simp only [s_cK_steps, upd_upd]
theorem sg_cK_steps (s : CS) : s_cK_steps s (cK_steps s) = s := by simp only [s_cK_steps, cK_steps, upd_self]
theorem ss_cK_cut (s : CS) (a b : Int32) : s_cK_cut (s_cK_cut s a) b = s_cK_cut s b := by simp only [s_cK_cut, upd_upd]
theorem sg_cK_cut (s : CS) : s_cK_cut s (cK_cut s) = s := by simp only [s_cK_cut, cK_cut, upd_self]
theorem ss_cK_covered (s : CS) (a b : Int64) : s_cK_covered (s_cK_covered s a) b = s_cK_covered s b := by simp only [s_cK_covered, updL_updL]
theorem sg_cK_covered (s : CS) : s_cK_covered s (cK_covered s) = s := by simp only [s_cK_covered, cK_covered, updL_self]
theorem ss_cK_acc (s : CS) (a b : Int64) : s_cK_acc (s_cK_acc s a) b = s_cK_acc s b := by simp only [s_cK_acc, updL_updL]
theorem sg_cK_acc (s : CS) : s_cK_acc s (cK_acc s) = s := by simp only [s_cK_acc, cK_acc, updL_self]
theorem ss_cN_size (s : CS) (a b : Int32) : s_cN_size (s_cN_size s a) b = s_cN_size s b := by simp only [s_cN_size, upd_upd]
theorem sg_cN_size (s : CS) : s_cN_size s (cN_size s) = s := by simp only [s_cN_size, cN_size, upd_self]
theorem ss_cG_size (s : CS) (a b : Int32) : s_cG_size (s_cG_size s a) b = s_cG_size s b := by simp only [s_cG_size, upd_upd]
theorem sg_cG_size (s : CS) : s_cG_size s (cG_size s) = s := by simp only [s_cG_size, cG_size, upd_self]
theorem ss_cD_size (s : CS) (a b : Int32) : s_cD_size (s_cD_size s a) b = s_cD_size s b := by simp only [s_cD_size, upd_upd]
theorem sg_cD_size (s : CS) : s_cD_size s (cD_size s) = s := by simp only [s_cD_size, cD_size, upd_self]
def S_cT_kinds (s : CS) (f : Nat → Int32) : CS := (s.1, s.2.1, va_up s.2.2.1 0 f, s.2.2.2)
theorem SS_cT_kinds (s : CS) (f g : Nat → Int32) : S_cT_kinds (S_cT_kinds s f) g = S_cT_kinds s g := by simp only [S_cT_kinds, bx_uu]
theorem Sg_cT_kinds (s : CS) : S_cT_kinds s (cT_kinds s) = s := by simp only [S_cT_kinds, cT_kinds, vup_self]
theorem sS_cT_kinds (s : CS) (k : Nat) (v : Int32) : s_cT_kinds s k v = S_cT_kinds s (upd (cT_kinds s) k v) := rfl
theorem gS_cT_kinds (s : CS) (f : Nat → Int32) : cT_kinds (S_cT_kinds s f) = f := rfl
def S_cT_numbers (s : CS) (f : Nat → Int64) : CS := (s.1, s.2.1, s.2.2.1, va_up s.2.2.2 0 f)
theorem SS_cT_numbers (s : CS) (f g : Nat → Int64) : S_cT_numbers (S_cT_numbers s f) g = S_cT_numbers s g := by simp only [S_cT_numbers, bx_uu]
theorem Sg_cT_numbers (s : CS) : S_cT_numbers s (cT_numbers s) = s := by simp only [S_cT_numbers, cT_numbers, vup_self]
theorem sS_cT_numbers (s : CS) (k : Nat) (v : Int64) : s_cT_numbers s k v = S_cT_numbers s (vp_updL (cT_numbers s) k v) := rfl
theorem gS_cT_numbers (s : CS) (f : Nat → Int64) : cT_numbers (S_cT_numbers s f) = f := rfl
def S_cT_firsts (s : CS) (f : Nat → Int32) : CS := (s.1, s.2.1, va_up s.2.2.1 1 f, s.2.2.2)
theorem SS_cT_firsts (s : CS) (f g : Nat → Int32) : S_cT_firsts (S_cT_firsts s f) g = S_cT_firsts s g := by simp only [S_cT_firsts, bx_uu]
theorem Sg_cT_firsts (s : CS) : S_cT_firsts s (cT_firsts s) = s := by simp only [S_cT_firsts, cT_firsts, vup_self]
theorem sS_cT_firsts (s : CS) (k : Nat) (v : Int32) : s_cT_firsts s k v = S_cT_firsts s (upd (cT_firsts s) k v) := rfl
theorem gS_cT_firsts (s : CS) (f : Nat → Int32) : cT_firsts (S_cT_firsts s f) = f := rfl
def S_cT_seconds (s : CS) (f : Nat → Int32) : CS := (s.1, s.2.1, va_up s.2.2.1 2 f, s.2.2.2)
theorem SS_cT_seconds (s : CS) (f g : Nat → Int32) : S_cT_seconds (S_cT_seconds s f) g = S_cT_seconds s g := by simp only [S_cT_seconds, bx_uu]
theorem Sg_cT_seconds (s : CS) : S_cT_seconds s (cT_seconds s) = s := by simp only [S_cT_seconds, cT_seconds, vup_self]
theorem sS_cT_seconds (s : CS) (k : Nat) (v : Int32) : s_cT_seconds s k v = S_cT_seconds s (upd (cT_seconds s) k v) := rfl
theorem gS_cT_seconds (s : CS) (f : Nat → Int32) : cT_seconds (S_cT_seconds s f) = f := rfl
def S_cT_thirds (s : CS) (f : Nat → Int32) : CS := (s.1, s.2.1, va_up s.2.2.1 3 f, s.2.2.2)
theorem SS_cT_thirds (s : CS) (f g : Nat → Int32) : S_cT_thirds (S_cT_thirds s f) g = S_cT_thirds s g := by simp only [S_cT_thirds, bx_uu]
theorem Sg_cT_thirds (s : CS) : S_cT_thirds s (cT_thirds s) = s := by simp only [S_cT_thirds, cT_thirds, vup_self]
theorem sS_cT_thirds (s : CS) (k : Nat) (v : Int32) : s_cT_thirds s k v = S_cT_thirds s (upd (cT_thirds s) k v) := rfl
theorem gS_cT_thirds (s : CS) (f : Nat → Int32) : cT_thirds (S_cT_thirds s f) = f := rfl
def S_cT_shapes (s : CS) (f : Nat → Int32) : CS := (s.1, s.2.1, va_up s.2.2.1 4 f, s.2.2.2)
theorem SS_cT_shapes (s : CS) (f g : Nat → Int32) : S_cT_shapes (S_cT_shapes s f) g = S_cT_shapes s g := by simp only [S_cT_shapes, bx_uu]
theorem Sg_cT_shapes (s : CS) : S_cT_shapes s (cT_shapes s) = s := by simp only [S_cT_shapes, cT_shapes, vup_self]
theorem sS_cT_shapes (s : CS) (k : Nat) (v : Int32) : s_cT_shapes s k v = S_cT_shapes s (upd (cT_shapes s) k v) := rfl
theorem gS_cT_shapes (s : CS) (f : Nat → Int32) : cT_shapes (S_cT_shapes s f) = f := rfl
def S_cT_ways (s : CS) (f : Nat → Int32) : CS := (s.1, s.2.1, va_up s.2.2.1 5 f, s.2.2.2)
theorem SS_cT_ways (s : CS) (f g : Nat → Int32) : S_cT_ways (S_cT_ways s f) g = S_cT_ways s g := by simp only [S_cT_ways, bx_uu]
theorem Sg_cT_ways (s : CS) : S_cT_ways s (cT_ways s) = s := by simp only [S_cT_ways, cT_ways, vup_self]
theorem sS_cT_ways (s : CS) (k : Nat) (v : Int32) : s_cT_ways s k v = S_cT_ways s (upd (cT_ways s) k v) := rfl
theorem gS_cT_ways (s : CS) (f : Nat → Int32) : cT_ways (S_cT_ways s f) = f := rfl
def S_cU_roots (s : CS) (f : Nat → Int32) : CS := (s.1, s.2.1, va_up s.2.2.1 6 f, s.2.2.2)
theorem SS_cU_roots (s : CS) (f g : Nat → Int32) : S_cU_roots (S_cU_roots s f) g = S_cU_roots s g := by simp only [S_cU_roots, bx_uu]
theorem Sg_cU_roots (s : CS) : S_cU_roots s (cU_roots s) = s := by simp only [S_cU_roots, cU_roots, vup_self]
theorem sS_cU_roots (s : CS) (k : Nat) (v : Int32) : s_cU_roots s k v = S_cU_roots s (upd (cU_roots s) k v) := rfl
theorem gS_cU_roots (s : CS) (f : Nat → Int32) : cU_roots (S_cU_roots s f) = f := rfl
def S_cU_inputs (s : CS) (f : Nat → Int64) : CS := (s.1, s.2.1, s.2.2.1, va_up s.2.2.2 1 f)
theorem SS_cU_inputs (s : CS) (f g : Nat → Int64) : S_cU_inputs (S_cU_inputs s f) g = S_cU_inputs s g := by simp only [S_cU_inputs, bx_uu]
theorem Sg_cU_inputs (s : CS) : S_cU_inputs s (cU_inputs s) = s := by simp only [S_cU_inputs, cU_inputs, vup_self]
theorem sS_cU_inputs (s : CS) (k : Nat) (v : Int64) : s_cU_inputs s k v = S_cU_inputs s (vp_updL (cU_inputs s) k v) := rfl
theorem gS_cU_inputs (s : CS) (f : Nat → Int64) : cU_inputs (S_cU_inputs s f) = f := rfl
def S_cU_wanted (s : CS) (f : Nat → Int64) : CS := (s.1, s.2.1, s.2.2.1, va_up s.2.2.2 2 f)
theorem SS_cU_wanted (s : CS) (f g : Nat → Int64) : S_cU_wanted (S_cU_wanted s f) g = S_cU_wanted s g := by simp only [S_cU_wanted, bx_uu]
theorem Sg_cU_wanted (s : CS) : S_cU_wanted s (cU_wanted s) = s := by simp only [S_cU_wanted, cU_wanted, vup_self]
theorem sS_cU_wanted (s : CS) (k : Nat) (v : Int64) : s_cU_wanted s k v = S_cU_wanted s (vp_updL (cU_wanted s) k v) := rfl
theorem gS_cU_wanted (s : CS) (f : Nat → Int64) : cU_wanted (S_cU_wanted s f) = f := rfl
def S_cU_states (s : CS) (f : Nat → Int32) : CS := (s.1, s.2.1, va_up s.2.2.1 7 f, s.2.2.2)
theorem SS_cU_states (s : CS) (f g : Nat → Int32) : S_cU_states (S_cU_states s f) g = S_cU_states s g := by simp only [S_cU_states, bx_uu]
theorem Sg_cU_states (s : CS) : S_cU_states s (cU_states s) = s := by simp only [S_cU_states, cU_states, vup_self]
theorem sS_cU_states (s : CS) (k : Nat) (v : Int32) : s_cU_states s k v = S_cU_states s (upd (cU_states s) k v) := rfl
theorem gS_cU_states (s : CS) (f : Nat → Int32) : cU_states (S_cU_states s f) = f := rfl
def S_cU_steps (s : CS) (f : Nat → Int32) : CS := (s.1, s.2.1, va_up s.2.2.1 8 f, s.2.2.2)
theorem SS_cU_steps (s : CS) (f g : Nat → Int32) : S_cU_steps (S_cU_steps s f) g = S_cU_steps s g := by simp only [S_cU_steps, bx_uu]
theorem Sg_cU_steps (s : CS) : S_cU_steps s (cU_steps s) = s := by simp only [S_cU_steps, cU_steps, vup_self]
theorem sS_cU_steps (s : CS) (k : Nat) (v : Int32) : s_cU_steps s k v = S_cU_steps s (upd (cU_steps s) k v) := rfl
theorem gS_cU_steps (s : CS) (f : Nat → Int32) : cU_steps (S_cU_steps s f) = f := rfl
def S_cU_covered (s : CS) (f : Nat → Int64) : CS := (s.1, s.2.1, s.2.2.1, va_up s.2.2.2 3 f)
theorem SS_cU_covered (s : CS) (f g : Nat → Int64) : S_cU_covered (S_cU_covered s f) g = S_cU_covered s g := by simp only [S_cU_covered, bx_uu]
theorem Sg_cU_covered (s : CS) : S_cU_covered s (cU_covered s) = s := by simp only [S_cU_covered, cU_covered, vup_self]
theorem sS_cU_covered (s : CS) (k : Nat) (v : Int64) : s_cU_covered s k v = S_cU_covered s (vp_updL (cU_covered s) k v) := rfl
theorem gS_cU_covered (s : CS) (f : Nat → Int64) : cU_covered (S_cU_covered s f) = f := rfl
def S_cN_kinds (s : CS) (f : Nat → Int32) : CS := (s.1, s.2.1, va_up s.2.2.1 9 f, s.2.2.2)
theorem SS_cN_kinds (s : CS) (f g : Nat → Int32) : S_cN_kinds (S_cN_kinds s f) g = S_cN_kinds s g := by simp only [S_cN_kinds, bx_uu]
theorem Sg_cN_kinds (s : CS) : S_cN_kinds s (cN_kinds s) = s := by simp only [S_cN_kinds, cN_kinds, vup_self]
theorem sS_cN_kinds (s : CS) (k : Nat) (v : Int32) : s_cN_kinds s k v = S_cN_kinds s (upd (cN_kinds s) k v) := rfl
theorem gS_cN_kinds (s : CS) (f : Nat → Int32) : cN_kinds (S_cN_kinds s f) = f := rfl
def S_cN_nodes (s : CS) (f : Nat → Int32) : CS := (s.1, s.2.1, va_up s.2.2.1 10 f, s.2.2.2)
theorem SS_cN_nodes (s : CS) (f g : Nat → Int32) : S_cN_nodes (S_cN_nodes s f) g = S_cN_nodes s g := by simp only [S_cN_nodes, bx_uu]
theorem Sg_cN_nodes (s : CS) : S_cN_nodes s (cN_nodes s) = s := by simp only [S_cN_nodes, cN_nodes, vup_self]
theorem sS_cN_nodes (s : CS) (k : Nat) (v : Int32) : s_cN_nodes s k v = S_cN_nodes s (upd (cN_nodes s) k v) := rfl
theorem gS_cN_nodes (s : CS) (f : Nat → Int32) : cN_nodes (S_cN_nodes s f) = f := rfl
def S_cN_outcomes (s : CS) (f : Nat → Int32) : CS := (s.1, s.2.1, va_up s.2.2.1 11 f, s.2.2.2)
theorem SS_cN_outcomes (s : CS) (f g : Nat → Int32) : S_cN_outcomes (S_cN_outcomes s f) g = S_cN_outcomes s g := by simp only [S_cN_outcomes, bx_uu]
theorem Sg_cN_outcomes (s : CS) : S_cN_outcomes s (cN_outcomes s) = s := by simp only [S_cN_outcomes, cN_outcomes, vup_self]
theorem sS_cN_outcomes (s : CS) (k : Nat) (v : Int32) : s_cN_outcomes s k v = S_cN_outcomes s (upd (cN_outcomes s) k v) := rfl
theorem gS_cN_outcomes (s : CS) (f : Nat → Int32) : cN_outcomes (S_cN_outcomes s f) = f := rfl
def S_cN_enders (s : CS) (f : Nat → Int32) : CS := (s.1, s.2.1, va_up s.2.2.1 12 f, s.2.2.2)
theorem SS_cN_enders (s : CS) (f g : Nat → Int32) : S_cN_enders (S_cN_enders s f) g = S_cN_enders s g := by simp only [S_cN_enders, bx_uu]
theorem Sg_cN_enders (s : CS) : S_cN_enders s (cN_enders s) = s := by simp only [S_cN_enders, cN_enders, vup_self]
theorem sS_cN_enders (s : CS) (k : Nat) (v : Int32) : s_cN_enders s k v = S_cN_enders s (upd (cN_enders s) k v) := rfl
theorem gS_cN_enders (s : CS) (f : Nat → Int32) : cN_enders (S_cN_enders s f) = f := rfl
def S_cN_madeAt (s : CS) (f : Nat → Int64) : CS := (s.1, s.2.1, s.2.2.1, va_up s.2.2.2 4 f)
theorem SS_cN_madeAt (s : CS) (f g : Nat → Int64) : S_cN_madeAt (S_cN_madeAt s f) g = S_cN_madeAt s g := by simp only [S_cN_madeAt, bx_uu]
theorem Sg_cN_madeAt (s : CS) : S_cN_madeAt s (cN_madeAt s) = s := by simp only [S_cN_madeAt, cN_madeAt, vup_self]
theorem sS_cN_madeAt (s : CS) (k : Nat) (v : Int64) : s_cN_madeAt s k v = S_cN_madeAt s (vp_updL (cN_madeAt s) k v) := rfl
theorem gS_cN_madeAt (s : CS) (f : Nat → Int64) : cN_madeAt (S_cN_madeAt s f) = f := rfl
def S_cG_line (s : CS) (f : Nat → Int32) : CS := (s.1, s.2.1, va_up s.2.2.1 13 f, s.2.2.2)
theorem SS_cG_line (s : CS) (f g : Nat → Int32) : S_cG_line (S_cG_line s f) g = S_cG_line s g := by simp only [S_cG_line, bx_uu]
theorem Sg_cG_line (s : CS) : S_cG_line s (cG_line s) = s := by simp only [S_cG_line, cG_line, vup_self]
theorem sS_cG_line (s : CS) (k : Nat) (v : Int32) : s_cG_line s k v = S_cG_line s (upd (cG_line s) k v) := rfl
theorem gS_cG_line (s : CS) (f : Nat → Int32) : cG_line (S_cG_line s f) = f := rfl
def S_cG_distances (s : CS) (f : Nat → Int32) : CS := (s.1, s.2.1, va_up s.2.2.1 14 f, s.2.2.2)
theorem SS_cG_distances (s : CS) (f g : Nat → Int32) : S_cG_distances (S_cG_distances s f) g = S_cG_distances s g := by simp only [S_cG_distances, bx_uu]
theorem Sg_cG_distances (s : CS) : S_cG_distances s (cG_distances s) = s := by simp only [S_cG_distances, cG_distances, vup_self]
theorem sS_cG_distances (s : CS) (k : Nat) (v : Int32) : s_cG_distances s k v = S_cG_distances s (upd (cG_distances s) k v) := rfl
theorem gS_cG_distances (s : CS) (f : Nat → Int32) : cG_distances (S_cG_distances s f) = f := rfl
def S_cD_row (s : CS) (f : Nat → Int32) : CS := (s.1, s.2.1, va_up s.2.2.1 15 f, s.2.2.2)
theorem SS_cD_row (s : CS) (f g : Nat → Int32) : S_cD_row (S_cD_row s f) g = S_cD_row s g := by simp only [S_cD_row, bx_uu]
theorem Sg_cD_row (s : CS) : S_cD_row s (cD_row s) = s := by simp only [S_cD_row, cD_row, vup_self]
theorem sS_cD_row (s : CS) (k : Nat) (v : Int32) : s_cD_row s k v = S_cD_row s (upd (cD_row s) k v) := rfl
theorem gS_cD_row (s : CS) (f : Nat → Int32) : cD_row (S_cD_row s f) = f := rfl
theorem ss_r_nodes (s : RS) (a b : Int32) : s_r_nodes (s_r_nodes s a) b = s_r_nodes s b := by simp only [s_r_nodes, upd_upd]
theorem sg_r_nodes (s : RS) : s_r_nodes s (r_nodes s) = s := by simp only [s_r_nodes, r_nodes, upd_self]
theorem ss_r_tests (s : RS) (a b : Int32) : s_r_tests (s_r_tests s a) b = s_r_tests s b := by simp only [s_r_tests, upd_upd]
theorem sg_r_tests (s : RS) : s_r_tests s (r_tests s) = s := by simp only [s_r_tests, r_tests, upd_self]
theorem ss_r_mutants (s : RS) (a b : Int32) : s_r_mutants (s_r_mutants s a) b = s_r_mutants s b := by simp only [s_r_mutants, upd_upd]
theorem sg_r_mutants (s : RS) : s_r_mutants s (r_mutants s) = s := by simp only [s_r_mutants, r_mutants, upd_self]
theorem ss_r_sampledMany (s : RS) (a b : Int32) : s_r_sampledMany (s_r_sampledMany s a) b = s_r_sampledMany s b := by simp only [s_r_sampledMany, upd_upd]
theorem sg_r_sampledMany (s : RS) : s_r_sampledMany s (r_sampledMany s) = s := by simp only [s_r_sampledMany, r_sampledMany, upd_self]
theorem ss_r_changedKind (s : RS) (a b : Int32) : s_r_changedKind (s_r_changedKind s a) b = s_r_changedKind s b := by simp only [s_r_changedKind, upd_upd]
theorem sg_r_changedKind (s : RS) : s_r_changedKind s (r_changedKind s) = s := by simp only [s_r_changedKind, r_changedKind, upd_self]
theorem ss_r_changedNode (s : RS) (a b : Int32) : s_r_changedNode (s_r_changedNode s a) b = s_r_changedNode s b := by simp only [s_r_changedNode, upd_upd]
theorem sg_r_changedNode (s : RS) : s_r_changedNode s (r_changedNode s) = s := by simp only [s_r_changedNode, r_changedNode, upd_self]
theorem ss_r_steps (s : RS) (a b : Int32) : s_r_steps (s_r_steps s a) b = s_r_steps s b := by simp only [s_r_steps, upd_upd]
theorem sg_r_steps (s : RS) : s_r_steps s (r_steps s) = s := by simp only [s_r_steps, r_steps, upd_self]
theorem ss_r_isCut (s : RS) (a b : Int32) : s_r_isCut (s_r_isCut s a) b = s_r_isCut s b := by simp only [s_r_isCut, upd_upd]
theorem sg_r_isCut (s : RS) : s_r_isCut s (r_isCut s) = s := by simp only [s_r_isCut, r_isCut, upd_self]
theorem ss_r_high (s : RS) (a b : Int32) : s_r_high (s_r_high s a) b = s_r_high s b := by simp only [s_r_high, upd_upd]
theorem sg_r_high (s : RS) : s_r_high s (r_high s) = s := by simp only [s_r_high, r_high, upd_self]
theorem ss_r_acc (s : RS) (a b : Int64) : s_r_acc (s_r_acc s a) b = s_r_acc s b := by simp only [s_r_acc, updL_updL]
theorem sg_r_acc (s : RS) : s_r_acc s (r_acc s) = s := by simp only [s_r_acc, r_acc, updL_self]
theorem ss_r_given (s : RS) (a b : Int64) : s_r_given (s_r_given s a) b = s_r_given s b := by simp only [s_r_given, updL_updL]
theorem sg_r_given (s : RS) : s_r_given s (r_given s) = s := by simp only [s_r_given, r_given, updL_self]
theorem ss_r_listed (s : RS) (a b : Int32) : s_r_listed (s_r_listed s a) b = s_r_listed s b := by simp only [s_r_listed, upd_upd]
theorem sg_r_listed (s : RS) : s_r_listed s (r_listed s) = s := by simp only [s_r_listed, r_listed, upd_self]
def S_r_kindOf (s : RS) (f : Nat → Int32) : RS := (s.1, s.2.1, va_up s.2.2.1 0 f, s.2.2.2)
theorem SS_r_kindOf (s : RS) (f g : Nat → Int32) : S_r_kindOf (S_r_kindOf s f) g = S_r_kindOf s g := by simp only [S_r_kindOf, bx_uu]
theorem Sg_r_kindOf (s : RS) : S_r_kindOf s (r_kindOf s) = s := by simp only [S_r_kindOf, r_kindOf, vup_self]
theorem sS_r_kindOf (s : RS) (k : Nat) (v : Int32) : s_r_kindOf s k v = S_r_kindOf s (upd (r_kindOf s) k v) := rfl
theorem gS_r_kindOf (s : RS) (f : Nat → Int32) : r_kindOf (S_r_kindOf s f) = f := rfl
def S_r_number (s : RS) (f : Nat → Int64) : RS := (s.1, s.2.1, s.2.2.1, va_up s.2.2.2 0 f)
theorem SS_r_number (s : RS) (f g : Nat → Int64) : S_r_number (S_r_number s f) g = S_r_number s g := by simp only [S_r_number, bx_uu]
theorem Sg_r_number (s : RS) : S_r_number s (r_number s) = s := by simp only [S_r_number, r_number, vup_self]
theorem sS_r_number (s : RS) (k : Nat) (v : Int64) : s_r_number s k v = S_r_number s (vp_updL (r_number s) k v) := rfl
theorem gS_r_number (s : RS) (f : Nat → Int64) : r_number (S_r_number s f) = f := rfl
def S_r_partA (s : RS) (f : Nat → Int32) : RS := (s.1, s.2.1, va_up s.2.2.1 1 f, s.2.2.2)
theorem SS_r_partA (s : RS) (f g : Nat → Int32) : S_r_partA (S_r_partA s f) g = S_r_partA s g := by simp only [S_r_partA, bx_uu]
theorem Sg_r_partA (s : RS) : S_r_partA s (r_partA s) = s := by simp only [S_r_partA, r_partA, vup_self]
theorem sS_r_partA (s : RS) (k : Nat) (v : Int32) : s_r_partA s k v = S_r_partA s (upd (r_partA s) k v) := rfl
theorem gS_r_partA (s : RS) (f : Nat → Int32) : r_partA (S_r_partA s f) = f := rfl
def S_r_partB (s : RS) (f : Nat → Int32) : RS := (s.1, s.2.1, va_up s.2.2.1 2 f, s.2.2.2)
theorem SS_r_partB (s : RS) (f g : Nat → Int32) : S_r_partB (S_r_partB s f) g = S_r_partB s g := by simp only [S_r_partB, bx_uu]
theorem Sg_r_partB (s : RS) : S_r_partB s (r_partB s) = s := by simp only [S_r_partB, r_partB, vup_self]
theorem sS_r_partB (s : RS) (k : Nat) (v : Int32) : s_r_partB s k v = S_r_partB s (upd (r_partB s) k v) := rfl
theorem gS_r_partB (s : RS) (f : Nat → Int32) : r_partB (S_r_partB s f) = f := rfl
def S_r_partC (s : RS) (f : Nat → Int32) : RS := (s.1, s.2.1, va_up s.2.2.1 3 f, s.2.2.2)
theorem SS_r_partC (s : RS) (f g : Nat → Int32) : S_r_partC (S_r_partC s f) g = S_r_partC s g := by simp only [S_r_partC, bx_uu]
theorem Sg_r_partC (s : RS) : S_r_partC s (r_partC s) = s := by simp only [S_r_partC, r_partC, vup_self]
theorem sS_r_partC (s : RS) (k : Nat) (v : Int32) : s_r_partC s k v = S_r_partC s (upd (r_partC s) k v) := rfl
theorem gS_r_partC (s : RS) (f : Nat → Int32) : r_partC (S_r_partC s f) = f := rfl
def S_r_root (s : RS) (f : Nat → Int32) : RS := (s.1, s.2.1, va_up s.2.2.1 4 f, s.2.2.2)
theorem SS_r_root (s : RS) (f g : Nat → Int32) : S_r_root (S_r_root s f) g = S_r_root s g := by simp only [S_r_root, bx_uu]
theorem Sg_r_root (s : RS) : S_r_root s (r_root s) = s := by simp only [S_r_root, r_root, vup_self]
theorem sS_r_root (s : RS) (k : Nat) (v : Int32) : s_r_root s k v = S_r_root s (upd (r_root s) k v) := rfl
theorem gS_r_root (s : RS) (f : Nat → Int32) : r_root (S_r_root s f) = f := rfl
def S_r_input (s : RS) (f : Nat → Int64) : RS := (s.1, s.2.1, s.2.2.1, va_up s.2.2.2 1 f)
theorem SS_r_input (s : RS) (f g : Nat → Int64) : S_r_input (S_r_input s f) g = S_r_input s g := by simp only [S_r_input, bx_uu]
theorem Sg_r_input (s : RS) : S_r_input s (r_input s) = s := by simp only [S_r_input, r_input, vup_self]
theorem sS_r_input (s : RS) (k : Nat) (v : Int64) : s_r_input s k v = S_r_input s (vp_updL (r_input s) k v) := rfl
theorem gS_r_input (s : RS) (f : Nat → Int64) : r_input (S_r_input s f) = f := rfl
def S_r_wanted (s : RS) (f : Nat → Int64) : RS := (s.1, s.2.1, s.2.2.1, va_up s.2.2.2 2 f)
theorem SS_r_wanted (s : RS) (f g : Nat → Int64) : S_r_wanted (S_r_wanted s f) g = S_r_wanted s g := by simp only [S_r_wanted, bx_uu]
theorem Sg_r_wanted (s : RS) : S_r_wanted s (r_wanted s) = s := by simp only [S_r_wanted, r_wanted, vup_self]
theorem sS_r_wanted (s : RS) (k : Nat) (v : Int64) : s_r_wanted s k v = S_r_wanted s (vp_updL (r_wanted s) k v) := rfl
theorem gS_r_wanted (s : RS) (f : Nat → Int64) : r_wanted (S_r_wanted s f) = f := rfl
def S_r_passes (s : RS) (f : Nat → Int32) : RS := (s.1, s.2.1, va_up s.2.2.1 5 f, s.2.2.2)
theorem SS_r_passes (s : RS) (f g : Nat → Int32) : S_r_passes (S_r_passes s f) g = S_r_passes s g := by simp only [S_r_passes, bx_uu]
theorem Sg_r_passes (s : RS) : S_r_passes s (r_passes s) = s := by simp only [S_r_passes, r_passes, vup_self]
theorem sS_r_passes (s : RS) (k : Nat) (v : Int32) : s_r_passes s k v = S_r_passes s (upd (r_passes s) k v) := rfl
theorem gS_r_passes (s : RS) (f : Nat → Int32) : r_passes (S_r_passes s f) = f := rfl
def S_r_stepsOf (s : RS) (f : Nat → Int32) : RS := (s.1, s.2.1, va_up s.2.2.1 6 f, s.2.2.2)
theorem SS_r_stepsOf (s : RS) (f g : Nat → Int32) : S_r_stepsOf (S_r_stepsOf s f) g = S_r_stepsOf s g := by simp only [S_r_stepsOf, bx_uu]
theorem Sg_r_stepsOf (s : RS) : S_r_stepsOf s (r_stepsOf s) = s := by simp only [S_r_stepsOf, r_stepsOf, vup_self]
theorem sS_r_stepsOf (s : RS) (k : Nat) (v : Int32) : s_r_stepsOf s k v = S_r_stepsOf s (upd (r_stepsOf s) k v) := rfl
theorem gS_r_stepsOf (s : RS) (f : Nat → Int32) : r_stepsOf (S_r_stepsOf s f) = f := rfl
def S_r_covers (s : RS) (f : Nat → Int32) : RS := (s.1, s.2.1, va_up s.2.2.1 7 f, s.2.2.2)
theorem SS_r_covers (s : RS) (f g : Nat → Int32) : S_r_covers (S_r_covers s f) g = S_r_covers s g := by simp only [S_r_covers, bx_uu]
theorem Sg_r_covers (s : RS) : S_r_covers s (r_covers s) = s := by simp only [S_r_covers, r_covers, vup_self]
theorem sS_r_covers (s : RS) (k : Nat) (v : Int32) : s_r_covers s k v = S_r_covers s (upd (r_covers s) k v) := rfl
theorem gS_r_covers (s : RS) (f : Nat → Int32) : r_covers (S_r_covers s f) = f := rfl
def S_r_covered (s : RS) (f : Nat → Int32) : RS := (s.1, s.2.1, va_up s.2.2.1 8 f, s.2.2.2)
theorem SS_r_covered (s : RS) (f g : Nat → Int32) : S_r_covered (S_r_covered s f) g = S_r_covered s g := by simp only [S_r_covered, bx_uu]
theorem Sg_r_covered (s : RS) : S_r_covered s (r_covered s) = s := by simp only [S_r_covered, r_covered, vup_self]
theorem sS_r_covered (s : RS) (k : Nat) (v : Int32) : s_r_covered s k v = S_r_covered s (upd (r_covered s) k v) := rfl
theorem gS_r_covered (s : RS) (f : Nat → Int32) : r_covered (S_r_covered s f) = f := rfl
def S_r_kindM (s : RS) (f : Nat → Int32) : RS := (s.1, s.2.1, va_up s.2.2.1 9 f, s.2.2.2)
theorem SS_r_kindM (s : RS) (f g : Nat → Int32) : S_r_kindM (S_r_kindM s f) g = S_r_kindM s g := by simp only [S_r_kindM, bx_uu]
theorem Sg_r_kindM (s : RS) : S_r_kindM s (r_kindM s) = s := by simp only [S_r_kindM, r_kindM, vup_self]
theorem sS_r_kindM (s : RS) (k : Nat) (v : Int32) : s_r_kindM s k v = S_r_kindM s (upd (r_kindM s) k v) := rfl
theorem gS_r_kindM (s : RS) (f : Nat → Int32) : r_kindM (S_r_kindM s f) = f := rfl
def S_r_nodeM (s : RS) (f : Nat → Int32) : RS := (s.1, s.2.1, va_up s.2.2.1 10 f, s.2.2.2)
theorem SS_r_nodeM (s : RS) (f g : Nat → Int32) : S_r_nodeM (S_r_nodeM s f) g = S_r_nodeM s g := by simp only [S_r_nodeM, bx_uu]
theorem Sg_r_nodeM (s : RS) : S_r_nodeM s (r_nodeM s) = s := by simp only [S_r_nodeM, r_nodeM, vup_self]
theorem sS_r_nodeM (s : RS) (k : Nat) (v : Int32) : s_r_nodeM s k v = S_r_nodeM s (upd (r_nodeM s) k v) := rfl
theorem gS_r_nodeM (s : RS) (f : Nat → Int32) : r_nodeM (S_r_nodeM s f) = f := rfl
def S_r_outcome (s : RS) (f : Nat → Int32) : RS := (s.1, s.2.1, va_up s.2.2.1 11 f, s.2.2.2)
theorem SS_r_outcome (s : RS) (f g : Nat → Int32) : S_r_outcome (S_r_outcome s f) g = S_r_outcome s g := by simp only [S_r_outcome, bx_uu]
theorem Sg_r_outcome (s : RS) : S_r_outcome s (r_outcome s) = s := by simp only [S_r_outcome, r_outcome, vup_self]
theorem sS_r_outcome (s : RS) (k : Nat) (v : Int32) : s_r_outcome s k v = S_r_outcome s (upd (r_outcome s) k v) := rfl
theorem gS_r_outcome (s : RS) (f : Nat → Int32) : r_outcome (S_r_outcome s f) = f := rfl
def S_r_ender (s : RS) (f : Nat → Int32) : RS := (s.1, s.2.1, va_up s.2.2.1 12 f, s.2.2.2)
theorem SS_r_ender (s : RS) (f g : Nat → Int32) : S_r_ender (S_r_ender s f) g = S_r_ender s g := by simp only [S_r_ender, bx_uu]
theorem Sg_r_ender (s : RS) : S_r_ender s (r_ender s) = s := by simp only [S_r_ender, r_ender, vup_self]
theorem sS_r_ender (s : RS) (k : Nat) (v : Int32) : s_r_ender s k v = S_r_ender s (upd (r_ender s) k v) := rfl
theorem gS_r_ender (s : RS) (f : Nat → Int32) : r_ender (S_r_ender s f) = f := rfl
def S_r_sampleRow (s : RS) (f : Nat → Int32) : RS := (s.1, s.2.1, va_up s.2.2.1 13 f, s.2.2.2)
theorem SS_r_sampleRow (s : RS) (f g : Nat → Int32) : S_r_sampleRow (S_r_sampleRow s f) g = S_r_sampleRow s g := by simp only [S_r_sampleRow, bx_uu]
theorem Sg_r_sampleRow (s : RS) : S_r_sampleRow s (r_sampleRow s) = s := by simp only [S_r_sampleRow, r_sampleRow, vup_self]
theorem sS_r_sampleRow (s : RS) (k : Nat) (v : Int32) : s_r_sampleRow s k v = S_r_sampleRow s (upd (r_sampleRow s) k v) := rfl
theorem gS_r_sampleRow (s : RS) (f : Nat → Int32) : r_sampleRow (S_r_sampleRow s f) = f := rfl
def S_r_marked (s : RS) (f : Nat → Int32) : RS := (s.1, s.2.1, va_up s.2.2.1 14 f, s.2.2.2)
theorem SS_r_marked (s : RS) (f g : Nat → Int32) : S_r_marked (S_r_marked s f) g = S_r_marked s g := by simp only [S_r_marked, bx_uu]
theorem Sg_r_marked (s : RS) : S_r_marked s (r_marked s) = s := by simp only [S_r_marked, r_marked, vup_self]
theorem sS_r_marked (s : RS) (k : Nat) (v : Int32) : s_r_marked s k v = S_r_marked s (upd (r_marked s) k v) := rfl
theorem gS_r_marked (s : RS) (f : Nat → Int32) : r_marked (S_r_marked s f) = f := rfl
def S_r_waits (s : RS) (f : Nat → Int32) : RS := (s.1, s.2.1, va_up s.2.2.1 15 f, s.2.2.2)
theorem SS_r_waits (s : RS) (f g : Nat → Int32) : S_r_waits (S_r_waits s f) g = S_r_waits s g := by simp only [S_r_waits, bx_uu]
theorem Sg_r_waits (s : RS) : S_r_waits s (r_waits s) = s := by simp only [S_r_waits, r_waits, vup_self]
theorem sS_r_waits (s : RS) (k : Nat) (v : Int32) : s_r_waits s k v = S_r_waits s (upd (r_waits s) k v) := rfl
theorem gS_r_waits (s : RS) (f : Nat → Int32) : r_waits (S_r_waits s f) = f := rfl
def S_r_phase (s : RS) (f : Nat → Int32) : RS := (s.1, s.2.1, va_up s.2.2.1 16 f, s.2.2.2)
theorem SS_r_phase (s : RS) (f g : Nat → Int32) : S_r_phase (S_r_phase s f) g = S_r_phase s g := by simp only [S_r_phase, bx_uu]
theorem Sg_r_phase (s : RS) : S_r_phase s (r_phase s) = s := by simp only [S_r_phase, r_phase, vup_self]
theorem sS_r_phase (s : RS) (k : Nat) (v : Int32) : s_r_phase s k v = S_r_phase s (upd (r_phase s) k v) := rfl
theorem gS_r_phase (s : RS) (f : Nat → Int32) : r_phase (S_r_phase s f) = f := rfl
def S_r_first (s : RS) (f : Nat → Int64) : RS := (s.1, s.2.1, s.2.2.1, va_up s.2.2.2 3 f)
theorem SS_r_first (s : RS) (f g : Nat → Int64) : S_r_first (S_r_first s f) g = S_r_first s g := by simp only [S_r_first, bx_uu]
theorem Sg_r_first (s : RS) : S_r_first s (r_first s) = s := by simp only [S_r_first, r_first, vup_self]
theorem sS_r_first (s : RS) (k : Nat) (v : Int64) : s_r_first s k v = S_r_first s (vp_updL (r_first s) k v) := rfl
theorem gS_r_first (s : RS) (f : Nat → Int64) : r_first (S_r_first s f) = f := rfl
def S_r_far (s : RS) (f : Nat → Int32) : RS := (s.1, s.2.1, va_up s.2.2.1 17 f, s.2.2.2)
theorem SS_r_far (s : RS) (f g : Nat → Int32) : S_r_far (S_r_far s f) g = S_r_far s g := by simp only [S_r_far, bx_uu]
theorem Sg_r_far (s : RS) : S_r_far s (r_far s) = s := by simp only [S_r_far, r_far, vup_self]
theorem sS_r_far (s : RS) (k : Nat) (v : Int32) : s_r_far s k v = S_r_far s (upd (r_far s) k v) := rfl
theorem gS_r_far (s : RS) (f : Nat → Int32) : r_far (S_r_far s f) = f := rfl
def S_r_list (s : RS) (f : Nat → Int32) : RS := (s.1, s.2.1, va_up s.2.2.1 18 f, s.2.2.2)
theorem SS_r_list (s : RS) (f g : Nat → Int32) : S_r_list (S_r_list s f) g = S_r_list s g := by simp only [S_r_list, bx_uu]
theorem Sg_r_list (s : RS) : S_r_list s (r_list s) = s := by simp only [S_r_list, r_list, vup_self]
theorem sS_r_list (s : RS) (k : Nat) (v : Int32) : s_r_list s k v = S_r_list s (upd (r_list s) k v) := rfl
theorem gS_r_list (s : RS) (f : Nat → Int32) : r_list (S_r_list s f) = f := rfl
def S_r_alike (s : RS) (f : Nat → Int32) : RS := (s.1, s.2.1, va_up s.2.2.1 19 f, s.2.2.2)
theorem SS_r_alike (s : RS) (f g : Nat → Int32) : S_r_alike (S_r_alike s f) g = S_r_alike s g := by simp only [S_r_alike, bx_uu]
theorem Sg_r_alike (s : RS) : S_r_alike s (r_alike s) = s := by simp only [S_r_alike, r_alike, vup_self]
theorem sS_r_alike (s : RS) (k : Nat) (v : Int32) : s_r_alike s k v = S_r_alike s (upd (r_alike s) k v) := rfl
theorem gS_r_alike (s : RS) (f : Nat → Int32) : r_alike (S_r_alike s f) = f := rfl
