theorem same_about (x1 x2 : Int32) : Same (f_M_about x1 x2) (f_R_about x1 x2) := sorry
theorem same_run (x1 x2 : Int32) : Same (f_M_run x1 x2) (f_R_run x1 x2) := sorry
theorem same_order (x1 x2 : Int32) : Same (f_M_order x1 x2) (f_R_order x1 x2) := sorry
theorem same_change (x1 : Int32) (x2 : Int64) : Same (f_M_change x1 x2) (f_R_change x1 x2) := sorry
