/-- the states behind the constructors -/
def c0 : CS := (fun i => if i = 2 then -1 else if i = 3 then -1 else 0, fun _ => 0, fun _ _ => 0, fun _ _ => 0)
def r0 : RS := (fun i => if i = 4 then -1 else if i = 5 then -1 else 0, fun _ => 0, fun _ _ => 0, fun _ _ => 0)
