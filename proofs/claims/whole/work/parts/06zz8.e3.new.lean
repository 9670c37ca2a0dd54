/-! the states of two new objects */
-/
def M00 : gSt := (fun k j => if k = 8 ∧ j = 0 then -1 else 0, fun _ _ => 0)
def T00 : gSt := (fun k j => if k = 54 ∧ j = 0 then -1 else 0, fun k => if k = 26 then wt 133 else fun _ => 0)
