/-- the memory behind the two constructors -/
def M0 : Mem := fun k => if k = 35 then upd (upd (upd (upd (fun _ => 0) 0 (-9)) 1 (-9)) 2 (-9)) 3 (-9) else fun j => if k = 34 then (if j = 19 then -9 else 0) else if 26 ≤ k ∧ k ≤ 29 ∧ j = 2 then -1 else 0
