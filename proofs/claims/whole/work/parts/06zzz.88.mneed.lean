theorem bz {F r : Int32} (hr : r = if F = 0 then 0 else 1) (c : r = 0) : F = 0 := Decidable.byContradiction (fun z => absurd (c.symm.trans (hr.trans (if_neg z))) (by decide))
