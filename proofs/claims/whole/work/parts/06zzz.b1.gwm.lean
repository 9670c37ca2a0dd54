/-! the reference's new world as a graph */
-/
set_option maxRecDepth 100000 in
theorem gW_M (hm : Nat → Nat) (km : Nat → ClassId) (m0 : Nat) : at_mo0 hm km m0 = gW LM (fun o => if o = 0 then m0 else hm (o - 1)) km M00 := by
  unfold at_mo0 gW
  have e : (List.range (gO LM)).map (fun o => ((fun o => if o = 0 then m0 else hm (o - 1)) o, (.inr (gci LM o, gf LM (fun o => if o = 0 then m0 else hm (o - 1)) M00 o) : va_E))) = [(m0, .inr (gci LM 0, gf LM (fun o => if o = 0 then m0 else hm (o - 1)) M00 0))] := rfl
  rw [e]
  show _ :: _ = _ :: _
  congr 1
