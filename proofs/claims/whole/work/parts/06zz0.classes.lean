def lw_good : List Cond := lw_tbl.filter goodWord
theorem lg_right {w : Cond} {i : Nat} (h : tables_1[i]? = some w) (g : goodWord w = true) : w ∈ lw_good := List.mem_filter.mpr ⟨List.mem_append_right _ (List.mem_of_getElem? h), g⟩
theorem lg_left {w : Cond} {i : Nat} (h : (k2_sels lw_privs)[i]? = some w) (g : goodWord w = true) : w ∈ lw_good := List.mem_filter.mpr ⟨List.mem_append_left _ (List.mem_of_getElem? h), g⟩
theorem lg_in {w : Cond} (h : w ∈ tables_1) (g : goodWord w = true) : w ∈ lw_good := List.mem_filter.mpr ⟨List.mem_append_right _ h, g⟩
theorem tin_1 : ∀ w ∈ tables_1_1, w ∈ tables_1 := fun w h => List.mem_append_left _ h
theorem tin_2 : ∀ w ∈ tables_1_2, w ∈ tables_1 := fun w h => List.mem_append_right _ (List.mem_append_left _ h)
theorem tin_3 : ∀ w ∈ tables_1_3, w ∈ tables_1 := fun w h => List.mem_append_right _ (List.mem_append_right _ (List.mem_append_left _ h))
theorem tin_4 : ∀ w ∈ tables_1_4, w ∈ tables_1 := fun w h => List.mem_append_right _ (List.mem_append_right _ (List.mem_append_right _ (List.mem_append_left _ h)))
theorem tin_5 : ∀ w ∈ tables_1_5, w ∈ tables_1 := fun w h => List.mem_append_right _ (List.mem_append_right _ (List.mem_append_right _ (List.mem_append_right _ (List.mem_append_left _ h))))
theorem tin_6 : ∀ w ∈ tables_1_6, w ∈ tables_1 := fun w h => List.mem_append_right _ (List.mem_append_right _ (List.mem_append_right _ (List.mem_append_right _ (List.mem_append_right _ (List.mem_append_left _ h)))))
theorem tin_7 : ∀ w ∈ tables_1_7, w ∈ tables_1 := fun w h => List.mem_append_right _ (List.mem_append_right _ (List.mem_append_right _ (List.mem_append_right _ (List.mem_append_right _ (List.mem_append_right _ (List.mem_append_left _ h))))))
theorem tin_8 : ∀ w ∈ tables_1_8, w ∈ tables_1 := fun w h => List.mem_append_right _ (List.mem_append_right _ (List.mem_append_right _ (List.mem_append_right _ (List.mem_append_right _ (List.mem_append_right _ (List.mem_append_right _ (List.mem_append_left _ h)))))))
theorem tin_9 : ∀ w ∈ tables_1_9, w ∈ tables_1 := fun w h => List.mem_append_right _ (List.mem_append_right _ (List.mem_append_right _ (List.mem_append_right _ (List.mem_append_right _ (List.mem_append_right _ (List.mem_append_right _ (List.mem_append_right _ (List.mem_append_left _ h))))))))
theorem tin_10 : ∀ w ∈ tables_1_10, w ∈ tables_1 := fun w h => List.mem_append_right _ (List.mem_append_right _ (List.mem_append_right _ (List.mem_append_right _ (List.mem_append_right _ (List.mem_append_right _ (List.mem_append_right _ (List.mem_append_right _ (List.mem_append_right _ (List.mem_append_left _ h)))))))))
theorem tin_11 : ∀ w ∈ tables_1_11, w ∈ tables_1 := fun w h => List.mem_append_right _ (List.mem_append_right _ (List.mem_append_right _ (List.mem_append_right _ (List.mem_append_right _ (List.mem_append_right _ (List.mem_append_right _ (List.mem_append_right _ (List.mem_append_right _ (List.mem_append_right _ (List.mem_append_left _ h))))))))))
theorem tin_12 : ∀ w ∈ tables_1_12, w ∈ tables_1 := fun w h => List.mem_append_right _ (List.mem_append_right _ (List.mem_append_right _ (List.mem_append_right _ (List.mem_append_right _ (List.mem_append_right _ (List.mem_append_right _ (List.mem_append_right _ (List.mem_append_right _ (List.mem_append_right _ (List.mem_append_right _ (h)))))))))))
theorem in_ix {C : String} {T : u_T} {N : Nat} (ix : List Nat) (h : (List.range N).all (fun k => decide (tables_1[ix.getD k 0]? = some (u_lay C T k))) = true) : ∀ w ∈ u_ws C T N, w ∈ lw_good := by
  intro w hw
  obtain ⟨k, hk, rfl⟩ := List.mem_map.mp hw
  refine lg_right (of_decide_eq_true (List.all_eq_true.mp h k hk)) ?_
  unfold u_lay
  split <;> rfl
def R_Code : String := "PointerHouse$Code"
def F_Code : u_T := fun k => match k with
  | 0 => ("PointerHouse$Code", "op", "[I", true)
  | 1 => ("PointerHouse$Code", "first", "[I", true)
  | 2 => ("PointerHouse$Code", "second", "[I", true)
  | 3 => ("PointerHouse$Code", "count", "I", false)
  | 4 => ("PointerHouse$Code", "counts", "[I", true)
  | 5 => ("PointerHouse$Code", "faultKind", "I", false)
  | _ => ("PointerHouse$Code", "faultPlace", "I", false)
def t_Code : Nat → FieldType := fun k => match k with
  | 0 => .array .int
  | 1 => .array .int
  | 2 => .array .int
  | 3 => .int
  | 4 => .array .int
  | 5 => .int
  | _ => .int
theorem n_Code : ∀ a, a < 7 → ∀ b, b < 7 → a ≠ b → (F_Code a).2.1 ≠ (F_Code b).2.1 := by decide +kernel
theorem t_Code_ok : ∀ k, k < 7 → parseFieldDescriptor (F_Code k).2.2.1 = some (t_Code k) := by decide +kernel
theorem i_Code : ∀ w ∈ u_ws R_Code F_Code 7, w ∈ lw_good := in_ix [395, 397, 399, 401, 403, 405, 407] (by decide +kernel)
def R_Exprs : String := "PointerHouse$Exprs"
def F_Exprs : u_T := fun k => match k with
  | 0 => ("PointerHouse$Exprs", "source", "LPointerHouse$Source;", true)
  | 1 => ("PointerHouse$Exprs", "items", "LPointerHouse$Items;", true)
  | 2 => ("PointerHouse$Exprs", "heads", "LPointerHouse$Heads;", true)
  | 3 => ("PointerHouse$Exprs", "types", "LPointerHouse$Types;", true)
  | 4 => ("PointerHouse$Exprs", "scope", "LPointerHouse$Scope;", true)
  | _ => ("PointerHouse$Exprs", "code", "LPointerHouse$Code;", true)
def t_Exprs : Nat → FieldType := fun k => match k with
  | 0 => .object "PointerHouse$Source"
  | 1 => .object "PointerHouse$Items"
  | 2 => .object "PointerHouse$Heads"
  | 3 => .object "PointerHouse$Types"
  | 4 => .object "PointerHouse$Scope"
  | _ => .object "PointerHouse$Code"
theorem n_Exprs : ∀ a, a < 6 → ∀ b, b < 6 → a ≠ b → (F_Exprs a).2.1 ≠ (F_Exprs b).2.1 := by decide +kernel
theorem t_Exprs_ok : ∀ k, k < 6 → parseFieldDescriptor (F_Exprs k).2.2.1 = some (t_Exprs k) := by decide +kernel
theorem i_Exprs : ∀ w ∈ u_ws R_Exprs F_Exprs 6, w ∈ lw_good := in_ix [546, 548, 550, 552, 554, 556] (by decide +kernel)
def R_Heads : String := "PointerHouse$Heads"
def F_Heads : u_T := fun k => match k with
  | 0 => ("PointerHouse$Heads", "source", "LPointerHouse$Source;", true)
  | 1 => ("PointerHouse$Heads", "items", "LPointerHouse$Items;", true)
  | 2 => ("PointerHouse$Heads", "types", "LPointerHouse$Types;", true)
  | 3 => ("PointerHouse$Heads", "scope", "LPointerHouse$Scope;", true)
  | _ => ("PointerHouse$Heads", "code", "LPointerHouse$Code;", true)
def t_Heads : Nat → FieldType := fun k => match k with
  | 0 => .object "PointerHouse$Source"
  | 1 => .object "PointerHouse$Items"
  | 2 => .object "PointerHouse$Types"
  | 3 => .object "PointerHouse$Scope"
  | _ => .object "PointerHouse$Code"
theorem n_Heads : ∀ a, a < 5 → ∀ b, b < 5 → a ≠ b → (F_Heads a).2.1 ≠ (F_Heads b).2.1 := by decide +kernel
theorem t_Heads_ok : ∀ k, k < 5 → parseFieldDescriptor (F_Heads k).2.2.1 = some (t_Heads k) := by decide +kernel
theorem i_Heads : ∀ w ∈ u_ws R_Heads F_Heads 5, w ∈ lw_good := in_ix [523, 525, 527, 529, 531] (by decide +kernel)
def R_Items : String := "PointerHouse$Items"
def F_Items : u_T := fun k => match k with
  | 0 => ("PointerHouse$Items", "count", "I", false)
  | 1 => ("PointerHouse$Items", "kind", "[I", true)
  | 2 => ("PointerHouse$Items", "nameTok", "[I", true)
  | 3 => ("PointerHouse$Items", "name", "[J", true)
  | 4 => ("PointerHouse$Items", "rsCount", "[I", true)
  | 5 => ("PointerHouse$Items", "partCount", "[I", true)
  | 6 => ("PointerHouse$Items", "typeTok", "[I", true)
  | 7 => ("PointerHouse$Items", "deadTok", "[I", true)
  | 8 => ("PointerHouse$Items", "whereTok", "[I", true)
  | 9 => ("PointerHouse$Items", "body", "[I", true)
  | 10 => ("PointerHouse$Items", "endTok", "[I", true)
  | 11 => ("PointerHouse$Items", "gives", "[I", true)
  | 12 => ("PointerHouse$Items", "dead", "[I", true)
  | 13 => ("PointerHouse$Items", "above", "[I", true)
  | 14 => ("PointerHouse$Items", "words", "[I", true)
  | 15 => ("PointerHouse$Items", "entry", "[I", true)
  | 16 => ("PointerHouse$Items", "partTok", "[I", true)
  | 17 => ("PointerHouse$Items", "partType", "[I", true)
  | 18 => ("PointerHouse$Items", "partPlace", "[I", true)
  | 19 => ("PointerHouse$Items", "pairCount", "[I", true)
  | _ => ("PointerHouse$Items", "pairs", "[I", true)
def t_Items : Nat → FieldType := fun k => match k with
  | 0 => .int
  | 1 => .array .int
  | 2 => .array .int
  | 3 => .array .long
  | 4 => .array .int
  | 5 => .array .int
  | 6 => .array .int
  | 7 => .array .int
  | 8 => .array .int
  | 9 => .array .int
  | 10 => .array .int
  | 11 => .array .int
  | 12 => .array .int
  | 13 => .array .int
  | 14 => .array .int
  | 15 => .array .int
  | 16 => .array .int
  | 17 => .array .int
  | 18 => .array .int
  | 19 => .array .int
  | _ => .array .int
theorem n_Items : ∀ a, a < 21 → ∀ b, b < 21 → a ≠ b → (F_Items a).2.1 ≠ (F_Items b).2.1 := by decide +kernel
theorem t_Items_ok : ∀ k, k < 21 → parseFieldDescriptor (F_Items k).2.2.1 = some (t_Items k) := by decide +kernel
theorem i_Items : ∀ w ∈ u_ws R_Items F_Items 21, w ∈ lw_good := in_ix [336, 338, 340, 342, 344, 346, 348, 350, 352, 354, 356, 358, 360, 362, 364, 366, 368, 370, 372, 374, 376] (by decide +kernel)
def R_Machine : String := "PointerHouse$Machine"
def F_Machine : u_T := fun k => match k with
  | 0 => ("PointerHouse$Machine", "code", "LPointerHouse$Code;", true)
  | 1 => ("PointerHouse$Machine", "items", "LPointerHouse$Items;", true)
  | 2 => ("PointerHouse$Machine", "memory", "LPointerHouse$Memory;", true)
  | 3 => ("PointerHouse$Machine", "stack", "[I", true)
  | 4 => ("PointerHouse$Machine", "top", "I", false)
  | 5 => ("PointerHouse$Machine", "frames", "[I", true)
  | 6 => ("PointerHouse$Machine", "calls", "I", false)
  | 7 => ("PointerHouse$Machine", "tries", "[I", true)
  | 8 => ("PointerHouse$Machine", "tryCount", "I", false)
  | 9 => ("PointerHouse$Machine", "pc", "I", false)
  | 10 => ("PointerHouse$Machine", "state", "I", false)
  | 11 => ("PointerHouse$Machine", "error", "I", false)
  | 12 => ("PointerHouse$Machine", "stepsDone", "I", false)
  | 13 => ("PointerHouse$Machine", "errorsCame", "I", false)
  | 14 => ("PointerHouse$Machine", "inputs", "[I", true)
  | 15 => ("PointerHouse$Machine", "inputCount", "I", false)
  | 16 => ("PointerHouse$Machine", "printed", "[I", true)
  | _ => ("PointerHouse$Machine", "printedCount", "I", false)
def t_Machine : Nat → FieldType := fun k => match k with
  | 0 => .object "PointerHouse$Code"
  | 1 => .object "PointerHouse$Items"
  | 2 => .object "PointerHouse$Memory"
  | 3 => .array .int
  | 4 => .int
  | 5 => .array .int
  | 6 => .int
  | 7 => .array .int
  | 8 => .int
  | 9 => .int
  | 10 => .int
  | 11 => .int
  | 12 => .int
  | 13 => .int
  | 14 => .array .int
  | 15 => .int
  | 16 => .array .int
  | _ => .int
theorem n_Machine : ∀ a, a < 18 → ∀ b, b < 18 → a ≠ b → (F_Machine a).2.1 ≠ (F_Machine b).2.1 := by decide +kernel
theorem t_Machine_ok : ∀ k, k < 18 → parseFieldDescriptor (F_Machine k).2.2.1 = some (t_Machine k) := by decide +kernel
theorem i_Machine : ∀ w ∈ u_ws R_Machine F_Machine 18, w ∈ lw_good := in_ix [664, 666, 668, 670, 672, 674, 676, 678, 680, 682, 684, 686, 688, 690, 692, 694, 696, 698] (by decide +kernel)
def R_Memory : String := "PointerHouse$Memory"
def F_Memory : u_T := fun k => match k with
  | 0 => ("PointerHouse$Memory", "words", "[I", true)
  | 1 => ("PointerHouse$Memory", "given", "[Z", true)
  | 2 => ("PointerHouse$Memory", "owner", "[I", true)
  | 3 => ("PointerHouse$Memory", "pages", "I", false)
  | 4 => ("PointerHouse$Memory", "wordsAPage", "I", false)
  | 5 => ("PointerHouse$Memory", "inUse", "I", false)
  | 6 => ("PointerHouse$Memory", "made", "I", false)
  | 7 => ("PointerHouse$Memory", "strays", "I", false)
  | 8 => ("PointerHouse$Memory", "regions", "I", false)
  | 9 => ("PointerHouse$Memory", "pagesOf", "[I", true)
  | 10 => ("PointerHouse$Memory", "wordsOf", "[I", true)
  | 11 => ("PointerHouse$Memory", "objectsOf", "[I", true)
  | 12 => ("PointerHouse$Memory", "nextOf", "[I", true)
  | _ => ("PointerHouse$Memory", "leftOf", "[I", true)
def t_Memory : Nat → FieldType := fun k => match k with
  | 0 => .array .int
  | 1 => .array .boolean
  | 2 => .array .int
  | 3 => .int
  | 4 => .int
  | 5 => .int
  | 6 => .int
  | 7 => .int
  | 8 => .int
  | 9 => .array .int
  | 10 => .array .int
  | 11 => .array .int
  | 12 => .array .int
  | _ => .array .int
theorem n_Memory : ∀ a, a < 14 → ∀ b, b < 14 → a ≠ b → (F_Memory a).2.1 ≠ (F_Memory b).2.1 := by decide +kernel
theorem t_Memory_ok : ∀ k, k < 14 → parseFieldDescriptor (F_Memory k).2.2.1 = some (t_Memory k) := by decide +kernel
theorem i_Memory : ∀ w ∈ u_ws R_Memory F_Memory 14, w ∈ lw_good := in_ix [613, 615, 617, 619, 621, 623, 625, 627, 629, 631, 633, 635, 637, 639] (by decide +kernel)
def R_Parser : String := "PointerHouse$Parser"
def F_Parser : u_T := fun k => match k with
  | 0 => ("PointerHouse$Parser", "source", "LPointerHouse$Source;", true)
  | 1 => ("PointerHouse$Parser", "items", "LPointerHouse$Items;", true)
  | 2 => ("PointerHouse$Parser", "code", "LPointerHouse$Code;", true)
  | 3 => ("PointerHouse$Parser", "at", "I", false)
  | 4 => ("PointerHouse$Parser", "look", "I", false)
  | 5 => ("PointerHouse$Parser", "stopped", "Z", false)
  | 6 => ("PointerHouse$Parser", "vars", "I", false)
  | _ => ("PointerHouse$Parser", "regionSteps", "I", false)
def t_Parser : Nat → FieldType := fun k => match k with
  | 0 => .object "PointerHouse$Source"
  | 1 => .object "PointerHouse$Items"
  | 2 => .object "PointerHouse$Code"
  | 3 => .int
  | 4 => .int
  | 5 => .boolean
  | 6 => .int
  | _ => .int
theorem n_Parser : ∀ a, a < 8 → ∀ b, b < 8 → a ≠ b → (F_Parser a).2.1 ≠ (F_Parser b).2.1 := by decide +kernel
theorem t_Parser_ok : ∀ k, k < 8 → parseFieldDescriptor (F_Parser k).2.2.1 = some (t_Parser k) := by decide +kernel
theorem i_Parser : ∀ w ∈ u_ws R_Parser F_Parser 8, w ∈ lw_good := in_ix [424, 426, 428, 430, 432, 434, 436, 438] (by decide +kernel)
def R_Scope : String := "PointerHouse$Scope"
def F_Scope : u_T := fun k => match k with
  | 0 => ("PointerHouse$Scope", "source", "LPointerHouse$Source;", true)
  | 1 => ("PointerHouse$Scope", "items", "LPointerHouse$Items;", true)
  | 2 => ("PointerHouse$Scope", "types", "LPointerHouse$Types;", true)
  | 3 => ("PointerHouse$Scope", "item", "I", false)
  | 4 => ("PointerHouse$Scope", "varCount", "I", false)
  | 5 => ("PointerHouse$Scope", "varName", "[J", true)
  | 6 => ("PointerHouse$Scope", "varType", "[I", true)
  | 7 => ("PointerHouse$Scope", "varSlot", "[I", true)
  | 8 => ("PointerHouse$Scope", "regionStop", "I", false)
  | 9 => ("PointerHouse$Scope", "regionName", "[J", true)
  | 10 => ("PointerHouse$Scope", "regionTries", "[I", true)
  | 11 => ("PointerHouse$Scope", "tries", "I", false)
  | 12 => ("PointerHouse$Scope", "catches", "I", false)
  | _ => ("PointerHouse$Scope", "flow", "J", false)
def t_Scope : Nat → FieldType := fun k => match k with
  | 0 => .object "PointerHouse$Source"
  | 1 => .object "PointerHouse$Items"
  | 2 => .object "PointerHouse$Types"
  | 3 => .int
  | 4 => .int
  | 5 => .array .long
  | 6 => .array .int
  | 7 => .array .int
  | 8 => .int
  | 9 => .array .long
  | 10 => .array .int
  | 11 => .int
  | 12 => .int
  | _ => .long
theorem n_Scope : ∀ a, a < 14 → ∀ b, b < 14 → a ≠ b → (F_Scope a).2.1 ≠ (F_Scope b).2.1 := by decide +kernel
theorem t_Scope_ok : ∀ k, k < 14 → parseFieldDescriptor (F_Scope k).2.2.1 = some (t_Scope k) := by decide +kernel
theorem i_Scope : ∀ w ∈ u_ws R_Scope F_Scope 14, w ∈ lw_good := in_ix [479, 481, 483, 485, 487, 489, 491, 493, 495, 497, 499, 501, 503, 505] (by decide +kernel)
def R_Source : String := "PointerHouse$Source"
def F_Source : u_T := fun k => match k with
  | 0 => ("PointerHouse$Source", "kind", "[I", true)
  | 1 => ("PointerHouse$Source", "tok", "[I", true)
  | 2 => ("PointerHouse$Source", "next", "[I", true)
  | 3 => ("PointerHouse$Source", "peer", "[I", true)
  | 4 => ("PointerHouse$Source", "op", "[I", true)
  | 5 => ("PointerHouse$Source", "left", "[I", true)
  | 6 => ("PointerHouse$Source", "right", "[I", true)
  | 7 => ("PointerHouse$Source", "tail", "[I", true)
  | 8 => ("PointerHouse$Source", "nodes", "I", false)
  | 9 => ("PointerHouse$Source", "text", "[C", false)
  | 10 => ("PointerHouse$Source", "length", "I", false)
  | 11 => ("PointerHouse$Source", "tokenKind", "[I", true)
  | 12 => ("PointerHouse$Source", "tokenStart", "[I", true)
  | 13 => ("PointerHouse$Source", "tokenName", "[J", true)
  | 14 => ("PointerHouse$Source", "tokens", "I", false)
  | _ => ("PointerHouse$Source", "words", "[J", true)
def t_Source : Nat → FieldType := fun k => match k with
  | 0 => .array .int
  | 1 => .array .int
  | 2 => .array .int
  | 3 => .array .int
  | 4 => .array .int
  | 5 => .array .int
  | 6 => .array .int
  | 7 => .array .int
  | 8 => .int
  | 9 => .array .char
  | 10 => .int
  | 11 => .array .int
  | 12 => .array .int
  | 13 => .array .long
  | 14 => .int
  | _ => .array .long
theorem n_Source : ∀ a, a < 16 → ∀ b, b < 16 → a ≠ b → (F_Source a).2.1 ≠ (F_Source b).2.1 := by decide +kernel
theorem t_Source_ok : ∀ k, k < 16 → parseFieldDescriptor (F_Source k).2.2.1 = some (t_Source k) := by decide +kernel
theorem i_Source : ∀ w ∈ u_ws R_Source F_Source 16, w ∈ lw_good := in_ix [230, 232, 234, 236, 238, 240, 242, 244, 246, 248, 250, 252, 254, 256, 258, 260] (by decide +kernel)
def R_Steps : String := "PointerHouse$Steps"
def F_Steps : u_T := fun k => match k with
  | 0 => ("PointerHouse$Steps", "source", "LPointerHouse$Source;", true)
  | 1 => ("PointerHouse$Steps", "items", "LPointerHouse$Items;", true)
  | 2 => ("PointerHouse$Steps", "heads", "LPointerHouse$Heads;", true)
  | 3 => ("PointerHouse$Steps", "types", "LPointerHouse$Types;", true)
  | 4 => ("PointerHouse$Steps", "scope", "LPointerHouse$Scope;", true)
  | 5 => ("PointerHouse$Steps", "exprs", "LPointerHouse$Exprs;", true)
  | _ => ("PointerHouse$Steps", "code", "LPointerHouse$Code;", true)
def t_Steps : Nat → FieldType := fun k => match k with
  | 0 => .object "PointerHouse$Source"
  | 1 => .object "PointerHouse$Items"
  | 2 => .object "PointerHouse$Heads"
  | 3 => .object "PointerHouse$Types"
  | 4 => .object "PointerHouse$Scope"
  | 5 => .object "PointerHouse$Exprs"
  | _ => .object "PointerHouse$Code"
theorem n_Steps : ∀ a, a < 7 → ∀ b, b < 7 → a ≠ b → (F_Steps a).2.1 ≠ (F_Steps b).2.1 := by decide +kernel
theorem t_Steps_ok : ∀ k, k < 7 → parseFieldDescriptor (F_Steps k).2.2.1 = some (t_Steps k) := by decide +kernel
theorem i_Steps : ∀ w ∈ u_ws R_Steps F_Steps 7, w ∈ lw_good := in_ix [572, 574, 576, 578, 580, 582, 584] (by decide +kernel)
def R_Types : String := "PointerHouse$Types"
def F_Types : u_T := fun k => match k with
  | 0 => ("PointerHouse$Types", "slots", "[J", true)
  | _ => ("PointerHouse$Types", "era", "J", false)
def t_Types : Nat → FieldType := fun k => match k with
  | 0 => .array .long
  | _ => .long
theorem n_Types : ∀ a, a < 2 → ∀ b, b < 2 → a ≠ b → (F_Types a).2.1 ≠ (F_Types b).2.1 := by decide +kernel
theorem t_Types_ok : ∀ k, k < 2 → parseFieldDescriptor (F_Types k).2.2.1 = some (t_Types k) := by decide +kernel
theorem i_Types : ∀ w ∈ u_ws R_Types F_Types 2, w ∈ lw_good := in_ix [449, 451] (by decide +kernel)
def R_House : String := "PointerHouse"
def F_House : u_T := fun k => match k with
  | 0 => ("PointerHouse", "text", "[C", true)
  | 1 => ("PointerHouse", "length", "I", false)
  | 2 => ("PointerHouse", "built", "Z", false)
  | 3 => ("PointerHouse", "ready", "Z", false)
  | 4 => ("PointerHouse", "source", "LPointerHouse$Source;", true)
  | 5 => ("PointerHouse", "items", "LPointerHouse$Items;", true)
  | 6 => ("PointerHouse", "code", "LPointerHouse$Code;", true)
  | 7 => ("PointerHouse", "parser", "LPointerHouse$Parser;", true)
  | 8 => ("PointerHouse", "heads", "LPointerHouse$Heads;", true)
  | 9 => ("PointerHouse", "steps", "LPointerHouse$Steps;", true)
  | _ => ("PointerHouse", "machine", "LPointerHouse$Machine;", true)
def t_House : Nat → FieldType := fun k => match k with
  | 0 => .array .char
  | 1 => .int
  | 2 => .boolean
  | 3 => .boolean
  | 4 => .object "PointerHouse$Source"
  | 5 => .object "PointerHouse$Items"
  | 6 => .object "PointerHouse$Code"
  | 7 => .object "PointerHouse$Parser"
  | 8 => .object "PointerHouse$Heads"
  | 9 => .object "PointerHouse$Steps"
  | _ => .object "PointerHouse$Machine"
theorem n_House : ∀ a, a < 11 → ∀ b, b < 11 → a ≠ b → (F_House a).2.1 ≠ (F_House b).2.1 := by decide +kernel
theorem t_House_ok : ∀ k, k < 11 → parseFieldDescriptor (F_House k).2.2.1 = some (t_House k) := by decide +kernel
theorem i_House : ∀ w ∈ u_ws R_House F_House 11, w ∈ lw_good := in_ix [712, 714, 716, 718, 720, 722, 724, 726, 728, 730, 732] (by decide +kernel)
def R_Model : String := "PointerHouseModel"
def F_Model : u_T := fun k => match k with
  | 0 => ("PointerHouseModel", "text", "[I", true)
  | 1 => ("PointerHouseModel", "size", "I", false)
  | 2 => ("PointerHouseModel", "sort", "I", false)
  | 3 => ("PointerHouseModel", "place", "I", false)
  | 4 => ("PointerHouseModel", "after", "I", false)
  | 5 => ("PointerHouseModel", "number", "I", false)
  | 6 => ("PointerHouseModel", "word", "J", false)
  | 7 => ("PointerHouseModel", "fault", "I", false)
  | 8 => ("PointerHouseModel", "faultPlace", "I", false)
  | 9 => ("PointerHouseModel", "tried", "Z", false)
  | 10 => ("PointerHouseModel", "hasProgram", "Z", false)
  | 11 => ("PointerHouseModel", "items", "I", false)
  | 12 => ("PointerHouseModel", "itemKind", "[I", true)
  | 13 => ("PointerHouseModel", "itemName", "[J", true)
  | 14 => ("PointerHouseModel", "itemPlace", "[I", true)
  | 15 => ("PointerHouseModel", "regions", "[I", true)
  | 16 => ("PointerHouseModel", "regionName", "[J", true)
  | 17 => ("PointerHouseModel", "regionPlace", "[I", true)
  | 18 => ("PointerHouseModel", "firstField", "[I", true)
  | 19 => ("PointerHouseModel", "manyFields", "[I", true)
  | 20 => ("PointerHouseModel", "fields", "I", false)
  | 21 => ("PointerHouseModel", "fieldName", "[J", true)
  | 22 => ("PointerHouseModel", "fieldPlace", "[I", true)
  | 23 => ("PointerHouseModel", "fieldNode", "[I", true)
  | 24 => ("PointerHouseModel", "fieldType", "[I", true)
  | 25 => ("PointerHouseModel", "resultNode", "[I", true)
  | 26 => ("PointerHouseModel", "resultType", "[I", true)
  | 27 => ("PointerHouseModel", "dead", "[I", true)
  | 28 => ("PointerHouseModel", "deadName", "[J", true)
  | 29 => ("PointerHouseModel", "deadPlace", "[I", true)
  | 30 => ("PointerHouseModel", "deadMask", "[I", true)
  | 31 => ("PointerHouseModel", "wheres", "[I", true)
  | 32 => ("PointerHouseModel", "whereName", "[J", true)
  | 33 => ("PointerHouseModel", "wherePlace", "[I", true)
  | 34 => ("PointerHouseModel", "body", "[I", true)
  | 35 => ("PointerHouseModel", "varsOf", "[I", true)
  | 36 => ("PointerHouseModel", "begins", "[I", true)
  | 37 => ("PointerHouseModel", "typeNodes", "I", false)
  | 38 => ("PointerHouseModel", "writtenKind", "[I", true)
  | 39 => ("PointerHouseModel", "writtenUse", "[I", true)
  | 40 => ("PointerHouseModel", "writtenInner", "[I", true)
  | 41 => ("PointerHouseModel", "writtenTitle", "[J", true)
  | 42 => ("PointerHouseModel", "writtenTitlePlace", "[I", true)
  | 43 => ("PointerHouseModel", "writtenFirst", "[I", true)
  | 44 => ("PointerHouseModel", "writtenMany", "[I", true)
  | 45 => ("PointerHouseModel", "uses", "I", false)
  | 46 => ("PointerHouseModel", "useName", "[J", true)
  | 47 => ("PointerHouseModel", "usePlace", "[I", true)
  | 48 => ("PointerHouseModel", "useCode", "[I", true)
  | 49 => ("PointerHouseModel", "nodes", "I", false)
  | 50 => ("PointerHouseModel", "kind", "[I", true)
  | 51 => ("PointerHouseModel", "at", "[I", true)
  | 52 => ("PointerHouseModel", "one", "[I", true)
  | 53 => ("PointerHouseModel", "two", "[I", true)
  | 54 => ("PointerHouseModel", "three", "[I", true)
  | 55 => ("PointerHouseModel", "next", "[I", true)
  | 56 => ("PointerHouseModel", "name", "[J", true)
  | 57 => ("PointerHouseModel", "namePlace", "[I", true)
  | 58 => ("PointerHouseModel", "use", "[I", true)
  | 59 => ("PointerHouseModel", "manyUses", "[I", true)
  | 60 => ("PointerHouseModel", "typeOf", "[I", true)
  | 61 => ("PointerHouseModel", "found", "[I", true)
  | 62 => ("PointerHouseModel", "funVars", "I", false)
  | 63 => ("PointerHouseModel", "funRegions", "I", false)
  | 64 => ("PointerHouseModel", "item", "I", false)
  | 65 => ("PointerHouseModel", "types", "I", false)
  | 66 => ("PointerHouseModel", "kindOf", "[I", true)
  | 67 => ("PointerHouseModel", "regionOf", "[I", true)
  | 68 => ("PointerHouseModel", "innerOf", "[I", true)
  | 69 => ("PointerHouseModel", "titleOf", "[I", true)
  | 70 => ("PointerHouseModel", "withOf", "[I", true)
  | 71 => ("PointerHouseModel", "seenRegions", "I", false)
  | 72 => ("PointerHouseModel", "seenName", "[J", true)
  | 73 => ("PointerHouseModel", "seenCode", "[I", true)
  | 74 => ("PointerHouseModel", "inside", "[I", true)
  | 75 => ("PointerHouseModel", "live", "I", false)
  | 76 => ("PointerHouseModel", "outlives", "I", false)
  | 77 => ("PointerHouseModel", "seenVars", "I", false)
  | 78 => ("PointerHouseModel", "varName", "[J", true)
  | 79 => ("PointerHouseModel", "varSlot", "[I", true)
  | 80 => ("PointerHouseModel", "varType", "[I", true)
  | 81 => ("PointerHouseModel", "set", "I", false)
  | 82 => ("PointerHouseModel", "knownVars", "I", false)
  | 83 => ("PointerHouseModel", "reached", "Z", false)
  | 84 => ("PointerHouseModel", "arounds", "I", false)
  | 85 => ("PointerHouseModel", "around", "[I", true)
  | 86 => ("PointerHouseModel", "stepsOfRegions", "I", false)
  | 87 => ("PointerHouseModel", "catches", "I", false)
  | 88 => ("PointerHouseModel", "nulls", "I", false)
  | 89 => ("PointerHouseModel", "bounds", "I", false)
  | 90 => ("PointerHouseModel", "tags", "I", false)
  | 91 => ("PointerHouseModel", "makes", "I", false)
  | 92 => ("PointerHouseModel", "varSteps", "I", false)
  | 93 => ("PointerHouseModel", "spine", "[I", true)
  | 94 => ("PointerHouseModel", "spines", "I", false)
  | 95 => ("PointerHouseModel", "codes", "I", false)
  | 96 => ("PointerHouseModel", "code", "[I", true)
  | 97 => ("PointerHouseModel", "first", "[I", true)
  | 98 => ("PointerHouseModel", "second", "[I", true)
  | 99 => ("PointerHouseModel", "third", "[I", true)
  | 100 => ("PointerHouseModel", "state", "I", false)
  | 101 => ("PointerHouseModel", "steps", "I", false)
  | 102 => ("PointerHouseModel", "counter", "I", false)
  | 103 => ("PointerHouseModel", "depth", "I", false)
  | 104 => ("PointerHouseModel", "prints", "I", false)
  | 105 => ("PointerHouseModel", "made", "I", false)
  | 106 => ("PointerHouseModel", "errors", "I", false)
  | 107 => ("PointerHouseModel", "touches", "I", false)
  | 108 => ("PointerHouseModel", "errorNumber", "I", false)
  | 109 => ("PointerHouseModel", "height", "I", false)
  | 110 => ("PointerHouseModel", "x", "[I", true)
  | 111 => ("PointerHouseModel", "y", "[I", true)
  | 112 => ("PointerHouseModel", "z", "[I", true)
  | 113 => ("PointerHouseModel", "rowed", "[I", true)
  | 114 => ("PointerHouseModel", "backTo", "[I", true)
  | 115 => ("PointerHouseModel", "stepPlace", "[I", true)
  | 116 => ("PointerHouseModel", "firstRegion", "[I", true)
  | 117 => ("PointerHouseModel", "vx", "[I", true)
  | 118 => ("PointerHouseModel", "vy", "[I", true)
  | 119 => ("PointerHouseModel", "vz", "[I", true)
  | 120 => ("PointerHouseModel", "vRowed", "[I", true)
  | 121 => ("PointerHouseModel", "regionNow", "[I", true)
  | 122 => ("PointerHouseModel", "caught", "[I", true)
  | 123 => ("PointerHouseModel", "tries", "I", false)
  | 124 => ("PointerHouseModel", "tryCode", "[I", true)
  | 125 => ("PointerHouseModel", "tryDepth", "[I", true)
  | 126 => ("PointerHouseModel", "tryHeight", "[I", true)
  | 127 => ("PointerHouseModel", "tryRegions", "[I", true)
  | 128 => ("PointerHouseModel", "tryCatch", "[I", true)
  | 129 => ("PointerHouseModel", "alive", "I", false)
  | 130 => ("PointerHouseModel", "pages", "I", false)
  | 131 => ("PointerHouseModel", "words", "I", false)
  | 132 => ("PointerHouseModel", "freePages", "I", false)
  | 133 => ("PointerHouseModel", "pagesOf", "[I", true)
  | 134 => ("PointerHouseModel", "lastUsed", "[I", true)
  | 135 => ("PointerHouseModel", "wordsIn", "[I", true)
  | 136 => ("PointerHouseModel", "objectsIn", "[I", true)
  | 137 => ("PointerHouseModel", "births", "I", false)
  | 138 => ("PointerHouseModel", "born", "[I", true)
  | 139 => ("PointerHouseModel", "head", "[I", true)
  | 140 => ("PointerHouseModel", "places", "[I", true)
  | 141 => ("PointerHouseModel", "home", "[I", true)
  | 142 => ("PointerHouseModel", "isNow", "[I", true)
  | 143 => ("PointerHouseModel", "freePlace", "I", false)
  | 144 => ("PointerHouseModel", "px", "[I", true)
  | 145 => ("PointerHouseModel", "py", "[I", true)
  | 146 => ("PointerHouseModel", "pz", "[I", true)
  | 147 => ("PointerHouseModel", "pRowed", "[I", true)
  | 148 => ("PointerHouseModel", "given", "[Z", true)
  | 149 => ("PointerHouseModel", "link", "[I", true)
  | 150 => ("PointerHouseModel", "waiting", "I", false)
  | 151 => ("PointerHouseModel", "inputs", "[I", true)
  | _ => ("PointerHouseModel", "printed", "[I", true)
def t_Model : Nat → FieldType := fun k => match k with
  | 0 => .array .int
  | 1 => .int
  | 2 => .int
  | 3 => .int
  | 4 => .int
  | 5 => .int
  | 6 => .long
  | 7 => .int
  | 8 => .int
  | 9 => .boolean
  | 10 => .boolean
  | 11 => .int
  | 12 => .array .int
  | 13 => .array .long
  | 14 => .array .int
  | 15 => .array .int
  | 16 => .array .long
  | 17 => .array .int
  | 18 => .array .int
  | 19 => .array .int
  | 20 => .int
  | 21 => .array .long
  | 22 => .array .int
  | 23 => .array .int
  | 24 => .array .int
  | 25 => .array .int
  | 26 => .array .int
  | 27 => .array .int
  | 28 => .array .long
  | 29 => .array .int
  | 30 => .array .int
  | 31 => .array .int
  | 32 => .array .long
  | 33 => .array .int
  | 34 => .array .int
  | 35 => .array .int
  | 36 => .array .int
  | 37 => .int
  | 38 => .array .int
  | 39 => .array .int
  | 40 => .array .int
  | 41 => .array .long
  | 42 => .array .int
  | 43 => .array .int
  | 44 => .array .int
  | 45 => .int
  | 46 => .array .long
  | 47 => .array .int
  | 48 => .array .int
  | 49 => .int
  | 50 => .array .int
  | 51 => .array .int
  | 52 => .array .int
  | 53 => .array .int
  | 54 => .array .int
  | 55 => .array .int
  | 56 => .array .long
  | 57 => .array .int
  | 58 => .array .int
  | 59 => .array .int
  | 60 => .array .int
  | 61 => .array .int
  | 62 => .int
  | 63 => .int
  | 64 => .int
  | 65 => .int
  | 66 => .array .int
  | 67 => .array .int
  | 68 => .array .int
  | 69 => .array .int
  | 70 => .array .int
  | 71 => .int
  | 72 => .array .long
  | 73 => .array .int
  | 74 => .array .int
  | 75 => .int
  | 76 => .int
  | 77 => .int
  | 78 => .array .long
  | 79 => .array .int
  | 80 => .array .int
  | 81 => .int
  | 82 => .int
  | 83 => .boolean
  | 84 => .int
  | 85 => .array .int
  | 86 => .int
  | 87 => .int
  | 88 => .int
  | 89 => .int
  | 90 => .int
  | 91 => .int
  | 92 => .int
  | 93 => .array .int
  | 94 => .int
  | 95 => .int
  | 96 => .array .int
  | 97 => .array .int
  | 98 => .array .int
  | 99 => .array .int
  | 100 => .int
  | 101 => .int
  | 102 => .int
  | 103 => .int
  | 104 => .int
  | 105 => .int
  | 106 => .int
  | 107 => .int
  | 108 => .int
  | 109 => .int
  | 110 => .array .int
  | 111 => .array .int
  | 112 => .array .int
  | 113 => .array .int
  | 114 => .array .int
  | 115 => .array .int
  | 116 => .array .int
  | 117 => .array .int
  | 118 => .array .int
  | 119 => .array .int
  | 120 => .array .int
  | 121 => .array .int
  | 122 => .array .int
  | 123 => .int
  | 124 => .array .int
  | 125 => .array .int
  | 126 => .array .int
  | 127 => .array .int
  | 128 => .array .int
  | 129 => .int
  | 130 => .int
  | 131 => .int
  | 132 => .int
  | 133 => .array .int
  | 134 => .array .int
  | 135 => .array .int
  | 136 => .array .int
  | 137 => .int
  | 138 => .array .int
  | 139 => .array .int
  | 140 => .array .int
  | 141 => .array .int
  | 142 => .array .int
  | 143 => .int
  | 144 => .array .int
  | 145 => .array .int
  | 146 => .array .int
  | 147 => .array .int
  | 148 => .array .boolean
  | 149 => .array .int
  | 150 => .int
  | 151 => .array .int
  | _ => .array .int
theorem n_Model : ∀ a, a < 153 → ∀ b, b < 153 → a ≠ b → (F_Model a).2.1 ≠ (F_Model b).2.1 := by decide +kernel
theorem t_Model_ok : ∀ k, k < 153 → parseFieldDescriptor (F_Model k).2.2.1 = some (t_Model k) := by decide +kernel
theorem i_Model : ∀ w ∈ u_ws R_Model F_Model 153, w ∈ lw_good := in_ix [1972, 1974, 1976, 1978, 1980, 1982, 1984, 1986, 1988, 1990, 1992, 1994, 1996, 1998, 2000, 2002, 2004, 2006, 2008, 2010, 2012, 2014, 2016, 2018, 2020, 2022, 2024, 2026, 2028, 2030, 2032, 2034, 2036, 2038, 2040, 2042, 2044, 2046, 2048, 2050, 2052, 2054, 2056, 2058, 2060, 2062, 2064, 2066, 2068, 2070, 2072, 2074, 2076, 2078, 2080, 2082, 2084, 2086, 2088, 2090, 2092, 2094, 2096, 2098, 2100, 2102, 2104, 2106, 2108, 2110, 2112, 2114, 2116, 2118, 2120, 2122, 2124, 2126, 2128, 2130, 2132, 2134, 2136, 2138, 2140, 2142, 2144, 2146, 2148, 2150, 2152, 2154, 2156, 2158, 2160, 2162, 2164, 2166, 2168, 2170, 2172, 2174, 2176, 2178, 2180, 2182, 2184, 2186, 2188, 2190, 2192, 2194, 2196, 2198, 2200, 2202, 2204, 2206, 2208, 2210, 2212, 2214, 2216, 2218, 2220, 2222, 2224, 2226, 2228, 2230, 2232, 2234, 2236, 2238, 2240, 2242, 2244, 2246, 2248, 2250, 2252, 2254, 2256, 2258, 2260, 2262, 2264, 2266, 2268, 2270, 2272, 2274, 2276] (by decide +kernel)
def R_Str : String := "java/lang/String"
def F_Str : u_T := fun k => match k with
  | 0 => ("java/lang/String", "value", "[B", true)
  | 1 => ("java/lang/String", "coder", "B", true)
  | 2 => ("java/lang/String", "hash", "I", false)
  | _ => ("java/lang/String", "hashIsZero", "Z", false)
def t_Str : Nat → FieldType := fun k => match k with
  | 0 => .array .byte
  | 1 => .byte
  | 2 => .int
  | _ => .boolean
theorem n_Str : ∀ a, a < 4 → ∀ b, b < 4 → a ≠ b → (F_Str a).2.1 ≠ (F_Str b).2.1 := by decide +kernel
theorem t_Str_ok : ∀ k, k < 4 → parseFieldDescriptor (F_Str k).2.2.1 = some (t_Str k) := by decide +kernel
theorem i_Str : ∀ w ∈ u_ws R_Str F_Str 4, w ∈ lw_good := in_ix [130, 132, 134, 136] (by decide +kernel)
def cls_all : List vw_C := [(R_Code, F_Code, 7), (R_Exprs, F_Exprs, 6), (R_Heads, F_Heads, 5), (R_Items, F_Items, 21), (R_Machine, F_Machine, 18), (R_Memory, F_Memory, 14), (R_Parser, F_Parser, 8), (R_Scope, F_Scope, 14), (R_Source, F_Source, 16), (R_Steps, F_Steps, 7), (R_Types, F_Types, 2), (R_House, F_House, 11), (R_Model, F_Model, 153), (R_Str, F_Str, 4)]
theorem ia_Code : Cond.instantiable R_Code 7 ∈ lw_good := lg_right (i := 380) (by decide +kernel) rfl
theorem ini_Code : Cond.initialized R_Code ∈ lw_good := lg_right (i := 11) (by decide +kernel) rfl
theorem ia_Exprs : Cond.instantiable R_Exprs 6 ∈ lw_good := lg_right (i := 535) (by decide +kernel) rfl
theorem ini_Exprs : Cond.initialized R_Exprs ∈ lw_good := lg_right (i := 16) (by decide +kernel) rfl
theorem ia_Heads : Cond.instantiable R_Heads 5 ∈ lw_good := lg_right (i := 509) (by decide +kernel) rfl
theorem ini_Heads : Cond.initialized R_Heads ∈ lw_good := lg_right (i := 15) (by decide +kernel) rfl
theorem ia_Items : Cond.instantiable R_Items 21 ∈ lw_good := lg_right (i := 264) (by decide +kernel) rfl
theorem ini_Items : Cond.initialized R_Items ∈ lw_good := lg_right (i := 10) (by decide +kernel) rfl
theorem ia_Machine : Cond.instantiable R_Machine 18 ∈ lw_good := lg_right (i := 588) (by decide +kernel) rfl
theorem ini_Machine : Cond.initialized R_Machine ∈ lw_good := lg_right (i := 18) (by decide +kernel) rfl
theorem ia_Memory : Cond.instantiable R_Memory 14 ∈ lw_good := lg_right (i := 594) (by decide +kernel) rfl
theorem ini_Memory : Cond.initialized R_Memory ∈ lw_good := lg_right (i := 19) (by decide +kernel) rfl
theorem ia_Parser : Cond.instantiable R_Parser 8 ∈ lw_good := lg_right (i := 411) (by decide +kernel) rfl
theorem ini_Parser : Cond.initialized R_Parser ∈ lw_good := lg_right (i := 12) (by decide +kernel) rfl
theorem ia_Scope : Cond.instantiable R_Scope 14 ∈ lw_good := lg_right (i := 455) (by decide +kernel) rfl
theorem ini_Scope : Cond.initialized R_Scope ∈ lw_good := lg_right (i := 14) (by decide +kernel) rfl
theorem ia_Source : Cond.instantiable R_Source 16 ∈ lw_good := lg_right (i := 31) (by decide +kernel) rfl
theorem ini_Source : Cond.initialized R_Source ∈ lw_good := lg_right (i := 2) (by decide +kernel) rfl
theorem ia_Steps : Cond.instantiable R_Steps 7 ∈ lw_good := lg_right (i := 560) (by decide +kernel) rfl
theorem ini_Steps : Cond.initialized R_Steps ∈ lw_good := lg_right (i := 17) (by decide +kernel) rfl
theorem ia_Types : Cond.instantiable R_Types 2 ∈ lw_good := lg_right (i := 442) (by decide +kernel) rfl
theorem ini_Types : Cond.initialized R_Types ∈ lw_good := lg_right (i := 13) (by decide +kernel) rfl
theorem ia_House : Cond.instantiable R_House 11 ∈ lw_good := lg_right (i := 23) (by decide +kernel) rfl
theorem ini_House : Cond.initialized R_House ∈ lw_good := lg_right (i := 1) (by decide +kernel) rfl
theorem ia_Model : Cond.instantiable R_Model 153 ∈ lw_good := lg_right (i := 1814) (by decide +kernel) rfl
theorem ini_Model : Cond.initialized R_Model ∈ lw_good := lg_right (i := 20) (by decide +kernel) rfl
theorem ia_Str : Cond.instantiable R_Str 4 ∈ lw_good := lg_right (i := 101) (by decide +kernel) rfl
theorem ini_Str : Cond.initialized R_Str ∈ lw_good := lg_right (i := 3) (by decide +kernel) rfl
theorem ac_char : Cond.arrayClass .char ∈ lw_good := lg_right (i := 139) (by decide +kernel) rfl
theorem ac_int : Cond.arrayClass .int ∈ lw_good := lg_right (i := 140) (by decide +kernel) rfl
theorem ac_long : Cond.arrayClass .long ∈ lw_good := lg_right (i := 141) (by decide +kernel) rfl
theorem ac_byte : Cond.arrayClass .byte ∈ lw_good := lg_right (i := 142) (by decide +kernel) rfl
theorem ac_boolean : Cond.arrayClass .boolean ∈ lw_good := lg_right (i := 642) (by decide +kernel) rfl
theorem im_objectInit : Cond.instanceMethod objectInit ∈ lw_good := lg_right (i := 28) (by decide +kernel) rfl
theorem co_objectInit : Cond.code objectInit ⟨#[0xb1]⟩ 1 none ∈ lw_good := lg_right (i := 29) (by decide +kernel) rfl
