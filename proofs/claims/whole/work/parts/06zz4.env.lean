def s_own : List String := ["PointerHouse$Source", "java/lang/StringLatin1", "java/lang/StringUTF16", "PointerHouse$Source", "PointerHouseModel", "PointerHouseModel", "PointerHouseModel", "PointerHouseModel", "PointerHouseModel", "PointerHouseModel", "PointerHouseModel", "PointerHouseModel", "PointerHouseModel", "PointerHouseModel", "PointerHouseModel", "PointerHouseModel", "PointerHouseModel", "PointerHouseModel", "PointerHouseModel", "PointerHouseModel", "PointerHouseModel", "PointerHouseModel", "PointerHouseModel", "PointerHouseModel", "PointerHouseModel", "PointerHouseModel", "PointerHouseModel", "PointerHouseModel", "PointerHouseModel", "PointerHouseModel", "PointerHouseModel", "PointerHouseModel", "PointerHouseModel"]
def s_ix : List Nat := [49, 151, 295, 113, 340, 376, 424, 426, 428, 473, 461, 468, 485, 527, 529, 531, 532, 537, 538, 540, 542, 522, 490, 492, 497, 499, 501, 503, 505, 507, 509, 511, 622]
def s_txt : List String := ["struct union fun dead where var if else while return print region close try catch throw int null new cell row nn size is read caught ", "", "", "{}()[];,:.=<>+-*/%&@?^", "struct union fun dead where var if else while return print region close try catch throw int null new cell row nn size is read caught ", "{}()[];,:.=<>+-*/%&@?^", "struct", "union", "fun", "int", "dead", "where", "var", "null", "read", "caught", "new", "row", "cell", "nn", "size", "is", "while", "if", "else", "return", "region", "close", "try", "catch", "print", "throw", "main"]
def s_tm (i : Nat) : Term := Term.string (s_own.getD i "") (s_ix.getD i 0)
/-- what the statics and the literals are: nothing of it lies among the cells A -/
def env0 (ad av : Nat → Nat) (A : Nat → Prop) (U : State) (H : Heap) : Prop := va_Z "java/lang/String" "COMPACT_STRINGS" "Z" (.int 1) A U H ∧ va_Zq "jdk/internal/util/Preconditions" "SIOOBE_FORMATTER" "Ljava/util/function/BiFunction;" A U H ∧ ∀ i : Nat, i < 33 → vk_S 1 [s_len.getD i 0] [s_byt.getD i []] (fun _ => ad i) (fun _ => av i) A U H ∧ vk_R (s_own.getD i "") (s_ix.getD i 0) (s_txt.getD i "") (ad i) U
theorem env0.hand {ad av : Nat → Nat} {A B : Nat → Prop} {s U : State} {H : Heap} {locs : List Loc} (h : env0 ad av A s s.heap) (hS : va_S A s.heap H locs) (hU : U.heap = H) (hW : s.WarmedH U.vm) (hAB : ∀ q, B q → A q) : env0 ad av B U U.heap := by
  rw [hU]
  exact ⟨((h.1.kept hS.2.1).moved hW.alike).narrow hAB, ((h.2.1.kept hS.2.1).moved hW.alike).narrow hAB, fun i hi => ⟨(((h.2.2 i hi).1.kept hS.2.1).moved hW.alike).narrow hAB, (h.2.2 i hi).2.warm hW⟩⟩
theorem env0.same {ad av : Nat → Nat} {A : Nat → Prop} {u U : State} {H : Heap} (e : U.vm = u.vm) (h : env0 ad av A u H) : env0 ad av A U H := by
  have hv : u.vm.Alike U.vm := by rw [e]; exact Vm.Alike.refl _
  exact ⟨h.1.moved hv, h.2.1.moved hv, fun i hi => ⟨(h.2.2 i hi).1.moved hv, (h.2.2 i hi).2.same e⟩⟩
theorem vk_one {len : List Nat} {byt : List (List Int32)} {adK adV : Nat → Nat} {A : Nat → Prop} {U : State} {H : Heap} (h : vk_S 1 len byt adK adV A U H) : vk_S 1 len byt (fun _ => adK 0) (fun _ => adV 0) A U H :=
  ⟨fun i hi => by obtain rfl : i = 0 := by omega
                  exact h.1 0 hi, fun i j hi hj _ => by omega⟩
theorem s_ex : ∀ i, i < 33 → (flatC (Jvm.Cond.and given_1 narrow_1))[[9, 146, 150, 155, 181, 319, 346, 356, 365, 372, 379, 387, 396, 403, 411, 419, 429, 436, 443, 451, 457, 465, 471, 480, 486, 494, 504, 514, 523, 530, 539, 548, 557].getD i 0]? = some (Cond.exactly (s_tm i) "java/lang/String") := by decide +kernel
theorem s_co : ∀ i, i < 33 → (flatC (Jvm.Cond.and given_1 narrow_1))[[10, 147, 151, 156, 182, 320, 347, 357, 366, 373, 380, 388, 397, 404, 412, 420, 430, 437, 444, 452, 458, 466, 472, 481, 487, 495, 505, 515, 524, 531, 540, 549, 558].getD i 0]? = some (Cond.eq (.field (s_tm i) "java/lang/String" "coder" "B") (.int 0)) := by decide +kernel
theorem s_ar : ∀ i, i < 33 → (flatC (Jvm.Cond.and given_1 narrow_1))[[11, 148, 152, 157, 183, 321, 348, 358, 367, 374, 381, 389, 398, 405, 413, 421, 431, 438, 445, 453, 459, 467, 473, 482, 488, 496, 506, 516, 525, 532, 541, 550, 559].getD i 0]? = some (Cond.arrayOf (.field (s_tm i) "java/lang/String" "value" "[B") .byte) := by decide +kernel
theorem s_le : ∀ i, i < 33 → (flatC (Jvm.Cond.and given_1 narrow_1))[[12, 149, 153, 158, 184, 322, 349, 359, 368, 375, 382, 390, 399, 406, 414, 422, 432, 439, 446, 454, 460, 468, 474, 483, 489, 497, 507, 517, 526, 533, 542, 551, 560].getD i 0]? = some (Cond.eq (.length (.field (s_tm i) "java/lang/String" "value" "[B")) (.int (Int32.ofNat (s_len.getD i 0)))) := by decide +kernel
theorem s_el : ∀ i, i < 33 → ∀ j, j < s_len.getD i 0 → (flatC (Jvm.Cond.and given_1 narrow_1))[[13, 0, 0, 159, 185, 323, 350, 360, 369, 376, 383, 391, 400, 407, 415, 423, 433, 440, 447, 455, 461, 469, 475, 484, 490, 498, 508, 518, 527, 534, 543, 552, 561].getD i 0 + j]? = some (Cond.eq (.elem (.field (s_tm i) "java/lang/String" "value" "[B") (.int (Int32.ofNat j))) (.int ((s_byt.getD i []).getD j 0))) := by decide +kernel
theorem s_sr : ∀ i, i < 33 → tables_1[[36, 99, 146, 805, 2330, 2337, 2342, 2350, 2351, 2392, 2401, 2406, 2423, 2448, 2449, 2450, 2451, 2456, 2457, 2458, 2459, 2460, 2465, 2466, 2467, 2468, 2469, 2470, 2471, 2472, 2473, 2474, 2524].getD i 0]? = some (Cond.stringRef (s_own.getD i "") (s_ix.getD i 0) (s_txt.getD i "")) := by decide +kernel
theorem s_l31 : ∀ i, i < 33 → s_len.getD i 0 < 2 ^ 31 := by decide +kernel
set_option maxHeartbeats 1000000 in
theorem env_start {args : Array Value} {s : State} {A : Nat → Prop} (h : (Jvm.Cond.and given_1 narrow_1).before args s = true) (ht : ∀ w ∈ lw_tbl, w.before args s = true) (hA : ∀ a : Nat, a < s.heap.size → ¬ A a) : ∃ ad av : Nat → Nat, env0 ad av A s s.heap := by
  have hs := flat_of_before _ h
  have htt : ∀ (i : Nat) (w : Cond), tables_1[i]? = some w → w.before args s = true := fun i w hw => ht w (List.mem_append_right _ (List.mem_of_getElem? hw))
  have key : ∀ i : Nat, ∃ p : Nat × Nat, i < 33 → vk_S 1 [s_len.getD i 0] [s_byt.getD i []] (fun _ => p.1) (fun _ => p.2) A s s.heap ∧ vk_R (s_own.getD i "") (s_ix.getD i 0) (s_txt.getD i "") p.1 s := by
    intro i
    by_cases hi : i < 33
    · obtain ⟨adK, adV, h1, h2⟩ := vk_Sof (args := args) (s := s) (N := 1) (tm := fun _ => s_tm i) (len := [s_len.getD i 0]) (byt := [s_byt.getD i []]) (A := A)
        (fun k hk => by obtain rfl : k = 0 := by omega
                        exact s_l31 i hi)
        (fun k hk => hs _ (List.mem_of_getElem? (s_ex i hi))) (fun k hk => hs _ (List.mem_of_getElem? (s_co i hi))) (fun k hk => hs _ (List.mem_of_getElem? (s_ar i hi)))
        (fun k hk => by obtain rfl : k = 0 := by omega
                        exact hs _ (List.mem_of_getElem? (s_le i hi)))
        (fun k hk j hj => by
          obtain rfl : k = 0 := by omega
          exact hs _ (List.mem_of_getElem? (s_el i hi j hj)))
        (fun a b ha hb hne => absurd (show a = b by omega) hne) hA
      exact ⟨(adK 0, adV 0), fun _ => ⟨vk_one h1, vk_R.of (htt _ _ (s_sr i hi)) (h2 0 (by decide))⟩⟩
    · exact ⟨(0, 0), fun q => absurd q hi⟩
  obtain ⟨f, hf⟩ := Classical.axiomOfChoice key
  refine ⟨fun i => (f i).1, fun i => (f i).2, ?_, ?_, fun i hi => hf i hi⟩
  · exact va_Zof (htt 46 _ (by decide +kernel)) (htt 3 _ (by decide +kernel)) (va_eqi (hs _ (List.mem_of_getElem? (i := 4) (by decide +kernel)))) hA
  · exact va_Zqof (htt 62 _ (by decide +kernel)) (htt 5 _ (by decide +kernel)) (hs _ (List.mem_of_getElem? (i := 5) (by decide +kernel))) hA
