/-! start, the class */
-/
def mbC (P W : Nat) (T : gSt) : gSt := (sA (sI (sI (sI (sI (sI (sI T 117 0 (nI P)) 118 0 (nI W)) 119 0 0) 120 0 0) 121 0 0) 122 0 0) 116 (fillF ((sI (sI (sI (sI (sI (sI T 117 0 (nI P)) 118 0 (nI W)) 119 0 0) 120 0 0) 121 0 0) 122 0 0).1 116) (-1) 64))
def bgC (T : gSt) : gSt := sI (sI (sI (sI (sI (sI (sI (sI (sI (sI T 100 0 0) 102 0 0) 104 0 0) 105 0 0) 107 0 0) 108 0 0) 109 0 0) 111 0 0) 113 0 0) 106 0 1
section SWG
variable {M T : gSt} {nf d n u P W : Nat}
theorem c_mbeg (h27 : T.1 27 0 = nI n) (hn : n ≤ 24) (hu : ff (isIt T true 1835100526) 0 n = nI u) (hu2 : u < n) (h41 : T.1 41 u = nI 0) (hP1 : 1 ≤ P) (hP : P ≤ 64) (hW1 : 1 ≤ W) (hW : W ≤ 64) (hnf : 5000 ≤ nf) : ∃ T1, rb_Machine_begin (PP nf (d + 2)) nf T (nI P) (nI W) = bi (PP nf (d + 2) 196 T1 [] []) (fun _ _ V => some (0, 0, V)) ∧ HbC P W T1 ∧ (∀ k, k ≤ 98 → T1.1 k = T.1 k) ∧ T1.2 = T.2 ∧ (T1.1 106 0 = 1 ∧ T1.1 102 0 = 1 ∧ T1.1 100 0 = 80 ∧ T1.1 104 0 = 0 ∧ T1.1 105 0 = T.1 42 u ∧ T1.1 111 0 = 0 ∧ T1.1 108 0 = 0 ∧ T1.1 113 0 = 0 ∧ T1.1 109 0 = 0) ∧ (T1.1 101 18 = 0 ∧ T1.1 101 20 = 1 ∧ T1.1 101 21 = 0 ∧ T1.1 101 22 = 0) ∧ ∀ q, q < 40 → T1.1 101 (17 * (q + 1) + 2) = T.1 101 (17 * (q + 1) + 2) := by
  have i1 : ∀ p, 1 ≤ p → p ≤ 64 → (if (0 : Int32) < (if (64 : Int32) < nI p then (64 : Int32) else nI p) then (if (64 : Int32) < nI p then (64 : Int32) else nI p) else 0) = nI p := fun p h1 h2 => by
    rw [if_neg (show ¬ (64 : Int32) < nI p from fun w => by have := (nI_ltI (a := 64) (b := p) (by omega) (by omega)).mp w; omega), if_pos (show (0 : Int32) < nI p from (nI_ltI (a := 0) (b := p) (by omega) (by omega)).mpr (by omega))]
  unfold rb_Machine_begin
  rw [e_Memory_begin]
  unfold rb_Memory_begin
  rw [i1 P hP1 hP, i1 W hW1 hW]
  have eM : mbC P W T = (sA (sI (sI (sI (sI (sI (sI T 117 0 (nI P)) 118 0 (nI W)) 119 0 0) 120 0 0) 121 0 0) 122 0 0) 116 (fillF ((sI (sI (sI (sI (sI (sI T 117 0 (nI P)) 118 0 (nI W)) 119 0 0) 120 0 0) 121 0 0) 122 0 0).1 116) (-1) 64)) := rfl
  unfold stK
  dsimp only
  rw [← eM, c_open (T := mbC P W T) (r := 0) rfl (by omega) (by omega), bis, bis]
  have eB : bgC (opM (mbC P W T) 0) = sI (sI (sI (sI (sI (sI (sI (sI (sI (sI (opM (mbC P W T) 0) 100 0 0) 102 0 0) 104 0 0) 105 0 0) 107 0 0) 108 0 0) 109 0 0) 111 0 0) 113 0 0) 106 0 1 := rfl
  rw [← eB, e_Heads_mainName]
  unfold rb_Heads_mainName
  rw [bis]
  have o0 : ∀ k, k ≤ 99 ∨ k = 101 → (bgC (opM (mbC P W T) 0)).1 k = T.1 k := fun k hk => by
    unfold bgC opM mbC sA
    rw [sI_ne (by omega), sI_ne (by omega), sI_ne (by omega), sI_ne (by omega), sI_ne (by omega), sI_ne (by omega), sI_ne (by omega), sI_ne (by omega), sI_ne (by omega), sI_ne (by omega), sI_ne (by omega), sI_ne (by omega), sI_ne (by omega), sI_ne (by omega), sI_ne (by omega), sI_ne (by omega)]
    dsimp only
    rw [if_neg (by omega), sI_ne (by omega), sI_ne (by omega), sI_ne (by omega), sI_ne (by omega), sI_ne (by omega), sI_ne (by omega)]
  have o2 : (bgC (opM (mbC P W T) 0)).2 = T.2 := rfl
  have ei : isIt (bgC (opM (mbC P W T) 0)) true 1835100526 = isIt T true 1835100526 := by
    funext q
    unfold isIt
    rw [o0 28 (by omega), o2]
  rw [c_find (nf := nf) (d := d + 2) (fn := true) (x := 1) (n := n) (by omega) (by rw [o0 27 (by omega)]; exact h27) hn rfl (by omega), bis, ei, hu, show (0 : Int32) = nI 0 from rfl, c_enter (n := n) (c := 0) (b := 0) (p := 0) (g := 0) (by rw [o0 27 (by omega)]; exact h27) hn hu2 rfl (by omega) rfl (by rw [o0 41 (by omega)]; exact h41) (by omega) (by omega) (by omega) (fun k k1 k2 => by unfold t1C; rw [if_neg (by omega), Nat.zero_div, Nat.zero_mod]; omega) (by omega) (by omega), bis]
  refine ⟨enC (bgC (opM (mbC P W T) 0)) 0 0 0 u, rfl, ?_, fun k hk => ?_, rfl, ⟨rfl, ?_, rfl, rfl, ?_, rfl, rfl, rfl, rfl⟩, ?_, fun q hq => ?_⟩
  · refine ⟨rfl, rfl, rfl, rfl, rfl, rfl, fun p hp => ?_, fun k k1 k2 => ?_⟩
    · show fillF _ (-1) 64 p = -1
      unfold fillF
      rw [if_pos hp]
    · obtain w | w | w | w | w : k = 123 ∨ k = 124 ∨ k = 125 ∨ k = 126 ∨ k = 127 := by omega
      all_goals subst w; rfl
  · unfold enC
    rw [sI_ne (by omega), sI_ne (by omega), enF_o (by omega) (by omega), o0 k (by omega)]
  · rfl
  · show (bgC (opM (mbC P W T) 0)).1 42 u = T.1 42 u
    rw [o0 42 (by omega)]
  · exact ⟨rfl, rfl, rfl, rfl⟩
  · unfold enC
    rw [sI_ne (by omega), sI_ne (by omega), enF_lo (by omega), o0 101 (by omega)]
end SWG
