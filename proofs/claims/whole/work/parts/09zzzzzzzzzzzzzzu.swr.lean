/-! between calls: feed */
-/
def c8 (p s : Int32) : Int32 := (p >>> (s &&& 31)) &&& 255
section SWR
variable {M T M' T' : gSt} {i nf d d' : Nat} {p q : Int32} {F F' : gF}
theorem fi_255 {k : Nat} (hk : k < 32) : fi (255 : Int32) k = decide (k < 8) := by
  have : ∀ k : Fin 32, fi (255 : Int32) k.val = decide (k.val < 8) := by decide
  exact this ⟨k, hk⟩
theorem c8_n : (c8 p q).toBitVec.toNat ≤ 255 := by
  unfold c8
  rw [Int32.toBitVec_and, BitVec.toNat_and]
  exact Nat.and_le_right
theorem c8_b : 0 ≤ c8 p q ∧ c8 p q ≤ 255 := by
  have h := c8_n (p := p) (q := q)
  have e : (c8 p q).toInt = (c8 p q).toBitVec.toNat := by
    show (c8 p q).toBitVec.toInt = _
    rw [BitVec.toInt_eq_toNat_of_lt (by omega)]
  have e0 : (0 : Int32).toInt = 0 := rfl
  have e1 : (255 : Int32).toInt = 255 := rfl
  rw [Int32.le_iff_toInt_le, Int32.le_iff_toInt_le, e, e0, e1]
  omega
theorem c8_e (n : Nat) (hn : n ≤ 24) (h1 : ((Int32.toUInt32 q &&& Int32.toUInt32 31).toBitVec % 32).toNat = n) (h2 : ((q &&& 31).toBitVec.smod 32).toNat = n) : (((((p.toUInt32 >>> (Int32.toUInt32 q &&& Int32.toUInt32 31)).toInt32) &&& (255 : Int32) : Int32).toUInt32 % 65536).toInt32) = c8 p q := by
  have eq : ((p.toUInt32 >>> (Int32.toUInt32 q &&& Int32.toUInt32 31)).toInt32) &&& (255 : Int32) = c8 p q := by
    refine fi_ext (fun k hk => ?_)
    unfold c8
    rw [fi_an, fi_an, fi_255 hk]
    by_cases c : k < 8
    · have e1 : fi ((p.toUInt32 >>> (Int32.toUInt32 q &&& Int32.toUInt32 31)).toInt32) k = fi p (n + k) := by
        show (p.toUInt32 >>> (Int32.toUInt32 q &&& Int32.toUInt32 31)).toBitVec.getLsbD k = p.toUInt32.toBitVec.getLsbD (n + k)
        rw [UInt32.toBitVec_shiftRight]
        show (p.toUInt32.toBitVec >>> ((Int32.toUInt32 q &&& Int32.toUInt32 31).toBitVec % 32).toNat).getLsbD k = _
        rw [h1, BitVec.getLsbD_ushiftRight]
      have e2 : fi (p >>> (q &&& 31)) k = fi p (n + k) := by
        unfold fi
        rw [Int32.toBitVec_shiftRight]
        show (p.toBitVec.sshiftRight ((q &&& 31).toBitVec.smod 32).toNat).getLsbD k = _
        rw [h2, BitVec.getLsbD_sshiftRight]
        rw [if_pos (show n + k < 32 by omega), decide_eq_false (show ¬ 32 ≤ k by omega)]
        rfl
      rw [e1, e2]
    · rw [decide_eq_false c, Bool.and_false, Bool.and_false]
  rw [eq]
  have hb := c8_n (p := p) (q := q)
  have e : (c8 p q).toUInt32 % 65536 = (c8 p q).toUInt32 := by
    apply UInt32.toNat_inj.mp
    rw [UInt32.toNat_mod]
    exact Nat.mod_eq_of_lt (Nat.lt_of_le_of_lt (show (c8 p q).toUInt32.toNat ≤ 255 from hb) (by decide))
  rw [e]
  rfl
/-- one character on both sides */
-/
def f1S (M : gSt) (z : Nat) (c : Int32) : gSt := sI (sI M 0 z c) 1 0 (nI (z + 1))
theorem f1_R {fl z : Nat} {p s : Int32} (h1 : M.1 1 0 = nI z) (hz : z < 4000) (hs : ¬ s < 0) : rl_Model_four_3 F nf (fl + 1) M p s = rl_Model_four_3 F nf fl (f1S M z (c8 p s)) p (s + (-8)) := by
  rw [rl_Model_four_3, if_neg hs, h1, gd, if_pos (nin (by omega) (by omega)), nc (by omega)]
  unfold stK vK
  dsimp only
  rw [sI_ne (g' := 1) (by omega), h1, nI_1]
  rfl
theorem f1_C {fl z n : Nat} {p s : Int32} (h1 : T.1 1 0 = nI z) (hz : z < 4000) (hs : ¬ s < 0) (hn : n ≤ 24) (e1 : ((Int32.toUInt32 s &&& Int32.toUInt32 31).toBitVec % 32).toNat = n) (e2 : ((s &&& 31).toBitVec.smod 32).toNat = n) : rl_House_addFour_3 F nf (fl + 1) T p s = rl_House_addFour_3 F nf fl (f1S T z (c8 p s)) p (s + (-8)) := by
  rw [rl_House_addFour_3, if_neg hs, h1, if_neg (fun w => by have := (nI_leI (a := 4000) (b := z) (by omega) (by omega)).mp w; omega), gd, if_pos (nin (by omega) (by omega)), nc (by omega), c8_e n hn e1 e2]
  unfold stK vK
  dsimp only
  rw [sI_ne (g' := 1) (by omega), h1, nI_1]
  rfl
def f4S (M : gSt) (z : Nat) (p : Int32) : gSt := f1S (f1S (f1S (f1S M z (c8 p 24)) (z + 1) (c8 p 16)) (z + 2) (c8 p 8)) (z + 3) (c8 p 0)
theorem f4_R {z : Nat} (h1 : M.1 1 0 = nI z) (hz : z + 4 ≤ 4000) (hnf : 6 ≤ nf) : rb_Model_four F nf M p = some (0, 0, f4S M z p) := by
  obtain ⟨fl, e⟩ : ∃ g, nf = g + 5 := ⟨nf - 5, by omega⟩
  unfold rb_Model_four
  rw [show rl_Model_four_3 F nf nf M p 24 = rl_Model_four_3 F nf (fl + 1 + 1 + 1 + 1 + 1) M p 24 by rw [← e], f1_R h1 (by omega) (by decide), show (24 : Int32) + (-8) = 16 by decide, f1_R (z := z + 1) (by unfold f1S; rw [sI_v]) (by omega) (by decide), show (16 : Int32) + (-8) = 8 by decide, f1_R (z := z + 2) (by unfold f1S; rw [sI_v]) (by omega) (by decide), show (8 : Int32) + (-8) = 0 by decide, f1_R (z := z + 3) (by unfold f1S; rw [sI_v]) (by omega) (by decide), rl_Model_four_3, if_pos (by decide)]
  rfl
theorem f4_C {z : Nat} (h1 : T.1 1 0 = nI z) (hz : z + 4 ≤ 4000) (hnf : 6 ≤ nf) : rb_House_addFour F nf T p = some (0, 0, f4S T z p) := by
  obtain ⟨fl, e⟩ : ∃ g, nf = g + 5 := ⟨nf - 5, by omega⟩
  unfold rb_House_addFour
  rw [show rl_House_addFour_3 F nf nf T p 24 = rl_House_addFour_3 F nf (fl + 1 + 1 + 1 + 1 + 1) T p 24 by rw [← e], f1_C (n := 24) h1 (by omega) (by decide) (by omega) (by decide) (by decide), show (24 : Int32) + (-8) = 16 by decide, f1_C (n := 16) (z := z + 1) (by unfold f1S; rw [sI_v]) (by omega) (by decide) (by omega) (by decide) (by decide), show (16 : Int32) + (-8) = 8 by decide, f1_C (n := 8) (z := z + 2) (by unfold f1S; rw [sI_v]) (by omega) (by decide) (by omega) (by decide) (by decide), show (8 : Int32) + (-8) = 0 by decide, f1_C (n := 0) (z := z + 3) (by unfold f1S; rw [sI_v]) (by omega) (by decide) (by omega) (by decide) (by decide), rl_House_addFour_3, if_pos (by decide)]
  rfl
theorem f1_i {z : Nat} {c : Int32} (h : Inv i M T) (h1 : M.1 1 0 = nI z) (hz : z < 4000) (hc : 0 ≤ c ∧ c ≤ 255) : Inv i (f1S M z c) (f1S T z c) := by
  have h0 := h
  obtain ⟨⟨z0, z1, ⟨c1, c2, c3, c4⟩, z3, z4⟩, _⟩ := h0
  have e : ∀ V : gSt, (f1S V z c).1 0 = fun j => if j = z then c else V.1 0 j := fun V => by
    funext j
    unfold f1S
    rw [sI_ne (by omega), rdI]
    by_cases w : j = z
    · rw [if_pos ⟨rfl, w⟩, if_pos w]
    · rw [if_neg (fun y => w y.2), if_neg w]
  refine h.tx (z := z + 1) ⟨fun k hk => by unfold f1S; rw [sI_ne (by omega), sI_ne (by omega)], rfl⟩ ⟨fun k hk => by unfold f1S; rw [sI_ne (by omega), sI_ne (by omega)], rfl⟩ (by unfold f1S; rw [sI_v]) (by unfold f1S; rw [sI_v]) (by omega) (by rw [e, e, z4]) (fun j hj => ?_)
  rw [e]
  dsimp only
  split
  · exact hc
  · exact c3 j hj
theorem f4_i {z : Nat} (h : Inv i M T) (h1 : M.1 1 0 = nI z) (hz : z + 4 ≤ 4000) : Inv i (f4S M z p) (f4S T z p) := f1_i (f1_i (f1_i (f1_i h h1 (by omega) c8_b) (by unfold f1S; rw [sI_v]) (by omega) c8_b) (by unfold f1S; rw [sI_v]) (by omega) c8_b) (by unfold f1S; rw [sI_v]) (by omega) c8_b
theorem f4_1 {z : Nat} : (f4S M z p).1 1 0 = nI (z + 4) := by unfold f4S f1S; rw [sI_v]
/-- feed */
-/
theorem v_feed {p1 p2 p3 p4 p5 : Int32} (h : Inv i M T) (hnf : 6 ≤ nf) : ∃ r M' T', rb_Model_feed (RR nf (d + 1)) nf M p1 p2 p3 p4 p5 = some (r, 0, M') ∧ rb_House_feed (PP nf (d' + 1)) nf T p1 p2 p3 p4 p5 = some (r, 0, T') ∧ Inv i M' T' := by
  have h0 := h
  obtain ⟨⟨z, z1, ⟨c1, c2, _⟩, _⟩, _⟩ := h0
  unfold rb_Model_feed rb_House_feed
  have e20 : nI z + 20 = nI (z + 20) := (Int32.ofNat_add z 20).symm
  rw [z1, c1, e20]
  by_cases c : nI (z + 20) ≤ (4000 : Int32)
  · have l : z + 20 ≤ 4000 := (nI_leI (a := z + 20) (b := 4000) (by omega) (by omega)).mp c
    have eR : ∀ (V : gSt) (x : Int32) (w : Nat), V.1 1 0 = nI w → w + 4 ≤ 4000 → RR nf (d + 1) 0 V [x] [] = some (0, 0, f4S V w x) := fun V x w e1 e2 => (show RR nf (d + 1) 0 V [x] [] = rb_Model_four (RR nf d) nf V x from rfl).trans (f4_R e1 e2 hnf)
    have eC : ∀ (V : gSt) (x : Int32) (w : Nat), V.1 1 0 = nI w → w + 4 ≤ 4000 → PP nf (d' + 1) 1 V [x] [] = some (0, 0, f4S V w x) := fun V x w e1 e2 => (show PP nf (d' + 1) 1 V [x] [] = rb_House_addFour (PP nf d') nf V x from rfl).trans (f4_C e1 e2 hnf)
    rw [if_pos c, if_pos c, eR _ _ z z1 (by omega), bis, eR _ _ (z + 4) f4_1 (by omega), bis, eR _ _ (z + 4 + 4) f4_1 (by omega), bis, eR _ _ (z + 4 + 4 + 4) f4_1 (by omega), bis, eR _ _ (z + 4 + 4 + 4 + 4) f4_1 (by omega), bis, eC _ _ z c1 (by omega), bis, eC _ _ (z + 4) f4_1 (by omega), bis, eC _ _ (z + 4 + 4) f4_1 (by omega), bis, eC _ _ (z + 4 + 4 + 4) f4_1 (by omega), bis, eC _ _ (z + 4 + 4 + 4 + 4) f4_1 (by omega), bis, f4_1, f4_1]
    exact ⟨_, _, _, rfl, rfl, f4_i (f4_i (f4_i (f4_i (f4_i h z1 (by omega)) f4_1 (by omega)) f4_1 (by omega)) f4_1 (by omega)) f4_1 (by omega)⟩
  · rw [if_neg c, if_neg c]
    exact ⟨_, _, _, rfl, rfl, h⟩
end SWR
