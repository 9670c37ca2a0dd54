/-! what reading a STEP leaves as it was -/
abbrev Fs (T T' : gSt) : Prop := Fz T T' ∧ Ag T T' 0 (nN T) ∧ nN T ≤ nN T' ∧ Aw T T'
abbrev Gs (X : Lx) (T : gSt) (i v g : Nat) : Prop := Gd X T i ∧ Gw T i ∧ T.1 62 0 = nI v ∧ T.1 63 0 = nI g
section SF
variable {nf d : Nat} {T T0 T1 T2 : gSt} {X : Lx} {e B i j m n v g : Nat}
theorem Fs.rf : Fs T T := ⟨Fz.rf, Ag.rf, Nat.le_refl _, Aw.rf⟩
theorem Fs.tr (h : Fs T0 T) (h2 : Fs T T1) : Fs T0 T1 := ⟨h.1.tr h2.1, h.2.1.tr h2.2.1 (Nat.le_refl _) h.2.2.1, Nat.le_trans h.2.2.1 h2.2.2.1, h.2.2.2.tr h2.2.2.2⟩
theorem nW_nd {a : Nat} {k p : Int32} : nW (ndS T a k p) = nW T := by
  unfold nW
  rw [ndS_i (by omega)]
theorem Fe.aw (h : Fe T T1) : Aw T T1 := by
  have e : nW T1 = nW T := by unfold nW; rw [h.2.2.2.1 37 (by omega)]
  exact ⟨h.2.1.2.2.1, h.2.1.2.2.2, by omega, fun g j a b _ => congrFun (h.2.2.2.1 g (by omega)) j, fun j _ => congrFun h.2.2.2.2 j⟩
theorem Fe.fs (h : Fe T T1) : Fs T T1 := ⟨h.1, h.2.1, h.2.2.1, h.aw⟩
theorem Ft.fs (h : Ft T T1) : Fs T T1 := ⟨h.1, ⟨fun g j a b _ _ _ => congrFun (h.2.1 g (by omega) (by omega)) j, fun j _ _ => congrFun h.2.2.1 j, h.2.2.2.1, h.2.2.2.2.1⟩, by rw [nN_ft h]; exact Nat.le_refl _, h.2.2.2⟩
theorem Aw.w {g j : Nat} {v : Int32} (hg : 50 ≤ g) : Aw T (sI T g j v) := ⟨by rw [nU_w (by omega)]; exact Nat.le_refl _, fun j' _ => ⟨rfl, by rw [sI_ne (by omega)]⟩, by rw [nW_w (by omega)]; exact Nat.le_refl _, fun g' j' a b _ => by rw [sI_ne (by omega)], fun _ _ => rfl⟩
theorem Aw.wj {j : Nat} {v : Int64} : Aw T (sJ T 56 j v) := ⟨Nat.le_refl _, fun j' _ => ⟨by rw [sJ_ne (by omega)], rfl⟩, Nat.le_refl _, fun g' j' a b _ => rfl, fun j' _ => by rw [sJ_ne (by omega)]⟩
theorem Fs.w {g j : Nat} {v : Int32} (h : Fs T0 T) (hg : 50 ≤ g ∧ g ≤ 63) (hj : nN T0 ≤ j ∨ 61 < g) : Fs T0 (sI T g j v) := ⟨h.1.w (by omega), ⟨fun g' j' a b c d e => by rw [rdI, if_neg (by omega)]; exact h.2.1.1 g' j' a b c d e, h.2.1.2.1, by rw [nU_w (by omega)]; exact h.2.1.2.2.1, fun j' hj' => ⟨(h.2.1.2.2.2 j' hj').1, by rw [sI_ne (by omega)]; exact (h.2.1.2.2.2 j' hj').2⟩⟩, by rw [nN_w (by omega)]; exact h.2.2.1, h.2.2.2.tr (Aw.w (by omega))⟩
theorem Fs.wj {j : Nat} {v : Int64} (h : Fs T0 T) (hj : nN T0 ≤ j) : Fs T0 (sJ T 56 j v) := ⟨h.1.wj (by omega), h.2.1.wj (by omega), h.2.2.1, h.2.2.2.tr Aw.wj⟩
theorem Fs.adv (h : Fs T0 T) : Fs T0 (advS T) := h.tr Fe.rf.adv.fs
theorem Fs.nd {k p : Int32} (h : Fs T0 T) (ha : nN T < 8200) : Fs T0 (ndS T (nN T) k p) := h.tr (Fe.rf.nd ha).fs
theorem ND.fs {k p o1 o2 o3 nx : Int32} {w : Int64} {q us mu fd : Int32} (h : ND T m k p o1 o2 o3 nx w q us mu fd) (hF : Fs T T1) (hm : m < nN T) : ND T1 m k p o1 o2 o3 nx w q us mu fd := by
  obtain ⟨c50, c51, c52, c53, c54, c55, c56, c57, c58, c59, c61⟩ := h
  exact ⟨(hF.2.1.1 50 m (by omega) (by omega) (by omega) (by omega) hm).trans c50, (hF.2.1.1 51 m (by omega) (by omega) (by omega) (by omega) hm).trans c51, (hF.2.1.1 52 m (by omega) (by omega) (by omega) (by omega) hm).trans c52, (hF.2.1.1 53 m (by omega) (by omega) (by omega) (by omega) hm).trans c53, (hF.2.1.1 54 m (by omega) (by omega) (by omega) (by omega) hm).trans c54, (hF.2.1.1 55 m (by omega) (by omega) (by omega) (by omega) hm).trans c55, (hF.2.1.2.1 m (by omega) hm).trans c56, (hF.2.1.1 57 m (by omega) (by omega) (by omega) (by omega) hm).trans c57, (hF.2.1.1 58 m (by omega) (by omega) (by omega) (by omega) hm).trans c58, (hF.2.1.1 59 m (by omega) (by omega) (by omega) (by omega) hm).trans c59, (hF.2.1.1 61 m (by omega) (by omega) (by omega) (by omega) hm).trans c61⟩
theorem Gs.w {g' j : Nat} {x : Int32} (h : Gs X T i v g) (hg : 50 ≤ g' ∧ g' ≤ 61) : Gs X (sI T g' j x) i v g := ⟨h.1.w (by omega), ⟨by rw [sI_ne (by omega), nW_w (by omega)]; exact h.2.1.1, by rw [nW_w (by omega)]; exact h.2.1.2⟩, by rw [sI_ne (by omega)]; exact h.2.2.1, by rw [sI_ne (by omega)]; exact h.2.2.2⟩
theorem Gs.wj {j : Nat} {x : Int64} (h : Gs X T i v g) : Gs X (sJ T 56 j x) i v g := ⟨h.1.wj (by omega), h.2⟩
theorem Gs.adv (hX : LX X) (h : Gs X T i v g) (hi : i < xn X) : Gs X (advS T) (i + 1) v g := ⟨h.1.adv hX hi, ⟨by rw [advS_i (by omega), nW_adv]; exact h.2.1.1, by rw [nW_adv]; have := h.2.1.2; omega⟩, by rw [advS_i (by omega)]; exact h.2.2.1, by rw [advS_i (by omega)]; exact h.2.2.2⟩
theorem Gs.nd {a : Nat} {k p : Int32} (h : Gs X T i v g) (ha : a < 8200) : Gs X (ndS T a k p) i v g := ⟨h.1.nd ha, ⟨by rw [ndS_i (by omega), nW_nd]; exact h.2.1.1, by rw [nW_nd]; exact h.2.1.2⟩, by rw [ndS_i (by omega)]; exact h.2.2.1, by rw [ndS_i (by omega)]; exact h.2.2.2⟩
theorem Gs.fe (h : Gs X T i v g) (hF : Fe T T1) (hG : Gd X T1 j) (hij : i ≤ j) : Gs X T1 j v g := by
  have e : nW T1 = nW T := by unfold nW; rw [hF.2.2.2.1 37 (by omega)]
  exact ⟨hG, ⟨by rw [hF.2.2.2.1 37 (by omega), e]; exact h.2.1.1, by rw [e]; have := h.2.1.2; omega⟩, by rw [hF.2.2.2.1 62 (by omega)]; exact h.2.2.1, by rw [hF.2.2.2.1 63 (by omega)]; exact h.2.2.2⟩
theorem Gs.ft (h : Gs X T i v g) (hF : Ft T T1) (hG : Gd X T1 j) (hW : Gw T1 j) : Gs X T1 j v g := ⟨hG, hW, by rw [hF.2.1 62 (by omega) (by omega)]; exact h.2.2.1, by rw [hF.2.1 63 (by omega) (by omega)]; exact h.2.2.2⟩
/-- what a STEP or BLOCK comes to -/
abbrev SO (X : Lx) (T : gSt) (i : Nat) (t : Tr) (j v g : Nat) (r : Int32) (T' : gSt) : Prop := i < j ∧ Gs X T' j v g ∧ v ≤ 20 ∧ g ≤ 8 ∧ Fs T T' ∧ RepS X T' t (nN T) (nN T) (nN T') r ∧ nN T' + 2 * i ≤ nN T + 2 * j ∧ ∃ q, r = nI q ∧ nN T ≤ q ∧ q < nN T' ∧ T'.1 55 q = -1 ∧ ∃ k i e a b, t = tD k i e a b ∧ k ≠ 11 ∧ k ≠ 12
def SQ (X : Lx) (T : gSt) (i m : Nat) (res : SR) (r : Int32) (T' : gSt) : Prop := match res with
  | .ok (t, j, v, g) => SO X T i t j v g r T'
  | .error e => EE X T i m e r T'
abbrev IHB (X : Lx) (nf m D : Nat) : Prop := ∀ T i v g, Gs X T i v g → v ≤ 20 → g ≤ 8 → nN T ≤ 2 * i → wp (RR nf D 31 T [nI (21 - m)] []) (fun r _ T' => SQ X T i m (pBl (xK X) m i v g) r T')
theorem s_sub {i1 m1 M : Nat} {res : ER} {Kc : Tr → Nat → SR} {o : gR} {kk : Int32 → Int64 → gSt → gR} (h : wp o (fun r _ T' => EQ X T1 i1 m1 res r T')) (hok : ∀ t j r l T', EO X T1 i1 t j r T' → wp (kk r l T') (fun r2 _ T2 => SQ X T i M (Kc t j) r2 T2)) (herr : ∀ e r l T', EE X T1 i1 m1 e r T' → wp (kk r l T') (fun r2 _ T2 => EE X T i M e r2 T2)) : wp (bi o kk) (fun r2 _ T2 => SQ X T i M (se res Kc) r2 T2) := by
  refine wp_bi h ?_
  intro r l T' hq
  cases res with
  | error e => exact herr e r l T' hq
  | ok tj =>
    obtain ⟨t, j⟩ := tj
    exact hok t j r l T' hq
theorem s_blk {i1 m1 M : Nat} {res : SR} {Kc : Tr → Nat → Nat → Nat → SR} {o : gR} {kk : Int32 → Int64 → gSt → gR} (h : wp o (fun r _ T' => SQ X T1 i1 m1 res r T')) (hok : ∀ t j v g r l T', SO X T1 i1 t j v g r T' → wp (kk r l T') (fun r2 _ T2 => SQ X T i M (Kc t j v g) r2 T2)) (herr : ∀ e r l T', EE X T1 i1 m1 e r T' → wp (kk r l T') (fun r2 _ T2 => EE X T i M e r2 T2)) : wp (bi o kk) (fun r2 _ T2 => SQ X T i M (sb res Kc) r2 T2) := by
  refine wp_bi h ?_
  intro r l T' hq
  cases res with
  | error e => exact herr e r l T' hq
  | ok tj =>
    obtain ⟨t, j, v, g⟩ := tj
    exact hok t j v g r l T' hq
theorem s_need (hX : LX X) {M j : Nat} {c : Int32} (k : Nat) (hG : Gd X T1 j) (hc : chK k = c) (hk0 : 40 ≤ k) (hk1 : k < 63) {x : SR} {kk : Int32 → Int64 → gSt → gR} (hY : xK X j = k → j < xn X → wp (kk 0 0 (advS T1)) (fun r2 _ T2 => SQ X T i M x r2 T2)) (hN : ∀ T2, Zb X j T1 (nN T1) T2 → wp (kk 0 0 T2) (fun r2 _ T2 => EE X T i M j r2 T2)) : wp (bi (RR nf (d + 4) 20 T1 [c] []) kk) (fun r2 _ T2 => SQ X T i M (sn (xK X) k j x) r2 T2) := by
  refine g_need hX k hG hc hk0 hk1 (fun hk hj => ?_) (fun hk T2 hz => ?_)
  · unfold sn
    rw [if_pos hk]
    exact hY hk hj
  · unfold sn
    rw [if_neg hk]
    exact hN T2 hz
theorem b_block (hnf : 5000 ≤ nf) (hb : ¬ T.1 7 0 = 0) (p : Int32) : RR nf (d + 5) 31 T [p] [] = some (0, 0, T) := by
  have h10 : rj_Model_block_10 (RR nf (d + 4)) nf T p = some (0, 0, T) := by
    unfold rj_Model_block_10
    rw [q_nd1 hb]
    rw [bis]
    rw [q_bad1 hb]
    rfl
  rw [e_Model_block]
  unfold rb_Model_block
  split
  · exact h10
  · rw [q_wrong1 hb]
    exact h10
theorem Gs.w62 {v' : Nat} (h : Gs X T i v g) : Gs X (sI T 62 0 (nI v')) i v' g := ⟨h.1.w (by omega), ⟨by rw [sI_ne (by omega), nW_w (by omega)]; exact h.2.1.1, by rw [nW_w (by omega)]; exact h.2.1.2⟩, sI_v, by rw [sI_ne (by omega)]; exact h.2.2.2⟩
end SF
