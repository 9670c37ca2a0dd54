/-! a fun, checked -/
/-- what the check of a fun leans on -/
def Ckf (T : gSt) : Prop := Tg T ∧ Rws T ∧ Ri T ∧ (T.1 11 0 = nI (inn T) ∧ inn T ≤ 24 ∧ ∀ t, t < inn T → itOk T t)
section FNX
variable {nf d : Nat} {T T' T1 S S' : gSt} {X : Lx} {it r k j c n m w i f fl q t lo hi a b v' g' : Nat} {x y x1 x2 x3 x4 : Int32} {nm : Int64} {tt : Tr}
theorem fq_cn (h : FQ T T') : cn T' = cn T := by unfold cn; rw [h.1 65 (by omega) (by omega)]
theorem fq_inn (h : FQ T T') : inn T' = inn T := by unfold inn; rw [h.1 11 (by omega) (by omega)]
theorem fq_rw (h : FQ T T') {p : Nat} : rwT T' p = rwT T p := by
  unfold rwT
  rw [h.1 66 (by omega) (by omega), h.1 67 (by omega) (by omega), h.1 68 (by omega) (by omega), h.1 69 (by omega) (by omega), h.1 70 (by omega) (by omega)]
theorem fq_tv (h : FQ T T') (hv : tV T x) : tV T' x := hv.up (by rw [fq_cn h]; exact Nat.le_refl _)
theorem fq_td (h : FQ T T') (hv : dOk T f x) : dOk T' f x := dOk.up (by rw [fq_cn h]; exact Nat.le_refl _) (h.1 15 (by omega) (by omega)) (fun p _ => fq_rw h) f x hv
theorem Tg.fq (g : Tg T) (h : FQ T T') : Tg T' := by
  refine ⟨?_, ?_, ?_⟩
  · rw [fq_cn h, h.1 65 (by omega) (by omega)]; exact g.1
  · rw [fq_cn h]; exact g.2.1
  · rw [fq_cn h]; exact g.2.2
theorem Rws.fq (g : Rws T) (h : FQ T T') : Rws T' := by
  intro p h1 h2
  rw [fq_cn h] at h2
  have := g p h1 h2
  rw [fq_rw h]
  unfold rwOk at this ⊢
  rw [fq_inn h]
  exact this
theorem roI_fq (h : FQ T T') : roI T' t nm = roI T t nm := by
  have e : isRi T' t nm = isRi T t nm := by
    funext q
    unfold isRi
    rw [h.2.1 16 (by omega)]
  unfold roI
  rw [e, h.1 15 (by omega) (by omega)]
theorem itOk.fq (g : itOk T t) (h : FQ T T') : itOk T' t := by
  obtain ⟨c, m, r, w, b1, b2, b3, b4, b5, b6, b7, b8, b9, b10, b11⟩ := g
  refine ⟨c, m, r, w, ?_, ?_, b3, b4, ?_, b6, ?_, b8, ?_, ?_, ?_⟩
  · rw [h.1 18 (by omega) (by omega)]; exact b1
  · rw [h.1 19 (by omega) (by omega)]; exact b2
  · rw [h.1 15 (by omega) (by omega)]; exact b5
  · rw [h.1 31 (by omega) (by omega)]; exact b7
  · intro f hf
    rw [h.1 24 (by omega) (by omega)]
    exact ⟨fq_tv h (b9 f hf).1, fq_td h (b9 f hf).2⟩
  · intro q
    rw [h.1 25 (by omega) (by omega)] at q
    rw [h.1 26 (by omega) (by omega)]
    exact ⟨fq_tv h (b10 q).1, fq_td h (b10 q).2⟩
  · intro k hk
    rw [h.2.1 32 (by omega), roI_fq h]
    exact b11 k hk
theorem pa_o (g : Nat) (h : g ≠ 77) (h2 : g ≠ 79) (h3 : g ≠ 80) (h4 : g ≠ 81) : ∀ (k j : Nat) (T : gSt), (paL c k j T).1 g = T.1 g := by
  intro k
  induction k with
  | zero => intro j T; rfl
  | succ k ih =>
    intro j T
    rw [paL, ih]
    unfold paS seS
    rw [sI_ne h4, sI_ne h, sI_ne h3, sI_ne h2]
    rfl
theorem pa_77 : ∀ (k j : Nat) (T : gSt), j + k < 100 → T.1 77 0 = nI j → (paL c k j T).1 77 0 = nI (j + k) := by
  intro k
  induction k with
  | zero => intro j T _ h; exact h
  | succ k ih =>
    intro j T hj h
    have hv : vn T = j := by unfold vn; rw [h, nc (by omega)]
    rw [paL, ih (j + 1) _ (by omega) (by unfold paS; rw [sI_ne (by omega)]; unfold seS; rw [rdI, if_pos ⟨rfl, rfl⟩, hv]), Nat.add_right_comm, Nat.add_assoc]
theorem pa_80 {S0 : gSt} : ∀ (k j : Nat) (T : gSt), j + k < 100 → T.1 77 0 = nI j → (∀ v, v < j → tV S0 (T.1 80 v)) → (∀ q, q < j + k → tV S0 (T.1 24 (c + q))) → ∀ v, v < j + k → tV S0 ((paL c k j T).1 80 v) := by
  intro k
  induction k with
  | zero => intro j T _ _ h _ v hv; exact h v hv
  | succ k ih =>
    intro j T hj h h80 h24 v hv
    have hvn : vn T = j := by unfold vn; rw [h, nc (by omega)]
    rw [paL]
    refine ih (j + 1) _ (by omega) (by unfold paS; rw [sI_ne (by omega)]; unfold seS; rw [rdI, if_pos ⟨rfl, rfl⟩, hvn]) ?_ ?_ v (by omega)
    · intro u hu
      have e : (paS c j T).1 80 u = if u = j then T.1 24 (c + j) else T.1 80 u := by
        unfold paS seS
        rw [sI_ne (by omega), sI_ne (by omega), rdI, hvn]
        by_cases z : u = j
        · rw [if_pos z, if_pos ⟨rfl, z⟩]
        · rw [if_neg z, if_neg (fun e => z e.2), sI_ne (by omega)]
          rfl
      rw [e]
      by_cases z : u = j
      · rw [if_pos z]; exact h24 j (by omega)
      · rw [if_neg z]; exact h80 u (by omega)
    · intro q hq
      rw [FQ.pa1.1 24 (by omega) (by omega)]
      exact h24 q (by omega)
theorem fn_si (hC : Ckf S) (hit : it < inn S) (hm : m ≤ 8) (h15 : S.1 15 it = nI r) (hr : r ≤ 3) (h24 : ∀ f, f < m → tV S (S.1 24 (c + f))) : SI (fnC it c m w S) m 0 0 := by
  obtain ⟨a1, a2, a3, a4, a5, a6⟩ := hC
  have fq : FQ S (fnC it c m w S) := FQ.nC
  have fB : FQ S (fnB it w S) := FQ.nB
  -- regions
  have e0 : (sI S 64 0 (nI it)).1 15 it = nI r := by rw [sI_ne (by omega)]; exact h15
  have ss : fn0 it S = sgL it r 0 (sI (sI S 64 0 (nI it)) 71 0 0) := by unfold fn0 sgS; rw [e0, nc (by omega)]
  have oB : ∀ g, g = 71 ∨ g = 73 → (fnC it c m w S).1 g = (fn0 it S).1 g := by
    intro g hg
    unfold fnC fnB
    rw [pa_o g (by omega) (by omega) (by omega) (by omega)]
    have z : ∀ T : gSt, (zrS T).1 g = T.1 g := fun T => by
      unfold zrS
      rw [sI_ne (by omega), sI_ne (by omega), sI_ne (by omega), sI_ne (by omega), sI_ne (by omega), sI_ne (by omega), sI_ne (by omega)]
    have c1 : ∀ (a b c : Int32) (T : gSt), (cl1 a b c T).1 g = T.1 g := fun a b c T => by
      unfold cl1
      split
      · exact sI_ne (by omega)
      · rfl
    have c2 : ∀ (a b : Int32) (T : gSt), (cl2 a b T).1 g = T.1 g := fun a b T => by unfold cl2; rw [c1, c1, c1]
    have c3 : ∀ (a : Int32) (T : gSt), (cl3 a T).1 g = T.1 g := fun a T => by unfold cl3; rw [c2, c2, c2]
    have fw : ∀ (k j : Nat) (T : gSt), (fwL it k j T).1 g = T.1 g := by
      intro k
      induction k with
      | zero => intro j T; rfl
      | succ k ih =>
        intro j T
        rw [fwL, ih]
        exact sI_ne (by omega)
    rw [z]
    unfold clS
    rw [c3, c3, c3, fw]
    unfold fnA
    rw [sI_ne (by omega), sI_ne (by omega)]
  have h71 : (fnC it c m w S).1 71 0 = nI r := by
    rw [oB 71 (by omega), ss, sgL_n r 0 _ (by rw [rdI, if_pos ⟨rfl, rfl⟩]; rfl), Nat.zero_add]
  have hrn : rn (fnC it c m w S) = r := by unfold rn; rw [h71, nc (by omega)]
  -- vars
  have z77 : (fnB it w S).1 77 0 = nI 0 := by
    unfold fnB zrS
    rw [sI_ne (by omega), sI_ne (by omega), sI_ne (by omega), sI_ne (by omega), sI_ne (by omega), sI_ne (by omega), rdI, if_pos ⟨rfl, rfl⟩]
    rfl
  have h77 : (fnC it c m w S).1 77 0 = nI m := by
    unfold fnC
    rw [pa_77 m 0 _ (by omega) z77, Nat.zero_add]
  have hvn : vn (fnC it c m w S) = m := by unfold vn; rw [h77, nc (by omega)]
  have h80 : ∀ v, v < m → tV (fnC it c m w S) ((fnC it c m w S).1 80 v) := by
    intro v hv
    refine fq_tv fq ?_
    unfold fnC
    refine pa_80 m 0 _ (by omega) z77 (fun v hv => by omega) (fun q hq => ?_) v (by omega)
    rw [fB.1 24 (by omega) (by omega)]
    exact h24 q (by omega)
  have oz : ∀ g x, (g = 83 ∧ x = 1) ∨ ((g = 84 ∨ g = 86) ∧ x = 0) → (fnC it c m w S).1 g 0 = x := by
    intro g x hg
    unfold fnC
    rw [pa_o g (by omega) (by omega) (by omega) (by omega)]
    unfold fnB zrS
    rcases hg with ⟨rfl, rfl⟩ | ⟨rfl | rfl, rfl⟩
    · rw [sI_ne (by omega), sI_ne (by omega), sI_ne (by omega), rdI, if_pos ⟨rfl, rfl⟩]
    · rw [sI_ne (by omega), sI_ne (by omega), rdI, if_pos ⟨rfl, rfl⟩]
    · rw [sI_ne (by omega), rdI, if_pos ⟨rfl, rfl⟩]
  refine ⟨⟨a1.fq fq, a2.fq fq, ⟨⟨?_, ?_⟩, ?_⟩, ?_, ⟨?_, ?_, ?_⟩, ?_, ?_, ?_⟩, ?_, Or.inr (oz 83 1 (by simp)), ?_, by omega, by omega, ?_, fun j hj => by omega⟩
  · rw [hrn]; exact h71
  · omega
  · intro k hk
    rw [hrn] at hk
    rw [oB 73 (by omega), ss, sgL_73 r 0 _ (fun q hq => by omega) k (by omega)]
    exact ⟨k + 1, rfl, by omega⟩
  · intro k hk
    rw [fq.2.2.1]
    exact a3 k hk
  · rw [fq_inn fq, fq.1 11 (by omega) (by omega)]; exact a4
  · rw [fq_inn fq]; exact a5
  · intro t ht
    rw [fq_inn fq] at ht
    exact (a6 t ht).fq fq
  · rw [hvn]; exact h77
  · omega
  · intro v hv
    rw [hvn] at hv
    exact h80 v hv
  · omega
  · rw [oz 86 0 (by simp)]; rfl
  · rw [oz 84 0 (by simp)]; rfl
theorem RepS.fq (h : RepS X T tt lo lo hi x) (hF : FQ T T') : RepS X T' tt lo lo hi x := by
  have o : ∀ g, 37 ≤ g → g ≤ 61 → T'.1 g = T.1 g := fun g a b => hF.1 g (by omega) (by omega)
  have aw : Aw T T' := ⟨by unfold nU; rw [o 45 (by omega) (by omega)]; exact Nat.le_refl _, fun j _ => ⟨by rw [hF.2.1 46 (by omega)], by rw [o 47 (by omega) (by omega)]⟩, by unfold nW; rw [o 37 (by omega) (by omega)]; exact Nat.le_refl _, fun g j a b _ => by rw [o g (by omega) (by omega)], fun j _ => by rw [hF.2.1 41 (by omega)]⟩
  exact RepS.ag ⟨⟨fun g j a b _ _ _ => by rw [o g (by omega) (by omega)], fun j _ _ => by rw [hF.2.1 56 (by omega)], aw.1, aw.2.1⟩, fun _ => ⟨by rw [o 53 (by omega) (by omega)], by rw [o 54 (by omega) (by omega)]⟩, aw⟩ h
theorem FS.fne : FS T (fnE it T) := by
  unfold fnE
  repeat' split
  · exact FS.rf
  · exact FS.rf
  · exact FS.fe (FE.fl (by decide))
  · exact FS.rf
/-- a fun -/
theorem x_cf (hx : PI X) (hX : xn X ≤ 4000) (hPl : ∀ q, q < xn X → xP X q < 100000) (hnf : 8300 ≤ nf) (hC : Ckf (er T)) (hit : it < inn T) (h18 : T.1 18 it = nI c) (h19 : T.1 19 it = nI m) (hcm : c + m ≤ 220) (hm : m ≤ 8) (h15 : T.1 15 it = nI r) (hr : r ≤ 3) (h31 : T.1 31 it = nI w) (hw : w ≤ 3) (h24 : ∀ f, f < m → tV (er T) (T.1 24 (c + f))) (hR : RepS X T tt lo lo hi (T.1 34 it)) (hhi : hi ≤ 8200) (hW : Ws X tt 2 a b m 0 v' g') (hb : b ≤ xn X) (h94 : T.1 94 0 = 0) (hu : nU T ≤ 4000) (hww : nW T ≤ 4000) (h7 : T.1 7 0 = 0) (hbd : bdT tt ≤ 20) (hd : 400 ≤ d) (hc : cn (fnS X it c m w tt (er T)) < 6000) : wp (RR nf (d + 1) 65 T [nI it] []) (fun _ _ T' => er T' = fnS X it c m w tt (er T) ∧ Fm X T T' lo hi a b ∧ (T'.1 7 0 = 0 → AnS X it T' tt lo lo hi (T.1 34 it) 0 0 (fnC it c m w (er T)))) := by
  have hi24 : inn T ≤ 24 := hC.2.2.2.2.1
  have zi : inb (nI it) 24 := nin (by omega) (by omega)
  have ci : (nI it).toNatClampNeg = it := nc (by omega)
  obtain ⟨d', rfl⟩ : ∃ q, d = q + 1 := ⟨d - 1, by omega⟩
  have fq : FQ T (fnC it c m w T) := FQ.nC
  have si := fn_si (c := c) (w := w) hC hit hm h15 hr h24
  have cS : cn (stS X it tt 0 0 0 (fnC it c m w (er T))) < 6000 := (FS.fne (it := it)).lt ((st_fs tt 0 0 0 _).tg si.1.1) hc
  have pre : Pre it (fnC it c m w T) 0 m 0 0 := by
    refine ⟨by rw [er_fnC]; exact si, ?_, ?_, ?_, ?_, ?_, ?_⟩
    · rw [fq.2.2.2 94 rfl]; exact h94
    · unfold nU; rw [fq.1 45 (by omega) (by omega)]; exact hu
    · unfold nW; rw [fq.1 37 (by omega) (by omega)]; exact hww
    · have o64 : ∀ g, g = 64 → ∀ T : gSt, (fnC it c m w T).1 g = (fn0 it T).1 g := by
        intro g hg T
        unfold fnC fnB
        rw [pa_o g (by omega) (by omega) (by omega) (by omega)]
        have z : ∀ T : gSt, (zrS T).1 g = T.1 g := fun T => by
          unfold zrS
          rw [sI_ne (by omega), sI_ne (by omega), sI_ne (by omega), sI_ne (by omega), sI_ne (by omega), sI_ne (by omega), sI_ne (by omega)]
        have c1 : ∀ (a b c : Int32) (T : gSt), (cl1 a b c T).1 g = T.1 g := fun a b c T => by
          unfold cl1
          split
          · exact sI_ne (by omega)
          · rfl
        have c2 : ∀ (a b : Int32) (T : gSt), (cl2 a b T).1 g = T.1 g := fun a b T => by unfold cl2; rw [c1, c1, c1]
        have c3 : ∀ (a : Int32) (T : gSt), (cl3 a T).1 g = T.1 g := fun a T => by unfold cl3; rw [c2, c2, c2]
        have fw : ∀ (k j : Nat) (T : gSt), (fwL it k j T).1 g = T.1 g := by
          intro k
          induction k with
          | zero => intro j T; rfl
          | succ k ih =>
            intro j T
            rw [fwL, ih]
            exact sI_ne (by omega)
        rw [z]
        unfold clS
        rw [c3, c3, c3, fw]
        unfold fnA
        rw [sI_ne (by omega), sI_ne (by omega)]
      rw [o64 64 rfl]
      unfold fn0
      have : ∀ S : gSt, (sgS it S).1 64 = S.1 64 := fun S => by
        unfold sgS
        rw [sgL_o 64 (by omega) (by omega), sI_ne (by omega)]
      rw [this, rdI, if_pos ⟨rfl, rfl⟩]
    · rw [fq_inn fq]; exact hit
    · rw [fq.1 7 (by omega) (by omega)]; exact h7
  have hb2 := (st_all (nf := nf) (it := it) hx hX hPl hnf tt).1
  have h34 : (fnC it c m w T).1 34 it = T.1 34 it := by rw [fq.1 34 (by omega) (by omega)]
  have hblk := hb2 (fnC it c m w T) (d' + 1) lo hi a b m 0 v' g' 0 0 (T.1 34 it) (hR.fq fq) hhi hW hb pre (by omega) (by omega) (by omega) (by rw [er_fnC]; exact cS)
  -- the walk
  rw [e_Model_checkFun]
  unfold rb_Model_checkFun
  rw [stK, x_sg (nf := nf) (d := d') (by omega) (by omega) hr (by rw [sI_ne (by omega)]; exact h15), bis, gd, if_pos zi, gd, if_pos zi, ci, stK, stK]
  have f0 : FQ T (fnA it T) := FQ.nA
  have l41 := l_41 (nf := nf) (d := d') (r := r) (by omega) (by omega : it < 24) hr hw w 0 nf (fnA it T) (by omega) (by omega) (by rw [f0.1 31 (by omega) (by omega)]; exact h31) (by rw [f0.1 15 (by omega) (by omega)]; exact h15)
  rw [show nI 0 = (0 : Int32) from rfl] at l41
  show wp (rl_Model_checkFun_41 (RR nf (d' + 1)) nf nf (fnA it T) (nI it) 0) _
  rw [l41, e_111 (by omega)]
  have fB : FQ T (fnB it w T) := FQ.nB
  have z77 : (fnB it w T).1 77 0 = nI 0 := by
    unfold fnB zrS
    rw [sI_ne (by omega), sI_ne (by omega), sI_ne (by omega), sI_ne (by omega), sI_ne (by omega), sI_ne (by omega), rdI, if_pos ⟨rfl, rfl⟩]
    rfl
  have l232 := l_232 (nf := nf) (d := d') (c := c) (m := m) (by omega : it < 24) hcm hm m 0 nf (fnB it w T) (by omega) (by omega) (by rw [fB.1 19 (by omega) (by omega)]; exact h19) (by rw [fB.1 18 (by omega) (by omega)]; exact h18) z77
  rw [show nI 0 = (0 : Int32) from rfl] at l232
  show wp (rl_Model_checkFun_232 (RR nf (d' + 1)) nf nf (fnB it w T) (nI it) 0) _
  rw [l232]
  obtain ⟨fl', hfl⟩ : ∃ q, nf - m = q + 1 := ⟨nf - m - 1, by omega⟩
  rw [hfl]
  show wp (rl_Model_checkFun_232 (RR nf (d' + 1)) nf (fl' + 1) (fnC it c m w T) (nI it) (nI m)) _
  rw [rl_Model_checkFun_232, gd, if_pos zi, ci, show (fnC it c m w T).1 19 it = nI m from by rw [fq.1 19 (by omega) (by omega)]; exact h19, if_pos (Int32.le_refl _), gd, if_pos zi, h34]
  refine wp_bi hblk ?_
  intro _ _ T2 h2
  have hh0 := h2.h0
  obtain ⟨h21, h22, h23⟩ := h2
  rw [er_fnC] at h21 h23
  have fm : Fm X T T2 lo hi a b := by
    have n1 : Fm X T (fnC it c m w T) lo hi a b := Fm.nt fq.2.2.2
    refine ⟨fun j q => ⟨((h22.1 j q).1).trans (n1.1 j q).1, ((h22.1 j q).2).trans (n1.1 j q).2⟩, fun u => ?_, fun j hj => ?_, h22.2.2.2.trans n1.2.2.2⟩
    · rcases h22.2.1 u with e | ⟨q, q1, q2, q3⟩
      · exact Or.inl (e.trans (by rw [fq.2.2.2 48 rfl]))
      · exact Or.inr ⟨q, q1, q2, by rw [fq.1 47 (by omega) (by omega)] at q3; exact q3⟩
    · exact (h22.2.2.1 j (by rw [fq.2.2.2 94 rfl]; exact hj)).trans (n1.2.2.1 j hj)
  have fs : FS (fnC it c m w (er T)) (er T2) := h21 ▸ st_fs tt 0 0 0 _
  have fqe : FQ (er T) (fnC it c m w (er T)) := FQ.nC
  have g : ∀ k, k < 64 → k ≠ 7 → k ≠ 8 → anF k = false → T2.1 k = T.1 k := fun k k1 k2 k3 k4 => by
    have e1 := fs.1 k (by omega) k2 k3
    rw [er_i k4, fqe.1 k (by omega) (by omega), er_i k4] at e1
    exact e1
  have eE : fnS X it c m w tt (er T) = fnE it (er T2) := by unfold fnS; rw [h21]
  rw [eE]
  by_cases c0 : ¬ T2.1 7 0 = 0
  · rw [x_bd1 c0, bis, if_neg (by decide)]
    refine wp_some ⟨?_, fm, fun q => absurd q c0⟩
    unfold fnE
    rw [if_neg (show ¬ (er T2).1 7 0 = 0 from c0)]
  have c0 := Decidable.not_not.mp c0
  have c0e : (er T2).1 7 0 = 0 := c0
  rw [x_bd0 c0, bis, if_pos rfl, gd, if_pos zi]
  unfold fnE
  rw [if_pos c0e]
  have e25 : (er T2).1 25 it = T2.1 25 it := rfl
  rw [e25]
  by_cases c1 : T2.1 25 it < 0
  · rw [if_pos c1, if_pos c1]
    exact wp_some ⟨rfl, fm, h23⟩
  rw [if_neg c1, if_neg c1]
  have e83 : (er T2).1 83 0 = T2.1 83 0 := rfl
  rw [e83]
  by_cases c2 : T2.1 83 0 = 0
  · rw [if_pos c2, if_pos c2]
    exact wp_some ⟨rfl, fm, h23⟩
  rw [if_neg c2, if_neg c2, gd, if_pos zi]
  have hx34 : ∃ p, T2.1 34 it = nI p ∧ p < 8200 := by
    rw [g 34 (by omega) (by omega) (by omega) rfl]
    unfold Ws at hW
    split at hW
    · rename_i k i e ta tb
      unfold WsN at hW
      rw [if_pos rfl] at hW
      obtain ⟨rfl, _⟩ := hW
      obtain ⟨r1, r2, _⟩ : T.1 34 it = nI lo ∧ lo < hi ∧ T.1 50 lo = 31 ∧ T.1 57 lo = nI (xP X i) ∧ RepS X T ta (lo + 1) (lo + 1) hi (T.1 52 lo) := hR
      exact ⟨lo, r1, by omega⟩
    · exact absurd hW.1 (by omega)
    · exact hW.elim
  obtain ⟨p, hp, hp2⟩ := hx34
  rw [gd, if_pos (by rw [hp]; exact nin (by omega) (by omega)), x_fail, bis]
  refine wp_some ⟨er_fl, ?_, fun q => absurd q (flT_bad (by decide))⟩
  have nF : Fm X T2 (flT T2 8 (T2.1 57 (T2.1 34 it).toNatClampNeg)) lo hi a b := Fm.nt (fun k hk => flT_o (fun e => by rw [e] at hk; exact absurd hk (by decide)) (fun e => by rw [e] at hk; exact absurd hk (by decide)))
  refine ⟨fun j q => ⟨(nF.1 j q).1.trans (fm.1 j q).1, (nF.1 j q).2.trans (fm.1 j q).2⟩, fun u => ?_, fun j hj => ?_, nF.2.2.2.trans fm.2.2.2⟩
  · rw [flT_o (by omega) (by omega)]; exact fm.2.1 u
  · rw [flT_o (by omega) (by omega)]; exact fm.2.2.1 j hj
end FNX
