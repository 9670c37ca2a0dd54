/-! room for types: funs, items, the whole -/
def fcs (X : Lx) (x : It) : Nat := 2 * x.2.2.1.length + 3 * (cws X x.2.2.2.2.2.2.2.2 - 2)
def fcL (X : Lx) : List It → Nat
  | [] => 0
  | x :: xs => fcs X x + fcL X xs
section RMZ
variable {T T' T1 S S' : gSt} {X : Lx} {it r k j c n m w i f fl q t lo hi a b v g v' g' N p : Nat} {x y : Int32} {tt : Tr} {z : It} {l : List Nat}
theorem ws_2 (hw : Ws X tt 2 a b v g v' g') : ∃ i e ta tb, tt = tD 31 i e ta tb ∧ Ws X ta 1 (a + 1) i v g v' g' ∧ i < b := by
  unfold Ws at hw
  split at hw
  · rename_i k i e ta tb
    unfold WsN at hw
    rw [if_pos rfl] at hw
    obtain ⟨rfl, hw, hib⟩ := hw
    exact ⟨i, e, ta, tb, rfl, hw, hib⟩
  · exact absurd hw.1 (by omega)
  · exact hw.elim
theorem blk_rm (hw : Ws X tt 2 a b v g v' g') (hb : b < 100000) (hN : N + bdT tt ≤ 41) : RsQ (stS X it tt) (cws X tt - 2) v g N ∧ 2 ≤ cws X tt := by
  obtain ⟨i, e, ta, tb, rfl, hw, hib⟩ := ws_2 hw
  rw [bdT_n, if_pos rfl] at hN
  have hN2 := hN
  have e1 : cws X (tD 31 i e ta tb) = cws X ta + 2 := rfl
  show RsQ (stS X it (tD 31 i e ta tb)) (cws X (tD 31 i e ta tb) - 2) v g N ∧ 2 ≤ cws X (tD 31 i e ta tb)
  rw [e1, Nat.add_sub_cancel]
  refine ⟨?_, by omega⟩
  intro p q j n T hn h hq h0 hc
  have e0 : stS X it (tD 31 i e ta tb) p q j T = sI (stS X it ta 0 0 0 T) 77 0 (T.1 77 0) := rfl
  rw [e0]
  have mo := Ws_mo _ _ _ _ _ _ _ _ hw
  have rr := st_rm (X := X) (it := it) ta 1 _ _ _ _ _ _ N hw (by omega) (by show N + bdT ta ≤ 40; omega) 0 0 0 n T hn h hq h0 hc
  have s1 := st_inv (X := X) (it := it) ta 1 _ _ _ _ _ _ N hw (by omega) (by show N + bdT ta ≤ 40; omega) 0 0 0 n T hn h
  generalize stS X it ta 0 0 0 T = S at *
  refine ⟨fun g7 g6 => ?_, ?_⟩
  · have c1 : cn S < 6000 := g6
    have o1 : S.1 7 0 = 0 := g7
    have sk := s1 c1 o1
    have a1 := rr.1 o1 c1
    have evn : vn (sI S 77 0 (T.1 77 0)) = vn T := by
      unfold vn
      rw [rdI, if_pos ⟨rfl, rfl⟩]
    have ps : pot (sI S 77 0 (T.1 77 0)) ≤ pot S := by
      rw [pot_lt c1, pot_lt g6, cn_w (by omega)]
      have : psi (sI S 77 0 (T.1 77 0)) ≤ psi S := psi_mono sk.1.1.1 ((Trw.wr (k := 77) (by omega)) sk.1.1.1).1 (by rw [cn_w (by omega)]; exact Nat.le_refl _) (fun p _ => rwT_w (by omega)) sk.1.1.2.2.2.2.2.2.2 (fun v _ => by rw [sI_ne (by omega)]) (by rw [evn]; exact sk.2.1)
      omega
    omega
  · have : pt0 (sI S 77 0 (T.1 77 0)) = pt0 S := pt0_cn (cn_w (by omega))
    have := rr.2
    omega
theorem Hq.fq (hq : Hq T) (h : FQ T T') : Hq T' := by
  intro t ht c m h18 h19 hcm
  rw [fq_inn h] at ht
  rw [h.1 18 (by omega) (by omega)] at h18
  rw [h.1 19 (by omega) (by omega)] at h19
  obtain ⟨q1, q2⟩ := hq t ht c m h18 h19 hcm
  have dd : ∀ x, dpt T' 7 x = dpt T 7 x := fun x => dpt_same (fun k hk => h.1 k (by omega) (by omega)) 7 x
  refine ⟨fun f hf => ?_, fun h25 => ?_⟩
  · rw [h.1 24 (by omega) (by omega), dd]; exact q1 f hf
  · rw [h.1 25 (by omega) (by omega)] at h25
    rw [h.1 26 (by omega) (by omega), h.1 15 (by omega) (by omega), dd]
    exact ⟨(q2 h25).1, fun z => aH.up (by rw [fq_cn h]; exact Nat.le_refl _) (fun p _ => fq_rw h) 7 _ ((q2 h25).2 z)⟩
/-- a fun -/
theorem fn_rm (hC : Ckf S) (hq : Hq S) (h7 : S.1 7 0 = 0) (hc : cn S < 6000) (hit : it < inn S) (hm : m ≤ 8) (h15 : S.1 15 it = nI r) (hr : r ≤ 3) (h24 : ∀ f, f < m → tV S (S.1 24 (c + f))) (hW : Ws X tt 2 a b m 0 v' g') (hb : b < 100000) (hbd : bdT tt ≤ 20) : ((fnS X it c m w tt S).1 7 0 = 0 → cn (fnS X it c m w tt S) < 6000 → pt0 (fnS X it c m w tt S) ≤ 2 * cn S + 2 * m + 3 * (cws X tt - 2) ∧ Hq (fnS X it c m w tt S)) ∧ pt0 (fnS X it c m w tt S) ≤ 2 * cn S + 2 * m + 3 * (cws X tt - 2) + 11 := by
  have si := fn_si (c := c) (w := w) hC hit hm h15 hr h24
  have fq : FQ S (fnC it c m w S) := FQ.nC
  have hqC := hq.fq fq
  have c6 : cn (fnC it c m w S) < 6000 := by rw [fq_cn fq]; exact hc
  have c7 : (fnC it c m w S).1 7 0 = 0 := by rw [fq.1 7 (by omega) (by omega)]; exact h7
  have rr := (blk_rm (it := it) (N := 0) hW hb (by omega)).1 0 0 0 0 (fnC it c m w S) (Nat.le_refl _) si hqC c7 c6
  have pc : pot (fnC it c m w S) ≤ 2 * cn S + 2 * m := by
    rw [pot_lt c6, fq_cn fq]
    have : psi (fnC it c m w S) ≤ vn (fnC it c m w S) := by unfold psi; exact cnt_le _
    have := si.2.1
    omega
  have fs := st_fs (X := X) (it := it) tt 0 0 0 (fnC it c m w S)
  have eC : cn (fnS X it c m w tt S) = cn (stS X it tt 0 0 0 (fnC it c m w S)) := by
    unfold fnS fnE
    repeat' split
    all_goals first | rfl | exact cn_fl
  have hf : (fnS X it c m w tt S).1 7 0 = 0 → fnS X it c m w tt S = stS X it tt 0 0 0 (fnC it c m w S) := by
    intro h0
    have t0 := (FS.fne (it := it) (T := stS X it tt 0 0 0 (fnC it c m w S))).ok h0
    unfold fnS at h0 ⊢
    generalize stS X it tt 0 0 0 (fnC it c m w S) = V at *
    unfold fnE at h0 ⊢
    rw [if_pos t0] at h0 ⊢
    by_cases c1 : V.1 25 it < 0
    · rw [if_pos c1]
    · rw [if_neg c1] at h0 ⊢
      by_cases c2 : V.1 83 0 = 0
      · rw [if_pos c2]
      · rw [if_neg c2] at h0
        exact absurd h0 (flT_bad (by decide))
  refine ⟨fun g7 g6 => ?_, ?_⟩
  · have e := hf g7
    rw [e] at g7 g6 ⊢
    have := rr.1 g7 g6
    refine ⟨?_, hqC.fs si.1 fs g6⟩
    have := pt0_le (T := stS X it tt 0 0 0 (fnC it c m w S))
    omega
  · rw [pt0_cn eC]
    have := rr.2
    omega
theorem HIs.gx (o : ∀ k, k < 64 → k ≠ 7 → k ≠ 8 → T'.1 k = T.1 k) (o2 : ∀ k, k < 72 → T'.2 k = T.2 k) : ∀ (xs : List It) (t c : Nat), HIs X T xs t c → HIs X T' xs t c := by
  intro xs
  induction xs with
  | nil => intro t c _; trivial
  | cons x xs ih =>
    intro t c h
    have aw : Aw T T' := ⟨by unfold nU; rw [o 45 (by omega) (by omega) (by omega)]; exact Nat.le_refl _, fun j _ => ⟨by rw [o2 46 (by omega)], by rw [o 47 (by omega) (by omega) (by omega)]⟩, by unfold nW; rw [o 37 (by omega) (by omega) (by omega)]; exact Nat.le_refl _, fun g j a b _ => by rw [o g (by omega) (by omega) (by omega)], fun j _ => by rw [o2 41 (by omega)]⟩
    refine ⟨⟨?_, ?_⟩, ih _ _ h.2⟩
    · obtain ⟨a1, a2, a3, a4, a5, a6, a7, a8, a9⟩ := h.1.1
      refine ⟨a1, ?_, ?_, a4, a5, ?_, a7, ?_, ?_⟩
      · rw [o 18 (by omega) (by omega) (by omega)]; exact a2
      · rw [o 19 (by omega) (by omega) (by omega)]; exact a3
      · intro k hk
        obtain ⟨b1, b2, w, b3, b4⟩ := a6 k hk
        exact ⟨by rw [o2 21 (by omega)]; exact b1, by rw [o 22 (by omega) (by omega) (by omega)]; exact b2, w, by rw [o 23 (by omega) (by omega) (by omega)]; exact b3, RepW.av 6 w _ aw.av b4⟩
      · unfold nU; rw [o 45 (by omega) (by omega) (by omega)]; exact a8
      · unfold nW; rw [o 37 (by omega) (by omega) (by omega)]; exact a9
    · obtain ⟨a1, a2, a3, a4, a5, a6, a7⟩ := h.1.2
      refine ⟨?_, ?_, a3, ?_, a5, ?_, a7⟩
      · unfold HR at a1 ⊢
        rw [o 25 (by omega) (by omega) (by omega)]
        split
        · rename_i z; rw [if_pos z] at a1; exact a1
        · rename_i z
          rw [if_neg z] at a1
          obtain ⟨⟨w', a, b⟩, c⟩ := a1
          exact ⟨⟨w', a, RepW.av 6 _ _ aw.av b⟩, c⟩
      · rw [o 15 (by omega) (by omega) (by omega)]; exact a2
      · rw [o 27 (by omega) (by omega) (by omega)]; exact a4
      · rw [o 31 (by omega) (by omega) (by omega)]; exact a6
theorem pt0_lt (h : cn T < 6000) : pt0 T = 2 * cn T := by unfold pt0; rw [if_pos h]
theorem fns_rm : ∀ (xs : List It) (t c a : Nat) (S : gSt), HIs X S xs t c → ItsOk X xs a n → n ≤ 4000 → inn S = t + xs.length → (∀ q, t ≤ q → q < t + xs.length → S.1 12 q = 2 → ∃ x, xs.getD (q - t) (0, 0, [], 0, 0, 0, 0, 0, tZ) = x ∧ xK X x.1 = 12) → Tg S → cn S < 6000 → (S.1 7 0 = 0 → Ckf S ∧ Hq S) → pt0 (fnsL X xs t c S) ≤ 2 * cn S + fcL X xs + 11 := by
  intro xs
  induction xs with
  | nil =>
    intro t c a S _ _ _ _ _ _ hc _
    show pt0 S ≤ _
    rw [pt0_lt hc]
    omega
  | cons x xs ih =>
    intro t c a S hI hO hn hin hK hg hc hC
    rw [fnsL, fcL]
    by_cases c0 : S.1 7 0 = 0
    · rw [if_pos c0]
      obtain ⟨ck, hq⟩ := hC c0
      obtain ⟨e, iO, iR⟩ := hO
      have hen := itz_le _ _ _ iR
      rw [List.length_cons] at hin
      by_cases c12 : S.1 12 t = 2
      · obtain ⟨x', ex, k12⟩ := hK t (Nat.le_refl _) (by rw [List.length_cons]; omega) c12
        rw [Nat.sub_self] at ex
        have ex : x = x' := ex
        subst ex
        have hY := hI.1.1
        have hOo := hI.1.2
        have eI : fnI X t c x S = fnS X t c x.2.2.1.length x.2.2.2.2.2.2.2.1 x.2.2.2.2.2.2.2.2 S := by unfold fnI; rw [if_pos c12]
        rw [eI]
        obtain ⟨a', v', g', d1, d2, d3⟩ := iO.2.2.2.2.2.2 k12
        have h24 : ∀ f, f < x.2.2.1.length → tV S (S.1 24 (c + f)) := by
          intro f hf
          obtain ⟨c', m', r', w', q1, q2, q3, q4, q5, q6, q7, q8, q9, q10, q11⟩ := ck.2.2.2.2.2 t (by omega)
          have b := hY.2.2.2.2.1
          have e1 : c' = c := nI_inj (by omega) (by omega) (q1.symm.trans hY.2.1)
          have e2 : m' = x.2.2.1.length := nI_inj (by omega) (by omega) (q2.symm.trans hY.2.2.1)
          rw [← e1]
          exact (q9 f (by omega)).1
        have fr := fn_rm (X := X) (it := t) (c := c) (m := x.2.2.1.length) (w := x.2.2.2.2.2.2.2.1) (tt := x.2.2.2.2.2.2.2.2) ck hq c0 hc (by omega) hY.2.2.2.1 hOo.2.1 hOo.2.2.1 h24 d2 (by omega) d3
        have fk : fcs X x = 2 * x.2.2.1.length + 3 * (cws X x.2.2.2.2.2.2.2.2 - 2) := rfl
        have tr : Trw S (fnS X t c x.2.2.1.length x.2.2.2.2.2.2.2.1 x.2.2.2.2.2.2.2.2 S) := Trw.fns
        have g1 := (tr hg).1
        have fck := fun hcc h00 => fn_ck (X := X) (it := t) (c := c) (m := x.2.2.1.length) (w := x.2.2.2.2.2.2.2.1) (tt := x.2.2.2.2.2.2.2.2) ck (by omega) hY.2.2.2.1 hOo.2.1 hOo.2.2.1 h24 d2 (by omega) d3 hcc h00
        have fq : FQ S (fnC t c x.2.2.1.length x.2.2.2.2.2.2.2.1 S) := FQ.nC
        have o : ∀ k, k < 64 → k ≠ 7 → k ≠ 8 → (fnS X t c x.2.2.1.length x.2.2.2.2.2.2.2.1 x.2.2.2.2.2.2.2.2 S).1 k = S.1 k := fun k k1 k2 k3 => by
          unfold fnS
          rw [FS.fne.1 k (by omega) k2 k3, (st_fs _ 0 0 0 _).1 k (by omega) k2 k3, fq.1 k (by omega) (by omega)]
        have o2 : ∀ k, k < 72 → (fnS X t c x.2.2.1.length x.2.2.2.2.2.2.2.1 x.2.2.2.2.2.2.2.2 S).2 k = S.2 k := fun k k1 => by
          unfold fnS
          rw [FS.fne.2.1 k k1, (st_fs _ 0 0 0 _).2.1 k k1, fq.2.1 k k1]
        generalize fnS X t c x.2.2.1.length x.2.2.2.2.2.2.2.1 x.2.2.2.2.2.2.2.2 S = S1 at *
        by_cases g7 : S1.1 7 0 = 0
        · by_cases g6 : cn S1 < 6000
          · have f1 := fr.1 g7 g6
            have hin1 : inn S1 = inn S := by unfold inn; rw [o 11 (by omega) (by omega) (by omega)]
            have i1 := ih (t + 1) (c + x.2.2.1.length) e S1 (HIs.gx o o2 _ _ _ hI.2) iR hn (by omega) ?_ g1 g6 (fun _ => ⟨fck g6 g7, f1.2⟩)
            · have e2 := f1.1
              rw [pt0_lt g6] at e2
              omega
            · intro q h1 h2 h3
              rw [o 12 (by omega) (by omega) (by omega)] at h3
              obtain ⟨x', e1, e2⟩ := hK q (by omega) (by rw [List.length_cons]; omega) h3
              refine ⟨x', ?_, e2⟩
              rw [show q - t = (q - (t + 1)) + 1 by omega] at e1
              exact e1
          · have tt := (fns_tr (X := X) xs (t + 1) (c + x.2.2.1.length) S1).1 g1
            have e1 : pt0 (fnsL X xs (t + 1) (c + x.2.2.1.length) S1) = 12000 := by unfold pt0; rw [if_neg (by have := tt.2.1; omega)]
            have e2 : pt0 S1 = 12000 := by unfold pt0; rw [if_neg g6]
            have := fr.2
            omega
        · have e1 : fnsL X xs (t + 1) (c + x.2.2.1.length) S1 = S1 := by
            cases xs with
            | nil => rfl
            | cons y ys => rw [fnsL, if_neg g7]
          rw [e1]
          have := fr.2
          omega
      · have eI : fnI X t c x S = S := by unfold fnI; rw [if_neg c12]
        rw [eI]
        have := ih (t + 1) (c + x.2.2.1.length) e S hI.2 iR hn (by omega) ?_ hg hc hC
        · omega
        · intro q h1 h2 h3
          obtain ⟨x', e1, e2⟩ := hK q (by omega) (by rw [List.length_cons]; omega) h3
          refine ⟨x', ?_, e2⟩
          rw [show q - t = (q - (t + 1)) + 1 by omega] at e1
          exact e1
    · rw [if_neg c0, pt0_lt hc]
      omega
end RMZ
