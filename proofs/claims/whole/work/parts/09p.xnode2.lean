/-! & nn size cell row: what the reference does behind the check of a part -/
def anT (T : gSt) (k14 : Prop) [Decidable k14] (tl r pl : Int32) : Int32 × gSt := if k14 ∧ T.1 12 (tf T 69 tl).toNatClampNeg = 1 then (0, flT T 4 pl) else kn T (1, tf T 67 tl, r, -1, 0)
def nnT (T : gSt) (r pl : Int32) : Int32 × gSt := if isPt T r = 0 then (0, flT T 4 pl) else kn (nuS T r) (1, tf T 67 r, tf T 68 r, tf T 69 r, tf T 70 r)
def szT (T : gSt) (r pl : Int32) : Int32 × gSt := if isRo T r = 0 then (0, flT T 4 pl) else (0, T)
def mdT (T : gSt) (kd rg r pl : Int32) : Int32 × gSt := if 0 ≤ r then kn (mkS T) (kd, rg, r, -1, 0) else (0, flT T 4 pl)
def niT (T : gSt) (r pl : Int32) : gSt := if T.1 7 0 = 0 ∧ ¬ r = 0 then flT T 4 pl else T
section XQ
variable {nf d : Nat} {T T' : gSt} {X : Lx} {m n p u i l : Nat} {x y t r s kd pl pr tl : Int32} {nm : Int64} {z : T5} {P : Int32 → gSt → Prop}
theorem x_an0 (hm : m < 8200) (hn : n < 8200) (h52 : T.1 52 m = nI n) (h50 : ¬ T.1 50 n = 14 ∧ ¬ T.1 50 n = 15) (h51 : T.1 51 n = pl) : RR nf (d + 2) 91 T [nI m] [] = some (0, 0, flT T 4 pl) := by
  have zm : inb (nI m) 8200 := nin (by omega) (by omega)
  have cm : (nI m).toNatClampNeg = m := nc (by omega)
  have zn : inb (nI n) 8200 := nin (by omega) (by omega)
  have cn' : (nI n).toNatClampNeg = n := nc (by omega)
  rw [e_Model_checkAnd nf (d + 1)]
  unfold rb_Model_checkAnd
  simp only [gd, vK, if_pos zm, cm, h52, if_pos zn, cn', if_neg h50.1, if_neg h50.2, h51, x_fail, bi]
theorem x_an (hnf : 6000 ≤ nf) (hm : m < 8200) (hn : n < 8200) (h52 : T.1 52 m = nI n) (h50 : T.1 50 n = kd) (hk : kd = 14 ∨ kd = 15) (h51 : T.1 51 n = pl) (hB : wp (RR nf (d + 3) 86 T [nI n] []) (fun r _ T' => P r T')) (hP : ∀ r T', P r T' → Bh T T' ∧ (T'.1 7 0 = 0 → (∃ l, T'.1 52 n = nI l ∧ l < 8200 ∧ T'.1 60 l = tl) ∧ (∃ p, tl = nI p ∧ 1 ≤ p ∧ p < cn T' ∧ (kd = 14 → 0 ≤ T'.1 69 p)))) : wp (RR nf (d + 4) 91 T [nI m] []) (fun r _ T' => ∃ r1 T1, P r1 T1 ∧ (¬ T1.1 7 0 = 0 → T' = T1) ∧ (T1.1 7 0 = 0 → (T'.1 7 0 = 0 → r = (anT T1 (kd = 14) tl r1 pl).1) ∧ T' = (anT T1 (kd = 14) tl r1 pl).2)) := by
  have zm : inb (nI m) 8200 := nin (by omega) (by omega)
  have cm : (nI m).toNatClampNeg = m := nc (by omega)
  have zn : inb (nI n) 8200 := nin (by omega) (by omega)
  have cn' : (nI n).toNatClampNeg = n := nc (by omega)
  have main : wp (rj_Model_checkAnd_42 (RR nf (d + 3)) nf T (nI n)) (fun r _ T' => ∃ r1 T1, P r1 T1 ∧ (¬ T1.1 7 0 = 0 → T' = T1) ∧ (T1.1 7 0 = 0 → (T'.1 7 0 = 0 → r = (anT T1 (kd = 14) tl r1 pl).1) ∧ T' = (anT T1 (kd = 14) tl r1 pl).2)) := by
    unfold rj_Model_checkAnd_42
    refine wp_bi hB ?_
    intro r1 _ T1 hp
    obtain ⟨⟨hS, hC, hc⟩, h2⟩ := hP r1 T1 hp
    by_cases c0 : T1.1 7 0 = 0
    · refine wp_be (x_bd0 c0) (wp_t rfl (wp_gd zn ?_))
      obtain ⟨⟨l, l1, l2, l3⟩, p, p1, p2, p3, p4⟩ := h2 c0
      have zl : inb (nI l) 8200 := nin (by omega) (by omega)
      have cl : (nI l).toNatClampNeg = l := nc (by omega)
      rw [cn', l1]
      refine wp_gd zl ?_
      rw [cl, l3]
      refine wp_v (wp_gd zn ?_)
      have o50 : T1.1 50 n = kd := by rw [hS.1 50 (by omega) rfl]; exact h50
      have o51 : T1.1 51 n = pl := by rw [hS.1 51 (by omega) rfl]; exact h51
      rw [o50]
      refine wp_mono (R := fun r _ T' => (T'.1 7 0 = 0 → r = (anT T1 (kd = 14) tl r1 pl).1) ∧ T' = (anT T1 (kd = 14) tl r1 pl).2) ?_ (fun r _ T' q => ⟨r1, T1, hp, fun q2 => absurd c0 q2, fun _ => q⟩)
      have zp : inb tl 6000 := by rw [p1]; exact nin (by omega) (by omega)
      have cp : (nI p).toNatClampNeg = p := nc (by omega)
      have gT : Tg T1 := hC.1
      have fin : ¬ (kd = 14 ∧ T1.1 12 (tf T1 69 tl).toNatClampNeg = 1) → wp (rj_Model_checkAnd_108 (RR nf (d + 3)) nf T1 r1 tl) (fun r _ T' => (T'.1 7 0 = 0 → r = (anT T1 (kd = 14) tl r1 pl).1) ∧ T' = (anT T1 (kd = 14) tl r1 pl).2) := by
        intro k
        unfold rj_Model_checkAnd_108 anT
        rw [if_neg k]
        refine wp_be (x_bd0 c0) (wp_t rfl (wp_gd zp ?_))
        refine wp_be (x_kn gT hc hnf) ?_
        exact wp_some ⟨fun _ => rfl, rfl⟩
      by_cases c1 : kd = 14
      · refine wp_t c1 (wp_gd zp ?_)
        have ro := hC.row p2 p3
        have h9 := p4 c1
        have o5 := ro.2.2.2.2
        rw [if_pos (show 0 ≤ (er T1).1 69 p from h9)] at o5
        obtain ⟨t, t1, t2⟩ := o5
        have t1' : T1.1 69 p = nI t := t1
        have h24 : inn T1 ≤ 24 := hC.2.2.2.2.1.2.1
        have t2' : t < inn T1 := t2
        have e69 : T1.1 69 tl.toNatClampNeg = nI t := by rw [p1, cp]; exact t1'
        rw [e69]
        refine wp_gd (nin (by omega) (by omega)) ?_
        have e69' : tf T1 69 tl = nI t := e69
        by_cases c2 : T1.1 12 (nI t).toNatClampNeg = 1
        · refine wp_t c2 (wp_gd zn ?_)
          rw [o51]
          refine wp_be x_fail ?_
          unfold rj_Model_checkAnd_108
          refine wp_be (x_bd1 (flT_bad (by decide))) (wp_f (by decide) ?_)
          refine wp_some ⟨fun q => absurd q (flT_bad (by decide)), ?_⟩
          unfold anT
          rw [if_pos (show kd = 14 ∧ T1.1 12 (tf T1 69 tl).toNatClampNeg = 1 from ⟨c1, by rw [e69']; exact c2⟩)]
        · exact wp_f c2 (fin (fun q => c2 (by rw [← e69']; exact q.2)))
      · exact wp_f c1 (fin (fun q => c1 q.1))
    · exact wp_be (x_bd1 c0) (wp_f (by decide) (wp_some ⟨r1, T1, hp, fun _ => rfl, fun q => absurd q c0⟩))
  rw [e_Model_checkAnd nf (d + 3)]
  unfold rb_Model_checkAnd
  refine wp_gd zm ?_
  rw [cm, h52]
  refine wp_v (wp_gd zn ?_)
  rw [cn', h50]
  by_cases c1 : kd = 14
  · exact wp_t c1 main
  · refine wp_f c1 (wp_gd zn (wp_t ?_ main))
    exact hk.resolve_left c1
/-- the check of an EXPR that must be an int -/
theorem x_ni (hn : n < 8200) (h51 : T.1 51 n = pl) (hB : wp (RR nf (d + 1) 86 T [nI n] []) (fun r _ T' => P r T')) (hP : ∀ r T', P r T' → SP T T') : wp (RR nf (d + 2) 69 T [nI n] []) (fun _ _ T' => ∃ r1 T1, P r1 T1 ∧ T' = niT T1 r1 pl) := by
  have zn : inb (nI n) 8200 := nin (by omega) (by omega)
  have cn' : (nI n).toNatClampNeg = n := nc (by omega)
  rw [e_Model_needInt nf (d + 1)]
  unfold rb_Model_needInt
  refine wp_bi hB ?_
  intro r1 _ T1 hp
  have hS := hP r1 T1 hp
  have o51 : T1.1 51 n = pl := by rw [hS.1 51 (by omega) rfl]; exact h51
  refine wp_mono (R := fun _ _ T' => T' = niT T1 r1 pl) ?_ (fun r _ T' q => ⟨r1, T1, hp, q⟩)
  unfold niT
  by_cases c0 : T1.1 7 0 = 0
  · refine wp_be (x_bd0 c0) (wp_t rfl ?_)
    by_cases c1 : r1 = 0
    · rw [if_neg (show ¬ (T1.1 7 0 = 0 ∧ ¬ r1 = 0) from fun q => q.2 c1)]
      exact wp_t c1 (wp_some rfl)
    · rw [if_pos (show T1.1 7 0 = 0 ∧ ¬ r1 = 0 from ⟨c0, c1⟩)]
      refine wp_f c1 (wp_gd zn ?_)
      rw [cn', o51]
      exact wp_be x_fail (wp_some rfl)
  · rw [if_neg (show ¬ (T1.1 7 0 = 0 ∧ ¬ r1 = 0) from fun q => c0 q.1)]
    exact wp_be (x_bd1 c0) (wp_f (by decide) (wp_some rfl))
/-- nn -/
theorem x_nn (hnf : 6000 ≤ nf) (hm : m < 8200) (hn : n < 8200) (h50 : T.1 50 m = 11) (h52 : T.1 52 m = nI n) (h51 : T.1 51 n = pl) (hB : wp (RR nf (d + 3) 86 T [nI n] []) (fun r _ T' => P r T')) (hP : ∀ r T', P r T' → Bh T T' ∧ (T'.1 7 0 = 0 → tR (er T') r)) : wp (RR nf (d + 4) 87 T [nI m] []) (fun r _ T' => ∃ r1 T1, P r1 T1 ∧ (¬ T1.1 7 0 = 0 → T' = T1) ∧ (T1.1 7 0 = 0 → (T'.1 7 0 = 0 → r = (nnT T1 r1 pl).1) ∧ T' = (nnT T1 r1 pl).2)) := by
  have zm : inb (nI m) 8200 := nin (by omega) (by omega)
  have cm : (nI m).toNatClampNeg = m := nc (by omega)
  have zn : inb (nI n) 8200 := nin (by omega) (by omega)
  have cn' : (nI n).toNatClampNeg = n := nc (by omega)
  rw [e_Model_checkKind nf (d + 3)]
  unfold rb_Model_checkKind
  refine wp_gd zm ?_
  rw [cm, h50]
  refine wp_f (by decide) (wp_f (by decide) (wp_f (by decide) (wp_f (by decide) (wp_f (by decide) (wp_f (by decide) (wp_f (by decide) (wp_f (by decide) (wp_f (by decide) (wp_f (by decide) (wp_f (by decide) (wp_t rfl (wp_gd zm ?_))))))))))))
  rw [h52]
  refine wp_bi hB ?_
  intro r1 _ T1 hp
  obtain ⟨⟨hS, hC, hc⟩, h2⟩ := hP r1 T1 hp
  have o52 : T1.1 52 m = nI n := by rw [hS.1 52 (by omega) rfl]; exact h52
  have o51 : T1.1 51 n = pl := by rw [hS.1 51 (by omega) rfl]; exact h51
  have b192 : ∀ S : gSt, ¬ S.1 7 0 = 0 → wp (rj_Model_checkKind_192 (RR nf (d + 3)) nf S r1) (fun r _ T' => T' = S) := by
    intro S hS
    unfold rj_Model_checkKind_192
    exact wp_be (x_bd1 hS) (wp_f (by decide) (wp_some rfl))
  by_cases c0 : T1.1 7 0 = 0
  · refine wp_be (x_bd0 c0) (wp_t rfl ?_)
    have ht := h2 c0
    refine wp_be (x_isPt ht.ok (by omega)) ?_
    refine wp_mono (R := fun r _ T' => (T'.1 7 0 = 0 → r = (nnT T1 r1 pl).1) ∧ T' = (nnT T1 r1 pl).2) ?_ (fun r _ T' q => ⟨r1, T1, hp, fun q2 => absurd c0 q2, fun _ => q⟩)
    unfold nnT
    by_cases c1 : isPt T1 r1 = 0
    · simp only [if_pos c1]
      refine wp_gd zm ?_
      rw [o52]
      refine wp_gd zn ?_
      rw [cn', o51]
      refine wp_be x_fail (wp_mono (b192 _ (flT_bad (by decide))) ?_)
      rintro r _ T' rfl
      exact ⟨fun q => absurd q (flT_bad (by decide)), rfl⟩
    · simp only [if_neg c1]
      have zr : inb r1 6000 := ht.ok.inr (by omega) (isPt_pos c1)
      have gT : Tg T1 := hC.1
      have fin : ∀ v : Int32, v = (if T1.1 66 r1.toNatClampNeg = 2 then 1 else 0) → wp (rj_Model_checkKind_221 (RR nf (d + 3)) nf T1 r1 v (T1.1 88 0)) (fun r _ T' => (T'.1 7 0 = 0 → r = knR (nuS T1 r1) (1, tf T1 67 r1, tf T1 68 r1, tf T1 69 r1, tf T1 70 r1)) ∧ T' = knS (nuS T1 r1) (1, tf T1 67 r1, tf T1 68 r1, tf T1 69 r1, tf T1 70 r1)) := by
        intro v hv
        unfold rj_Model_checkKind_221
        have eN : sI T1 88 0 (T1.1 88 0 + v) = nuS T1 r1 := by
          unfold nuS tf
          rw [hv]
        rw [eN]
        refine wp_st (wp_gd zr (wp_gd zr (wp_gd zr (wp_gd zr ?_))))
        have g2 : Tg (nuS T1 r1) := FE.nu.tg gT
        refine wp_be (x_kn g2 (by rw [cn_nu]; exact hc) hnf) ?_
        have o : ∀ g j, g ≠ 88 → (nuS T1 r1).1 g j = T1.1 g j := fun g j h => by unfold nuS; rw [sI_ne h]
        rw [o 67 _ (by omega), o 68 _ (by omega), o 69 _ (by omega), o 70 _ (by omega)]
        exact wp_some ⟨fun _ => rfl, rfl⟩
      unfold rj_Model_checkKind_192
      refine wp_be (x_bd0 c0) (wp_t rfl (wp_gd zr ?_))
      by_cases c2 : T1.1 66 r1.toNatClampNeg = 2
      · exact wp_t c2 (fin 1 (by rw [if_pos c2]))
      · exact wp_f c2 (fin 0 (by rw [if_neg c2]))
  · refine wp_be (x_bd1 c0) (wp_f (by decide) (wp_mono (b192 _ c0) ?_))
    rintro r _ T' rfl
    exact ⟨r1, T', hp, fun _ => rfl, fun q => absurd q c0⟩
/-- size -/
theorem x_sz (hm : m < 8200) (hn : n < 8200) (h50 : T.1 50 m = 12) (h52 : T.1 52 m = nI n) (h51 : T.1 51 n = pl) (hB : wp (RR nf (d + 3) 86 T [nI n] []) (fun r _ T' => P r T')) (hP : ∀ r T', P r T' → Bh T T' ∧ (T'.1 7 0 = 0 → tR (er T') r)) : wp (RR nf (d + 4) 87 T [nI m] []) (fun r _ T' => ∃ r1 T1, P r1 T1 ∧ (¬ T1.1 7 0 = 0 → T' = T1) ∧ (T1.1 7 0 = 0 → r = (szT T1 r1 pl).1 ∧ T' = (szT T1 r1 pl).2)) := by
  have zm : inb (nI m) 8200 := nin (by omega) (by omega)
  have cm : (nI m).toNatClampNeg = m := nc (by omega)
  have zn : inb (nI n) 8200 := nin (by omega) (by omega)
  have cn' : (nI n).toNatClampNeg = n := nc (by omega)
  rw [e_Model_checkKind nf (d + 3)]
  unfold rb_Model_checkKind
  refine wp_gd zm ?_
  rw [cm, h50]
  refine wp_f (by decide) (wp_f (by decide) (wp_f (by decide) (wp_f (by decide) (wp_f (by decide) (wp_f (by decide) (wp_f (by decide) (wp_f (by decide) (wp_f (by decide) (wp_f (by decide) (wp_f (by decide) (wp_f (by decide) (wp_t rfl (wp_gd zm ?_)))))))))))))
  rw [h52]
  refine wp_bi hB ?_
  intro r1 _ T1 hp
  obtain ⟨⟨hS, hC, hc⟩, h2⟩ := hP r1 T1 hp
  have o52 : T1.1 52 m = nI n := by rw [hS.1 52 (by omega) rfl]; exact h52
  have o51 : T1.1 51 n = pl := by rw [hS.1 51 (by omega) rfl]; exact h51
  by_cases c0 : T1.1 7 0 = 0
  · refine wp_be (x_bd0 c0) (wp_t rfl ?_)
    have ht := h2 c0
    refine wp_be (x_isRo ht.ok (by omega)) ?_
    refine wp_mono (R := fun r _ T' => r = (szT T1 r1 pl).1 ∧ T' = (szT T1 r1 pl).2) ?_ (fun r _ T' q => ⟨r1, T1, hp, fun q2 => absurd c0 q2, fun _ => q⟩)
    unfold szT
    by_cases c1 : isRo T1 r1 = 0
    · simp only [if_pos c1]
      refine wp_gd zm ?_
      rw [o52]
      refine wp_gd zn ?_
      rw [cn', o51]
      exact wp_be x_fail (wp_some ⟨rfl, rfl⟩)
    · simp only [if_neg c1]
      exact wp_some ⟨rfl, rfl⟩
  · exact wp_be (x_bd1 c0) (wp_f (by decide) (wp_some ⟨r1, T1, hp, fun _ => rfl, fun q => absurd q c0⟩))
/-- cell and row, from the value on -/
theorem x_md65 (hnf : 6000 ≤ nf) (hm : m < 8200) (hn : n < 8200) (h50 : T.1 50 m = kd) (h51 : T.1 51 n = pl) (hB : wp (RR nf (d + 1) 86 T [nI n] []) (fun r _ T' => P r T')) (hP : ∀ r T', P r T' → Bh T T') : wp (rj_Model_checkMade_65 (RR nf (d + 1)) nf T (nI m) r (nI n)) (fun r' _ T' => ∃ r1 T1, P r1 T1 ∧ (¬ T1.1 7 0 = 0 → T' = T1) ∧ (T1.1 7 0 = 0 → (T'.1 7 0 = 0 → r' = (mdT T1 (if kd = 9 then 3 else 1) r r1 pl).1) ∧ T' = (mdT T1 (if kd = 9 then 3 else 1) r r1 pl).2)) := by
  have zm : inb (nI m) 8200 := nin (by omega) (by omega)
  have cm : (nI m).toNatClampNeg = m := nc (by omega)
  have zn : inb (nI n) 8200 := nin (by omega) (by omega)
  have cn' : (nI n).toNatClampNeg = n := nc (by omega)
  unfold rj_Model_checkMade_65
  refine wp_bi hB ?_
  intro r1 _ T1 hp
  obtain ⟨hS, hC, hc⟩ := hP r1 T1 hp
  have o50 : T1.1 50 m = kd := by rw [hS.1 50 (by omega) rfl]; exact h50
  have o51 : T1.1 51 n = pl := by rw [hS.1 51 (by omega) rfl]; exact h51
  have b96 : ∀ S : gSt, ¬ S.1 7 0 = 0 → wp (rj_Model_checkMade_96 (RR nf (d + 1)) nf S (nI m) r r1) (fun r _ T' => T' = S) := by
    intro S hS
    unfold rj_Model_checkMade_96
    exact wp_be (x_bd1 hS) (wp_f (by decide) (wp_some rfl))
  by_cases c0 : T1.1 7 0 = 0
  · refine wp_be (x_bd0 c0) (wp_t rfl ?_)
    refine wp_mono (R := fun r' _ T' => (T'.1 7 0 = 0 → r' = (mdT T1 (if kd = 9 then 3 else 1) r r1 pl).1) ∧ T' = (mdT T1 (if kd = 9 then 3 else 1) r r1 pl).2) ?_ (fun r _ T' q => ⟨r1, T1, hp, fun q2 => absurd c0 q2, fun _ => q⟩)
    unfold mdT
    by_cases c1 : 0 ≤ r1
    · simp only [if_pos c1]
      unfold rj_Model_checkMade_96
      refine wp_be (x_bd0 c0) (wp_t rfl (wp_st (wp_gd zm ?_)))
      have g1 : Tg (mkS T1) := FE.mk.tg hC.1
      have hc1 : cn (mkS T1) < 6000 := by rw [cn_mk]; exact hc
      have e1 : sI T1 91 0 (T1.1 91 0 + 1) = mkS T1 := rfl
      rw [e1, cm]
      have o50' : (mkS T1).1 50 m = kd := by unfold mkS; rw [sI_ne (by omega)]; exact o50
      rw [o50']
      by_cases c2 : kd = 9
      · simp only [if_pos c2]
        exact wp_be (x_kn g1 hc1 hnf) (wp_some ⟨fun _ => rfl, rfl⟩)
      · simp only [if_neg c2]
        exact wp_be (x_kn g1 hc1 hnf) (wp_some ⟨fun _ => rfl, rfl⟩)
    · simp only [if_neg c1]
      refine wp_gd zn ?_
      rw [cn', o51]
      refine wp_be x_fail (wp_mono (b96 _ (flT_bad (by decide))) ?_)
      rintro r _ T' rfl
      exact ⟨fun q => absurd q (flT_bad (by decide)), rfl⟩
  · refine wp_be (x_bd1 c0) (wp_f (by decide) (wp_mono (b96 _ c0) ?_))
    rintro r _ T' rfl
    exact ⟨r1, T', hp, fun _ => rfl, fun q => absurd q c0⟩
theorem x_cell (hnf : 6000 ≤ nf) (hm : m < 8200) (hn : n < 8200) (hu : u < 4000) (h50 : T.1 50 m = 8) (h52 : T.1 52 m = nI n) (h58 : T.1 58 m = nI u) (h51 : T.1 51 n = pl) (hR : Rg T) (hB : wp (RR nf (d + 3) 86 (lvS T u) [nI n] []) (fun r _ T' => P r T')) (hP : ∀ r T', P r T' → Bh (lvS T u) T') (hs : SP T (lvS T u)) : wp (RR nf (d + 4) 92 T [nI m] []) (fun r' _ T' => ∃ r1 T1, P r1 T1 ∧ (¬ T1.1 7 0 = 0 → T' = T1) ∧ (T1.1 7 0 = 0 → (T'.1 7 0 = 0 → r' = (mdT T1 1 (rgAtR T (rn T) u) r1 pl).1) ∧ T' = (mdT T1 1 (rgAtR T (rn T) u) r1 pl).2)) := by
  have zm : inb (nI m) 8200 := nin (by omega) (by omega)
  have cm : (nI m).toNatClampNeg = m := nc (by omega)
  have o50 : (lvS T u).1 50 m = 8 := by rw [hs.1 50 (by omega) rfl]; exact h50
  have o52 : (lvS T u).1 52 m = nI n := by rw [hs.1 52 (by omega) rfl]; exact h52
  have o51 : (lvS T u).1 51 n = pl := by rw [hs.1 51 (by omega) rfl]; exact h51
  rw [e_Model_checkMade nf (d + 3)]
  unfold rb_Model_checkMade
  refine wp_gd zm ?_
  rw [cm, h58]
  refine wp_be (x_lvAt hR (by omega) hu) (wp_gd zm ?_)
  rw [o50]
  refine wp_f (by decide) ?_
  unfold rj_Model_checkMade_39
  refine wp_gd zm ?_
  rw [cm, o50]
  refine wp_f (by decide) (wp_gd zm ?_)
  rw [o52]
  exact x_md65 (d := d + 2) (kd := 8) hnf hm hn o50 o51 hB hP
/-- row: the count, then the value -/
theorem x_chkb (hb : ¬ T.1 7 0 = 0) : RR nf (d + 2) 86 T [x] [] = some (0, 0, T) := by
  rw [e_Model_check nf (d + 1)]
  unfold rb_Model_check
  rw [x_bd1 hb]
  rfl
theorem x_row {P2 : Int32 → gSt → Int32 → gSt → Prop} {n2 : Nat} {pl2 : Int32} (hnf : 6000 ≤ nf) (hm : m < 8200) (hn : n < 8200) (hn2 : n2 < 8200) (hu : u < 4000) (h50 : T.1 50 m = 9) (h52 : T.1 52 m = nI n) (h53 : T.1 53 m = nI n2) (h58 : T.1 58 m = nI u) (h51 : T.1 51 n = pl) (h51b : T.1 51 n2 = pl2) (hR : Rg T) (hs : SP T (lvS T u)) (hB : (lvS T u).1 7 0 = 0 → wp (RR nf (d + 2) 86 (lvS T u) [nI n] []) (fun r _ T' => P r T')) (hP : ∀ r T', P r T' → SP (lvS T u) T') (hB2 : ∀ r1 T1, (lvS T u).1 7 0 = 0 → P r1 T1 → wp (RR nf (d + 3) 86 (niT T1 r1 pl) [nI n2] []) (fun r _ T' => P2 r1 T1 r T')) (hP2 : (lvS T u).1 7 0 = 0 → ∀ r1 T1, P r1 T1 → ∀ r T', P2 r1 T1 r T' → Bh (niT T1 r1 pl) T') (hni : ∀ r1 T1, P r1 T1 → SP T (niT T1 r1 pl)) (hbb : Bh (lvS T u) (lvS T u)) : wp (RR nf (d + 4) 92 T [nI m] []) (fun r' _ T' => (¬ (lvS T u).1 7 0 = 0 ∧ T' = lvS T u) ∨ ((lvS T u).1 7 0 = 0 ∧ ∃ r0 T0, P r0 T0 ∧ ∃ r1 T1, P2 r0 T0 r1 T1 ∧ (¬ T1.1 7 0 = 0 → T' = T1) ∧ (T1.1 7 0 = 0 → (T'.1 7 0 = 0 → r' = (mdT T1 3 (rgAtR T (rn T) u) r1 pl2).1) ∧ T' = (mdT T1 3 (rgAtR T (rn T) u) r1 pl2).2))) := by
  have zm : inb (nI m) 8200 := nin (by omega) (by omega)
  have cm : (nI m).toNatClampNeg = m := nc (by omega)
  have o50 : (lvS T u).1 50 m = 9 := by rw [hs.1 50 (by omega) rfl]; exact h50
  have o52 : (lvS T u).1 52 m = nI n := by rw [hs.1 52 (by omega) rfl]; exact h52
  have o51 : (lvS T u).1 51 n = pl := by rw [hs.1 51 (by omega) rfl]; exact h51
  have o53 : (lvS T u).1 53 m = nI n2 := by rw [hs.1 53 (by omega) rfl]; exact h53
  have o51b : (lvS T u).1 51 n2 = pl2 := by rw [hs.1 51 (by omega) rfl]; exact h51b
  rw [e_Model_checkMade nf (d + 3)]
  unfold rb_Model_checkMade
  refine wp_gd zm ?_
  rw [cm, h58]
  refine wp_be (x_lvAt hR (by omega) hu) (wp_gd zm ?_)
  rw [o50]
  refine wp_t rfl ?_
  by_cases c0 : (lvS T u).1 7 0 = 0
  · refine wp_be (x_bd0 c0) (wp_t rfl (wp_gd zm ?_))
    rw [o52]
    refine wp_bi (x_ni (d := d + 1) hn o51 (hB c0) hP) ?_
    rintro r2 _ T2 ⟨r1, T1, hp, rfl⟩
    have hS2 := hni r1 T1 hp
    have q50 : (niT T1 r1 pl).1 50 m = 9 := by rw [hS2.1 50 (by omega) rfl]; exact h50
    have q53 : (niT T1 r1 pl).1 53 m = nI n2 := by rw [hS2.1 53 (by omega) rfl]; exact h53
    have q51 : (niT T1 r1 pl).1 51 n2 = pl2 := by rw [hS2.1 51 (by omega) rfl]; exact h51b
    unfold rj_Model_checkMade_39
    refine wp_gd zm ?_
    rw [cm, q50]
    refine wp_t rfl (wp_gd zm ?_)
    rw [q53]
    refine wp_mono (x_md65 (d := d + 2) (kd := 9) hnf hm hn2 q50 q51 (hB2 r1 T1 c0 hp) (hP2 c0 r1 T1 hp)) ?_
    intro r' _ T' h
    exact Or.inr ⟨c0, r1, T1, hp, h⟩
  · refine wp_be (x_bd1 c0) (wp_f (by decide) ?_)
    unfold rj_Model_checkMade_39
    refine wp_gd zm ?_
    rw [cm, o50]
    refine wp_t rfl (wp_gd zm ?_)
    rw [o53]
    have := x_md65 (nf := nf) (d := d + 2) (kd := 9) (r := rgAtR T (rn T) u) (P := fun r T' => T' = lvS T u) hnf hm hn2 o50 o51b ⟨0, 0, lvS T u, x_chkb c0, rfl⟩ (fun r T' q => by rw [q]; exact hbb)
    refine wp_mono this ?_
    rintro r' _ T' ⟨r1, T1, rfl, h1, h2⟩
    exact Or.inl ⟨c0, h1 c0⟩
end XQ
