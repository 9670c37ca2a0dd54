/-! both machines: a new object lives -/
/-- the reference behind its values put to their places -/
def mkZr (Mo : gSt) (l : List Nat) (h k o : Nat) (x1 ee : Int32) : gSt := if x1 = 17 then sI (ptsT (sI Mo 109 0 (nI h)) l.reverse (fun p => h + p) k) 142 o ee else ptsT (sI Mo 109 0 (nI h)) l.reverse (fun p => h + p) k
/-- the class behind its making -/
def CmT (T2 T' : gSt) (a t n w0 ws un tg : Nat) : Prop := (∀ k, k ≠ 99 → k ≠ 100 → k ≠ 114 → k ≠ 115 → T'.1 k = T2.1 k) ∧ T'.2 = T2.2 ∧ (∀ q, q < t → T'.1 99 q = T2.1 99 q) ∧ T'.1 99 t = nI (a + 1) ∧ T'.1 100 0 = nI (t + 1) ∧ (∀ q c, q = 114 ∨ q = 115 → ¬ (a ≤ c ∧ c < a + n) → T'.1 q c = T2.1 q c) ∧ (¬ un = 0 → T'.1 114 a = nI (tg + 1) ∧ ¬ T'.1 115 a = 0) ∧ ∀ i, i < ws → T'.1 114 (a + w0 + i) = T2.1 99 (t + i) ∧ ¬ T'.1 115 (a + w0 + i) = 0
section MK4
variable {M0 T0 Sf S Sh : gSt} {G G' : GH} {D D' : Nat → (Nat → AV) × Nat} {nf d d' nb nb' mk mk' na na' ng ng' e bs ph bt rb tb ie en hb k q u s i j c t h P W Dp n m it n1 r o : Nat} {rg rg' : Nat → Nat} {ρ : Nat → Nat} {va : Nat → AV} {M M' Mo T T' T2 : gSt} {v : AV} {x a cc ee op y z w x1 : Int32} {st s0 st' : List Int32} {ov o0 ov' : List AV} {hs : List HD} {F : FRM} {Fr : Nat → FRM} {f : Nat → Int32} {jj : T5} {l : List Nat} {O : GO} {vs : Nat → AV} {tg : Nat}
theorem mkZr_p (hq : q ≠ 142) : (mkZr Mo l h k o x1 ee).1 q = (ptsT (sI Mo 109 0 (nI h)) l.reverse (fun p => h + p) k).1 q := by
  unfold mkZr
  split
  · rw [sI_ne hq]
  · rfl
theorem mkZr_o (hq : q ≠ 142) (h1 : q ≠ 109) (h2 : ¬ (144 ≤ q ∧ q ≤ 148)) : (mkZr Mo l h k o x1 ee).1 q = Mo.1 q := by
  rw [mkZr_p hq, ptsT_o h2, sI_ne h1]
theorem mkZr_142 (hi : i ≠ o) : (mkZr Mo l h k o x1 ee).1 142 i = Mo.1 142 i := by
  unfold mkZr
  split
  · rw [rdI, if_neg (fun w => hi w.2), ptsT_o (by omega), sI_ne (by omega)]
  · rw [ptsT_o (by omega), sI_ne (by omega)]
theorem mkZr_17 (hx : x1 = 17) : (mkZr Mo l h k o x1 ee).1 142 o = ee := by
  unfold mkZr
  rw [if_pos hx, sI_v]
theorem mkZr_2 : (mkZr Mo l h k o x1 ee).2 = Mo.2 := by
  unfold mkZr
  split
  · exact ptsT_2 k
  · exact ptsT_2 k
/-- what the reference's makeBy comes to -/
theorem x_mbK {Mp : gSt} {fr' : List Nat} {nb : Nat} (ho : o < 4096) (hc : chn (Mp.1 149) (Mp.1 143 0) (l ++ fr')) (hn : (l ++ fr').Nodup) (hl : l.length = k) (hk : k < 100) (h137 : Mp.1 137 0 = nI nb) (h109 : Mp.1 109 0 = nI (h + k)) (h8 : h + 200 < 8200) (hnf : 200 < nf) (hd : 3 ≤ d) : mbK nf d x1 ee (nI k) (nI o) (tkT o l (mkB (mkU Mp r y) r o (nI k))) = some (0, 0, rpT (mkZr (tkT o l (mkB (mkU Mp r y) r o (nI k))) l h k o x1 ee) h 0 (nI o) (nI (nb + 1)) 0) := by
  have e : ∀ q, q = 137 ∨ q = 149 ∨ q = 143 ∨ q = 109 → (mkU Mp r y).1 q = Mp.1 q := fun q hq => by
    unfold mkU mkN0
    rw [sI_ne (by omega), sI_ne (by omega), sI_ne (by omega), sI_ne (by omega)]
  obtain ⟨s1, s2, s3⟩ := mk_slot (M := mkU Mp r y) (r := r) (o := o) (x := nI k) (nb := nb) (by rw [e 149 (by omega), e 143 (by omega)]; exact hc) hn (by rw [e 137 (by omega)]; exact h137)
  have t109 : (tkT o l (mkB (mkU Mp r y) r o (nI k))).1 109 0 = nI (h + k) := by
    rw [tkT_o (by omega) (by omega) (by omega) (by omega)]
    unfold mkB
    rw [sI_ne (by omega), sI_ne (by omega), sI_ne (by omega), sI_ne (by omega), sI_ne (by omega), sI_ne (by omega), e 109 (by omega)]
    exact h109
  generalize tkT o l (mkB (mkU Mp r y) r o (nI k)) = Mo at *
  unfold mbK
  have lr : l.reverse.length = k := by rw [List.length_reverse, hl]
  rw [if_neg (nI_n1 (by omega)), stK, t109, show nI (h + k) - nI k = nI h by rw [show nI (h + k) = nI h + nI k from Int32.ofNat_add _ _]; exact Int32.add_sub_cancel _ _]
  have := mb207 (bb := nI (nb + 1)) (M := sI Mo 109 0 (nI h)) (nf := nf) (d := d) (x1 := x1) (x4 := ee) (ls := l.reverse) (h := h) ho (by rw [sI_ne (by omega)]; exact s2) (by rw [sI_ne (by omega), lr]; exact s3) (by omega) (by rw [sI_ne (by omega), sI_ne (by omega)]; exact s1) (by rw [sI_v]) (by omega) hnf hd k 0 nf (by omega) (by omega)
  rw [lr] at this
  refine Eq.trans this ?_
  unfold mkZr
  by_cases c : x1 = 17
  · rw [if_pos c, if_pos c]
  · rw [if_neg c, if_neg c]
theorem TiO.up (h : TiO Sf T0 G nb) (o1 : O.1 < 4096) (o2 : O.2.1 < 4097) (o3 : 1 ≤ O.2.2.2.1 ∧ O.2.2.2.1 ≤ 64) (o4 : ∀ p, p < O.2.2.2.1 → O.2.2.2.2.2.2.2.1 p < 64) (hti : titO Sf T0 (upG G (nb + 1) O) (nb + 1)) : TiO Sf T0 (upG G (nb + 1) O) (nb + 1) := by
  intro b b1 b2
  by_cases e : b = nb + 1
  · subst e
    refine ⟨hti, ?_⟩
    unfold gOb gAd gPl gWo
    rw [upG_b]
    exact ⟨o1, o2, o3.1, o3.2, o4⟩
  · have := h b b1 (by omega)
    unfold titO gOb gAd gPl gWo gTi gUn gTy at this ⊢
    rw [upG_n e]
    exact this
/-- a new object: both go on -/
theorem mk_ex (cx : CxP M0 T0 Sf) (h : Sim M0 T0 Sf G D nb mk rg na ng P W Fr Dp M T) (rn : RnO M T) (sr : StR nf d M M') (sc : StC nf d' T T') (hH : HpI (upG G (nb + 1) O) D' (nb + 1) (mk + 1) rg na ng P W M' T') (o1 : O.1 < 4096) (o2 : O.2.1 < 4097) (o3 : 1 ≤ O.2.2.2.1 ∧ O.2.2.2.1 ≤ 64) (o4 : ∀ p, p < O.2.2.2.1 → O.2.2.2.2.2.2.2.1 p < 64) (hti : titO Sf T0 (upG G (nb + 1) O) (nb + 1)) (hst : fst' (Fr Dp) = st ++ s0) {ty : Int32} (hI : IvP Sf (fit (Fr Dp)) (fS (Fr Dp)) (ty :: s0) (fhs (Fr Dp))) (hv : VTs Sf (upG G (nb + 1) O) (nb + 1) rg na ng (fρ (Fr Dp)) v ty) (hRV : RV (upG G (nb + 1) O) v (M'.1 110 (fph (Fr Dp) + s0.length)) (M'.1 111 (fph (Fr Dp) + s0.length)) (M'.1 112 (fph (Fr Dp) + s0.length)) (M'.1 113 (fph (Fr Dp) + s0.length))) (hCW : ∀ i, i < wv v → T'.1 99 (fbs (Fr Dp) + 80 + wsl Sf s0 + i) = CW (upG G (nb + 1) O) v i) (hMo : ∀ k, ¬ (k = 102 ∨ k = 105 ∨ (109 ≤ k ∧ k ≤ 113) ∨ (130 ≤ k ∧ k ≤ 149)) → M'.1 k = M.1 k) (hM2 : M'.2 = M.2) (hMs : ∀ k q, 110 ≤ k → k ≤ 113 → q < fph (Fr Dp) + s0.length → M'.1 k q = M.1 k q) (hTo : ∀ k, ¬ (k = 99 ∨ k = 100 ∨ k = 105 ∨ (114 ≤ k ∧ k ≤ 127 ∧ k ≠ 121)) → T'.1 k = T.1 k) (hT2 : T'.2 = T.2) (hTs : ∀ q, q < fbs (Fr Dp) + 80 + wsl Sf s0 → T'.1 99 q = T.1 99 q) (h109 : M'.1 109 0 = nI (fph (Fr Dp) + s0.length + 1)) (h100 : T'.1 100 0 = nI (fbs (Fr Dp) + 80 + wsl Sf s0 + wv v)) (h102 : M'.1 102 0 = nI n) (h105 : T'.1 105 0 = nI m) : ExQ nf d d' M0 T0 Sf P W mk rg na ng Fr Dp M T (ty :: s0) n m := by
  have hc6 : cn Sf ≤ 6000 := by have := cx.2.1; omega
  have wi := VTs.wi cx.1 hc6 ((hI.2.2.2.1 ty List.mem_cons_self).imp id (fun w => w.1)) hv
  obtain ⟨w, w1, w2, w3, w4⟩ := h.2.2.2.2.1
  obtain ⟨ov', hs'⟩ := Sim.ex (n := n) (m := m) cx.1 hc6 h hH (fun b hb => upG_n (by omega)) (by omega) (h.2.2.2.2.2.2.2.up o1 o2 o3 o4 hti) hst hI (fun k hk => hMo k (by omega)) hM2 hMs (fun k hk => hTo k (by omega)) (hTo 121 (by omega)) hT2 hTs ⟨w, by rw [hMo 150 (by omega)]; exact w1, by rw [hTo 111 (by omega)]; exact w2, w3, by rw [hMo 151 (by omega), hTo 110 (by omega)]; exact w4⟩ (fun o0 _ e4 => ⟨v :: o0, hv, hRV, hCW, e4⟩) (by rw [h109, List.length_cons, Nat.add_assoc]) (by rw [h100, wi, show wsl Sf (ty :: s0) = wS Sf ty + wsl Sf s0 from rfl]; congr 1; omega) h102 h105
  exact Or.inl ⟨M', T', _, D', nb + 1, mk + 1, ov', sr, sc, ⟨by rw [hMo 100 (by omega)]; exact rn.1, by rw [hTo 106 (by omega)]; exact rn.2⟩, Nat.le_refl _, hs'⟩
theorem cm_40 (hws : t + n < 23200) : CmT T2 (stW (mmW T2 i (fun j => T2.1 99 (t + j)) 0 n) t (fun _ => nI (i + 1)) 1) i t n 0 n 0 tg := by
  refine ⟨fun k k1 k2 k3 k4 => ?_, rfl, fun q hq => ?_, ?_, stW_t, fun q c hq hc => ?_, fun w => absurd rfl w, fun j hj => ⟨?_, ?_⟩⟩
  · rw [stW_o k1 k2, mmW_o k3 k4]
  · rw [stW_w, if_neg (by omega), mmW_o (by omega) (by omega)]
  · rw [stW_w, if_pos (by omega)]
  · rw [stW_o (by omega) (by omega)]
    rcases hq with e | e <;> subst e
    · rw [mmW_w, if_neg (by omega)]
    · rw [mmW_g, if_neg (by omega)]
  · rw [stW_o (by omega) (by omega), mmW_w, if_pos (by omega), show i + 0 + j - i = j by omega]
  · rw [stW_o (by omega) (by omega), mmW_g, if_pos (by omega)]
    decide
theorem cm_41 {c : Nat} (hcn : c < n) : CmT T2 (stW (mmW (puT T2 i (nI (tg + 1))) (i + 1) (fun j => T2.1 99 (t + j)) 0 c) t (fun _ => nI (i + 1)) 1) i t n 1 c u tg := by
  have eo : ∀ k, k ≠ 114 → k ≠ 115 → (puT T2 i (nI (tg + 1))).1 k = T2.1 k := fun k k1 k2 => by
    unfold puT
    rw [sI_ne k2, sI_ne k1]
  refine ⟨fun k k1 k2 k3 k4 => ?_, rfl, fun q hq => ?_, ?_, stW_t, fun q c hq hc => ?_, fun _ => ⟨?_, ?_⟩, fun j hj => ⟨?_, ?_⟩⟩
  · rw [stW_o k1 k2, mmW_o k3 k4, eo k k3 k4]
  · rw [stW_w, if_neg (by omega), mmW_o (by omega) (by omega), eo 99 (by omega) (by omega)]
  · rw [stW_w, if_pos (by omega)]
  · rw [stW_o (by omega) (by omega)]
    rcases hq with e | e <;> subst e
    · rw [mmW_w, if_neg (by omega)]
      unfold puT
      rw [sI_ne (by omega), rdI, if_neg (fun w => hc (by omega))]
    · rw [mmW_g, if_neg (by omega)]
      unfold puT
      rw [rdI, if_neg (fun w => hc (by omega)), sI_ne (by omega)]
  · rw [stW_o (by omega) (by omega), mmW_w, if_neg (by omega)]
    unfold puT
    rw [sI_ne (by omega), sI_v]
  · rw [stW_o (by omega) (by omega), mmW_g, if_neg (by omega)]
    unfold puT
    rw [sI_v]
    decide
  · rw [stW_o (by omega) (by omega), mmW_w, if_pos (by omega), show i + 1 + j - (i + 1) = j by omega]
  · rw [stW_o (by omega) (by omega), mmW_g, if_pos (by omega)]
    decide
end MK4
