/-! both machines: STORE -/
section SS3
variable {M0 T0 Sf S Sh : gSt} {G G' : GH} {D D' : Nat → (Nat → AV) × Nat} {nf d d' nb nb' mk mk' na na' ng ng' e bs ph bt rb tb ie en hb k q u s i j c t h P W Dp n m it n1 : Nat} {rg rg' : Nat → Nat} {ρ : Nat → Nat} {va : Nat → AV} {M M' T T' : gSt} {v : AV} {x a b cc ee op y z w : Int32} {st s0 st' : List Int32} {ov o0 ov' : List AV} {hs : List HD} {F : FRM} {Fr : Nat → FRM} {f : Nat → Int32} {jj : T5} {r1 : Int32} {l1 : Int64} {tg : List Nat}
variable {a0 : Nat} {S' : gSt} {t1 : Int32}
/-- handlers behind a STORE -/
theorem HsO.as (hv : VT G nb rg na ng v (gty Sf ρ x)) (hrv : RV G v (M'.1 117 (20 * e + s)) (M'.1 118 (20 * e + s)) (M'.1 119 (20 * e + s)) (M'.1 120 (20 * e + s))) (hcw : ∀ i, i < wv v → T'.1 99 (bs + u + i) = CW G v i) (hM : ∀ k j, 117 ≤ k → k ≤ 120 → ¬ j = s → j < 20 → M'.1 k (20 * e + j) = M.1 k (20 * e + j)) (hT : ∀ q, q < bs + 60 → ¬ (bs + u ≤ q ∧ q < bs + u + wS Sf x) → T'.1 99 q = T.1 99 q) (hR : Rws Sf) (hc : cn Sf ≤ 6000) (hM2 : ∀ k, 124 ≤ k → k ≤ 128 → M'.1 k = M.1 k) (hT3 : T'.1 103 = T.1 103) : ∀ (hs : List HD), HsO Sf G nb rg na ng ρ va M T e bs ph rb tb hs → (∀ hd, hd ∈ hs → (∀ w j, vaP hd.2.2 w j → tV Sf (hd.2.2.1 80 w)) ∧ ∀ w j, vaP hd.2.2 w j → (j = s ∧ hd.2.2.1 80 w = x ∧ slV Sf hd.2.2 w = u ∧ fi (hd.2.2.1 82 0) s = false) ∨ (¬ j = s ∧ apW Sf hd.2.2 w u (wS Sf x))) → HsO Sf G nb rg na ng ρ (fun j => if j = s then v else va j) M' T' e bs ph rb tb hs := by
  intro hs
  induction hs with
  | nil => intro _ _; exact True.intro
  | cons y hs ih =>
    intro h hh
    obtain ⟨h1, h2, h3⟩ := h
    obtain ⟨k1, k2⟩ := hh y List.mem_cons_self
    refine ⟨?_, h2.as hv hrv hcw hM hT hR hc k1 (fun w j hw => ?_), ih h3 (fun hd hm => hh hd (List.mem_cons_of_mem _ hm))⟩
    · rw [hM2 124 (by omega) (by omega), hM2 125 (by omega) (by omega), hM2 126 (by omega) (by omega), hM2 127 (by omega) (by omega), hM2 128 (by omega) (by omega), hT3]
      exact h1
    · rcases k2 w j hw with ⟨e1, e2, e3, e4⟩ | ⟨e1, e2⟩
      · exact Or.inl ⟨e1, e2, e3, fun w => by rw [e4] at w; exact absurd w (by decide)⟩
      · exact Or.inr ⟨e1, hw, rfl, rfl, e2, fun w => w⟩
theorem st_store (cx : CxP M0 T0 Sf) (h : Sim M0 T0 Sf G D nb mk rg na ng P W Fr Dp M T) (rn : RnO M T) (hn : fn (Fr Dp) = n) (hm : fm (Fr Dp) = m) (hn2 : n < 12000) (h51 : T0.1 51 0 = nI n1) (hm2 : m < n1) (h6 : n1 ≤ 6032) (rowR : rwC4 M0 n = (22, nI s, cc, ee)) (rowC : cw3 T0 m = (4, nI a0, nI (wS Sf x))) (hst : fst' (Fr Dp) = [t1]) (as : AsS Sf (fS (Fr Dp)) S' (fhs (Fr Dp)) u s a0 x t1) (hty : TyIn Sf (fS (Fr Dp)) x) (htH : ∀ hd, hd ∈ fhs (Fr Dp) → ∀ w j, vaP hd.2.2 w j → tV Sf (hd.2.2.1 80 w)) (hI : IvP Sf (fit (Fr Dp)) S' [] (fhs (Fr Dp))) (hnf : 16385 ≤ nf) (hd : 20 ≤ d) (hd' : 20 ≤ d') : ∃ M' T' va', StR nf d M M' ∧ StC nf d' T T' ∧ RnO M' T' ∧ Sim M0 T0 Sf G D nb mk rg na ng P W (updF Fr Dp (mkF S' (fρ (Fr Dp)) va' [] [] (fhs (Fr Dp)) (fit (Fr Dp)) (n + 1) (m + 1) (fbs (Fr Dp)) (fph (Fr Dp)) (frb (Fr Dp)) (ftb (Fr Dp)) (fie (Fr Dp)))) Dp M' T' := by
  obtain ⟨w1, w2, w3, w4, w5, w6, w7, w8, w9⟩ := h.rw (n := n) (m := m)
  obtain ⟨b1, b2, b3, b4, b5⟩ := h.bd
  have hc6 : cn Sf ≤ 6000 := by have := cx.2.1; omega
  obtain ⟨fr, iv⟩ := h.fr
  obtain ⟨v, hv, hrv, hcw⟩ := h.top hst
  obtain ⟨sm, tvx, fit, s20, a60, asV, asH⟩ := as
  have fv := VTs.fit cx h hv fit hty
  have wi2 : wv v = wS Sf x := by rw [fv.wi]; exact wg_gty cx.1 hc6 tvx
  have wi1 := VTs.wi cx.1 hc6 ((iv.2.2.2.1 t1 (by rw [hst]; exact List.mem_cons_self)).imp id (fun w => w.1)) hv
  have l1 : (fst' (Fr Dp)).length = 1 := by rw [hst]; rfl
  have l2 : wsl Sf (fst' (Fr Dp)) = wS Sf x := by rw [hst, ← wi2, wi1]; exact Nat.add_zero _
  have wx3 := wS_3 (S := Sf) (x := x)
  change RV G v (M.1 110 (fph (Fr Dp))) (M.1 111 (fph (Fr Dp))) (M.1 112 (fph (Fr Dp))) (M.1 113 (fph (Fr Dp))) at hrv
  change ∀ i, i < wv v → T.1 99 (fbs (Fr Dp) + 80 + i) = CW G v i at hcw
  have xr := x_r22 (M := sI M 102 0 (nI (n + 1))) (nf := nf) (d := d) (y := cc) (z := ee) (h := fph (Fr Dp)) (e := Dp) (s := s) (by rw [tp_102 (by omega), w6, l1]) (by omega) (by rw [tp_102 (by omega)]; exact w8) b5 s20 (by omega)
  have xc := c_save (T := sI T 105 0 (nI (m + 1))) (nf := nf) (d := d') (t := fbs (Fr Dp) + 80) (n := wS Sf x) (c := Dp + 1) (b := fbs (Fr Dp)) (s := a0) (by rw [tp_105 (by omega), w7, l2]) (by rw [tp_105 (by omega)]; exact w9) (by omega) (by rw [tp_105 (by omega)]; exact fr.2.2.2.2.2.1) (by omega) (by omega) (by omega) (by omega) (by omega)
  have mO : ∀ k, k ≠ 102 → k ≠ 109 → ¬ (117 ≤ k ∧ k ≤ 120) → (stM (sI M 102 0 (nI (n + 1))) (fph (Fr Dp)) (20 * Dp + s)).1 k = M.1 k := fun k k1 k2 k3 => by
    unfold stM
    rw [sI_ne (by omega), sI_ne (by omega), sI_ne (by omega), sI_ne (by omega), sI_ne k2, sI_ne k1]
  have mV : ∀ k j, 117 ≤ k → k ≤ 120 → ¬ j = 20 * Dp + s → (stM (sI M 102 0 (nI (n + 1))) (fph (Fr Dp)) (20 * Dp + s)).1 k j = M.1 k j := fun k j k1 k2 hj => by
    unfold stM
    rw [rdI, if_neg (fun w => hj w.2), rdI, if_neg (fun w => hj w.2), rdI, if_neg (fun w => hj w.2), rdI, if_neg (fun w => hj w.2), sI_ne (by omega), sI_ne (by omega)]
  have mW : (stM (sI M 102 0 (nI (n + 1))) (fph (Fr Dp)) (20 * Dp + s)).1 117 (20 * Dp + s) = M.1 110 (fph (Fr Dp)) ∧ (stM (sI M 102 0 (nI (n + 1))) (fph (Fr Dp)) (20 * Dp + s)).1 118 (20 * Dp + s) = M.1 111 (fph (Fr Dp)) ∧ (stM (sI M 102 0 (nI (n + 1))) (fph (Fr Dp)) (20 * Dp + s)).1 119 (20 * Dp + s) = M.1 112 (fph (Fr Dp)) ∧ (stM (sI M 102 0 (nI (n + 1))) (fph (Fr Dp)) (20 * Dp + s)).1 120 (20 * Dp + s) = M.1 113 (fph (Fr Dp)) := by
    unfold stM
    refine ⟨?_, ?_, ?_, ?_⟩
    · rw [sI_ne (by omega), sI_ne (by omega), sI_ne (by omega), sI_v, sI_ne (by omega)]
    · rw [sI_ne (by omega), sI_ne (by omega), sI_v, sI_ne (by omega)]
    · rw [sI_ne (by omega), sI_v, sI_ne (by omega)]
    · rw [sI_v, sI_ne (by omega)]
  have tO : ∀ k, k ≠ 99 → k ≠ 100 → k ≠ 105 → (sI (slQ (sI T 105 0 (nI (m + 1))) (fbs (Fr Dp) + a0) (fun i => (sI T 105 0 (nI (m + 1))).1 99 (fbs (Fr Dp) + 80 + i)) 0 (wS Sf x)) 100 0 (nI (fbs (Fr Dp) + 80))).1 k = T.1 k := fun k k1 k2 k3 => by
    rw [sI_ne k2, slQ_o k1, sI_ne k3]
  have t99 : ∀ q, (sI (slQ (sI T 105 0 (nI (m + 1))) (fbs (Fr Dp) + a0) (fun i => (sI T 105 0 (nI (m + 1))).1 99 (fbs (Fr Dp) + 80 + i)) 0 (wS Sf x)) 100 0 (nI (fbs (Fr Dp) + 80))).1 99 q = if fbs (Fr Dp) + a0 ≤ q ∧ q < fbs (Fr Dp) + a0 + wS Sf x then T.1 99 (fbs (Fr Dp) + 80 + (q - (fbs (Fr Dp) + a0))) else T.1 99 q := fun q => by
    rw [sI_ne (by omega), slQ_w, sI_ne (by omega), Nat.add_zero]
  have t105 : (sI (slQ (sI T 105 0 (nI (m + 1))) (fbs (Fr Dp) + a0) (fun i => (sI T 105 0 (nI (m + 1))).1 99 (fbs (Fr Dp) + 80 + i)) 0 (wS Sf x)) 100 0 (nI (fbs (Fr Dp) + 80))).1 105 0 = nI (m + 1) := by rw [sI_ne (by omega), slQ_o (by omega), sI_v]
  have m109 : (stM (sI M 102 0 (nI (n + 1))) (fph (Fr Dp)) (20 * Dp + s)).1 109 0 = nI (fph (Fr Dp)) := by
    unfold stM
    rw [sI_ne (by omega), sI_ne (by omega), sI_ne (by omega), sI_ne (by omega), sI_v]
  have m102 : (stM (sI M 102 0 (nI (n + 1))) (fph (Fr Dp)) (20 * Dp + s)).1 102 0 = nI (n + 1) := by
    unfold stM
    rw [sI_ne (by omega), sI_ne (by omega), sI_ne (by omega), sI_ne (by omega), sI_ne (by omega), sI_v]
  have hrv' : RV G v ((stM (sI M 102 0 (nI (n + 1))) (fph (Fr Dp)) (20 * Dp + s)).1 117 (20 * Dp + s)) ((stM (sI M 102 0 (nI (n + 1))) (fph (Fr Dp)) (20 * Dp + s)).1 118 (20 * Dp + s)) ((stM (sI M 102 0 (nI (n + 1))) (fph (Fr Dp)) (20 * Dp + s)).1 119 (20 * Dp + s)) ((stM (sI M 102 0 (nI (n + 1))) (fph (Fr Dp)) (20 * Dp + s)).1 120 (20 * Dp + s)) := by
    rw [mW.1, mW.2.1, mW.2.2.1, mW.2.2.2]
    exact hrv
  have hcw' : ∀ i, i < wv v → (sI (slQ (sI T 105 0 (nI (m + 1))) (fbs (Fr Dp) + a0) (fun i => (sI T 105 0 (nI (m + 1))).1 99 (fbs (Fr Dp) + 80 + i)) 0 (wS Sf x)) 100 0 (nI (fbs (Fr Dp) + 80))).1 99 (fbs (Fr Dp) + a0 + i) = CW G v i := fun i hi => by
    rw [t99, if_pos (by omega), Nat.add_sub_cancel_left]
    exact hcw i hi
  have hMv : ∀ k j, 117 ≤ k → k ≤ 120 → ¬ j = s → j < 20 → (stM (sI M 102 0 (nI (n + 1))) (fph (Fr Dp)) (20 * Dp + s)).1 k (20 * Dp + j) = M.1 k (20 * Dp + j) := fun k j k1 k2 hj _ => mV k _ k1 k2 (by omega)
  have hTv : ∀ q, q < fbs (Fr Dp) + 60 → ¬ (fbs (Fr Dp) + a0 ≤ q ∧ q < fbs (Fr Dp) + a0 + wS Sf x) → (sI (slQ (sI T 105 0 (nI (m + 1))) (fbs (Fr Dp) + a0) (fun i => (sI T 105 0 (nI (m + 1))).1 99 (fbs (Fr Dp) + 80 + i)) 0 (wS Sf x)) 100 0 (nI (fbs (Fr Dp) + 80))).1 99 q = T.1 99 q := fun q _ h2 => by rw [t99, if_neg h2]
  have ar : arn S' = arn (fS (Fr Dp)) := by unfold arn; rw [sm.2.2.1]
  have lve : lvc S' (arn S') = lvc (fS (Fr Dp)) (arn (fS (Fr Dp))) := by rw [lvc_pf sm.rr _ (Nat.le_refl _), ar]
  have vw := iv.1
  have hS := h
  obtain ⟨a1, ⟨a2, a3, a4⟩, a5, a6, a7, a8, a9, a10⟩ := h
  obtain ⟨y1, y2, y3, y4, y5, y6, y7⟩ := a6
  obtain ⟨f1, f2, f3, f4, f5, f6, f7, f8, f9⟩ := fr
  refine ⟨(stM (sI M 102 0 (nI (n + 1))) (fph (Fr Dp)) (20 * Dp + s)), (sI (slQ (sI T 105 0 (nI (m + 1))) (fbs (Fr Dp) + a0) (fun i => (sI T 105 0 (nI (m + 1))).1 99 (fbs (Fr Dp) + 80 + i)) 0 (wS Sf x)) 100 0 (nI (fbs (Fr Dp) + 80))), (fun j => if j = s then v else fva (Fr Dp) j), StR.of (by rw [w4, hn]) hn2 (by rw [w1]; exact rowR) (by decide) xr, StC.of (op := 4) (x := nI a0) (y := nI (wS Sf x)) (r1 := 0) (l1 := 0) (by rw [w5, hm]) (by rw [w3]; exact h51) h6 hm2 (by rw [w2]; exact rowC) (by decide) (by rw [dC_203 (by decide)]; exact xc), ⟨by rw [mO 100 (by omega) (by omega) (by omega)]; exact rn.1, by rw [tO 106 (by omega) (by omega) (by omega)]; exact rn.2⟩, ?_⟩
  refine Sim.set cx.1 hc6 hS (a1.eq (fun k hk => mO k (by omega) (by omega) (by omega)) (fun k k1 k2 => tO k (by omega) (by omega) (by omega))) (fun _ _ w => w) (fun _ _ => rfl) (Nat.le_refl _) ⟨?_, True.intro, RgO.pf f3 sm.rr (fun _ _ w => w) (fun c _ => by rw [mO 121 (by omega) (by omega) (by omega)]) (fun w _ => by rw [tO 101 (by omega) (by omega) (by omega)]), ?_, HsO.as fv hrv' hcw' hMv hTv cx.1 hc6 (fun k k1 k2 => mO k (by omega) (by omega) (by omega)) (tO 103 (by omega) (by omega) (by omega)) _ f5 (fun hd hm => ⟨htH hd hm, asH hd hm⟩), ?_, ?_, ?_, ?_⟩ hI rfl rfl rfl rfl ⟨m109, ?_, ?_, ?_, ?_, m102, t105⟩ (mO 103 (by omega) (by omega) (by omega)) (tO 102 (by omega) (by omega) (by omega)) (mO 114 (by omega) (by omega) (by omega)) (fun k q hk => ?_) (fun q _ => by rw [tO 101 (by omega) (by omega) (by omega)]) (fun q _ => by rw [tO 103 (by omega) (by omega) (by omega)]) (fun q hq => by rw [t99, if_neg (by omega)]) ?_ ?_ ?_
  · refine f1.as fv hrv' hcw' hMv hTv cx.1 hc6 (fun w j hw => (vw.2.2.2.1 w hw.1).1) (fun w j hw => ?_)
    rcases asV w j hw with ⟨e1, e2, e3, e4⟩ | ⟨e1, e2, e3, e4, e5, e6⟩
    · refine Or.inl ⟨e1, e2, e3, fun hf hp => ?_⟩
      obtain ⟨q, hq, h66⟩ := e4 hf hp
      have hv' := hv
      rw [VTs_p cx.1 hc6 hq (Or.inl h66)] at hv'
      rcases hv' with ⟨z, _⟩ | z
      · rw [h66] at z
        exact absurd z (by decide)
      · exact z.2.1
    · exact Or.inr ⟨e1, e2, e3, e4, e5, e6⟩
  · obtain ⟨c, k1, k2, k3⟩ := f4
    refine ⟨c, sm.2.2.2.2.2.2.trans k1, k2, fun k hk1 hk2 => ?_⟩
    show (sI (slQ (sI T 105 0 (nI (m + 1))) (fbs (Fr Dp) + a0) (fun i => (sI T 105 0 (nI (m + 1))).1 99 (fbs (Fr Dp) + 80 + i)) 0 (wS Sf x)) 100 0 (nI (fbs (Fr Dp) + 80))).1 99 (fbs (Fr Dp) + 60 + (k - 1)) = (stM (sI M 102 0 (nI (n + 1))) (fph (Fr Dp)) (20 * Dp + s)).1 122 (40 * Dp + k)
    rw [t99, if_neg (by omega), mO 122 (by omega) (by omega) (by omega)]
    exact k3 k hk1 hk2
  · rw [tO 101 (by omega) (by omega) (by omega)]; exact f6
  · rw [tO 101 (by omega) (by omega) (by omega)]; exact f7
  · rw [tO 101 (by omega) (by omega) (by omega)]; exact f8
  · rw [mO 116 (by omega) (by omega) (by omega)]; exact f9
  · rw [sI_v]; rfl
  · show na = frb (Fr Dp) + lvc S' (arn S')
    rw [lve]
    exact y3
  · rw [mO 123 (by omega) (by omega) (by omega)]; exact y4
  · rw [tO 104 (by omega) (by omega) (by omega)]; exact y5
  · by_cases z : 117 ≤ k ∧ k ≤ 120
    · exact mV k q z.1 z.2 (by omega)
    · rw [mO k (by omega) (by omega) z]
  · obtain ⟨w, i1, i2, i3, i4⟩ := a7
    exact ⟨w, by rw [mO 150 (by omega) (by omega) (by omega)]; exact i1, by rw [tO 111 (by omega) (by omega) (by omega)]; exact i2, i3, by rw [mO 151 (by omega) (by omega) (by omega), tO 110 (by omega) (by omega) (by omega)]; exact i4⟩
  · obtain ⟨k1, ⟨p, k2, k3, k4, k5⟩, k6, k7, k8, k9⟩ := a8
    exact ⟨by rw [mO 101 (by omega) (by omega) (by omega), tO 108 (by omega) (by omega) (by omega)]; exact k1, ⟨p, by rw [mO 104 (by omega) (by omega) (by omega)]; exact k2, by rw [tO 113 (by omega) (by omega) (by omega)]; exact k3, k4, by rw [mO 152 (by omega) (by omega) (by omega), tO 112 (by omega) (by omega) (by omega)]; exact k5⟩, by rw [mO 106 (by omega) (by omega) (by omega), tO 109 (by omega) (by omega) (by omega)]; exact k6, by rw [mO 107 (by omega) (by omega) (by omega)]; exact k7, by rw [tO 121 (by omega) (by omega) (by omega)]; exact k8, fun q hq => by rw [mO 115 (by omega) (by omega) (by omega), tO 101 (by omega) (by omega) (by omega)]; exact k9 q hq⟩
  · obtain ⟨k1, k2, k3, k4⟩ := a9
    exact ⟨fun k hk => by rw [mO k (by omega) (by omega) (by omega)]; exact k1 k hk, k2, fun k hk => by rw [tO k (by omega) (by omega) (by omega)]; exact k3 k hk, k4⟩
end SS3
