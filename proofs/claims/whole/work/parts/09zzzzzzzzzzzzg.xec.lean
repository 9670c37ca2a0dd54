/-! both machines: a call -/
/-- a fun as its BLOCK begins: S' is known there, rows n' and m' -/
def FnB (M0 T0 Sf : gSt) (t : Nat) (S' : gSt) (n' m' : Nat) : Prop := ∃ c k, ItQ Sf T0 t c k ∧ Sf.1 12 t = 2 ∧ M0.1 36 t = nI n' ∧ T0.1 42 t = nI m' ∧ S'.1 84 0 = 0 ∧ S'.1 87 0 = 0 ∧ (∀ u s, vaP S' u s → u = s ∧ s < k ∧ S'.1 80 u = Sf.1 24 (c + u) ∧ slV Sf S' u = ofs Sf c u ∧ fi (S'.1 82 0) s = false) ∧ (∀ r, 1 ≤ r → r ≤ 3 → ¬ isLv S' (nI r) = 0 → r ≤ eN Sf t ∧ fi (Sf.1 30 t) r = false) ∧ (∀ k, k < (Sf.1 31 t).toNatClampNeg → ∃ a b, roI Sf t (Sf.2 32 (6 * t + 2 * k)) = nI a ∧ roI Sf t (Sf.2 32 (6 * t + 2 * k + 1)) = nI b ∧ 1 ≤ a ∧ a ≤ eN Sf t ∧ 1 ≤ b ∧ b ≤ eN Sf t) ∧ (∀ r s, 1 ≤ r → r ≤ 3 → 1 ≤ s → s ≤ 3 → fi (S'.1 76 0) (4 * r + s) = true → ∀ Q : Nat → Nat → Prop, (∀ a b c, Q a b → Q b c → Q a c) → (∀ k a b, k < (Sf.1 31 t).toNatClampNeg → roI Sf t (Sf.2 32 (6 * t + 2 * k)) = nI a → roI Sf t (Sf.2 32 (6 * t + 2 * k + 1)) = nI b → 1 ≤ a → a ≤ eN Sf t → 1 ≤ b → b ≤ eN Sf t → Q a b) → Q r s) ∧ IvP Sf t S' [] []
/-- a call has begun: both are in the fun, the caller's values less on its stack; or no call more may be -/
def CalQ (nf d d' : Nat) (M0 T0 Sf : gSt) (G : GH) (D : Nat → (Nat → AV) × Nat) (nb mk : Nat) (P W : Nat) (rg : Nat → Nat) (na ng : Nat) (Fr : Nat → FRM) (Dp : Nat) (M T : gSt) (s0 : List Int32) (n m t : Nat) (S' : gSt) (n' m' : Nat) (w : Int32) : Prop :=
  (∃ M' T' ov0 va' ρ', StR nf d M M' ∧ StC nf d' T T' ∧ RnO M' T' ∧ (∀ c, c ≤ eN Sf t → ρ' c = chρ (fρ (Fr Dp)) w c) ∧ Sim M0 T0 Sf G D nb mk rg na ng P W (updF (updF Fr Dp (mkF (fS (Fr Dp)) (fρ (Fr Dp)) (fva (Fr Dp)) s0 ov0 (fhs (Fr Dp)) (fit (Fr Dp)) n m (fbs (Fr Dp)) (fph (Fr Dp)) (frb (Fr Dp)) (ftb (Fr Dp)) (fie (Fr Dp)))) (Dp + 1) (mkF S' ρ' va' [] [] [] t n' m' (fbs (Fr Dp) + 80 + wsl Sf s0) (fph (Fr Dp) + s0.length) (frb (Fr Dp) + lvc (fS (Fr Dp)) (arn (fS (Fr Dp)))) (ftb (Fr Dp) + (fhs (Fr Dp)).length) ng)) (Dp + 1) M' T') ∨ SpO nf d d' 5 M T
section XEC
variable {M0 T0 Sf S Sh : gSt} {G G' : GH} {D D' : Nat → (Nat → AV) × Nat} {nf d d' nb nb' mk mk' na na' ng ng' e bs ph bt rb tb ie en hb k q u s i j c t h P W Dp n m it n1 : Nat} {rg rg' : Nat → Nat} {ρ : Nat → Nat} {va : Nat → AV} {M M' T T' : gSt} {v : AV} {x a b cc ee op y z w : Int32} {st s0 st' : List Int32} {ov o0 ov' : List AV} {hs : List HD} {F : FRM} {Fr : Nat → FRM} {f : Nat → Int32} {jj : T5} {r1 : Int32} {l1 : Int64} {tg : List Nat}
theorem FrO.mp (hR : Rws Sf) (hc : cn Sf ≤ 6000) (h : FrO Sf G nb rg na ng M T e F) (hI : ∀ x, x ∈ fst' F → x = -2 ∨ tV Sf x) (hMf : M'.1 116 e = M.1 116 e) (hMv : ∀ k s, 117 ≤ k → k ≤ 120 → s < 20 → M'.1 k (20 * e + s) = M.1 k (20 * e + s)) (hMr : ∀ c, c < 12 → M'.1 121 (12 * e + c) = M.1 121 (12 * e + c)) (hMc : ∀ k, k ≤ 20 → M'.1 122 (40 * e + k) = M.1 122 (40 * e + k)) (hM2 : ∀ k q, 124 ≤ k → k ≤ 128 → q < ftb F + (fhs F).length → M'.1 k q = M.1 k q) (hMs : ∀ k q, 110 ≤ k → k ≤ 113 → q < fph F + (fst' F).length → M'.1 k q = M.1 k q) (hT1 : ∀ w, w < 17 → T'.1 101 (17 * (e + 1) + w) = T.1 101 (17 * (e + 1) + w)) (hT2 : ∀ q, q < 4 * (ftb F + (fhs F).length) → T'.1 103 q = T.1 103 q) (hTs : ∀ q, q < fbs F + 80 + wsl Sf (fst' F) → T'.1 99 q = T.1 99 q) : FrO Sf G nb rg na ng M' T' e F := by
  obtain ⟨a, b, c, d, f, g1, g2, g3, g4⟩ := h
  have hG : ∀ b, b ≤ nb → G b = G b := fun _ _ => rfl
  refine ⟨a.mo hG (Nat.le_refl _) (fun _ _ w => w) hMv (fun q hq => hTs q (by omega)), OpV.mo _ _ b hG (Nat.le_refl _) (fun _ _ w => w) hMs hTs (fun x v hx hv => ?_), c.mo (fun _ _ => rfl) (Nat.le_refl _) (fun _ _ w => w) hMr hT1 (fun c w hw => RgE_12 hw), d.mo hMc (fun q hq => hTs q (by omega)), HsO.mo _ f hG (Nat.le_refl _) (fun _ _ w => w) hMv hM2 (fun q hq => hTs q (by omega)) hT2, by rw [hT1 1 (by omega)]; exact g1, by rw [hT1 3 (by omega)]; exact g2, by rw [hT1 4 (by omega)]; exact g3, by rw [hMf]; exact g4⟩
  rw [VTs.wi hR hc (hI x hx) hv]
  exact Nat.le_refl _
theorem xe_18 (cx : CxP M0 T0 Sf) (h : Sim M0 T0 Sf G D nb mk rg na ng P W Fr Dp M T) (rn : RnO M T) (hn : fn (Fr Dp) = n) (hm : fm (Fr Dp) = m) (hn2 : n < 12000) (h51 : T0.1 51 0 = nI n1) (hm2 : m < n1) (h6 : n1 ≤ 6032) (hR : rOk M0 jj n) (hK : KrO (RgE (eN Sf (fit (Fr Dp))) (fS (Fr Dp))) (slF (fS (Fr Dp))) Sf T0 jj m) (hty : tyJ Sf (fS (Fr Dp)) jj (fst' (Fr Dp)) st') (hnf : 16385 ≤ nf) (hd : 20 ≤ d) (hd' : 20 ≤ d') (hj : jj.1 = 18) {t : Nat} {S' : gSt} {n' m' n27 : Nat} (et0 : jj.2.1 = nI t) (ht24 : t < 24) (hfb : FnB M0 T0 Sf t S' n' m') (hnU : nU M0 ≤ 4000) (h27 : T0.1 27 0 = nI n27) (hn27 : n27 ≤ 24) (hin : inn Sf ≤ n27) (hI0 : ∀ (ts s0 : List Int32), fst' (Fr Dp) = ts ++ s0 → IvP Sf (fit (Fr Dp)) (fS (Fr Dp)) s0 (fhs (Fr Dp))) : ∃ s0, st' = (if jj.2.2.2.1 = -1 then s0 else jj.2.2.2.1 :: s0) ∧ CalQ nf d d' M0 T0 Sf G D nb mk P W rg na ng Fr Dp M T s0 (n + 1) (m + 1) t S' n' m' jj.2.2.1 := by
  rw [tyJ_18 hj] at hty
  obtain ⟨s0, ts, t', c, e, e1, e2, et, ht, h12, pk, hsg, ee, he3, h15, h18, h19, ⟨ts8, cl⟩, ag, hlive, hdov, _⟩ := hty
  have ett : t' = t := nI_inj (by have := cx.2.2.2.2.1; omega) (by omega) (by rw [← et, et0])
  subst ett
  refine ⟨s0, e2, ?_⟩
  obtain ⟨w1, w2, w3, w4, w5, w6, w7, w8, w9⟩ := h.rw (n := n) (m := m)
  obtain ⟨b1, b2, b3, b4, b5⟩ := h.bd
  obtain ⟨fr, iv⟩ := h.fr
  have hc6 : cn Sf ≤ 6000 := by have := cx.2.1; omega
  unfold rOk at hR
  rw [if_pos hj] at hR
  obtain ⟨u, e', ee', he', hue, rowR, h48⟩ := hR
  have eee : e' = e := nI_inj (by omega) (by omega) (by rw [← ee', ee])
  subst eee
  unfold KrO at hK
  rw [hj, if_neg (by decide), if_neg (by decide), if_neg (by decide), if_neg (by decide), if_neg (by decide), if_neg (by decide), if_neg (by decide), if_neg (by decide), if_neg (by decide), if_neg (by decide), if_neg (by decide), if_neg (by decide), if_neg (by decide), if_neg (by decide), if_neg (by decide), if_neg (by decide), if_pos (by decide)] at hK
  obtain ⟨W', g, e'', eW, ee'', he'', hW, hg, hRR, krow⟩ := hK
  have eee2 : e'' = e' := nI_inj (by omega) (by omega) (by rw [← ee'', ee])
  subst eee2
  obtain ⟨c', k', iq, _, f36, f42, f84, f87, fvH, flv, froI, f76, fiv⟩ := hfb
  have en : eN Sf t' = e'' := by unfold eN; rw [h15, nc (by omega)]
  have en3 : eN Sf t' ≤ 3 := by omega
  have ec : c' = c := nI_inj (by have := iq.2.2.2.1; omega) (by omega) (by rw [← iq.1, h18])
  subst ec
  have em : k' = ts.length := nI_inj (by have := iq.2.2.1; omega) (by omega) (by rw [← iq.2.1, h19])
  subst em
  have c220 := iq.2.2.2.1
  have tyf := iq.2.2.2.2.2.2.2.1
  have w41 := iq.2.2.2.2.2.2.1
  rw [if_neg (by rw [h12]; decide)] at w41
  rw [et0] at rowR krow
  have hM := cx_m (n := n) cx h
  have pgM := h.2.2.2.2.2.2.1
  have e16 : (16 : Nat) ^ e'' ≤ 4096 := by
    rcases (by omega : e'' = 0 ∨ e'' = 1 ∨ e'' = 2 ∨ e'' = 3) with z | z | z | z <;> rw [z] <;> decide
  have e1024 : (1024 : Nat) ^ e'' ≤ 2 ^ 30 := by
    rcases (by omega : e'' = 0 ∨ e'' = 1 ∨ e'' = 2 ∨ e'' = 3) with z | z | z | z <;> rw [z] <;> decide
  -- the REGIONS told
  have told : ∀ k, k < e'' → ∃ s, ptOf jj.2.2.1 (nI k) = nI s ∧ s < 12 ∧ sght (fS (Fr Dp)) s ∧ RgE (eN Sf (fit (Fr Dp))) (fS (Fr Dp)) s (t1C g (k + 1)) ∧ chρ (fρ (Fr Dp)) jj.2.2.1 (k + 1) = fρ (Fr Dp) s := fun k hk => by
    obtain ⟨s, s1, s2⟩ := hsg k hk
    have r1 := hRR k hk
    obtain ⟨s12, _⟩ := h.sg s2
    have es : W' / 1024 ^ k % 1024 = s := by
      have := pt_nI (W := W') (k := k) (by omega) (by omega)
      rw [← eW, s1] at this
      exact (nI_inj (by omega) (by have := Nat.mod_lt (W' / 1024 ^ k) (show 0 < 1024 by omega); omega) this).symm
    rw [es] at r1
    refine ⟨s, s1, s12, s2, ?_, ?_⟩
    · unfold t1C
      rw [if_neg (by omega), Nat.add_sub_cancel]
      exact r1
    · rw [chρ_s (by omega), s1, nc (by omega)]
  have t1l : ∀ k, 1 ≤ k → k ≤ 3 → t1C g k < 12 := fun k k1 k3 => by
    by_cases z : k - 1 < e''
    · obtain ⟨s, _, _, _, r, _⟩ := told (k - 1) z
      rw [show k - 1 + 1 = k by omega] at r
      exact r.lt.2
    · unfold t1C
      rw [if_neg (by omega), Nat.div_eq_of_lt (Nat.lt_of_lt_of_le hg (Nat.pow_le_pow_right (by omega) (by omega)))]
      omega
  -- the values given
  have op := fr.2.1
  rw [e1] at op
  obtain ⟨vs, hvs⟩ := OpV.seg ts.reverse s0 _ op
  obtain ⟨o1, o0, _, _, op0⟩ := OpV.drop ts.reverse s0 _ op
  have lr : ts.reverse.length = ts.length := List.length_reverse
  have r00 : fρ (Fr Dp) 0 = 0 := fr.2.2.1.1.1
  rw [← en] at hsg
  have ρt : ∀ x, TyOf Sf (fun c => c ≤ eN Sf t') x → gty Sf (fun c => if c ≤ eN Sf t' then chρ (fρ (Fr Dp)) jj.2.2.1 c else 0) x = gty Sf (chρ (fρ (Fr Dp)) jj.2.2.1) x := fun x hx => hx _ _ (fun c hc => if_pos hc)
  have val : ∀ p, p < ts.length → VT G nb rg na ng (vs p) (gty Sf (fun c => if c ≤ eN Sf t' then chρ (fρ (Fr Dp)) jj.2.2.1 c else 0) (Sf.1 24 (c' + p))) ∧ wv (vs p) = wS Sf (Sf.1 24 (c' + p)) ∧ wS Sf (ts.reverse.getD (ts.reverse.length - 1 - p) 0) = wS Sf (Sf.1 24 (c' + p)) := fun p hp => by
    obtain ⟨v1, _, _⟩ := hvs p (by omega)
    obtain ⟨tv, tyo⟩ := tyf p hp
    obtain ⟨y, ty1, ty2, ty3⟩ := ag p hp
    have mem : ts.getD p 0 ∈ fst' (Fr Dp) := by
      rw [e1]
      refine List.mem_append_left _ (List.mem_reverse.mpr ?_)
      rw [List.getD_eq_getElem?_getD, List.getElem?_eq_getElem hp, Option.getD_some]
      exact List.getElem_mem _
    have v1' := v1
    rw [rev_gd ts hp] at v1' ⊢
    have fit := VTs.fit cx h v1' ty2 (ft_in tyo en3 hsg ty3)
    rw [ty3] at fit
    change VT G nb rg na ng (vs p) (gty Sf (chρ (fρ (Fr Dp)) jj.2.2.1) (Sf.1 24 (c' + p))) at fit
    have wi1 := VTs.wi cx.1 hc6 ((iv.2.2.2.1 _ mem).imp id (fun w => w.1)) v1'
    have wi2 : wv (vs p) = wS Sf (Sf.1 24 (c' + p)) := by rw [fit.wi]; exact wg_gty cx.1 hc6 tv
    rw [← ρt _ tyo] at fit
    exact ⟨fit, wi2, by rw [← wi1, wi2]⟩
  have so := seg_o (Sf := Sf) (c := c') ts.reverse (fun p hp => (val p (by omega)).2.2)
  have ws1 : wsl Sf ts.reverse = ofs Sf c' ts.length := by
    have := so ts.length (by omega)
    rw [lr, Nat.sub_self] at this
    exact this
  obtain ⟨ob1, ob2⟩ := ofs_b (Sf := Sf) (c := c') ts.length
  have l2 : wsl Sf (fst' (Fr Dp)) = ofs Sf c' ts.length + wsl Sf s0 := by rw [e1, wsl_ap, ws1]
  have l1 : (fst' (Fr Dp)).length = s0.length + ts.length := by rw [e1, List.length_append, lr, Nat.add_comm]
  have w7' : (sI T 105 0 (nI (m + 1))).1 100 0 = nI (fbs (Fr Dp) + 80 + wsl Sf s0 + ofs Sf c' ts.length) := by rw [tp_105 (by omega), w7, l2]; congr 1; omega
  have w6' : (sI M 102 0 (nI (n + 1))).1 109 0 = nI (fph (Fr Dp) + s0.length + ts.length) := by rw [tp_102 (by omega), w6, l1, Nat.add_assoc]
  have T0f : ∀ k, k ≤ 98 → (sI T 105 0 (nI (m + 1))).1 k = T0.1 k := fun k hk => by rw [sI_ne (by omega), pgM.2.2.1 k hk]
  have M0f : ∀ k, k ≤ 99 → (sI M 102 0 (nI (n + 1))).1 k = M0.1 k := fun k hk => by rw [sI_ne (by omega), pgM.1 k hk]
  by_cases full : Dp + 1 = 40
  · -- no call more
    refine Or.inr ⟨sI (sI M 102 0 (nI (n + 1))) 100 0 5, sI (sI T 105 0 (nI (m + 1))) 106 0 5, StR.of (r1 := 0) (l1 := 0) (by rw [w4, hn]) hn2 (by rw [w1]; exact rowR) (by decide) (x_inv5 (by rw [tp_102 (by omega), w8, full]; rfl) (by omega)), StC.of (op := 57) (x := nI t') (y := nI g) (r1 := 0) (l1 := 0) (by rw [w5, hm]) (by rw [w3]; exact h51) h6 hm2 (by rw [w2]; exact krow) (by decide) ?_, fun k k1 k2 => by rw [sI_ne k1, sI_ne k2], rfl, fun k k1 k2 _ _ => by rw [sI_ne k2, sI_ne k1], rfl, by rw [sI_v], by rw [sI_v]⟩
    rw [dC_214 (by decide) (by decide) (by decide) (by decide) (by decide)]
    obtain ⟨d', rfl⟩ : ∃ g, d' = g + 2 := ⟨d' - 2, by omega⟩
    rw [e_Machine_doControl]
    unfold rb_Machine_doControl
    rw [if_neg (by decide), if_neg (by decide), if_neg (by decide), if_neg (by decide), if_neg (by decide), if_neg (by decide), if_neg (by decide), if_pos rfl, e_Machine_enter]
    unfold rb_Machine_enter
    rw [if_neg (nI_ge0 (by omega)), T0f 27 (by omega), h27, if_pos (show nI t' < nI n27 from (nI_ltI (by omega) (by omega)).mpr (by omega)), tp_105 (by omega), w9, full, if_neg (by decide), stK, bis]
  · have Dl : Dp + 1 < 40 := by omega
    obtain ⟨gf, gfe⟩ : ∃ gf : Nat → Int32, ∀ k s, ptOf jj.2.2.1 (nI k) = nI s → s < 12 → gf k = (if s = 0 then 0 else M.1 121 (12 * Dp + s)) := ⟨fun k => if (ptOf jj.2.2.1 (nI k)).toNatClampNeg = 0 then 0 else M.1 121 (12 * Dp + (ptOf jj.2.2.1 (nI k)).toNatClampNeg), fun k s hs s12 => by
      show (if (ptOf jj.2.2.1 (nI k)).toNatClampNeg = 0 then 0 else M.1 121 (12 * Dp + (ptOf jj.2.2.1 (nI k)).toNatClampNeg)) = _
      rw [hs, nc (by omega)]⟩
    have xr := x_inv (M := sI M 102 0 (nI (n + 1))) (nf := nf) (d := d) (z := 0) (e := Dp) (t := t') (k := ts.length) (en := e'') (u := u) (h := fph (Fr Dp) + s0.length) (s := fun k => (ptOf jj.2.2.1 (nI k)).toNatClampNeg) (g := gf) (by rw [tp_102 (by omega)]; exact w8) Dl ht24 (by rw [hM 19 (by omega)]; exact h19) ts8 (by rw [hM 15 (by omega)]; exact h15) he3 (by omega) (fun k hk => by
      obtain ⟨s, s1, s2, _⟩ := told k hk
      show _ = nI (ptOf jj.2.2.1 (nI k)).toNatClampNeg ∧ (ptOf jj.2.2.1 (nI k)).toNatClampNeg < 12
      rw [M0f 48 (by omega), h48 k hk, s1, nc (by omega)]
      exact ⟨rfl, s2⟩) (fun k hk => by
      obtain ⟨s, s1, s2, _⟩ := told k hk
      rw [gfe k s s1 s2]
      show _ = if (ptOf jj.2.2.1 (nI k)).toNatClampNeg = 0 then 0 else (sI M 102 0 (nI (n + 1))).1 121 (12 * Dp + (ptOf jj.2.2.1 (nI k)).toNatClampNeg)
      rw [s1, nc (by omega), tp_102 (by omega)]) w6' (by omega) (by omega) (by omega)
    have xc : dC nf d' (sI T 105 0 (nI (m + 1))) 57 (nI t') (nI g) = some (0, 0, enC (sI T 105 0 (nI (m + 1))) (Dp + 1) (fbs (Fr Dp) + 80 + wsl Sf s0) g t') := by
      rw [dC_214 (by decide) (by decide) (by decide) (by decide) (by decide)]
      have ce := c_enter (T := sI T 105 0 (nI (m + 1))) (nf := nf) (d := d' - 1) (n := n27) (t := t') (c := Dp + 1) (b := fbs (Fr Dp) + 80 + wsl Sf s0) (p := ofs Sf c' ts.length) (g := g) (by rw [T0f 27 (by omega)]; exact h27) hn27 (by omega) (by rw [tp_105 (by omega)]; exact w9) Dl w7' (by rw [T0f 41 (by omega)]; exact w41) (by omega) (by omega) (by omega) t1l (by omega) (by omega)
      obtain ⟨d', rfl⟩ : ∃ g, d' = g + 1 := ⟨d' - 1, by omega⟩
      rw [Nat.add_sub_cancel] at ce
      rw [e_Machine_doControl]
      unfold rb_Machine_doControl
      rw [if_neg (by decide), if_neg (by decide), if_neg (by decide), if_neg (by decide), if_neg (by decide), if_neg (by decide), if_neg (by decide), if_pos rfl, ce, bis]
    -- what stays
    have mO : ∀ k, k ≠ 102 → k ≠ 103 → k ≠ 109 → k ≠ 114 → ¬ (116 ≤ k ∧ k ≤ 121) → (inR (sI M 102 0 (nI (n + 1))) Dp (fph (Fr Dp) + s0.length) ts.length t' e'' gf).1 k = M.1 k := fun k k1 k2 k3 k4 k5 => by
      unfold inR
      rw [sI_ne k1, sI_ne k2, sI_ne (by omega), sI_ne k4, cpV_o (by omega), sI_ne k3, fl1_o (by omega), sI_ne k1]
    have mV : ∀ k q, 117 ≤ k → k ≤ 120 → (inR (sI M 102 0 (nI (n + 1))) Dp (fph (Fr Dp) + s0.length) ts.length t' e'' gf).1 k q = (cpV (sI (fl1 (sI M 102 0 (nI (n + 1))) 121 (12 * (Dp + 1) + 1) gf e'') 109 0 (nI (fph (Fr Dp) + s0.length))) (fph (Fr Dp) + s0.length) (20 * (Dp + 1)) ts.length).1 k q := fun k q k1 k2 => by
      unfold inR
      rw [sI_ne (by omega), sI_ne (by omega), sI_ne (by omega), sI_ne (by omega)]
    have mVn : ∀ k q, 117 ≤ k → k ≤ 120 → q < 20 * (Dp + 1) → (inR (sI M 102 0 (nI (n + 1))) Dp (fph (Fr Dp) + s0.length) ts.length t' e'' gf).1 k q = M.1 k q := fun k q k1 k2 hq => by
      rw [mV k q k1 k2, cpV_n (by omega), sI_ne (by omega), fl1_o (by omega), sI_ne (by omega)]
    have mVv : ∀ k j, 117 ≤ k → k ≤ 120 → j < ts.length → (inR (sI M 102 0 (nI (n + 1))) Dp (fph (Fr Dp) + s0.length) ts.length t' e'' gf).1 k (20 * (Dp + 1) + j) = M.1 (k - 7) (fph (Fr Dp) + s0.length + j) := fun k j k1 k2 hj => by
      rw [mV k _ k1 k2, cpV_v ⟨k1, k2⟩ hj, sI_ne (by omega), fl1_o (by omega), sI_ne (by omega)]
    have m121 : ∀ q, (inR (sI M 102 0 (nI (n + 1))) Dp (fph (Fr Dp) + s0.length) ts.length t' e'' gf).1 121 q = if 12 * (Dp + 1) + 1 ≤ q ∧ q < 12 * (Dp + 1) + 1 + e'' then gf (q - (12 * (Dp + 1) + 1)) else M.1 121 q := fun q => by
      unfold inR
      rw [sI_ne (by omega), sI_ne (by omega), sI_ne (by omega), sI_ne (by omega), cpV_o (by omega), sI_ne (by omega), fl1_w, sI_ne (by omega)]
    have m116 : ∀ q, (inR (sI M 102 0 (nI (n + 1))) Dp (fph (Fr Dp) + s0.length) ts.length t' e'' gf).1 116 q = if q = Dp + 1 then M.1 129 0 else M.1 116 q := fun q => by
      unfold inR
      rw [sI_ne (g := 102) (g' := 116) (by omega), sI_ne (g := 103) (g' := 116) (by omega), rdI, sI_ne (g := 114) (g' := 116) (by omega), cpV_o (by omega), sI_ne (g := 109) (g' := 116) (by omega), fl1_o (by omega), sI_ne (g := 102) (g' := 116) (by omega), sI_ne (g := 102) (g' := 129) (by omega)]
      by_cases c : q = Dp + 1
      · rw [if_pos ⟨rfl, c⟩, if_pos c]
      · rw [if_neg (fun w => c w.2), if_neg c]
    have m114 : ∀ q, (inR (sI M 102 0 (nI (n + 1))) Dp (fph (Fr Dp) + s0.length) ts.length t' e'' gf).1 114 q = if q = Dp + 1 then nI (n + 1) else M.1 114 q := fun q => by
      unfold inR
      rw [sI_ne (by omega), sI_ne (by omega), sI_ne (by omega), rdI, sI_v, cpV_o (by omega), sI_ne (by omega), fl1_o (by omega), sI_ne (by omega)]
      by_cases c : q = Dp + 1
      · rw [if_pos ⟨rfl, c⟩, if_pos c]
      · rw [if_neg (fun w => c w.2), if_neg c]
    have m103 : (inR (sI M 102 0 (nI (n + 1))) Dp (fph (Fr Dp) + s0.length) ts.length t' e'' gf).1 103 0 = nI (Dp + 1 + 1) := by
      unfold inR
      rw [sI_ne (by omega), sI_v]
    have m102 : (inR (sI M 102 0 (nI (n + 1))) Dp (fph (Fr Dp) + s0.length) ts.length t' e'' gf).1 102 0 = nI n' := by
      unfold inR
      rw [sI_v, M0f 36 (by omega)]
      exact f36
    have m109 : (inR (sI M 102 0 (nI (n + 1))) Dp (fph (Fr Dp) + s0.length) ts.length t' e'' gf).1 109 0 = nI (fph (Fr Dp) + s0.length) := by
      unfold inR
      rw [sI_ne (by omega), sI_ne (by omega), sI_ne (by omega), sI_ne (by omega), cpV_o (by omega), sI_v]
    have tO : ∀ k, k ≠ 100 → k ≠ 101 → k ≠ 102 → k ≠ 105 → (enC (sI T 105 0 (nI (m + 1))) (Dp + 1) (fbs (Fr Dp) + 80 + wsl Sf s0) g t').1 k = T.1 k := fun k k1 k2 k3 k4 => by
      unfold enC
      rw [sI_ne k4, sI_ne k1, enF_o k2 k3, sI_ne k4]
    have t101 : ∀ q, (enC (sI T 105 0 (nI (m + 1))) (Dp + 1) (fbs (Fr Dp) + 80 + wsl Sf s0) g t').1 101 q = (enF (sI T 105 0 (nI (m + 1))) (Dp + 1) (fbs (Fr Dp) + 80 + wsl Sf s0) g).1 101 q := fun q => by
      unfold enC
      rw [sI_ne (by omega), sI_ne (by omega)]
    have t101n : ∀ q, q < 17 * (Dp + 1 + 1) ∨ 17 * (Dp + 1 + 1) + 9 ≤ q ∨ q = 17 * (Dp + 1 + 1) + 2 → (enC (sI T 105 0 (nI (m + 1))) (Dp + 1) (fbs (Fr Dp) + 80 + wsl Sf s0) g t').1 101 q = T.1 101 q := fun q hq => by
      rw [t101, enF_lo hq, sI_ne (by omega)]
    obtain ⟨v0, v1, v3, v4, v5, v6, v7, v8⟩ := enF_v (T := sI T 105 0 (nI (m + 1))) (c := Dp + 1) (b := fbs (Fr Dp) + 80 + wsl Sf s0) (g := g)
    rw [sI_v] at v0
    rw [sI_ne (by omega), h.1.1.2.1] at v3
    rw [sI_ne (by omega), h.2.2.2.1.2.2.2.2.1] at v4
    rw [sI_ne (by omega)] at v6 v7 v8
    have t102 : (enC (sI T 105 0 (nI (m + 1))) (Dp + 1) (fbs (Fr Dp) + 80 + wsl Sf s0) g t').1 102 0 = nI (Dp + 1 + 1) := by
      unfold enC
      rw [sI_ne (by omega), sI_ne (by omega), enF_102]
    have t100 : (enC (sI T 105 0 (nI (m + 1))) (Dp + 1) (fbs (Fr Dp) + 80 + wsl Sf s0) g t').1 100 0 = nI (fbs (Fr Dp) + 80 + wsl Sf s0 + 80) := by
      unfold enC
      rw [sI_ne (by omega), sI_v]
    have t105 : (enC (sI T 105 0 (nI (m + 1))) (Dp + 1) (fbs (Fr Dp) + 80 + wsl Sf s0) g t').1 105 0 = nI m' := by
      unfold enC
      rw [sI_v, T0f 42 (by omega)]
      exact f42
    have iv0 := hI0 ts.reverse s0 e1
    have hS := h
    obtain ⟨a1, ⟨a2, a3, a4⟩, a5, a6, a7, a8, a9, a10⟩ := h
    have F5 := a5
    obtain ⟨q1, q2, q3⟩ := a5
    obtain ⟨y1, y2, y3, y4, y5, y6, y7⟩ := a6
    obtain ⟨g1, g2, g3, g4, g5, g6, g7⟩ := a1.1
    have ar0 : arn S' = 0 := by unfold arn; rw [f84]; rfl
    have mg : ∀ (e : Nat) (F : FRM), e ≤ Dp → FrO Sf G nb rg na ng M T e F → (∀ x, x ∈ fst' F → x = -2 ∨ tV Sf x) → FrO Sf G nb rg na ng (inR (sI M 102 0 (nI (n + 1))) Dp (fph (Fr Dp) + s0.length) ts.length t' e'' gf) (enC (sI T 105 0 (nI (m + 1))) (Dp + 1) (fbs (Fr Dp) + 80 + wsl Sf s0) g t') e F := fun e F he hF hx => hF.mp cx.1 hc6 hx (by rw [m116, if_neg (by omega)]) (fun k s k1 k2 hs => mVn k _ k1 k2 (by omega)) (fun c hc => by rw [m121, if_neg (by omega)]) (fun k hk => by rw [mO 122 (by omega) (by omega) (by omega) (by omega) (by omega)]) (fun k q k1 k2 _ => by rw [mO k (by omega) (by omega) (by omega) (by omega) (by omega)]) (fun k q k1 k2 _ => by rw [mO k (by omega) (by omega) (by omega) (by omega) (by omega)]) (fun w hw => t101n _ (by omega)) (fun q _ => by rw [tO 103 (by omega) (by omega) (by omega) (by omega)]) (fun q _ => by rw [tO 99 (by omega) (by omega) (by omega) (by omega)])
    have fr0 : FrO Sf G nb rg na ng M T Dp (mkF (fS (Fr Dp)) (fρ (Fr Dp)) (fva (Fr Dp)) s0 o0 (fhs (Fr Dp)) (fit (Fr Dp)) (n + 1) (m + 1) (fbs (Fr Dp)) (fph (Fr Dp)) (frb (Fr Dp)) (ftb (Fr Dp)) (fie (Fr Dp))) := ⟨fr.1, op0, fr.2.2⟩
    have ρ1 : ∀ k, k < e'' → (fun c => if c ≤ eN Sf t' then chρ (fρ (Fr Dp)) jj.2.2.1 c else 0) (k + 1) = chρ (fρ (Fr Dp)) jj.2.2.1 (k + 1) := fun k hk => if_pos (by omega)
    have ρ0 : (fun c => if c ≤ eN Sf t' then chρ (fρ (Fr Dp)) jj.2.2.1 c else 0) 0 = 0 := by
      show (if 0 ≤ eN Sf t' then chρ (fρ (Fr Dp)) jj.2.2.1 0 else 0) = 0
      rw [if_pos (Nat.zero_le _), chρ_0 r00]
    have frN : FrO Sf G nb rg na ng (inR (sI M 102 0 (nI (n + 1))) Dp (fph (Fr Dp) + s0.length) ts.length t' e'' gf) (enC (sI T 105 0 (nI (m + 1))) (Dp + 1) (fbs (Fr Dp) + 80 + wsl Sf s0) g t') (Dp + 1) (mkF S' (fun c => if c ≤ eN Sf t' then chρ (fρ (Fr Dp)) jj.2.2.1 c else 0) vs [] [] [] t' n' m' (fbs (Fr Dp) + 80 + wsl Sf s0) (fph (Fr Dp) + s0.length) (frb (Fr Dp) + lvc (fS (Fr Dp)) (arn (fS (Fr Dp)))) (ftb (Fr Dp) + (fhs (Fr Dp)).length) ng) := by
      refine ⟨fun u' s' hus => ?_, True.intro, ⟨⟨ρ0, by show 1 ≤ ng; have := g6 0 (by omega); omega, Nat.le_refl _, fun c hc => ?_, ?_, ?_⟩, fun q c hq => absurd hq (by show ¬ q < arn S'; omega), fun q q' c c' _ hq => absurd hq (by show ¬ q' < arn S'; omega), fun c c1 c3 hl => ?_, fun r s r1 r3 s1 s3 hf => ?_⟩, ⟨0, f87, by omega, fun k k1 k0 => absurd k0 (by omega)⟩, True.intro, ?_, ?_, ?_, ?_⟩
      · obtain ⟨e3, e4, e5, e6, e7⟩ := fvH u' s' hus
        subst e3
        obtain ⟨x1, x2, x3⟩ := hvs u' (by omega)
        obtain ⟨z1, z2, z3⟩ := val u' e4
        rw [so u' (by omega)] at x3
        show VT G nb rg na ng (vs u') (gty Sf (fun c => if c ≤ eN Sf t' then chρ (fρ (Fr Dp)) jj.2.2.1 c else 0) (S'.1 80 u')) ∧ RV G (vs u') ((inR (sI M 102 0 (nI (n + 1))) Dp (fph (Fr Dp) + s0.length) ts.length t' e'' gf).1 117 (20 * (Dp + 1) + u')) ((inR (sI M 102 0 (nI (n + 1))) Dp (fph (Fr Dp) + s0.length) ts.length t' e'' gf).1 118 (20 * (Dp + 1) + u')) ((inR (sI M 102 0 (nI (n + 1))) Dp (fph (Fr Dp) + s0.length) ts.length t' e'' gf).1 119 (20 * (Dp + 1) + u')) ((inR (sI M 102 0 (nI (n + 1))) Dp (fph (Fr Dp) + s0.length) ts.length t' e'' gf).1 120 (20 * (Dp + 1) + u')) ∧ (∀ i, i < wv (vs u') → (enC (sI T 105 0 (nI (m + 1))) (Dp + 1) (fbs (Fr Dp) + 80 + wsl Sf s0) g t').1 99 (fbs (Fr Dp) + 80 + wsl Sf s0 + slV Sf S' u' + i) = CW G (vs u') i) ∧ (fi (S'.1 82 0) u' = true → (∃ p, rowP Sf (S'.1 80 u') p ∧ Sf.1 66 p = 2) → 1 ≤ (vs u').2.1)
        rw [e5, e6, e7, mVv 117 u' (by omega) (by omega) e4, mVv 118 u' (by omega) (by omega) e4, mVv 119 u' (by omega) (by omega) e4, mVv 120 u' (by omega) (by omega) e4, tO 99 (by omega) (by omega) (by omega) (by omega)]
        exact ⟨z1, x2, x3, fun w => absurd w (by decide)⟩
      · show (if c ≤ eN Sf t' then chρ (fρ (Fr Dp)) jj.2.2.1 c else 0) < ng
        have ng1 := g6 0 (by omega)
        by_cases z : c ≤ eN Sf t'
        · rw [if_pos z]
          cases c with
          | zero => rw [chρ_0 r00]; omega
          | succ k =>
            obtain ⟨s, _, _, s2, _, s3⟩ := told k (by omega)
            rw [s3]
            exact (hS.sg s2).2
        · rw [if_neg z]; omega
      · show 1 ≤ frb (Fr Dp) + lvc (fS (Fr Dp)) (arn (fS (Fr Dp)))
        omega
      · rw [t101]
        exact v5
      · obtain ⟨c4, c5⟩ := flv c c1 c3 hl
        obtain ⟨s, s1, s12, s2, s4, s3⟩ := told (c - 1) (by omega)
        have lv := hlive (c - 1) (by omega) (by rw [show c - 1 + 1 = c by omega]; exact c5)
        rw [s1] at lv
        obtain ⟨r, r1, r2, r3, r4⟩ := hS.rgn ⟨⟨s, rfl, s12⟩, lv⟩ s12
        have r4' := r4 _ s4
        rw [show c - 1 + 1 = c by omega] at r4' s3
        refine ⟨r, by show r < frb (Fr Dp) + lvc (fS (Fr Dp)) (arn (fS (Fr Dp))); omega, ?_, ?_, ?_⟩
        · rw [m121, if_pos (by omega), show 12 * (Dp + 1) + c - (12 * (Dp + 1) + 1) = c - 1 by omega, gfe (c - 1) s s1 s12]
          exact r2
        · rw [t101]
          rcases (by omega : c = 1 ∨ c = 2 ∨ c = 3) with z | z | z
          · subst z
            exact v6.trans (by rw [Nat.add_assoc]; exact r4')
          · subst z
            exact v7.trans (by rw [Nat.add_assoc]; exact r4')
          · subst z
            exact v8.trans (by rw [Nat.add_assoc]; exact r4')
        · rw [r3]
          show _ = if c ≤ eN Sf t' then chρ (fρ (Fr Dp)) jj.2.2.1 c else 0
          rw [if_pos c4, s3]
      · refine f76 r s r1 r3 s1 s3 hf (fun a b => ot rg na ng ((fun c => if c ≤ eN Sf t' then chρ (fρ (Fr Dp)) jj.2.2.1 c else 0) a) ((fun c => if c ≤ eN Sf t' then chρ (fρ (Fr Dp)) jj.2.2.1 c else 0) b)) (fun a b c h1 h2 => h1.tr h2) (fun k a b hk ha hb a1 a2 b1 b2 => ?_)
        have dv := hdov k hk
        rw [ha, hb, show nI a - 1 = nI (a - 1) by rw [show a = a - 1 + 1 by omega]; exact nI_p1, show nI b - 1 = nI (b - 1) by rw [show b = b - 1 + 1 by omega]; exact nI_p1] at dv
        obtain ⟨s, s1, s12, s2, _, s3⟩ := told (a - 1) (by omega)
        obtain ⟨s', s1', s12', s2', _, s3'⟩ := told (b - 1) (by omega)
        rw [s1, s1'] at dv
        rw [show a - 1 + 1 = a by omega] at s3
        rw [show b - 1 + 1 = b by omega] at s3'
        show ot rg na ng (if a ≤ eN Sf t' then chρ (fρ (Fr Dp)) jj.2.2.1 a else 0) (if b ≤ eN Sf t' then chρ (fρ (Fr Dp)) jj.2.2.1 b else 0)
        rw [if_pos a2, if_pos b2, s3, s3']
        exact hS.outl s12 s2' dv
      · rw [t101]; exact v1
      · rw [t101, v3, y3]; rfl
      · rw [t101, v4]; rfl
      · rw [m116, if_pos rfl, g1, y3]; rfl
    have uN : updF (updF Fr Dp (mkF (fS (Fr Dp)) (fρ (Fr Dp)) (fva (Fr Dp)) s0 o0 (fhs (Fr Dp)) (fit (Fr Dp)) (n + 1) (m + 1) (fbs (Fr Dp)) (fph (Fr Dp)) (frb (Fr Dp)) (ftb (Fr Dp)) (fie (Fr Dp)))) (Dp + 1) (mkF S' (fun c => if c ≤ eN Sf t' then chρ (fρ (Fr Dp)) jj.2.2.1 c else 0) vs [] [] [] t' n' m' (fbs (Fr Dp) + 80 + wsl Sf s0) (fph (Fr Dp) + s0.length) (frb (Fr Dp) + lvc (fS (Fr Dp)) (arn (fS (Fr Dp)))) (ftb (Fr Dp) + (fhs (Fr Dp)).length) ng) (Dp + 1) = (mkF S' (fun c => if c ≤ eN Sf t' then chρ (fρ (Fr Dp)) jj.2.2.1 c else 0) vs [] [] [] t' n' m' (fbs (Fr Dp) + 80 + wsl Sf s0) (fph (Fr Dp) + s0.length) (frb (Fr Dp) + lvc (fS (Fr Dp)) (arn (fS (Fr Dp)))) (ftb (Fr Dp) + (fhs (Fr Dp)).length) ng) := if_pos rfl
    have uD : updF (updF Fr Dp (mkF (fS (Fr Dp)) (fρ (Fr Dp)) (fva (Fr Dp)) s0 o0 (fhs (Fr Dp)) (fit (Fr Dp)) (n + 1) (m + 1) (fbs (Fr Dp)) (fph (Fr Dp)) (frb (Fr Dp)) (ftb (Fr Dp)) (fie (Fr Dp)))) (Dp + 1) (mkF S' (fun c => if c ≤ eN Sf t' then chρ (fρ (Fr Dp)) jj.2.2.1 c else 0) vs [] [] [] t' n' m' (fbs (Fr Dp) + 80 + wsl Sf s0) (fph (Fr Dp) + s0.length) (frb (Fr Dp) + lvc (fS (Fr Dp)) (arn (fS (Fr Dp)))) (ftb (Fr Dp) + (fhs (Fr Dp)).length) ng) Dp = (mkF (fS (Fr Dp)) (fρ (Fr Dp)) (fva (Fr Dp)) s0 o0 (fhs (Fr Dp)) (fit (Fr Dp)) (n + 1) (m + 1) (fbs (Fr Dp)) (fph (Fr Dp)) (frb (Fr Dp)) (ftb (Fr Dp)) (fie (Fr Dp))) := by
      unfold updF
      rw [if_neg (by omega), if_pos rfl]
    have uE : ∀ e, ¬ e = Dp + 1 → ¬ e = Dp → updF (updF Fr Dp (mkF (fS (Fr Dp)) (fρ (Fr Dp)) (fva (Fr Dp)) s0 o0 (fhs (Fr Dp)) (fit (Fr Dp)) (n + 1) (m + 1) (fbs (Fr Dp)) (fph (Fr Dp)) (frb (Fr Dp)) (ftb (Fr Dp)) (fie (Fr Dp)))) (Dp + 1) (mkF S' (fun c => if c ≤ eN Sf t' then chρ (fρ (Fr Dp)) jj.2.2.1 c else 0) vs [] [] [] t' n' m' (fbs (Fr Dp) + 80 + wsl Sf s0) (fph (Fr Dp) + s0.length) (frb (Fr Dp) + lvc (fS (Fr Dp)) (arn (fS (Fr Dp)))) (ftb (Fr Dp) + (fhs (Fr Dp)).length) ng) e = Fr e := fun e h1 h2 => by
      unfold updF
      rw [if_neg h1, if_neg h2]
    refine Or.inl ⟨(inR (sI M 102 0 (nI (n + 1))) Dp (fph (Fr Dp) + s0.length) ts.length t' e'' gf), (enC (sI T 105 0 (nI (m + 1))) (Dp + 1) (fbs (Fr Dp) + 80 + wsl Sf s0) g t'), o0, vs, (fun c => if c ≤ eN Sf t' then chρ (fρ (Fr Dp)) jj.2.2.1 c else 0), StR.of (by rw [w4, hn]) hn2 (by rw [w1]; exact rowR) (by decide) xr, StC.of (by rw [w5, hm]) (by rw [w3]; exact h51) h6 hm2 (by rw [w2]; exact krow) (by decide) xc, ⟨by rw [mO 100 (by omega) (by omega) (by omega) (by omega) (by omega)]; exact rn.1, by rw [tO 106 (by omega) (by omega) (by omega) (by omega)]; exact rn.2⟩, fun c hc => if_pos hc, a1.eq (fun k hk => mO k (by omega) (by omega) (by omega) (by omega) (by omega)) (fun k k1 k2 => tO k (by omega) (by omega) (by omega) (by omega)), ⟨Dl, m103, t102⟩, ⟨fun e he => ?_, fun e he => ?_, ?_⟩, ?_, ?_, ?_, ?_, a10⟩
    · by_cases c1 : e = Dp + 1
      · rw [c1, uN]
        exact ⟨frN, fiv⟩
      · by_cases c2 : e = Dp
        · rw [c2, uD]
          exact ⟨mg Dp _ (Nat.le_refl _) fr0 (fun x hx => (iv0.2.2.2.1 x hx).imp id (fun w => w.1)), iv0⟩
        · rw [uE e c1 c2]
          obtain ⟨z1, z2⟩ := q1 e (by omega)
          exact ⟨mg e _ (by omega) z1 (fun x hx => (z2.2.2.2.1 x hx).imp id (fun w => w.1)), z2⟩
    · by_cases c2 : e = Dp
      · rw [c2, uD, uN]
        refine ⟨rfl, rfl, rfl, rfl, ?_, ?_⟩
        · rw [m114, if_pos rfl]; rfl
        · rw [t101]; exact v0
      · obtain ⟨l1', l2', l3', l4', l5', l6'⟩ := q2 e (by omega)
        rw [uE e (by omega) c2]
        unfold LnO
        rw [m114, if_neg (by omega), t101n _ (by omega)]
        by_cases c3 : e + 1 = Dp
        · rw [c3, uD]
          rw [c3] at l1' l2' l3' l4' l5'
          exact ⟨l1', l2', l3', l4', l5', l6'⟩
        · rw [uE (e + 1) (by omega) c3]
          exact ⟨l1', l2', l3', l4', l5', l6'⟩
    · by_cases c2 : 0 = Dp
      · rw [show updF (updF Fr Dp (mkF (fS (Fr Dp)) (fρ (Fr Dp)) (fva (Fr Dp)) s0 o0 (fhs (Fr Dp)) (fit (Fr Dp)) (n + 1) (m + 1) (fbs (Fr Dp)) (fph (Fr Dp)) (frb (Fr Dp)) (ftb (Fr Dp)) (fie (Fr Dp)))) (Dp + 1) (mkF S' (fun c => if c ≤ eN Sf t' then chρ (fρ (Fr Dp)) jj.2.2.1 c else 0) vs [] [] [] t' n' m' (fbs (Fr Dp) + 80 + wsl Sf s0) (fph (Fr Dp) + s0.length) (frb (Fr Dp) + lvc (fS (Fr Dp)) (arn (fS (Fr Dp)))) (ftb (Fr Dp) + (fhs (Fr Dp)).length) ng) 0 = _ from congrArg _ c2, uD]
        rw [show Fr 0 = Fr Dp from congrArg Fr c2] at q3
        exact q3
      · rw [uE 0 (by omega) c2]
        exact q3
    · rw [uN]
      refine ⟨m109, t100, ?_, ?_, ?_, m102, t105⟩
      · show na = frb (Fr Dp) + lvc (fS (Fr Dp)) (arn (fS (Fr Dp))) + lvc S' (arn S')
        rw [ar0]
        exact y3
      · rw [mO 123 (by omega) (by omega) (by omega) (by omega) (by omega)]
        exact y4
      · rw [tO 104 (by omega) (by omega) (by omega) (by omega)]
        exact y5
    · obtain ⟨w, i1, i2, i3, i4⟩ := a7
      exact ⟨w, by rw [mO 150 (by omega) (by omega) (by omega) (by omega) (by omega)]; exact i1, by rw [tO 111 (by omega) (by omega) (by omega) (by omega)]; exact i2, i3, by rw [mO 151 (by omega) (by omega) (by omega) (by omega) (by omega), tO 110 (by omega) (by omega) (by omega) (by omega)]; exact i4⟩
    · obtain ⟨c1, ⟨p, c2, c3, c4, c5⟩, c6, c7, c8, c9⟩ := a8
      exact ⟨by rw [mO 101 (by omega) (by omega) (by omega) (by omega) (by omega), tO 108 (by omega) (by omega) (by omega) (by omega)]; exact c1, ⟨p, by rw [mO 104 (by omega) (by omega) (by omega) (by omega) (by omega)]; exact c2, by rw [tO 113 (by omega) (by omega) (by omega) (by omega)]; exact c3, c4, by rw [mO 152 (by omega) (by omega) (by omega) (by omega) (by omega), tO 112 (by omega) (by omega) (by omega) (by omega)]; exact c5⟩, by rw [mO 106 (by omega) (by omega) (by omega) (by omega) (by omega), tO 109 (by omega) (by omega) (by omega) (by omega)]; exact c6, by rw [mO 107 (by omega) (by omega) (by omega) (by omega) (by omega)]; exact c7, by rw [tO 121 (by omega) (by omega) (by omega) (by omega)]; exact c8, fun q hq => by rw [mO 115 (by omega) (by omega) (by omega) (by omega) (by omega), t101n _ (by omega)]; exact c9 q hq⟩
    · obtain ⟨p1, p2, p3, p4⟩ := a9
      exact ⟨fun k hk => by rw [mO k (by omega) (by omega) (by omega) (by omega) (by omega)]; exact p1 k hk, p2, fun k hk => by rw [tO k (by omega) (by omega) (by omega) (by omega)]; exact p3 k hk, p4⟩
end XEC
