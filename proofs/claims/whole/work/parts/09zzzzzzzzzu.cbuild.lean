/-! the class's build -/
/-- what the spec begins with behind the parse -/
def BsP (X : Lx) (its : List It) (S : gSt) (z : Nat) : Prop := RmP X its S ∧ (∃ T2, er T2 = S ∧ RepP X T2 0 0 0 its ∧ nN T2 ≤ 8200 ∧ nW T2 ≤ 4000) ∧ S.1 1 0 = nI z ∧ ∀ k, 88 ≤ k → k ≤ 92 → S.1 k 0 = 0
/-- what the class has as a build begins -/
def CbP (T : gSt) (z : Nat) : Prop := T.1 1 0 = nI z ∧ z ≤ 4000 ∧ (∀ j, j < 4000 → 0 ≤ T.1 0 j ∧ T.1 0 j ≤ 255) ∧ (∀ j, j < 26 → T.2 26 j = wt 133 j) ∧ T.1 71 0 = 0 ∧ EW T + 1 < 2 ^ 40 ∧ ∀ s, s < 16384 → SW T s / KM ≤ EW T
/-- what it leaves -/
def CbI (T T' : gSt) : Prop := T'.1 0 = T.1 0 ∧ T'.1 1 0 = 0 ∧ T'.1 2 0 = 1 ∧ T'.1 106 0 = 0 ∧ (∀ k, (78 ≤ k ∧ k ≠ 128) → k ≠ 106 → T'.1 k = T.1 k) ∧ (∀ k j, 78 ≤ k → T'.2 k j = T.2 k j) ∧ T'.2 26 = T.2 26 ∧ T'.1 71 0 = 0 ∧ EW T' ≤ EW T + 1 ∧ ∀ s, s < 16384 → SW T' s / KM ≤ EW T'
/-- what comes of it where the text reads -/
def CbO (X : Lx) (its : List It) (S : gSt) (r : Int32) (T' : gSt) : Prop := (BfR (fnsL X its 0 0 (hdsS X its S)) T' ∧ r = -1 ∧ T'.1 3 0 = 0) ∨ (r = nI its.length ∧ T'.1 3 0 = 1 ∧ T'.1 27 0 = nI its.length ∧ FnR X (fnsL X its 0 0 (hdsS X its S)) T' ∧ (∃ n1, KdL X (fnsL X its 0 0 (hdsS X its S)) T' its 0 0 (hdsS X its S) 0 n1 ∧ T'.1 51 0 = nI n1 ∧ n1 ≤ 6032) ∧ T'.1 52 0 = nI (cfT X 0 its) ∧ T'.1 52 1 = nI (cfT X 1 its))
def CbE (X : Lx) (S : gSt) (r : Int32) (T' : gSt) : Prop := (∃ e, pIts (xK X) 24 0 = .error e ∧ r = -1 ∧ T'.1 3 0 = 0 ∧ T'.1 53 0 = 1 ∧ T'.1 54 0 = nI (xP X e)) ∨ ∃ its, pIts (xK X) 24 0 = .ok its ∧ CbO X its S r T'
/-- what all that is done between the clearing and the end leaves as it was -/
def Fb (T T' : gSt) : Prop := T'.1 0 = T.1 0 ∧ T'.1 2 = T.1 2 ∧ (∀ k, 78 ≤ k → T'.1 k = T.1 k) ∧ (∀ k j, 78 ≤ k → T'.2 k j = T.2 k j) ∧ (∀ j, T'.2 26 j = T.2 26 j) ∧ T'.1 71 0 = T.1 71 0 ∧ EW T' ≤ EW T + 1 ∧ ∀ s, s < 16384 → SW T' s / KM ≤ EW T'
section CBD
variable {S S' T T' T1 T2 T3 : gSt} {X : Lx} {nf d k i j z r m t : Nat} {its : List It} {e : Nat}
theorem c_snd (hd : 1 ≤ d) : PP nf d 48 T [] [] = some ((if T.1 53 0 = 0 then 1 else 0), 0, T) := by
  obtain ⟨d, rfl⟩ : ∃ g, d = g + 1 := ⟨d - 1, by omega⟩
  rw [e_Code_isSound]
  unfold rb_Code_isSound
  split
  · rfl
  · rfl
theorem b_end (hd : 1 ≤ d) : rj_House_build_75 (PP nf d) nf T = some ((if T.1 53 0 = 0 then T.1 27 0 else -1), 0, sI (sI T 1 0 0) 3 0 (if T.1 53 0 = 0 then 1 else 0)) := by
  unfold rj_House_build_75
  rw [stK, c_snd hd, bis, sI_ne (by omega)]
  by_cases c : T.1 53 0 = 0
  · rw [if_pos c, gd, if_pos (Or.inr rfl), stK, sI_v, if_neg (by decide), if_pos c, sI_ne (by omega), sI_ne (by omega)]
  · rw [if_neg c, gd, if_pos (Or.inl rfl), stK, sI_v, if_pos rfl, if_neg c]
theorem FhB.fb (h : FhB 0 (tcT T) T') (hE : EW T + 1 < 2 ^ 40) : Fb T T' := by
  have o : ∀ k, k ≠ 52 → k ≠ 53 → k ≠ 54 → k ≠ 67 → k ≠ 68 → k ≠ 72 → k ≠ 75 → k ≠ 76 → ¬ (38 ≤ k ∧ k ≤ 47) → T'.1 k = T.1 k := fun k a b c d e f g i l => by
    funext j
    exact h.1 k j a b c d e f g i (by omega) (by omega) (by omega) (by omega)
  have t2 : ∀ q j, q ≠ 63 → (tcT T).2 q j = T.2 q j := fun q j hq => by unfold tcT; rw [rdJ, if_neg (fun w => hq w.1)]
  have ew : EW T' = EW T + 1 := by
    have : EW T' = EW (tcT T) := by unfold EW; rw [h.2.1 63 0 (by omega) (by omega) (by omega)]
    rw [this]
    exact tc_ew (by omega)
  exact ⟨o 0 (by omega) (by omega) (by omega) (by omega) (by omega) (by omega) (by omega) (by omega) (by omega), o 2 (by omega) (by omega) (by omega) (by omega) (by omega) (by omega) (by omega) (by omega) (by omega), fun k hk => o k (by omega) (by omega) (by omega) (by omega) (by omega) (by omega) (by omega) (by omega) (by omega), fun k j hk => by rw [h.2.1 k j (by omega) (by omega) (by omega), t2 k j (by omega)], fun j => by rw [h.2.1 26 j (by omega) (by omega) (by omega), t2 26 j (by omega)], by rw [o 71 (by omega) (by omega) (by omega) (by omega) (by omega) (by omega) (by omega) (by omega) (by omega)], by omega, h.2.2.1.1.2.2⟩
theorem FF.fb (h : Fb T T1) (hF : FF t T1 T') : Fb T T' := by
  obtain ⟨a1, a2, a3, a4, a5, a6, a7, a8⟩ := h
  have ew : EW T' = EW T1 := by unfold EW; rw [hF.2.2.1 63 0 (by omega) (by omega) (by omega) (by omega)]
  exact ⟨by rw [hF.o (by omega) (by omega) (by omega)]; exact a1, by rw [hF.o (by omega) (by omega) (by omega)]; exact a2, fun k hk => by rw [hF.o (by omega) (by omega) (by omega)]; exact a3 k hk, fun k j hk => by rw [hF.2.2.1 k j (by omega) (by omega) (by omega) (by omega)]; exact a4 k j hk, fun j => by rw [hF.2.2.1 26 j (by omega) (by omega) (by omega) (by omega)]; exact a5 j, by rw [hF.2.2.2.2.2.2.2.1]; exact a6, by rw [ew]; exact a7, hF.2.2.2.1.1.2.2⟩
/-- the state behind the parse, as far as a build leaves it -/
def Fp (T T5 : gSt) : Prop := T5.1 0 = T.1 0 ∧ T5.1 2 0 = 1 ∧ T5.1 106 0 = 0 ∧ (∀ k, (78 ≤ k ∧ k ≠ 128) → k ≠ 106 → T5.1 k = T.1 k) ∧ (∀ k j, 78 ≤ k → T5.2 k j = T.2 k j) ∧ (∀ j, T5.2 26 j = T.2 26 j) ∧ T5.1 71 0 = T.1 71 0 ∧ T5.2 62 = T.2 62 ∧ T5.2 63 = T.2 63
theorem Fb.en (h : Fb T1 T') (hp : Fp T T1) {x : Int32} (h71 : T.1 71 0 = 0) : CbI T (sI (sI T' 1 0 0) 3 0 x) := by
  obtain ⟨a1, a2, a3, a4, a5, a6, a7, a8⟩ := h
  obtain ⟨b1, b2, b3, b4, b5, b6, b7, b8, b9⟩ := hp
  have o : ∀ k, k ≠ 1 → k ≠ 3 → (sI (sI T' 1 0 0) 3 0 x).1 k = T'.1 k := fun k h1 h3 => by rw [sI_ne h3, sI_ne h1]
  have ew : EW T1 = EW T := by unfold EW; rw [b9]
  refine ⟨by rw [o 0 (by omega) (by omega), a1]; exact b1, by rw [sI_ne (by omega), sI_v], by rw [o 2 (by omega) (by omega), a2]; exact b2, by rw [o 106 (by omega) (by omega), a3 106 (by omega)]; exact b3, fun k hk hk2 => by rw [o k (by omega) (by omega), a3 k hk.1]; exact b4 k hk hk2, fun k j hk => (a4 k j hk).trans (b5 k j hk), funext fun j => (a5 j).trans (b6 j), by rw [o 71 (by omega) (by omega), a6, b7]; exact h71, by rw [← ew]; exact a7, a8⟩
theorem FnR.o (h : FnR X S T) (o : ∀ k, k ≠ 1 → k ≠ 3 → T'.1 k = T.1 k) (o2 : T'.2 = T.2) : FnR X S T' := by
  obtain ⟨⟨a1, a2, a3, a4, a5, a6⟩, b, c, e, f⟩ := h
  have hF : TyF S S T T' := TyF.st rfl (fun _ _ _ => rfl) rfl (by rw [o2]) (by rw [o2])
  refine ⟨⟨?_, a2.st rfl rfl rfl rfl (fun k j hk => by rw [o k (by omega) (by omega)]) (fun j => by rw [o2]), a3, a4, by rw [o 53 (by omega) (by omega)]; exact a5, (a6.ag o2 (by rw [o 27 (by omega) (by omega)])).1⟩, b, c.eq hF (fun _ _ _ _ => rfl) (fun _ _ => rfl) (fun k h1 _ _ => o k (by omega) (by omega)) (fun j => by rw [o2]), e.st (o 52 (by omega) (by omega)) (fun _ _ _ => rfl), by rw [o 71 (by omega) (by omega)]; exact f⟩
  unfold TkC at a1 ⊢
  rw [o 25 (by omega) (by omega), o 21 (by omega) (by omega), o 22 (by omega) (by omega), o 23 (by omega) (by omega), o2]
  exact a1
theorem KdL.mo {Sf Sf' : gSt} (h42 : ∀ t, T'.1 42 t = T.1 42 t) : ∀ (xs : List It) (t c : Nat) (S : gSt) (n n' : Nat), AgK Sf Sf' T T' n n' → KdL X Sf T xs t c S n n' → KdL X Sf' T' xs t c S n n' := by
  intro xs
  induction xs with
  | nil => intro t c S n n' _ h; exact h
  | cons x xs ih =>
    intro t c S n n' ag h
    rw [KdL] at h ⊢
    by_cases c : S.1 12 t = 2
    · rw [if_pos c] at h ⊢
      obtain ⟨q, h1, h2, h3, h4, h5, h6⟩ := h
      exact ⟨q, h1, h2, by rw [h42]; exact h3, KdS.mo _ _ _ _ _ _ (ag.sub (Nat.le_refl _) (by omega)) h4, by rw [ag.rw h1 h2]; exact h5, ih _ _ _ _ _ (ag.sub (by omega) (Nat.le_refl _)) h6⟩
    · rw [if_neg c] at h ⊢
      exact ih _ _ _ _ _ ag h
/-- heads and funs, both sides -/
theorem y_check (hX : XO X) (hL : LX X) (hS : SPc X) (hz4 : xP X (xn X) ≤ 4000) (hnf : 16385 ≤ nf) (hz : ∀ q, xK X q = 4 → ¬ xN X q = 0) (hd : 542 ≤ d) (hp : pIts (xK X) 24 0 = .ok its) (hb : BsP X its S z) (h : PsR X its S T) (hc2 : ∀ v, v < 2 → T.1 52 v = 0) : wp (bi (PP nf d 126 T [] []) fun r11 l11 T11 => bi (PP nf d 48 T11 [] []) fun r12 l12 T12 => if r12 = (0 : Int32) then (rj_House_build_75 (PP nf d) nf T12) else (bi (PP nf d 178 T12 [] []) fun r14 l14 T14 => rj_House_build_75 (PP nf d) nf T14)) (fun r _ T' => (∃ T3 x, T' = sI (sI T3 1 0 0) 3 0 x ∧ Fb T T3) ∧ CbO X its S r T') := by
  have hl24 := h.1.2.1
  obtain ⟨hRm, ⟨T2, eT2, hRep, _, _⟩, _, _⟩ := hb
  obtain ⟨rk, rt⟩ := croom hL hS hz4 hp (RepP.l8 its _ _ _ hRep) hl24
  have hcF : cn (fnsL X its 0 0 (hdsS X its S)) < 6000 := room hL hS hz4 its S hp hRm
  have tg1 : Tg (sI S 65 0 1) := (ck0_65 hRm.1 hRm.2.1 hRm.2.2.2.2.1).1
  have fm : FH (sI S 65 0 1) (hdsS X its S) := (FH.hds its 0 0 _).tr FH.mn
  have tgH : Tg (hdsS X its S) := fm.tg tg1
  have hcH : cn (hdsS X its S) < 6000 := Nat.lt_of_le_of_lt ((fns_tr (X := X) its 0 0 (hdsS X its S)).1 tgH).2.1 hcF
  have hE := h.2.2.2.2.2.1.1
  refine wp_bi (y_heads (nf := nf) (d := d) hX hnf hz (by omega) h (by omega) hcH) ?_
  intro _ _ T1 ⟨f1, B1⟩
  have fb1 := f1.fb hE
  rw [c_snd (by omega), bis]
  rcases B1 with bf | hf
  · have n53 : ¬ T1.1 53 0 = 0 := by rw [bf.2.1]; exact bf.1
    rw [if_neg n53, if_pos rfl, b_end (by omega), if_neg n53, if_neg n53]
    have eL : fnsL X its 0 0 (hdsS X its S) = hdsS X its S := by
      cases its with
      | nil => rfl
      | cons y ys => rw [fnsL, if_neg bf.1]
    refine wp_some ⟨⟨T1, 0, rfl, fb1⟩, Or.inl ⟨?_, rfl, sI_v⟩⟩
    rw [eL]
    exact ⟨bf.1, by rw [sI_ne (by omega), sI_ne (by omega)]; exact bf.2.1, by rw [sI_ne (by omega), sI_ne (by omega)]; exact bf.2.2⟩
  · obtain ⟨h1, h2, h3, h4, h5, h6, h7, h8, h9, h10⟩ := hf
    have e53 : T1.1 53 0 = 0 := h1.1.2.2.2.2.1
    rw [if_pos e53, if_neg (by decide)]
    obtain ⟨d1, hd1⟩ : ∃ g, d = g + 1 := ⟨d - 1, by omega⟩
    have e178 : PP nf d 178 T1 [] [] = rl_Steps_check_2 (PP nf d1) nf nf T1 (nI 0) := by
      rw [hd1, e_Steps_check]
      rfl
    rw [e178]
    refine wp_bi (y_fns (nf := nf) (d := d1) hX hnf hz (by omega) its 0 0 1 nf T1 (by omega) (by rw [h6]; congr 1; omega) (by omega) h4 h3) ?_
    intro _ _ T3 ⟨f3, B3⟩
    have fb3 : Fb T T3 := f3.fb fb1
    have e27 : T3.1 27 0 = nI its.length := by rw [f3.o (by omega) (by omega) (by omega)]; exact h6
    rw [b_end (by omega)]
    have o : ∀ k, k ≠ 1 → k ≠ 3 → ∀ x : Int32, (sI (sI T3 1 0 0) 3 0 x).1 k = T3.1 k := fun k h1 h3 x => by rw [sI_ne h3, sI_ne h1]
    refine wp_some ⟨⟨T3, _, rfl, fb3⟩, ?_⟩
    rcases B3 (hdsS X its S) 0 0 h1 h2 (by rw [h5]; rfl) (by omega) (by omega) hcF with bf | ⟨u1, u2, ⟨n1, u3, u4, u5, u6⟩, u7⟩
    · have n53 : ¬ T3.1 53 0 = 0 := by rw [bf.2.1]; exact bf.1
      rw [if_neg n53, if_neg n53]
      exact Or.inl ⟨⟨bf.1, by rw [o 53 (by omega) (by omega)]; exact bf.2.1, by rw [o 54 (by omega) (by omega)]; exact bf.2.2⟩, rfl, sI_v⟩
    · have e53' : T3.1 53 0 = 0 := u1.1.2.2.2.2.1
      rw [if_pos e53', if_pos e53']
      have e52 : ∀ v, v < 2 → (sI (sI T3 1 0 0) 3 0 1).1 52 v = nI (cfT X v its) := fun v hv => by
        rw [o 52 (by omega) (by omega), f3.2.2.2.2.2.2.2.2 v hv, h8 v hv, hc2 v hv, Int32.zero_add]
      refine Or.inr ⟨e27, sI_v, by rw [o 27 (by omega) (by omega)]; exact e27, u1.o (fun k k1 k3 => o k k1 k3 1) rfl, ⟨n1, KdL.mo (T := T3) (Sf := fnsL X its 0 0 (hdsS X its S)) (fun t => by rw [o 42 (by omega) (by omega)]) its _ _ _ _ _ ⟨TyF.st rfl (fun _ _ _ => rfl) rfl rfl rfl, rfl, fun k ka kb => o k (by omega) (by omega) 1, fun g q g1 g2 _ _ => by rw [o g (by omega) (by omega)]⟩ u6, by rw [o 51 (by omega) (by omega)]; exact u3, by omega⟩, e52 0 (by omega), e52 1 (by omega)⟩
/-- THE BUILD of the class -/
theorem c_bld (hnf : 16385 ≤ nf) (hd : 543 ≤ d) (h : CbP T z) (hb : ∀ its, pIts (xK (mkX (T.1 0) z)) 24 0 = .ok its → BsP (mkX (T.1 0) z) its S z) : wp (PP nf d 3 T [] []) (fun r _ T' => CbI T T' ∧ CbE (mkX (T.1 0) z) S r T') := by
  obtain ⟨d, rfl⟩ : ∃ g, d = g + 1 := ⟨d - 1, by omega⟩
  obtain ⟨h1, h4, hch, hw, h71, hE, hE2⟩ := h
  have hch' : ∀ j, j < z → 0 ≤ T.1 0 j ∧ T.1 0 j ≤ 255 := fun j hj => hch j (by omega)
  have hX : XO (mkX (T.1 0) z) := XO_mk h4 hch'
  have hL : LX (mkX (T.1 0) z) := LX_mk h4 hch'
  obtain ⟨hS, hxz⟩ := SPc_mk (f := T.1 0) h4
  have hzz : ∀ q, xK (mkX (T.1 0) z) q = 4 → ¬ xN (mkX (T.1 0) z) q = 0 := fun q hq => rg_nz h4 hch' q hq
  rw [e_House_build]
  unfold rb_House_build
  rw [stK]
  have e192 : PP nf d 192 (sI T 2 0 1) [] [] = some (0, 0, sI (sI T 2 0 1) 106 0 0) := by
    obtain ⟨d1, hd1⟩ : ∃ g, d = g + 1 := ⟨d - 1, by omega⟩
    rw [hd1, e_Machine_halt]
    rfl
  rw [e192, bis]
  have e46 : PP nf d 46 (sI (sI T 2 0 1) 106 0 0) [] [] = some (0, 0, sI (sI (sA (sI (sI (sI T 2 0 1) 106 0 0) 51 0 0) 52 (fillF ((sI (sI (sI T 2 0 1) 106 0 0) 51 0 0).1 52) 0 7)) 53 0 0) 54 0 (-1)) := by
    obtain ⟨d1, hd1⟩ : ∃ g, d = g + 1 := ⟨d - 1, by omega⟩
    rw [hd1, e_Code_clear]
    rfl
  rw [e46, bis]
  have o3 : ∀ k, k ≠ 2 → k ≠ 106 → ¬ (51 ≤ k ∧ k ≤ 54) → (sI (sI (sA (sI (sI (sI T 2 0 1) 106 0 0) 51 0 0) 52 (fillF ((sI (sI (sI T 2 0 1) 106 0 0) 51 0 0).1 52) 0 7)) 53 0 0) 54 0 (-1)).1 k = T.1 k := fun k k1 k2 k3 => by
    rw [sI_ne (by omega), sI_ne (by omega)]
    show (if k = 52 then _ else (sI (sI (sI T 2 0 1) 106 0 0) 51 0 0).1 k) = _
    rw [if_neg (by omega), sI_ne (by omega), sI_ne (by omega), sI_ne (by omega)]
  have v3 : (sI (sI (sA (sI (sI (sI T 2 0 1) 106 0 0) 51 0 0) 52 (fillF ((sI (sI (sI T 2 0 1) 106 0 0) 51 0 0).1 52) 0 7)) 53 0 0) 54 0 (-1)).1 2 0 = 1 ∧ (sI (sI (sA (sI (sI (sI T 2 0 1) 106 0 0) 51 0 0) 52 (fillF ((sI (sI (sI T 2 0 1) 106 0 0) 51 0 0).1 52) 0 7)) 53 0 0) 54 0 (-1)).1 106 0 = 0 ∧ (sI (sI (sA (sI (sI (sI T 2 0 1) 106 0 0) 51 0 0) 52 (fillF ((sI (sI (sI T 2 0 1) 106 0 0) 51 0 0).1 52) 0 7)) 53 0 0) 54 0 (-1)).1 51 0 = 0 ∧ (sI (sI (sA (sI (sI (sI T 2 0 1) 106 0 0) 51 0 0) 52 (fillF ((sI (sI (sI T 2 0 1) 106 0 0) 51 0 0).1 52) 0 7)) 53 0 0) 54 0 (-1)).1 53 0 = 0 ∧ ∀ v, v < 7 → (sI (sI (sA (sI (sI (sI T 2 0 1) 106 0 0) 51 0 0) 52 (fillF ((sI (sI (sI T 2 0 1) 106 0 0) 51 0 0).1 52) 0 7)) 53 0 0) 54 0 (-1)).1 52 v = 0 := by
    refine ⟨rfl, rfl, rfl, ?_, fun v hv => ?_⟩
    · rw [sI_ne (by omega), sI_v]
    · rw [sI_ne (by omega), sI_ne (by omega)]
      show fillF _ 0 7 v = 0
      unfold fillF
      rw [if_pos hv]
  have w3 : (sI (sI (sA (sI (sI (sI T 2 0 1) 106 0 0) 51 0 0) 52 (fillF ((sI (sI (sI T 2 0 1) 106 0 0) 51 0 0).1 52) 0 7)) 53 0 0) 54 0 (-1)).2 = T.2 := rfl
  generalize sI (sI (sA (sI (sI (sI T 2 0 1) 106 0 0) 51 0 0) 52 (fillF ((sI (sI (sI T 2 0 1) 106 0 0) 51 0 0).1 52) 0 7)) 53 0 0) 54 0 (-1) = T3 at *
  obtain ⟨q2, q106, q51, q53, q52⟩ := v3
  have e0 : T3.1 0 = T.1 0 := o3 0 (by omega) (by omega) (by omega)
  have e14 : PP nf d 14 T3 [T3.1 1 0] [] = some (0, 0, scanS T3 z) := by
    obtain ⟨d1, hd1⟩ : ∃ g, d = g + 1 := ⟨d - 1, by omega⟩
    rw [hd1, e_Source_scan]
    unfold rb_Source_scan
    rw [o3 1 (by omega) (by omega) (by omega), h1, gd, if_pos ⟨⟨by rw [nI_toInt (by omega)]; omega, by rw [nI_toInt (by omega)]; omega⟩, fun j hj => by rw [e0]; exact hch j hj⟩, nc (by omega)]
  rw [e14, bis]
  have hTk : TkC (mkX (T.1 0) z) (scanS T3 z) := by
    have := scan_tk (T := T3) h4 (fun j hj => by rw [w3]; exact hw j hj)
    rw [e0] at this
    exact this
  have o4 : ∀ k, ¬ (11 ≤ k ∧ k ≤ 25) → (scanS T3 z).1 k = T3.1 k := fun k hk => by
    unfold scanS
    dsimp only
    rw [if_neg (by omega), if_neg (by omega), if_neg (by omega), if_neg (by omega), if_neg (by omega), if_neg (by omega), if_neg (by omega), if_neg (by omega), if_neg (by omega), if_neg (by omega), if_neg (by omega), if_neg (by omega), if_neg (by omega), if_neg (by omega)]
  have n4 : (scanS T3 z).1 19 0 = nI 1 ∧ (scanS T3 z).1 11 0 = 0 ∧ (scanS T3 z).1 12 0 = 0 ∧ (scanS T3 z).1 13 0 = 0 := ⟨rfl, rfl, rfl, rfl⟩
  have w4 : ∀ k, k ≠ 24 → (scanS T3 z).2 k = T.2 k := fun k hk => by
    rw [← w3]
    unfold scanS
    dsimp only
    rw [if_neg hk]
  generalize scanS T3 z = T4 at *
  refine wp_bi (c_parse (nf := nf) (d := d) hX (by omega) (by omega) hTk (by rw [o4 53 (by omega)]; exact q53) n4.1) ?_
  intro _ _ T5 h5
  -- what the parse leaves
  have fpp : FcI 0 T4 T5 → Fp T T5 := fun fc => by
    have o5 : ∀ k, k = 0 ∨ k = 2 ∨ k = 71 ∨ (78 ≤ k ∧ k ≠ 128) → T5.1 k = T4.1 k := fun k hk => by
      funext j
      exact fc.1 k j (by omega) (by omega) (by omega) (by omega) (by omega) (by omega) (by omega) (by omega) (by omega) (by omega)
    have w5 : ∀ k j, k ≠ 30 → T5.2 k j = T4.2 k j := fun k j hk => fc.2 k j (by omega)
    refine ⟨by rw [o5 0 (by omega), o4 0 (by omega)]; exact e0, by rw [o5 2 (by omega), o4 2 (by omega)]; exact q2, by rw [o5 106 (by omega), o4 106 (by omega)]; exact q106, fun k hk hk2 => by rw [o5 k (by omega), o4 k (by omega), o3 k (by omega) hk2 (by omega)], fun k j hk => by rw [w5 k j (by omega), w4 k (by omega)], fun j => by rw [w5 26 j (by omega), w4 26 (by omega)], by rw [o5 71 (by omega), o4 71 (by omega), o3 71 (by omega) (by omega) (by omega)], funext fun j => by rw [w5 62 j (by omega), w4 62 (by omega)], funext fun j => by rw [w5 63 j (by omega), w4 63 (by omega)]⟩
  have fbr : Fp T T5 → Fb T5 T5 := fun fp => by
    obtain ⟨_, _, _, _, _, _, _, b8, b9⟩ := fp
    have ew : EW T5 = EW T := by unfold EW; rw [b9]
    exact ⟨rfl, rfl, fun _ _ => rfl, fun _ _ _ => rfl, fun _ => rfl, rfl, by omega, fun s hs => by unfold SW; rw [b8, ew]; exact hE2 s hs⟩
  rw [c_snd (by omega), bis]
  generalize hp : pIts (xK (mkX (T.1 0) z)) 24 0 = res at h5
  cases res with
  | error e =>
    obtain ⟨hBd, fc⟩ := h5
    have fp := fpp fc
    have n53 : ¬ T5.1 53 0 = 0 := by rw [hBd.2.1]; decide
    rw [if_neg n53, if_pos rfl, c_snd (by omega), bis, if_neg n53, if_pos rfl, b_end (by omega), if_neg n53, if_neg n53]
    refine wp_some ⟨(fbr fp).en fp h71, Or.inl ⟨e, hp, rfl, sI_v, ?_, ?_⟩⟩
    · rw [sI_ne (by omega), sI_ne (by omega)]; exact hBd.2.1
    · rw [sI_ne (by omega), sI_ne (by omega)]; exact hBd.2.2.1
  | ok its =>
    obtain ⟨p', j, hG, p1, p2, fc, hN, hl, h27, hR⟩ := h5
    have fp := fpp fc
    have hB := hb its hp
    obtain ⟨hRm, ⟨T2, eT2, hRep, nN2, nW2⟩, hS1, hS88⟩ := hB
    have e53 : T5.1 53 0 = 0 := hG.2.2.2.1
    have jx := hG.2.1
    have xn4 := hX.1
    rw [Nat.zero_add] at h27
    rw [if_pos e53, if_neg (by decide)]
    have fg := pIts_fg _ _ _ hp (pIts_p _ _ _ hp)
    have hJ : JL (mkX (T.1 0) z) S T5 its 0 0 0 1 := by
      rw [← eT2]
      exact jl_mk hX (Nat.le_refl _) (by omega) nW2 (by omega) its 0 0 0 0 1 hRep hR hRm.2.2.2.2.2.1 fg (by omega) (by omega)
    have o5 : ∀ k, k = 51 ∨ k = 52 ∨ k = 71 → T5.1 k = T3.1 k := fun k hk => by
      funext i
      rw [fc.1 k i (by omega) (by omega) (by omega) (by omega) (by omega) (by omega) (by omega) (by omega) (by omega) (by omega), o4 k (by omega)]
    have e52 : ∀ v, v < 7 → T5.1 52 v = 0 := fun v hv => by rw [o5 52 (by omega)]; exact q52 v hv
    obtain ⟨b1, b2, b3, b4, b5, b6, b7, b8, b9⟩ := fp
    have ew : EW T5 = EW T := by unfold EW; rw [b9]
    have hPs : PsR (mkX (T.1 0) z) its S T5 := ⟨hRm, hJ, h27, hG.2.2.2.2.2.1, e53, ⟨by rw [ew]; exact hE, fun s hs => by unfold SW; rw [b8, ew]; exact hE2 s hs⟩, by rw [hG.2.2.2.2.2.1.2.1, hxz]; exact hS1, ⟨by rw [e52 2 (by omega), hS88 92 (by omega) (by omega)], by rw [e52 3 (by omega), hS88 88 (by omega) (by omega)], by rw [e52 4 (by omega), hS88 89 (by omega) (by omega)], by rw [e52 5 (by omega), hS88 90 (by omega) (by omega)], by rw [e52 6 (by omega), hS88 91 (by omega) (by omega)]⟩, by rw [b7]; exact h71, by rw [o5 51 (by omega)]; exact q51, by rw [hN 11 0 (by omega) (by omega) (by omega), hN 12 0 (by omega) (by omega) (by omega), hN 13 0 (by omega) (by omega) (by omega)]; exact n4.2⟩
    refine wp_mono (y_check (nf := nf) (d := d) (z := z) hX hL hS (by omega) hnf hzz (by omega) hp ⟨hRm, ⟨T2, eT2, hRep, nN2, nW2⟩, hS1, hS88⟩ hPs (fun v hv => e52 v (by omega))) ?_
    rintro r _ _ ⟨⟨T6, x, rfl, fb⟩, hO⟩
    exact ⟨fb.en ⟨b1, b2, b3, b4, b5, b6, b7, b8, b9⟩ h71, Or.inr ⟨its, hp, hO⟩⟩
end CBD
