/-! heads: their TYPES keep to their own REGIONS */
-/
def FK (U Sf : gSt) : Prop := (∀ k, k < 64 → k ≠ 7 → k ≠ 8 → k ≠ 24 → k ≠ 26 → k ≠ 30 → Sf.1 k = U.1 k) ∧ Trw U Sf ∧ (¬ U.1 7 0 = 0 → ¬ Sf.1 7 0 = 0)
def mxS (Sf U : gSt) : gSt := (fun k => if k = 24 ∨ k = 26 ∨ k = 30 then U.1 k else Sf.1 k, Sf.2)
section SWC
variable {U U' S T Sf : gSt} {X : Lx} {it t c n tk j e rt w k : Nat} {l : List Nat} {x : Int32} {ρ : Nat → Nat} {Q : Nat → Prop}
theorem FK.fh (h : FH U U') (h2 : FK U' Sf) : FK U Sf := ⟨fun k a b c d e f => (h2.1 k a b c d e f).trans (h.1 k (by omega) b c d e f), h.2.2.1.tr h2.2.1, fun q => h2.2.2 (h.2.2.2 q)⟩
theorem FK.fw (h : FW U Sf) : FK U Sf := ⟨fun k a b c _ _ _ => h.1 k a b c, h.2.1, h.2.2⟩
theorem FK.lt (h : FK U Sf) (g : Tg U) (c : cn Sf < 6000) : cn U < 6000 := Nat.lt_of_le_of_lt (h.2.1 g).2.1 c
theorem mx_o (h : k ≠ 24) (h2 : k ≠ 26) (h3 : k ≠ 30) : (mxS Sf U).1 k = Sf.1 k := by
  show (if k = 24 ∨ k = 26 ∨ k = 30 then U.1 k else Sf.1 k) = Sf.1 k
  rw [if_neg (by omega)]
theorem cn_mx : cn (mxS Sf U) = cn Sf := by unfold cn; rw [mx_o (by omega) (by omega) (by omega)]
theorem rw_mx {p : Nat} : rwT (mxS Sf U) p = rwT Sf p := by
  unfold rwT
  rw [mx_o (by omega) (by omega) (by omega), mx_o (by omega) (by omega) (by omega), mx_o (by omega) (by omega) (by omega), mx_o (by omega) (by omega) (by omega), mx_o (by omega) (by omega) (by omega)]
theorem FK.mx (h : FK U Sf) : FW U (mxS Sf U) := by
  refine ⟨fun k k1 k2 k3 => ?_, fun g => ?_, ?_⟩
  · by_cases q : k = 24 ∨ k = 26 ∨ k = 30
    · show (if k = 24 ∨ k = 26 ∨ k = 30 then U.1 k else Sf.1 k) = U.1 k
      rw [if_pos q]
    · rw [mx_o (by omega) (by omega) (by omega)]
      exact h.1 k k1 k2 k3 (by omega) (by omega) (by omega)
  · obtain ⟨a1, a2, a3⟩ := h.2.1 g
    rw [cn_mx]
    refine ⟨?_, a2, fun c p hp => by rw [rw_mx]; exact a3 c p hp⟩
    unfold Tg at a1 ⊢
    rw [cn_mx, mx_o (by omega) (by omega) (by omega)]
    exact a1
  · rw [mx_o (by omega) (by omega) (by omega)]
    exact h.2.2
theorem gty_mx : gty (mxS Sf U) ρ x = gty Sf ρ x := by
  have tfe : ∀ k y, k ≠ 24 → k ≠ 26 → k ≠ 30 → tf (mxS Sf U) k y = tf Sf k y := fun k y a b c => by unfold tf; rw [mx_o a b c]
  have key : ∀ (f : Nat) (x : Int32), gTr (mxS Sf U) ρ f x = gTr Sf ρ f x := by
    intro f
    induction f with
    | zero => intro x; rfl
    | succ f ih =>
      intro x
      rw [gTr, gTr, ih, tfe 66 x (by omega) (by omega) (by omega), tfe 67 x (by omega) (by omega) (by omega), tfe 68 x (by omega) (by omega) (by omega), tfe 69 x (by omega) (by omega) (by omega), tfe 70 x (by omega) (by omega) (by omega), mx_o (by omega) (by omega) (by omega)]
  exact key _ _
theorem me_k (hR : Rws Sf) (hc : cn Sf < 6000) {i : Nat} (hw : tyW X 6 i) (h : Ckm T) (h0 : (meX X 6 T i).2.1 7 0 = 0) (hF : FK (meX X 6 T i).2 Sf) (hs : ∀ c, sght T c → Q c) : TyOf Sf Q (meX X 6 T i).1 := by
  have hR' : Rws (mxS Sf (meX X 6 T i).2) := fun p h1 h2 => by
    rw [cn_mx] at h2
    have := hR p h1 h2
    rw [rw_mx]
    unfold rwOk inn at this ⊢
    rw [mx_o (by omega) (by omega) (by omega)]
    exact this
  have z := me_in (X := X) (Sf := mxS Sf (meX X 6 T i).2) hR' (by rw [cn_mx]; exact hc) 6 T i hw h h0 hF.mx
  exact fun ρ ρ' he => by
    rw [← gty_mx (U := (meX X 6 T i).2), ← gty_mx (U := (meX X 6 T i).2) (ρ := ρ')]
    exact z ρ ρ' (fun c hc => he c (hs c hc))
theorem sg_eq (e71 : U.1 71 0 = T.1 71 0) (e73 : U.1 73 = T.1 73) {z : Nat} (h : sght U z) : sght T z := by
  rcases h with w | ⟨c12, k, k1, k2⟩
  · exact Or.inl w
  · exact Or.inr ⟨c12, k, by unfold rn at k1 ⊢; rw [← e71]; exact k1, by rw [← e73]; exact k2⟩
theorem fd_in (hR : Rws Sf) (hc6 : cn Sf < 6000) (hY : ∀ j, j < l.length → tyW X 6 (l.getD j 0 + 2)) : ∀ (k j : Nat) (S : gSt), j + k = l.length → Ckm S → (∀ z, sght S z → Q z) → FK (fdL X c l k j S) Sf → (fdL X c l k j S).1 7 0 = 0 → (∀ f, f < j → TyOf Sf Q (S.1 24 (c + f))) → (∀ f, f < l.length → TyOf Sf Q ((fdL X c l k j S).1 24 (c + f))) ∧ (∀ z, sght (fdL X c l k j S) z → Q z) := by
  intro k
  induction k with
  | zero => intro j S hj _ hs _ _ h; exact ⟨fun f hf => h f (by omega), hs⟩
  | succ k ih =>
    intro j S hj h hs hF h0 hp
    have s0 : S.1 7 0 = 0 := (FH.fd _ _ _).ok h0
    rw [fdL] at hF h0 ⊢
    rw [if_pos s0] at hF h0 ⊢
    have fh1 : FH S (fdS X c l.length (l.getD j 0) j S) := FH.fds
    have fK1 := FK.fh (FH.fd (X := X) (c := c) (l := l) k (j + 1) _) hF
    have c1 := fK1.lt (fh1.tg h.1) hc6
    have ck1 := fdS_ck h (hY j (by omega)) c1
    have z0 := (FH.fd (X := X) (c := c) (l := l) k (j + 1) _).ok h0
    have o : ∀ g, g = 71 ∨ g = 73 → (fdS X c l.length (l.getD j 0) j S).1 g = S.1 g := fun g hg => by
      unfold fdS
      rw [sI_ne (by omega), (FE.me _ _ _).1 g (by omega), fdN_o g (by omega) (by omega)]
    refine ih (j + 1) _ (by omega) ck1 (fun z hz => hs z (sg_eq (by rw [o 71 (by omega)]) (o 73 (by omega)) hz)) hF h0 (fun f hf => ?_)
    by_cases e : f = j
    · subst e
      have e24 : (fdS X c l.length (l.getD f 0) f S).1 24 (c + f) = (meX X 6 (fdN c l.length (xN X (l.getD f 0)) f (nI (xP X (l.getD f 0))) S) (l.getD f 0 + 2)).1 := by unfold fdS; rw [rdI, if_pos ⟨rfl, rfl⟩]
      rw [e24]
      have z1 := z0
      have fK2 := fK1
      unfold fdS at z1 fK2
      rw [sI_ne (by omega)] at z1
      exact me_k hR hc6 (hY f (by omega)) h.fdn z1 (FK.fh (FH.wr (by omega)) fK2) (fun z hz => hs z (sg_eq (by rw [fdN_o 71 (by omega) (by omega)]) (fdN_o 73 (by omega) (by omega)) hz))
    · rw [fdS_24 (by omega)]
      exact hp f (by omega)
theorem hA_sg (h15 : S.1 15 t = nI e) (he : e ≤ 3) {z : Nat} (h : sght (hdA t S) z) : z ≤ e := by
  have f : FH S (drL t (S.1 15 t).toNatClampNeg 0 (nmS t S)) := FH.nm.tr (FH.dr _ _ _)
  have e15 : ((drL t (S.1 15 t).toNatClampNeg 0 (nmS t S)).1 15 t).toNatClampNeg = e := by rw [f.1 15 (by omega) (by omega) (by omega) (by omega) (by omega) (by omega), h15, nc (by omega)]
  have e71 : (hdA t S).1 71 0 = nI e := by
    unfold hdA sgS
    rw [e15, sgL_n e 0 _ (by rw [sI_v]; rfl), Nat.zero_add]
  have e73 : ∀ q, q < e → (hdA t S).1 73 q = nI (q + 1) := fun q hq => by
    unfold hdA sgS
    rw [e15]
    exact sgL_73 e 0 _ (fun q hq => absurd hq (Nat.not_lt_zero _)) q (by omega)
  rcases h with w | ⟨c12, k, k1, k2⟩
  · omega
  · have er : rn (hdA t S) = e := by unfold rn; rw [e71, nc (by omega)]
    rw [e73 k (by omega)] at k2
    have := nI_inj (by omega) (by omega) k2
    omega
theorem hd_in1 (hR : Rws Sf) (hc6 : cn Sf < 6000) {z : It} (hI : HI X T t c z) (h : Ck0 T) (hF : FK (hdI X t c z T) Sf) (h0 : (hdI X t c z T).1 7 0 = 0) : (∀ f, f < z.2.2.1.length → TyOf Sf (fun a => a ≤ z.2.1) ((hdI X t c z T).1 24 (c + f))) ∧ (0 ≤ T.1 25 t → T.1 12 t = 2 → TyOf Sf (fun a => a ≤ z.2.1) ((hdI X t c z T).1 26 t)) ∧ (T.1 12 t = 2 → fi ((hdI X t c z T).1 30 t) 0 = false) := by
  obtain ⟨i, e, l, rt, dt, n, wt, w, b⟩ := z
  obtain ⟨hY, hO⟩ := hI
  have hY : HY X T t c l := hY
  have hO : HO X T t rt n w e := hO
  have eH : hdI X t c (i, e, l, rt, dt, n, wt, w, b) T = tlS X t rt n w (fdL X c l l.length 0 (hdA t T)) := rfl
  rw [eH] at hF h0 ⊢
  show (∀ f, f < l.length → TyOf Sf (fun a => a ≤ e) _) ∧ (_ → _ → TyOf Sf (fun a => a ≤ e) _) ∧ _
  have h1 := h.hA hO.2.1 hO.2.2.1
  have fF := FH.fd (X := X) (c := c) (l := l) l.length 0 (hdA t T)
  have fK1 : FK (fdL X c l l.length 0 (hdA t T)) Sf := FK.fh FH.tl hF
  have c1 := fK1.lt (fF.tg h1.1) hc6
  have ty := fun j hj => (hY.2.2.2.2.2.2.1 j hj).1
  have ck := Ckm.fd (c := c) ty _ _ _ (Nat.zero_add _) h1 c1
  obtain ⟨td, sg⟩ := fd_in (Q := fun a => a ≤ e) (c := c) hR hc6 ty l.length 0 (hdA t T) (Nat.zero_add _) h1 (fun z hz => hA_sg hO.2.1 hO.2.2.1 hz) fK1 (FH.tl.ok h0) (fun f hf => absurd hf (Nat.not_lt_zero _))
  have fS : FH T (fdL X c l l.length 0 (hdA t T)) := FH.hA.tr (FH.fd _ _ _)
  generalize fdL X c l l.length 0 (hdA t T) = S at *
  have e12 : S.1 12 t = T.1 12 t := by rw [fS.1 12 (by omega) (by omega) (by omega) (by omega) (by omega) (by omega)]
  have e24 : (tlS X t rt n w S).1 24 = S.1 24 := by
    unfold tlS
    split
    · rw [whL_o 24 (by omega) (by omega), deL_o 24 (by omega) (by omega) (by omega)]
      unfold rtS
      split
      · rw [sI_ne (by omega), sI_ne (by omega)]
      · rw [sI_ne (by omega), sI_ne (by omega), (FE.me _ _ _).1 24 (by omega)]
    · rfl
  refine ⟨fun f hf => by rw [e24]; exact td f hf, fun h25 h12 => ?_, fun h12 => ?_⟩
  · have c12 : (2 : Int32) ≤ S.1 12 t := by rw [e12, h12]; decide
    have hR2 := (hO.fh fS).1
    have r25 : S.1 25 t = T.1 25 t := by rw [fS.1 25 (by omega) (by omega) (by omega) (by omega) (by omega) (by omega)]
    unfold tlS at hF h0 ⊢
    rw [if_pos c12] at hF h0 ⊢
    have fw := FH.wh (it := t) (2 * w) 0 (deL t n 0 (rtS X t rt S))
    have fd : FH (rtS X t rt S) (deL t n 0 (rtS X t rt S)) := FH.de _ _ _
    have r0 := fd.ok (fw.ok h0)
    have rK := FK.fh fd (FK.fh fw hF)
    rw [whL_o 26 (by omega) (by omega), deL_o 26 (by omega) (by omega) (by omega)]
    by_cases zr : rt = 0
    · unfold HR at hR2
      rw [if_pos zr, r25] at hR2
      rw [hR2] at h25
      exact absurd h25 (by decide)
    · unfold rtS at r0 rK ⊢
      rw [if_neg zr] at r0 rK ⊢
      rw [sI_ne (by omega), sI_ne (by omega)] at r0
      rw [sI_ne (by omega), rdI, if_pos ⟨rfl, rfl⟩]
      exact me_k hR hc6 (hR2.ty zr) ck r0 (FK.fh (FH.wr (by omega)) (FK.fh (FH.wr (by omega)) rK)) sg
  · have c12 : (2 : Int32) ≤ S.1 12 t := by rw [e12, h12]; decide
    unfold tlS
    rw [if_pos c12, whL_o 30 (by omega) (by omega)]
    have e15 : (T.1 15 t).toNatClampNeg ≤ 3 := by
      rw [hO.2.1, nc (by have := hO.2.2.1; omega)]
      exact hO.2.2.1
    refine de_0 (S := T) e15 n 0 _ ?_ ?_
    · rw [(FH.rts (X := X) (it := t) (rt := rt)).1 15 (by omega) (by omega) (by omega) (by omega) (by omega) (by omega), fS.1 15 (by omega) (by omega) (by omega) (by omega) (by omega) (by omega)]
    · unfold rtS
      split
      · rw [sI_v, fi_0]
      · rw [sI_v, fi_0]
theorem hds_in (hR : Rws Sf) (hc6 : cn Sf < 6000) : ∀ (xs : List It) (t c : Nat) (S : gSt), HIs X S xs t c → Ck0 S → FK (hdsL X xs t c S) Sf → (hdsL X xs t c S).1 7 0 = 0 → ∀ u, t ≤ u → u < t + xs.length → ∃ c' x, (∃ U, FH S U ∧ HI X U u c' x) ∧ (∀ f, f < x.2.2.1.length → TyOf Sf (fun a => a ≤ x.2.1) ((hdsL X xs t c S).1 24 (c' + f))) ∧ (0 ≤ S.1 25 u → S.1 12 u = 2 → TyOf Sf (fun a => a ≤ x.2.1) ((hdsL X xs t c S).1 26 u)) ∧ (S.1 12 u = 2 → fi ((hdsL X xs t c S).1 30 u) 0 = false) := by
  intro xs
  induction xs with
  | nil => intro t c S _ _ _ _ u h1 h2; exact absurd h2 (by show ¬ u < t + 0; omega)
  | cons x xs ih =>
    intro t c S hI h hF h0 u u1 u2
    rw [List.length_cons] at u2
    have s0 : S.1 7 0 = 0 := (FH.hds _ _ _ _).ok h0
    rw [hdsL] at hF h0 ⊢
    rw [if_pos s0] at hF h0 ⊢
    have fh : FH S (hdI X t c x S) := FH.hd
    have fr := FH.hds (X := X) xs (t + 1) (c + x.2.2.1.length) (hdI X t c x S)
    have fK1 := FK.fh fr hF
    have c1 := fK1.lt (fh.tg h.1) hc6
    have ck := hd_ck hI.1.1 hI.1.2 h c1
    have f2 := hds_fr (X := X) xs (t + 1) (c + x.2.2.1.length) (hdI X t c x S)
    by_cases e : u = t
    · subst e
      obtain ⟨a1, a2, a3⟩ := hd_in1 hR hc6 hI.1 h fK1 (fr.ok h0)
      refine ⟨c, x, ⟨S, FH.rf, hI.1⟩, fun f hf => by rw [f2.1 _ (by omega)]; exact a1 f hf, fun h25 h12 => by rw [f2.2 u (by omega)]; exact a2 h25 h12, fun h12 => ?_⟩
      rw [hds_30 (X := X) xs (u + 1) (c + x.2.2.1.length) (hdI X u c x S) u (by omega)]
      exact a3 h12
    · obtain ⟨c', x', b1, b2, b3, b4⟩ := ih (t + 1) (c + x.2.2.1.length) _ (HIs.fh fh _ _ _ hI.2) ck.to0 hF h0 u (by omega) (by omega)
      have o : ∀ k, k = 12 ∨ k = 15 ∨ k = 18 ∨ k = 19 ∨ k = 25 ∨ k = 27 ∨ k = 31 → (hdI X t c x S).1 k = S.1 k := fun k hk => fh.1 k (by omega) (by omega) (by omega) (by omega) (by omega) (by omega)
      rw [o 25 (by omega), o 12 (by omega)] at b3
      rw [o 12 (by omega)] at b4
      obtain ⟨V, v1, v2⟩ := b1
      exact ⟨c', x', ⟨V, fh.tr v1, v2⟩, b2, b3, b4⟩
end SWC
