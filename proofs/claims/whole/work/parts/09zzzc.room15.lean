/-! room for types: heads -/
def tyN (X : Lx) (i : Nat) : Nat := tyE X 6 i - i
def fcn (X : Lx) (l : List Nat) : Nat → Nat → Nat
  | 0, _ => 0
  | k + 1, j => tyN X (l.getD j 0 + 2) + fcn X l k (j + 1)
/-- what a head may make, twice -/
def hcs (X : Lx) (x : It) : Nat := fcn X x.2.2.1 x.2.2.1.length 0 + (if x.2.2.2.1 = 0 then 0 else tyN X x.2.2.2.1)
def fV (X : Lx) (l : List Nat) : Prop := ∀ k, k < l.length → tyV X 5 (l.getD k 0 + 2)
def ItV (X : Lx) (x : It) : Prop := fV X x.2.2.1 ∧ (x.2.2.2.1 ≠ 0 → tyV X 5 x.2.2.2.1)
def TV (S : gSt) (x : Int32) : Prop := TD S x ∧ dpt S 7 x ≤ 5
def itV (S : gSt) (t c : Nat) (z : It) : Prop := (∀ f, f < z.2.2.1.length → TV S (S.1 24 (c + f))) ∧ (0 ≤ S.1 25 t → TV S (S.1 26 t) ∧ (S.1 15 t = 0 → aH S 7 (S.1 26 t)))
def itVs (S : gSt) : List It → Nat → Nat → Prop
  | [], _, _ => True
  | x :: xs, t, c => itV S t c x ∧ itVs S xs (t + 1) (c + x.2.2.1.length)
def hcL (X : Lx) : List It → Nat
  | [] => 0
  | x :: xs => hcs X x + hcL X xs
section RMH
variable {nf d : Nat} {T T' T1 S S' : gSt} {X : Lx} {it r k j c n tk w i f rt t : Nat} {l : List Nat} {x y : Int32} {z : It}
theorem cn_fdN {v : Int64} : cn (fdN c n v j x T) = cn T := by unfold cn; rw [fdN_o 65 (by omega) (by omega)]
theorem fd_cn (hY : ∀ j, j < l.length → tyW X 6 (l.getD j 0 + 2)) : ∀ (k j : Nat) (S : gSt), j + k = l.length → Tg S → 2 * cn (fdL X c l k j S) ≤ 2 * cn S + fcn X l k j := by
  intro k
  induction k with
  | zero => intro j S _ _; exact Nat.le_refl _
  | succ k ih =>
    intro j S hj hg
    rw [fdL, fcn]
    split
    · have i1 := ih (j + 1) (fdS X c l.length (l.getD j 0) j S) (by omega) (FH.fds.tg hg)
      have m := me_cn (X := X) 6 (fdN c l.length (xN X (l.getD j 0)) j (nI (xP X (l.getD j 0))) S) (l.getD j 0 + 2) (hY j (by omega)) (FH.fdn.tg hg)
      rw [cn_fdN] at m
      have e : cn (fdS X c l.length (l.getD j 0) j S) = cn (meX X 6 (fdN c l.length (xN X (l.getD j 0)) j (nI (xP X (l.getD j 0))) S) (l.getD j 0 + 2)).2 := by unfold fdS; exact cn_w (by omega)
      unfold tyN
      omega
    · omega
theorem cn_de : ∀ (k j : Nat) (T : gSt), cn (deL it k j T) = cn T := fun k j T => by unfold cn; rw [deL_o 65 (by omega) (by omega) (by omega)]
theorem cn_wh2 : ∀ (k j : Nat) (T : gSt), cn (whL it k j T) = cn T := fun k j T => by unfold cn; rw [whL_o 65 (by omega) (by omega)]
theorem cn_hA : cn (hdA it T) = cn T := by
  unfold cn hdA sgS
  rw [sgL_o 65 (by omega) (by omega), sI_ne (by omega), drL_o 65 (by omega) (by omega)]
  unfold nmS
  split
  · rfl
  · rw [flT_o (by omega) (by omega)]
theorem hd_cn (hI : HI X T t c z) (hg : Tg T) : 2 * cn (hdI X t c z T) ≤ 2 * cn T + hcs X z := by
  obtain ⟨hY, hO⟩ := hI
  have f1 := fd_cn (c := c) (fun j hj => (hY.2.2.2.2.2.2.1 j hj).1) z.2.2.1.length 0 (hdA t T) (by omega) (FH.hA.tg hg)
  rw [cn_hA] at f1
  have g1 := (FH.fd (X := X) (c := c) (l := z.2.2.1) z.2.2.1.length 0 (hdA t T)).tg (FH.hA.tg hg)
  unfold hdI hdS hcs
  generalize fdL X c z.2.2.1 z.2.2.1.length 0 (hdA t T) = S at *
  unfold tlS
  split
  · rw [cn_wh2, cn_de]
    unfold rtS
    by_cases z0 : z.2.2.2.1 = 0
    · rw [if_pos z0, if_pos z0, cn_w (by omega), cn_w (by omega)]
      omega
    · rw [if_neg z0, if_neg z0, cn_w (by omega), cn_w (by omega)]
      have m := me_cn (X := X) 6 S z.2.2.2.1 (hO.1.ty z0) g1
      unfold tyN
      omega
  · omega
theorem hds_cn : ∀ (xs : List It) (t c : Nat) (S : gSt), HIs X S xs t c → Tg S → 2 * cn (hdsL X xs t c S) ≤ 2 * cn S + hcL X xs := by
  intro xs
  induction xs with
  | nil => intro t c S _ _; exact Nat.le_refl _
  | cons x xs ih =>
    intro t c S hI hg
    rw [hdsL, hcL]
    split
    · have fh : FH S (hdI X t c x S) := FH.hd
      have := ih (t + 1) (c + x.2.2.1.length) (hdI X t c x S) (HIs.fh fh _ _ _ hI.2) (fh.tg hg)
      have := hd_cn hI.1 hg
      omega
    · omega
-- how deep the types of heads are
theorem TV.fh (h : TV T x) (hF : FH T T') (hg : Tg T) (hR : Rws T) (hc : cn T' < 6000) : TV T' x := ⟨h.1.fh hF hg hc, by rw [dpt_up hg hR ((hF.2.2.1 hg).2.2 hc) 7 x h.1.1]; exact h.2⟩
theorem fdS_tv (h : Ckm T) (hw : tyW X 6 (tk + 2)) (hv : tyV X 5 (tk + 2)) (hc : cn (fdS X c n tk j T) < 6000) (h0 : (fdS X c n tk j T).1 7 0 = 0) : TV (fdS X c n tk j T) ((fdS X c n tk j T).1 24 (c + j)) := by
  refine ⟨fdS_td h hw hc h0, ?_⟩
  have e24 : (fdS X c n tk j T).1 24 (c + j) = (meX X 6 (fdN c n (xN X tk) j (nI (xP X tk)) T) (tk + 2)).1 := by unfold fdS; rw [rdI, if_pos ⟨rfl, rfl⟩]
  rw [e24]
  unfold fdS at hc h0 ⊢
  rw [cn_w (by omega)] at hc
  rw [sI_ne (by omega)] at h0
  have m := (me_rm 6 5 _ _ hv hw h.fdn hc h0).1
  rw [dpt_same (fun k hk => sI_ne (by omega))]
  exact m
theorem fd_tv (hY : ∀ j, j < l.length → tyW X 6 (l.getD j 0 + 2)) (hV : fV X l) : ∀ (k j : Nat) (S : gSt), j + k = l.length → Ckm S → cn (fdL X c l k j S) < 6000 → (fdL X c l k j S).1 7 0 = 0 → (∀ f, f < j → TV S (S.1 24 (c + f))) → ∀ f, f < l.length → TV (fdL X c l k j S) ((fdL X c l k j S).1 24 (c + f)) := by
  intro k
  induction k with
  | zero => intro j S hj _ _ _ h f hf; exact h f (by omega)
  | succ k ih =>
    intro j S hj h hcc h0 hp
    have s0 : S.1 7 0 = 0 := (FH.fd _ _ _).ok h0
    rw [fdL] at hcc h0 ⊢
    rw [if_pos s0] at hcc h0 ⊢
    have fh1 : FH S (fdS X c l.length (l.getD j 0) j S) := FH.fds
    have c1 := (FH.fd (X := X) (c := c) (l := l) k (j + 1) _).lt (fh1.tg h.1) hcc
    have ck1 := fdS_ck h (hY j (by omega)) c1
    refine ih (j + 1) _ (by omega) ck1 hcc h0 ?_
    intro f hf
    by_cases e : f = j
    · subst e
      exact fdS_tv h (hY f (by omega)) (hV f (by omega)) c1 ((FH.fd _ _ _).ok h0)
    · rw [fdS_24 (by omega)]
      exact (hp f (by omega)).fh fh1 h.1 h.2.1 c1
theorem rn_fd : ∀ (k j : Nat) (S : gSt), rn (fdL X c l k j S) = rn S := by
  intro k
  induction k with
  | zero => intro j S; rfl
  | succ k ih =>
    intro j S
    rw [fdL]
    split
    · rw [ih]
      unfold rn fdS
      rw [sI_ne (by omega), (FE.me _ _ _).1 71 (by omega), fdN_o 71 (by omega) (by omega)]
    · rfl
theorem rn_hA (h15 : T.1 15 it = nI r) (hr : r ≤ 3) : rn (hdA it T) = r := by
  unfold hdA
  generalize hS : drL it (T.1 15 it).toNatClampNeg 0 (nmS it T) = S
  have e15 : S.1 15 it = nI r := by
    rw [← hS, drL_o 15 (by omega) (by omega), FH.nm.1 15 (by omega) (by omega) (by omega) (by omega) (by omega) (by omega)]
    exact h15
  have ss : sgS it S = sgL it r 0 (sI S 71 0 0) := by unfold sgS; rw [e15, nc (by omega)]
  unfold rn
  rw [ss, sgL_n r 0 _ (by rw [rdI, if_pos ⟨rfl, rfl⟩]; rfl), Nat.zero_add, nc (by omega)]
theorem hd_v (hI : HI X T t c z) (hV : ItV X z) (hk : ¬ 2 ≤ T.1 12 t → z.2.2.2.1 = 0 ∧ z.2.2.2.2.2.2.2.1 = 0) (h : Ck0 T) (hc : cn (hdI X t c z T) < 6000) (h0 : (hdI X t c z T).1 7 0 = 0) : itV (hdI X t c z T) t c z := by
  have itg := hd_it hI hk h hc h0
  obtain ⟨i, e, l, rt, dt, n, wt, w, b⟩ := z
  obtain ⟨hY, hO⟩ := hI
  have hY : HY X T t c l := hY
  have hO : HO X T t rt n w e := hO
  have hk : ¬ 2 ≤ T.1 12 t → rt = 0 ∧ w = 0 := hk
  have eH : hdI X t c (i, e, l, rt, dt, n, wt, w, b) T = tlS X t rt n w (fdL X c l l.length 0 (hdA t T)) := rfl
  rw [eH] at hc h0 itg ⊢
  have h1 := h.hA hO.2.1 hO.2.2.1
  have fF := FH.fd (X := X) (c := c) (l := l) l.length 0 (hdA t T)
  have c1 : cn (fdL X c l l.length 0 (hdA t T)) < 6000 := FH.tl.lt (fF.tg h1.1) hc
  have ty := fun j hj => (hY.2.2.2.2.2.2.1 j hj).1
  have ck := Ckm.fd (c := c) ty _ _ _ (Nat.zero_add _) h1 c1
  have td := fd_tv (c := c) ty hV.1 _ _ _ (Nat.zero_add _) h1 c1 (FH.tl.ok h0) (fun f hf => by omega)
  have rnS : rn (fdL X c l l.length 0 (hdA t T)) = e := by rw [rn_fd, rn_hA hO.2.1 hO.2.2.1]
  generalize hS : fdL X c l l.length 0 (hdA t T) = S at *
  have fS : FH T S := hS ▸ FH.hA.tr (FH.fd _ _ _)
  have hO2 := hO.fh fS
  have ft : FH S (tlS X t rt n w S) := FH.tl
  have hO3 := hO2.fh ft
  have e12 : S.1 12 t = T.1 12 t := by rw [fS.1 12 (by omega) (by omega) (by omega) (by omega) (by omega) (by omega)]
  have e24 : (tlS X t rt n w S).1 24 = S.1 24 := by
    unfold tlS
    split
    · rw [whL_o 24 (by omega) (by omega), deL_o 24 (by omega) (by omega) (by omega)]
      unfold rtS
      split
      · rw [sI_ne (by omega), sI_ne (by omega)]
      · rw [sI_ne (by omega), sI_ne (by omega), (FE.me _ _ _).1 24 (by omega)]
    · rfl
  refine ⟨fun f hf => ?_, fun h25 => ?_⟩
  · rw [e24]
    exact (td f hf).fh ft ck.1 ck.2.1 hc
  · by_cases c12 : 2 ≤ S.1 12 t
    · have td26 := itg.2.1 h25
      have h15 := hO3.2.1
      unfold tlS at hc h0 h25 td26 h15 ⊢
      rw [if_pos c12] at hc h0 h25 td26 h15 ⊢
      have hw := (wh_ok _ _ _ h0).1
      rw [hw] at hc h0 h25 td26 h15 ⊢
      have hR := hO2.1
      by_cases zr : rt = 0
      · have := hO3.1
        unfold HR tlS at this
        rw [if_pos zr, if_pos c12, hw] at this
        rw [this] at h25
        exact absurd h25 (by decide)
      · have fd : FH (rtS X t rt S) (deL t n 0 (rtS X t rt S)) := FH.de _ _ _
        have cr := fd.lt (FH.rts.tg ck.1) hc
        have r0 := fd.ok h0
        have e26 : (deL t n 0 (rtS X t rt S)).1 26 t = (meX X 6 S rt).1 := by
          rw [deL_o 26 (by omega) (by omega) (by omega)]
          unfold rtS
          rw [if_neg zr, sI_ne (by omega), rdI, if_pos ⟨rfl, rfl⟩]
        have cm := cr
        have r0' := r0
        unfold rtS at cm r0'
        rw [if_neg zr, cn_w (by omega), cn_w (by omega)] at cm
        rw [if_neg zr, sI_ne (by omega), sI_ne (by omega)] at r0'
        have m := me_rm 6 5 S rt (hV.2 zr) (hR.ty zr) ck cm r0'
        have o69 : ∀ k, 65 ≤ k ∧ k ≤ 70 → (deL t n 0 (rtS X t rt S)).1 k = (meX X 6 S rt).2.1 k := fun k hk => by
          rw [deL_o k (by omega) (by omega) (by omega)]
          unfold rtS
          rw [if_neg zr, sI_ne (by omega), sI_ne (by omega)]
        refine ⟨⟨td26, ?_⟩, fun z15 => ?_⟩
        · rw [e26, dpt_same (fun k hk => o69 k (by omega))]
          exact m.1
        · rw [e26]
          have z : rn S = 0 := by
            rw [rnS]
            rw [h15] at z15
            exact nI_inj (by have := hO.2.2.1; omega) (by omega) (z15.trans (show (0 : Int32) = nI 0 from rfl))
          have ec : cn (deL t n 0 (rtS X t rt S)) = cn (meX X 6 S rt).2 := by unfold cn; rw [o69 65 (by omega)]
          exact aH.up (by omega) (fun p _ => by unfold rwT; rw [o69 66 (by omega), o69 67 (by omega), o69 68 (by omega), o69 69 (by omega), o69 70 (by omega)]) 7 _ (m.2 z 7)
    · have := hO3.1
      unfold HR at this
      rw [if_pos (hk (e12 ▸ c12)).1] at this
      rw [this] at h25
      exact absurd h25 (by decide)
theorem itV.fh (h : itV T t c z) (hF : FH T T') (hg : Tg T) (hR : Rws T) (hc : cn T' < 6000) (h24 : ∀ q, q < c + z.2.2.1.length → T'.1 24 q = T.1 24 q) (h26 : T'.1 26 t = T.1 26 t) : itV T' t c z := by
  obtain ⟨a1, a2⟩ := h
  have t3 := hF.2.2.1 hg
  refine ⟨fun f hf => ?_, fun q => ?_⟩
  · rw [h24 _ (by omega)]
    exact (a1 f hf).fh hF hg hR hc
  · rw [hF.1 25 (by omega) (by omega) (by omega) (by omega) (by omega) (by omega)] at q
    rw [h26, hF.1 15 (by omega) (by omega) (by omega) (by omega) (by omega) (by omega)]
    exact ⟨(a2 q).1.fh hF hg hR hc, fun z => aH.up t3.2.1 (t3.2.2 hc) 7 _ ((a2 q).2 z)⟩
def ItVs (X : Lx) : List It → Prop
  | [] => True
  | x :: xs => ItV X x ∧ ItVs X xs
theorem hds_v : ∀ (xs : List It) (t c : Nat) (S : gSt), HIs X S xs t c → ItVs X xs → Kn S xs t → Ck0 S → cn (hdsL X xs t c S) < 6000 → (hdsL X xs t c S).1 7 0 = 0 → itVs (hdsL X xs t c S) xs t c := by
  intro xs
  induction xs with
  | nil => intro t c S _ _ _ _ _ _; trivial
  | cons x xs ih =>
    intro t c S hI hV hK h hc h0
    have s0 : S.1 7 0 = 0 := (FH.hds _ _ _ _).ok h0
    rw [hdsL] at hc h0 ⊢
    rw [if_pos s0] at hc h0 ⊢
    have fh : FH S (hdI X t c x S) := FH.hd
    have fr := FH.hds (X := X) xs (t + 1) (c + x.2.2.1.length) (hdI X t c x S)
    have c1 := fr.lt (fh.tg h.1) hc
    have ck := hd_ck hI.1.1 hI.1.2 h c1
    have own := hd_v hI.1 hV.1 hK.1 h c1 (fr.ok h0)
    have i := ih (t + 1) (c + x.2.2.1.length) _ (HIs.fh fh _ _ _ hI.2) hV.2 (Kn.fh fh _ _ hK.2) ck.to0 hc h0
    have f2 := hds_fr (X := X) xs (t + 1) (c + x.2.2.1.length) (hdI X t c x S)
    exact ⟨own.fh fr ck.1 ck.2.1 hc f2.1 (f2.2 t (by omega)), i⟩
theorem Hq_of : ∀ (xs : List It) (t c : Nat), HIs X T xs t c → itVs T xs t c → ∀ q, t ≤ q → q < t + xs.length → ∀ c' m, T.1 18 q = nI c' → T.1 19 q = nI m → c' + m ≤ 220 → (∀ f, f < m → dpt T 7 (T.1 24 (c' + f)) ≤ 5) ∧ (0 ≤ T.1 25 q → dpt T 7 (T.1 26 q) ≤ 5 ∧ (T.1 15 q = 0 → aH T 7 (T.1 26 q))) := by
  intro xs
  induction xs with
  | nil => intro t c _ _ q h1 h2; rw [List.length_nil] at h2; omega
  | cons x xs ih =>
    intro t c hI hV q h1 h2 c' m e18 e19 hcm
    rw [List.length_cons] at h2
    by_cases e : q = t
    · subst e
      obtain ⟨hY, hO⟩ := hI.1
      have b := hY.2.2.2.2.1
      have ec : c' = c := nI_inj (by omega) (by omega) (e18.symm.trans hY.2.1)
      have em : m = x.2.2.1.length := nI_inj (by omega) (by omega) (e19.symm.trans hY.2.2.1)
      subst ec em
      exact ⟨fun f hf => (hV.1.1 f hf).2, fun h25 => ⟨(hV.1.2 h25).1.2, (hV.1.2 h25).2⟩⟩
    · exact ih (t + 1) _ hI.2 hV.2 q (by omega) (by omega) c' m e18 e19 hcm
end RMH
