/-! all heads on both sides -/
/-- what is asked of main -/
def HmR (S T : gSt) (n : Nat) : Prop := ∀ s, s < n → ∃ q, q ≤ 8 ∧ S.1 19 s = nI q ∧ T.1 32 s = nI q ∧ (S.1 25 s < 0 ↔ T.1 33 s = 0)
def HrL (X : Lx) (S T : gSt) : List It → Nat → Nat → Prop
  | [], _, _ => True
  | x :: xs, t, c => HeS X S t c x ∧ HeT X T t x ∧ HrL X S T xs (t + 1) (c + x.2.2.1.length)
def HcL (X : Lx) (S T : gSt) : List It → Nat → Nat → Prop
  | [], _, _ => True
  | x :: xs, t, c => HcR X S T t c x ∧ HcL X S T xs (t + 1) (c + x.2.2.1.length)
/-- types that heads may keep -/
def hdW : List It → Nat
  | [] => 0
  | x :: xs => 6 * (x.2.2.1.length + 1) + hdW xs
/-- items of a kind -/
def cfT (X : Lx) (v : Nat) : List It → Nat
  | [] => 0
  | x :: xs => (if (xK X x.1 = 12 ↔ v = 1) then 1 else 0) + cfT X v xs
def CkP (X : Lx) (S S' T : gSt) (xs : List It) (t c : Nat) (T' : gSt) : Prop := (HsR X S' T' ∧ TyF S S' T T' ∧ HcL X S' T' xs t c ∧ lvC T' 16384 ≤ lvC T 16384 + hdW xs ∧ (∀ v, v < 2 → T'.1 52 v = T.1 52 v + nI (cfT X v xs)) ∧ ∀ v, 2 ≤ v → T'.1 52 v = T.1 52 v) ∨ BfR S' T'
section CBC
variable {S S' S1 T T' T1 : gSt} {X : Lx} {nf d i k n m t e w dt wt c a b rt it : Nat} {N : Nat → Int64} {l : List Nat} {x : It} {bd : Tr}
theorem de_30 : ∀ (m j : Nat) (S : gSt) (q : Nat), q ≠ t → (deL t m j S).1 30 q = S.1 30 q := by
  intro m
  induction m with
  | zero => intro j S q _; rfl
  | succ m ih =>
    intro j S q hq
    rw [deL]
    split
    · rw [ih _ _ q hq]
      unfold deS
      split
      · split
        · rw [flT_o (by omega) (by omega)]
        · rw [rdI, if_neg (fun e => hq e.2)]
      · rw [flT_o (by omega) (by omega)]
    · rfl
theorem hd_30 (q : Nat) (hq : q ≠ t) : (hdI X t c x S).1 30 q = S.1 30 q := by
  have A : (hdA t S).1 30 = S.1 30 := by
    unfold hdA sgS
    rw [sgL_o 30 (by omega) (by omega), sI_ne (by omega), drL_o 30 (by omega) (by omega)]
    unfold nmS
    split
    · rfl
    · exact flT_o (by omega) (by omega)
  have B : ∀ S : gSt, (tlS X t x.2.2.2.1 x.2.2.2.2.2.1 x.2.2.2.2.2.2.2.1 S).1 30 q = S.1 30 q := by
    intro S
    unfold tlS
    split
    · rw [whL_o 30 (by omega) (by omega), de_30 _ _ _ q hq]
      unfold rtS
      split
      · rw [rdI, if_neg (fun e => hq e.2), sI_ne (by omega)]
      · rw [rdI, if_neg (fun e => hq e.2), sI_ne (by omega), (FE.me _ _ _).1 30 (by omega)]
    · rfl
  have C : ∀ (k j : Nat) (S : gSt), (fdL X c x.2.2.1 k j S).1 30 = S.1 30 := by
    intro k
    induction k with
    | zero => intro j S; rfl
    | succ k ih =>
      intro j S
      rw [fdL]
      split
      · rw [ih]
        unfold fdS
        rw [sI_ne (by omega), (FE.me _ _ _).1 30 (by omega), fdN_o 30 (by omega) (by omega)]
      · rfl
  unfold hdI hdS
  rw [B, C, A]
theorem hds_30 : ∀ (xs : List It) (t c : Nat) (S : gSt), ∀ q, q < t → (hdsL X xs t c S).1 30 q = S.1 30 q := by
  intro xs
  induction xs with
  | nil => intro t c S q _; rfl
  | cons x xs ih =>
    intro t c S q hq
    rw [hdsL]
    split
    · exact (ih (t + 1) _ _ q (by omega)).trans (hd_30 q (by omega))
    · rfl
theorem mn_o {g : Nat} (h : g ≠ 7) (h2 : g ≠ 8) : (mnS S).1 g = S.1 g := by
  unfold mnS
  split
  · rfl
  · exact flT_o h h2
theorem mn_bad (h : ¬ S.1 7 0 = 0) : mnS S = S := by
  unfold mnS
  split
  · rfl
  · unfold flT
    rw [if_neg h]
theorem hds_bad {xs : List It} (h : ¬ S.1 7 0 = 0) : hdsL X xs t c S = S := by
  cases xs with
  | nil => rfl
  | cons x xs => rw [hdsL, if_neg h]
theorem HrL.mo (fs : FH S S') (fb : FhB k T T') : ∀ (xs : List It) (t c : Nat), HrL X S T xs t c → HrL X S' T' xs t c := by
  intro xs
  induction xs with
  | nil => intro t c _; trivial
  | cons x xs ih => intro t c h; exact ⟨h.1.fh fs, h.2.1.hb fb, ih _ _ h.2.2⟩
theorem HmR.mo (h : HmR S T n) (fs : FH S S') (fb : FhB k T T') : HmR S' T' n := fun s hs => by
  obtain ⟨q, a, b, c, d⟩ := h s hs
  exact ⟨q, a, by rw [fs.1 19 (by omega) (by omega) (by omega) (by omega) (by omega) (by omega)]; exact b, by rw [fb.it (by omega)]; exact c, by rw [fs.1 25 (by omega) (by omega) (by omega) (by omega) (by omega) (by omega), fb.it (by omega)]; exact d⟩
theorem bw_st (h1 : S'.1 15 = S.1 15) (h2 : S'.2 16 = S.2 16) (h3 : S'.2 32 = S.2 32) : ∀ (m k : Nat) (y : Int32), bwT S' t m k y = bwT S t m k y := by
  intro m
  induction m with
  | zero => intro k y; rfl
  | succ m ih =>
    intro k y
    rw [bwT, bwT, ih, h3, roI_st h1 h2, roI_st h1 h2]
theorem HcR.st (h : HcR X S T t c x) (hF : TyF S S' T T') (o15 : S'.1 15 = S.1 15) (o16 : S'.2 16 = S.2 16) (o32 : S'.2 32 = S.2 32) (h24 : ∀ q, q < c + x.2.2.1.length → S'.1 24 q = S.1 24 q) (h26 : S'.1 26 t = S.1 26 t) (h30 : S'.1 30 t = S.1 30 t) (hl : x.2.2.1.length ≤ 8) (hw : x.2.2.2.2.2.2.2.1 ≤ 3) (ob : ∀ k j, (38 ≤ k ∧ k ≤ 41 ∧ j = t) ∨ ((k = 44 ∨ k = 45) ∧ j < 8 * (t + 1)) ∨ (k = 46 ∧ j = t) ∨ (k = 47 ∧ j < 3 * (t + 1)) → T'.1 k j = T.1 k j) : HcR X S' T' t c x := by
  obtain ⟨i, e, l, rt, dt, n, wt, w, bd⟩ := x
  obtain ⟨a1, a2, a3, a4⟩ := h
  have hl : l.length ≤ 8 := hl
  have hw : w ≤ 3 := hw
  have p := Hc_pt (c := c) (l := l) (t := t) hF h24 (fun q hq => ob 44 _ (by omega)) (fun q hq => ob 45 _ (by omega)) (ob 41 t (by omega)) a1 a2
  refine ⟨p.1, p.2, fun k12 => ?_, fun k => ⟨by rw [ob 38 t (by omega)]; exact (a4 k).1, by rw [ob 46 t (by omega)]; exact (a4 k).2⟩⟩
  obtain ⟨⟨y, y1, y2, y3⟩, b1, b2, b3, b4⟩ := a3 k12
  refine ⟨⟨y, by rw [ob 38 t (by omega)]; exact y1, y2, by rw [h26]; exact TyR.mo hF (fun _ _ z => z) _ _ _ y3⟩, by rw [ob 39 t (by omega), h30]; exact b1, by rw [ob 46 t (by omega)]; exact b2, by rw [ob 40 t (by omega), bw_st o15 o16 o32]; exact b3, fun q hq => ?_⟩
  obtain ⟨r, s, r1, r2, s1, s2, x1, x2, x3⟩ := b4 q hq
  exact ⟨r, s, r1, r2, s1, s2, by rw [roI_st o15 o16, o32]; exact x1, by rw [roI_st o15 o16, o32]; exact x2, by rw [ob 47 _ (by omega)]; exact x3⟩
theorem HcR.mo (h : HcR X S T t c x) (hF : TyF S S' T T') (fb : FhB (t + 1) T T') (fs : FH S S') (h24 : ∀ q, q < c + x.2.2.1.length → S'.1 24 q = S.1 24 q) (h26 : S'.1 26 t = S.1 26 t) (h30 : S'.1 30 t = S.1 30 t) (hl : x.2.2.1.length ≤ 8) (hw : x.2.2.2.2.2.2.2.1 ≤ 3) : HcR X S' T' t c x :=
  h.st hF (fs.1 15 (by omega) (by omega) (by omega) (by omega) (by omega) (by omega)) (fs.2.1 16 (by omega)) (fs.2.1 32 (by omega)) h24 h26 h30 hl hw (fun k j h => fb.1 k j (by omega) (by omega) (by omega) (by omega) (by omega) (by omega) (by omega) (by omega) (by omega) (by omega) (by omega) (by omega))
theorem ItsOk.le {z : Nat} : ∀ {xs : List It} {a : Nat}, ItsOk X xs a z → a ≤ z := by
  intro xs
  induction xs with
  | nil => intro a h; exact h
  | cons x xs ih =>
    intro a h
    obtain ⟨b, h1, h2⟩ := h
    have := h1.2.1
    have := ih h2
    omega
theorem mnW_v : mnW = 1835100526 := by decide +kernel
theorem b_chk9 (hX : XO X) (hnf : 16385 ≤ nf) (hz : ∀ q, xK X q = 4 → ¬ xN X q = 0) (hd : 62 ≤ d) (hn : n ≤ 24) {z : Nat} (hzn : z ≤ xn X) : ∀ (xs : List It) (t c fl a : Nat) (S T : gSt), xs.length + t = n → xs.length < fl → HsR X S T → inn S = n → HrL X S T xs t c → HmR S T n → (∀ s, s < n → ∃ q, WH X T s q) → hgL X xs → ItsOk X xs a z → S.1 1 0 = T.1 21 0 → lvC T 16384 + hdW xs + 20 < 16384 → cn (mnS (hdsL X xs t c S)) < 6000 → wp (rl_Heads_check_9 (PP nf d) nf fl T (nI t)) (fun _ _ T' => FhB t T T' ∧ CkP X S (mnS (hdsL X xs t c S)) T xs t c T') := by
  intro xs
  induction xs with
  | nil =>
    intro t c fl a S T e1 e2 hH hin hR hM hWH hg hI h1 hl hc
    obtain ⟨n', n0, n1, n2, n3⟩ := hH.2.1
    have h27 : T.1 27 0 = nI n := by rw [n1, ← n0, hin]
    refine wp_and (a_chk9 (nf := nf) (d := d) hX hnf hd hn 0 t fl T (by simpa using e1) (by simpa using e2) hH.1 h27 hH.2.2.2.2.2 hWH) ?_
    obtain ⟨fl, rfl⟩ : ∃ g, fl = g + 1 := ⟨fl - 1, by omega⟩
    obtain ⟨d1, hd1⟩ : ∃ g, d = g + 1 := ⟨d - 1, by omega⟩
    have e1 : 0 + t = n := e1
    have bad : ¬ mnQ S → CkP X S (mnS S) T [] t c (ntS T 8 (T.1 21 0)) := fun q => by
      refine Or.inr ?_
      unfold mnS
      rw [if_neg q, h1]
      exact bf_nt (a := 8) hH.2.2.2.1 hH.2.2.2.2.1 (by decide)
    have fe : ff (isIt T true 1835100526) 0 n = mnF S := by
      unfold mnF
      rw [mnW_v]
      exact it_findF hH.2.1 h27 hn
    rw [rl_Heads_check_9, h27, if_pos (show nI n ≤ nI t from (nI_leI (by omega) (by omega)).mpr (by omega)), show PP nf d 127 T [] [] = some (0, 1835100526, T) by rw [hd1]; rfl, bis, c_find (nf := nf) (d := d) (fn := true) (x := 1) (by omega) h27 hn rfl (by omega), bis]
    show wp _ (fun _ _ T' => CkP X S (mnS S) T [] t c T')
    rcases ff_val (p := isIt T true 1835100526) (i := 0) (k := n) with v | ⟨j, _, j1, _, v⟩
    · rw [v, if_pos rfl, c_note (by omega), bis]
      refine wp_some (bad fun q => q.1 ?_)
      rw [← fe, v]
      decide
    · obtain ⟨q, q1, q2, q3, q4⟩ := hM j (by omega)
      obtain ⟨_, _, _, m1, e, m2, m3⟩ := n3 j (by omega)
      have fj : mnF S = nI j := by rw [← fe, v]
      have cj : (mnF S).toNatClampNeg = j := by rw [fj, nc (by omega)]
      have c3 : (T.1 31 j + T.1 32 j) = nI (e + q) := by rw [m1, m2, q3]; exact (Int32.ofNat_add _ _).symm
      rw [v, if_neg (nI_m1 (by omega)), gd, if_pos (nin (by omega) (by omega)), gd, if_pos (nin (by omega) (by omega)), gd, if_pos (nin (by omega) (by omega)), nc (by omega), c3]
      have z0 : ∀ g, g < 100 → (0 < nI g ↔ 0 < g) := fun g hg => by
        have := nI_ltI (a := 0) (b := g) (by omega) (by omega)
        exact this
      split
      · rename_i hp
        rw [c_note (by omega), bis]
        refine wp_some (bad fun ⟨_, x2, x3, _⟩ => ?_)
        rw [cj, m2, z0 e (by omega)] at x2
        rw [cj, q2, z0 q (by omega)] at x3
        have := (z0 _ (by omega)).mp hp
        omega
      · rename_i hp
        rw [z0 _ (by omega)] at hp
        split
        · rename_i h33
          have ok : mnQ S := ⟨by rw [fj]; exact fun w => absurd ((nI_ltI (a := j) (b := 0) (by omega) (by omega)).mp w) (by omega), by rw [cj, m2, z0 e (by omega)]; omega, by rw [cj, q2, z0 q (by omega)]; omega, by rw [cj]; exact q4.mpr h33⟩
          refine wp_some (Or.inl ?_)
          have e0 : mnS S = S := by unfold mnS; rw [if_pos ok]
          rw [e0]
          exact ⟨hH, TyF.rf, trivial, by simp [hdW], fun v _ => by show _ = _ + nI 0; rw [show nI 0 = (0 : Int32) from rfl, Int32.add_zero], fun _ _ => rfl⟩
        · rename_i h33
          rw [c_note (by omega), bis]
          exact wp_some (bad fun ⟨_, _, _, x4⟩ => h33 (q4.mp (by rw [cj] at x4; exact x4)))
  | cons x xs ih =>
    intro t c fl a S T e1 e2 hH hin hR hM hWH hg hI h1 hl hc
    obtain ⟨fl, rfl⟩ : ∃ g, fl = g + 1 := ⟨fl - 1, by omega⟩
    rw [List.length_cons] at e1 e2
    obtain ⟨n', n0, n1, n2, n3⟩ := hH.2.1
    have h27 : T.1 27 0 = nI n := by rw [n1, ← n0, hin]
    rw [rl_Heads_check_9, h27, if_neg (fun w => by
      have := (nI_leI (by omega) (by omega)).mp w
      omega)]
    rw [hdsL, if_pos hH.2.2.2.1] at hc ⊢
    have hW0 := hH.2.2.2.2.2
    have fh1 : FH S (hdI X t c x S) := FH.hd
    have fh2 : FH (hdI X t c x S) (mnS (hdsL X xs (t + 1) (c + x.2.2.1.length) (hdI X t c x S))) := (FH.hds _ _ _ _).tr FH.mn
    have c1 : cn (hdI X t c x S) < 6000 := fh2.lt (fh1.tg hH.2.2.1) hc
    obtain ⟨g1, g2⟩ := hg
    obtain ⟨b, I1, I2⟩ := hI
    obtain ⟨R1, R2, R3⟩ := hR
    rw [hdW] at hl
    have bz : b ≤ z := ItsOk.le I2
    obtain ⟨i, e, l, rt, dt, nn, wt, w, bd⟩ := x
    have w3 : w ≤ 3 := by
      obtain ⟨_, _, _, _, _, g5⟩ := g1
      omega
    have l8 : l.length ≤ 8 := R2.2.2.2.2.2.1
    have k28 : T.1 28 t = nI (xK X i) := R2.1
    have lt40 : xK X i < 100 := by
      obtain ⟨_, _, k3, _⟩ := I1
      omega
    refine wp_bi (b_head (nf := nf) (d := d) hX hnf hz (by omega) (by omega) hH (by omega) R1 R2 g1 I1 (by omega) (by show lvC T 16384 + 6 * (l.length + 1) + 20 < 16384; have : lvC T 16384 + (6 * (l.length + 1) + hdW xs) + 20 < 16384 := hl; omega) c1) ?_
    intro _ _ T1 ⟨⟨k1, _⟩, q1⟩
    have b1 : FhB t T T1 := k1.b
    rw [gd, if_pos (nin (by omega) (by omega)), nc (by omega), b1.it (by omega), k28]
    have o52 : ∀ v, T1.1 52 v = T.1 52 v := fun v => k1.1 52 v (by omega) (by omega) (by omega) (by omega) (by omega) (by omega) (by omega) (by omega) (by omega) (by omega) (by omega)
    -- the loop goes on behind the tally
    have go : ∀ k, k < 2 → (xK X i = 12 ↔ k = 1) → wp (rl_Heads_check_9 (PP nf d) nf fl (sI T1 52 k (T1.1 52 k + 1)) (nI (t + 1))) (fun _ _ T' => FhB t T T' ∧ CkP X S (mnS (hdsL X xs (t + 1) (c + l.length) (hdI X t c (i, e, l, rt, dt, nn, wt, w, bd) S))) T ((i, e, l, rt, dt, nn, wt, w, bd) :: xs) t c T') := by
      intro k hk hkk
      have b2 : FhB t T1 (sI T1 52 k (T1.1 52 k + 1)) := FhB.ta b1.2.2.1
      have b12 := b1.tr b2
      have hWH2 : ∀ s, s < n → ∃ q, WH X (sI T1 52 k (T1.1 52 k + 1)) s q := fun s hs => by
        obtain ⟨q, hq⟩ := hWH s hs
        exact ⟨q, hq.hb b12⟩
      have h272 : (sI T1 52 k (T1.1 52 k + 1)).1 27 0 = nI n := by rw [b12.it (by omega)]; exact h27
      rcases q1 with ⟨H1, F1, C1, l1⟩ | hB
      · have l1 : lvC T1 16384 ≤ lvC T 16384 + 6 * (l.length + 1) := l1
        have hl : lvC T 16384 + (6 * (l.length + 1) + hdW xs) + 20 < 16384 := hl
        have H2 : HsR X (hdI X t c (i, e, l, rt, dt, nn, wt, w, bd) S) (sI T1 52 k (T1.1 52 k + 1)) := ⟨H1.1.hb b2, H1.2.1.st rfl rfl rfl rfl (fun g j hg => by rw [sI_ne (by omega)]) (fun _ => rfl), H1.2.2.1, H1.2.2.2.1, by rw [sI_ne (by omega)]; exact H1.2.2.2.2.1, b12.2.2.1⟩
        have lv2 : lvC (sI T1 52 k (T1.1 52 k + 1)) 16384 = lvC T1 16384 := lvC_62 (T := T1) (T' := sI T1 52 k (T1.1 52 k + 1)) rfl rfl 16384
        refine wp_mono (ih (t + 1) (c + l.length) fl b (hdI X t c (i, e, l, rt, dt, nn, wt, w, bd) S) (sI T1 52 k (T1.1 52 k + 1)) (by omega) (by omega) H2 (by unfold inn; rw [fh1.1 11 (by omega) (by omega) (by omega) (by omega) (by omega) (by omega)]; exact hin) (HrL.mo fh1 b12 _ _ _ R3) (hM.mo fh1 b12) hWH2 g2 I2 (by rw [fh1.1 1 (by omega) (by omega) (by omega) (by omega) (by omega) (by omega), b12.1 21 0 (by omega) (by omega) (by omega) (by omega) (by omega) (by omega) (by omega) (by omega) (by omega) (by omega) (by omega) (by omega)]; exact h1) (by omega) hc) ?_
        intro _ _ T' ⟨f3, q3⟩
        refine ⟨b12.tr f3.dn, ?_⟩
        rcases q3 with ⟨H3, F3, C3, l3, v3, v4⟩ | hB
        · have F2 : TyF (hdI X t c (i, e, l, rt, dt, nn, wt, w, bd) S) (hdI X t c (i, e, l, rt, dt, nn, wt, w, bd) S) T1 (sI T1 52 k (T1.1 52 k + 1)) := TyF.st rfl (fun _ _ _ => rfl) rfl rfl rfl
          have F23 := F2.tr F3
          refine Or.inl ⟨H3, (F1.tr F23), ⟨?_, C3⟩, ?_, ?_, ?_⟩
          · have hs := hds_fr (X := X) xs (t + 1) (c + l.length) (hdI X t c (i, e, l, rt, dt, nn, wt, w, bd) S)
            exact C1.mo F23 ((FhB.ta b1.2.2.1).tr f3) fh2 (fun q hq => by rw [mn_o (by omega) (by omega)]; exact hs.1 q hq) (by rw [mn_o (by omega) (by omega)]; exact hs.2 t (by omega)) (by rw [mn_o (by omega) (by omega)]; exact hds_30 _ _ _ _ t (by omega)) l8 w3
          · show _ ≤ _ + (6 * (l.length + 1) + hdW xs)
            omega
          · intro v hv
            rw [v3 v hv]
            show _ = _ + nI ((if (xK X i = 12 ↔ v = 1) then 1 else 0) + cfT X v xs)
            by_cases c0 : v = k
            · rw [c0, sI_v, if_pos hkk, o52, Int32.add_assoc]
              congr 1
              rw [show (1 : Int32) = nI 1 from rfl]
              exact (Int32.ofNat_add _ _).symm
            · rw [rdI, if_neg (fun w => c0 w.2), o52, if_neg (fun w => by omega), Nat.zero_add]
          · intro v hv
            rw [v4 v hv, rdI, if_neg (fun w => by omega), o52]
        · exact Or.inr hB
      · have hd0 := hB.1
        have hB2 : BfR (hdI X t c (i, e, l, rt, dt, nn, wt, w, bd) S) (sI T1 52 k (T1.1 52 k + 1)) := ⟨hB.1, by rw [sI_ne (by omega)]; exact hB.2.1, by rw [sI_ne (by omega)]; exact hB.2.2⟩
        refine wp_mono (a_chk9 (nf := nf) (d := d) hX hnf hd hn xs.length (t + 1) fl _ (by omega) (by omega) (hH.1.hb b12) h272 b12.2.2.1 hWH2) ?_
        intro _ _ T' f3
        refine ⟨b12.tr f3.dn, Or.inr ?_⟩
        have hd1 : ¬ (hdI X t c (i, e, l, rt, dt, nn, wt, w, bd) S).1 7 0 = 0 := hB.1
        rw [hds_bad hd1, mn_bad hd1]
        have := f3.2.2.2.2 (by rw [hB2.2.1]; exact hB2.1)
        exact ⟨hB2.1, this.1.trans hB2.2.1, this.2.trans hB2.2.2⟩
    have k12 : nI (xK X i) = 12 ↔ xK X i = 12 := ⟨fun w => nI_inj (by omega) (by omega) (show nI (xK X i) = nI 12 from w), fun w => by rw [w]; rfl⟩
    split
    · rename_i h12
      rw [show (1 : Int32) = nI 1 from rfl, c_tally (by omega) (by omega), bis, vK, show nI 1 = (1 : Int32) from rfl, nI_1]
      exact go 1 (by omega) ⟨fun _ => rfl, fun _ => k12.mp h12⟩
    · rename_i h12
      rw [show (0 : Int32) = nI 0 from rfl, c_tally (by omega) (by omega), bis, vK, nI_1]
      exact go 0 (by omega) ⟨fun w => absurd (k12.mpr w) h12, fun w => absurd w (by omega)⟩
end CBC
