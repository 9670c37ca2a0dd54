/-! a fun's head -/
def pDT (K : Nat → Nat) (j : Nat) : Except Nat (Nat × Nat × Nat × Nat × Nat) := if K j = 13 then (match pDead K 3 0 (j + 1) with
  | .error e => .error e
  | .ok (n, j2) => match pTail K j2 with
    | .error e => .error e
    | .ok (wt, w, j3) => .ok (j + 1, n, wt, w, j3)) else (match pTail K j with
    | .error e => .error e
    | .ok (wt, w, j3) => .ok (0, 0, wt, w, j3))
def pRest (K : Nat → Nat) (j : Nat) : Except Nat (Nat × Nat × Nat × Nat × Nat × Nat) := if K (j + 1) = 48 then (match pTy K 6 false (j + 2) with
  | .error e => .error e
  | .ok j2 => match pDT K j2 with
    | .error e => .error e
    | .ok (dt, n, wt, w, j3) => .ok (j + 2, dt, n, wt, w, j3)) else (match pDT K (j + 1) with
    | .error e => .error e
    | .ok (dt, n, wt, w, j3) => .ok (0, dt, n, wt, w, j3))
abbrev Fhd (t : Nat) (T T' : gSt) : Prop := Fy T T' ∧ Fn T T' ∧ T'.1 62 = T.1 62 ∧ T'.1 63 = T.1 63 ∧ nN T' = nN T ∧ T'.1 64 = T.1 64 ∧ (∀ g j, 11 ≤ g → g ≤ 36 → ¬ ((g = 25 ∨ g = 27 ∨ g = 31) ∧ j = t) → ¬ (g = 29 ∧ 3 * t ≤ j ∧ j < 3 * t + 3) → ¬ (g = 33 ∧ 6 * t ≤ j ∧ j < 6 * t + 6) → T'.1 g j = T.1 g j) ∧ (∀ g j, 13 ≤ g → g ≤ 32 → ¬ (g = 28 ∧ 3 * t ≤ j ∧ j < 3 * t + 3) → ¬ (g = 32 ∧ 6 * t ≤ j ∧ j < 6 * t + 6) → T'.2 g j = T.2 g j)
abbrev RepDW (X : Lx) (T : gSt) (t dt n wt w : Nat) : Prop := n ≤ 3 ∧ T.1 27 t = nI n ∧ (∀ k, k < n → entD X T t dt k) ∧ w ≤ 3 ∧ T.1 31 t = nI w ∧ ∀ k, k < w → entW X T t wt k
def DWQ (X : Lx) (T : gSt) (t j : Nat) (res : Except Nat (Nat × Nat × Nat × Nat × Nat)) (T' : gSt) : Prop := match res with
  | .ok (dt, n, wt, w, j3) => j ≤ j3 ∧ Gd X T' j3 ∧ Gw T' j3 ∧ Fwd t T T' ∧ RepDW X T' t dt n wt w
  | .error e => j ≤ e ∧ Zi X e T (nN T) T' ∧ T'.1 64 0 = nI t
def HQ (X : Lx) (T : gSt) (t j : Nat) (res : Except Nat (Nat × Nat × Nat × Nat × Nat × Nat)) (T' : gSt) : Prop := match res with
  | .ok (rt, dt, n, wt, w, j3) => j < j3 ∧ Gd X T' j3 ∧ Gw T' j3 ∧ Fhd t T T' ∧ (if rt = 0 then T'.1 25 t = T.1 25 t else ∃ w', T'.1 25 t = nI w' ∧ RepW X T' 6 w' rt) ∧ RepDW X T' t dt n wt w
  | .error e => j ≤ e ∧ Zi X e T (nN T) T' ∧ T'.1 64 0 = nI t
section HD
variable {nf d : Nat} {T T0 T1 T2 : gSt} {X : Lx} {e B i j m n v g t c q : Nat}
theorem Fwd.hd (h : Fwd t T T1) : Fhd t T T1 := ⟨h.1, h.2.1, h.2.2.1, h.2.2.2.1, h.2.2.2.2.1, h.2.2.2.2.2.1, fun g j a b c d e => h.2.2.2.2.2.2.1 g j a b (by omega) d e, h.2.2.2.2.2.2.2⟩
theorem Fhd.tr (h : Fhd t T0 T) (h2 : Fhd t T T1) : Fhd t T0 T1 := ⟨h.1.tr h2.1, h.2.1.tr h2.2.1, h2.2.2.1.trans h.2.2.1, h2.2.2.2.1.trans h.2.2.2.1, h2.2.2.2.2.1.trans h.2.2.2.2.1, h2.2.2.2.2.2.1.trans h.2.2.2.2.2.1, fun g j a b c d e => (h2.2.2.2.2.2.2.1 g j a b c d e).trans (h.2.2.2.2.2.2.1 g j a b c d e), fun g j a b c d => (h2.2.2.2.2.2.2.2 g j a b c d).trans (h.2.2.2.2.2.2.2 g j a b c d)⟩
theorem Fhd.w25 {x : Int32} (h : Fhd t T0 T) : Fhd t T0 (sI T 25 t x) := ⟨h.1.w (by omega), h.2.1.w (by omega), (sI_ne (by omega)).trans h.2.2.1, (sI_ne (by omega)).trans h.2.2.2.1, by rw [nN_w (by omega)]; exact h.2.2.2.2.1, (sI_ne (by omega)).trans h.2.2.2.2.2.1, fun g' j' a b c d e => by rw [rdI, if_neg (by omega)]; exact h.2.2.2.2.2.2.1 g' j' a b c d e, h.2.2.2.2.2.2.2⟩
theorem Ft.wd (h : Ft T T1) : Fwd t T T1 := ⟨h.1.fy, h.fs.fn, h.2.1 62 (by omega) (by omega), h.2.1 63 (by omega) (by omega), nN_ft h, h.1.1 64 (by omega), fun g j a b _ _ _ => congrFun (h.1.1 g (by omega)) j, fun g j a b _ _ => congrFun (h.1.2 g (by omega)) j⟩
/-- dead, perhaps, and where, perhaps -/
theorem x_dt (hX : LX X) (hnf : 5000 ≤ nf) (hG : Gd X T j) (hW : Gw T j) (h64 : T.1 64 0 = nI t) (ht : t < 24) (h27 : T.1 27 t = 0) (h31 : T.1 31 t = 0) : wp (bi (RR nf (d + 30) 19 T [nI 10] []) fun r23 l23 T23 => if r23 = (0 : Int32) then (bi (RR nf (d + 30) 19 T23 [nI 11] []) fun r25 l25 T25 => if r25 = (0 : Int32) then (some (0, 0, T25)) else (bi (RR nf (d + 30) 27 T25 [] []) fun r27 l27 T27 => some (0, 0, T27))) else (rl_Model_readHead_123 (RR nf (d + 30)) nf nf T23)) (fun _ _ T' => DWQ X T t j (pDT (xK X) j) T') := by
  unfold pDT
  by_cases k13 : xK X j = 13
  · have hj := hG.lt hX (by omega)
    rw [if_pos k13]
    refine wp_be (q_twY hX hG.1 hG.2.1 10 (by omega) (by omega) k13) ?_
    refine wp_f (by decide) ?_
    have w1 : Fwd t T (advS T) := (Fe.rf.adv.wh nN_adv).wd
    refine wp_mono (x_dead (t := t) (j0 := j + 1) (d := d) hX hnf 3 nf 0 (advS T) (j + 1) (by omega) (hG.adv hX hj) hW.adv (by rw [advS_i (by omega)]; exact h64) ht (by rw [advS_i (by omega), h27, nI_0]) (by rw [advS_i (by omega)]; exact h31) (by omega) (by omega) (by omega) (fun k hk => by omega)) ?_
    intro r l T' h
    generalize pDead (xK X) 3 0 (j + 1) = rd at h ⊢
    cases rd with
    | error e => exact ⟨by have := h.1; omega, (h.2.1.fy w1.1).le (by rw [nN_adv]; exact Nat.le_refl _), h.2.2⟩
    | ok nj =>
      obtain ⟨n', j2⟩ := nj
      unfold DTQ at h
      dsimp only at h ⊢
      generalize pTail (xK X) j2 = res at h ⊢
      cases res with
      | error e => exact ⟨by have := h.1; omega, (h.2.1.fy w1.1).le (by rw [nN_adv]; exact Nat.le_refl _), h.2.2⟩
      | ok wj =>
        obtain ⟨wt, w, j3⟩ := wj
        obtain ⟨b0, b1, b2, b3, b4, b5⟩ := h
        exact ⟨by omega, b2, b3, w1.tr b4, b5⟩
  · rw [if_neg k13]
    refine wp_be (q_twN hX hG.1 10 (by omega) (by omega) (by show xK X j ≠ 13; omega)) ?_
    refine wp_t rfl ?_
    refine wp_mono (x_tail hX hnf hG hW h64 ht h31) ?_
    intro r l T' h
    generalize pTail (xK X) j = res at h ⊢
    cases res with
    | error e => exact h
    | ok wj =>
      obtain ⟨wt, w, j3⟩ := wj
      obtain ⟨b1, b2, b3, b4, b5, b6, b7⟩ := h
      refine ⟨b1, b2, b3, b4.wd, by omega, ?_, fun k hk => by omega, b5, b6, b7⟩
      rw [b4.2.2.2.2.2.2.1 27 t (by omega) (by omega) (by omega) (by omega), h27, nI_0]
theorem b_dt (h : ¬ T.1 7 0 = 0) : (bi (RR nf (d + 30) 19 T [nI 10] []) fun r23 l23 T23 => if r23 = (0 : Int32) then (bi (RR nf (d + 30) 19 T23 [nI 11] []) fun r25 l25 T25 => if r25 = (0 : Int32) then (some (0, 0, T25)) else (bi (RR nf (d + 30) 27 T25 [] []) fun r27 l27 T27 => some (0, 0, T27))) else (rl_Model_readHead_123 (RR nf (d + 30)) nf nf T23)) = (some (0, 0, T) : gR) := by
  rw [q_tw1 h 10, bis, if_pos rfl, q_tw1 h 11]
  rfl
theorem b_84 (h : ¬ T.1 7 0 = 0) : rj_Model_readHead_84 (RR nf (d + 30)) nf T = some (0, 0, T) := by
  unfold rj_Model_readHead_84
  rw [q_nd1 h, bis, q_tk1 h, bis, if_pos rfl]
  exact b_dt h
set_option maxHeartbeats 4000000 in
theorem x_84 (hX : LX X) (hnf : 5000 ≤ nf) (hG : Gd X T j) (hW : Gw T j) (h64 : T.1 64 0 = nI t) (ht : t < 24) (h27 : T.1 27 t = 0) (h31 : T.1 31 t = 0) (k43 : xK X j = 43) : wp (rj_Model_readHead_84 (RR nf (d + 30)) nf T) (fun _ _ T' => HQ X T t j (pRest (xK X) j) T') := by
  have hx := hX.1
  have hj := hG.lt hX (by omega)
  have htI : inb (nI t) 24 := nin (by omega) (by omega)
  have ct : (nI t).toNatClampNeg = t := nc (by omega)
  unfold rj_Model_readHead_84 pRest
  refine wp_be (q_ndY hX hG.1 hG.2.1 43 rfl k43 (by omega)) ?_
  have hG1 := hG.adv hX hj
  have hW1 := hW.adv
  have w1 : Fwd t T (advS T) := (Fe.rf.adv.wh nN_adv).wd
  have s64 : (advS T).1 64 0 = nI t := by rw [advS_i (by omega)]; exact h64
  have s27 : (advS T).1 27 t = 0 := by rw [advS_i (by omega)]; exact h27
  have s31 : (advS T).1 31 t = 0 := by rw [advS_i (by omega)]; exact h31
  have s25 : (advS T).1 25 t = T.1 25 t := advS_i (by omega)
  have n1 : nN (advS T) = nN T := nN_adv
  generalize advS T = S1 at *
  by_cases k48 : xK X (j + 1) = 48
  · have hj1 := hG1.lt hX (by omega)
    rw [if_pos k48]
    refine wp_be (q_tkY hX hG1.1 hG1.2.1 48 rfl k48 (by omega)) ?_
    refine wp_f (by decide) ?_
    have hG2 := hG1.adv hX hj1
    have hW2 := hW1.adv
    have w2 : Fwd t T (advS S1) := w1.tr (Fe.rf.adv.wh nN_adv).wd
    have ty := x_type hX hnf 6 (d + 30) (by omega) (by omega) (advS S1) (j + 2) hG2 hW2
    rw [show nI (7 - 6) = (1 : Int32) from rfl] at ty
    have m64 : (advS S1).1 64 0 = nI t := by rw [advS_i (by omega)]; exact s64
    have m27 : (advS S1).1 27 t = 0 := by rw [advS_i (by omega)]; exact s27
    have m31 : (advS S1).1 31 t = 0 := by rw [advS_i (by omega)]; exact s31
    have n2 : nN (advS S1) = nN T := by rw [nN_adv, n1]
    generalize advS S1 = S2 at *
    refine wp_bi ty ?_
    intro r l S3 h3
    generalize pTy (xK X) 6 false (j + 2) = res at h3 ⊢
    cases res with
    | error e =>
      obtain ⟨a1, a2, a3, a4⟩ := h3
      refine wp_gd (by rw [m64]; exact htI) ?_
      refine wp_st ?_
      have hz := ((a4.zi w2.1 a2).w (g := 25) (j := (S2.1 64 0).toNatClampNeg) (x := r) (by omega)).le (by rw [n2]; exact Nat.le_refl _ : nN S2 ≤ nN T)
      refine wp_eq (b_dt hz.bd) ?_
      exact ⟨by omega, hz, by rw [sI_ne (by omega), a4.2.2.1.1 64 (by omega)]; exact m64⟩
    | ok j2 =>
      obtain ⟨a1, a2, a3, a4, a5, a6⟩ := h3
      subst a5
      refine wp_gd (by rw [m64]; exact htI) ?_
      refine wp_st ?_
      rw [m64, ct]
      have w3 : Fhd t T (sI S3 25 t (nI (nW S2))) := (w2.tr a4.wd).hd.w25
      have hG4 : Gd X (sI S3 25 t (nI (nW S2))) j2 := a2.wh (by omega)
      have hW4 : Gw (sI S3 25 t (nI (nW S2))) j2 := a3.wh (by omega)
      have o64 : (sI S3 25 t (nI (nW S2))).1 64 0 = nI t := by rw [sI_ne (by omega), a4.1.1 64 (by omega)]; exact m64
      have o27 : (sI S3 25 t (nI (nW S2))).1 27 t = 0 := by rw [sI_ne (by omega), a4.1.1 27 (by omega)]; exact m27
      have o31 : (sI S3 25 t (nI (nW S2))).1 31 t = 0 := by rw [sI_ne (by omega), a4.1.1 31 (by omega)]; exact m31
      have o25 : (sI S3 25 t (nI (nW S2))).1 25 t = nI (nW S2) := sI_v
      have hR4 : RepW X (sI S3 25 t (nI (nW S2))) 6 (nW S2) (j + 2) := RepW.av (T := S3) 6 _ _ ⟨by rw [nU_w (by omega)]; exact Nat.le_refl _, fun j' _ => ⟨rfl, by rw [sI_ne (by omega)]⟩, by rw [nW_w (by omega)]; exact Nat.le_refl _, fun g' j' a b _ _ => by rw [sI_ne (by omega)], fun _ _ _ => rfl⟩ a6
      generalize sI S3 25 t (nI (nW S2)) = S4 at *
      refine wp_mono (x_dt hX hnf hG4 hW4 o64 ht o27 o31) ?_
      intro r l T' h
      dsimp only
      generalize pDT (xK X) j2 = rr at h ⊢
      cases rr with
      | error e => exact ⟨by have := h.1; omega, (h.2.1.fy w3.1).le (by rw [w3.2.2.2.2.1]; exact Nat.le_refl _), h.2.2⟩
      | ok x =>
        obtain ⟨dt, n', wt, w, j3⟩ := x
        obtain ⟨b1, b2, b3, b4, b5⟩ := h
        refine ⟨by omega, b2, b3, w3.tr b4.hd, ?_, b5⟩
        rw [if_neg (by omega)]
        exact ⟨nW S2, (b4.2.2.2.2.2.2.1 25 t (by omega) (by omega) (by omega) (by omega) (by omega)).trans o25, RepW.av 6 _ _ b4.2.1.2.2.av hR4⟩
  · rw [if_neg k48]
    refine wp_be (q_tkN hX hG1.1 hG1.2.1 48 rfl k48 (by omega) (by omega)) ?_
    refine wp_t rfl ?_
    refine wp_mono (x_dt hX hnf hG1 hW1 s64 ht s27 s31) ?_
    intro r l T' h
    generalize pDT (xK X) (j + 1) = rr at h ⊢
    cases rr with
    | error e => exact ⟨by have := h.1; omega, (h.2.1.fy w1.1).le (by rw [n1]; exact Nat.le_refl _), h.2.2⟩
    | ok x =>
      obtain ⟨dt, n', wt, w, j3⟩ := x
      obtain ⟨b1, b2, b3, b4, b5⟩ := h
      refine ⟨by omega, b2, b3, (w1.tr b4).hd, ?_, b5⟩
      rw [if_pos rfl]
      rw [b4.2.2.2.2.2.2.1 25 t (by omega) (by omega) (by omega) (by omega) (by omega)]
      exact s25
theorem Fdl.w62 {x : Int32} (h : Fdl t c q n T T1) : Fdl t c q n T (sI T1 62 0 x) := ⟨h.1.w (by omega), h.2.1.w (by omega), (sI_ne (by omega)).trans h.2.2.1, by rw [nN_w (by omega)]; exact h.2.2.2.1, by rw [sI_ne (by omega)]; exact h.2.2.2.2.1, by rw [sI_ne (by omega)]; exact h.2.2.2.2.2.1, by rw [sI_ne (by omega)]; exact h.2.2.2.2.2.2.1, fun g j a b c d e => by rw [sI_ne (by omega)]; exact h.2.2.2.2.2.2.2.1 g j a b c d e, h.2.2.2.2.2.2.2.2⟩
theorem Fdl.z (h19 : T.1 19 t = nI q) (h20 : T.1 20 0 = nI c) (h64 : T.1 64 0 = nI t) : Fdl t c q 0 T T := ⟨Fy.rf, Fn.rf, rfl, rfl, h20, h64, h19, fun _ _ _ _ _ _ _ => rfl, fun _ _ _ _ _ => rfl⟩
set_option maxHeartbeats 8000000 in
/-- PARAMETERS, whatever comes behind -/
theorem x_pa (hX : LX X) (hnf : 5000 ≤ nf) {Q : Int32 → Int64 → gSt → Prop} : ∀ (f fl q : Nat) (T : gSt) (j c : Nat), Gd X T j → Gw T j → Ic T t c → T.1 19 t = nI q → T.1 62 0 = nI q → q ≤ 6 → 6 < q + f → 7 < q + fl → c ≤ 200 + q → (∀ l j3 T', pPa (xK X) f q j = .ok (l, j3) → j ≤ j3 → xK X j3 = 43 → Gd X T' j3 → Gw T' j3 → Fdl t c q l.length T T' → T'.1 62 0 = nI (q + l.length) → q + l.length ≤ 6 → RepFs X T' c l → wp (rj_Model_readHead_84 (RR nf (d + 30)) nf T') Q) → (∀ e T', pPa (xK X) f q j = .error e → j ≤ e → Zi X e T (nN T) T' → T'.1 64 0 = nI t → wp (rj_Model_readHead_84 (RR nf (d + 30)) nf T') Q) → wp (rl_Model_readHead_6 (RR nf (d + 30)) nf fl T) Q := by
  have hx := hX.1
  intro f
  induction f with
  | zero => intro fl q T j c hG hW hI hq h62 h1 h2 h3 h4 hok herr; omega
  | succ f ih =>
    intro fl q T j c hG hW hI hq h62 h1 h2 h3 h4 hok herr
    have hj := hG.1.1
    obtain ⟨fl', rfl⟩ : ∃ g, fl = g + 1 := ⟨fl - 1, by omega⟩
    have htI : inb (nI t) 24 := nin (by have := hI.2.1; omega) (by omega)
    have ct : (nI t).toNatClampNeg = t := nc (by have := hI.2.1; omega)
    rw [rl_Model_readHead_6]
    rw [pPa] at hok herr
    refine wp_be (q_bad0 hG.2.1) ?_
    refine wp_t rfl ?_
    by_cases k43 : xK X j = 43
    · refine wp_be (q_sgY hX hG.1 hG.2.1 43 rfl k43 (by omega)) ?_
      refine wp_f (by decide) ?_
      rw [if_pos k43] at hok
      exact hok [] j T rfl (Nat.le_refl _) k43 hG hW (Fdl.z hq hI.2.2.1 hI.1) h62 (by simp only [List.length_nil]; omega) (fun k hk => by simp only [List.length_nil] at hk; omega)
    · rw [if_neg k43] at hok herr
      refine wp_be (q_sgN hX hG.1 hG.2.1 43 rfl k43 (by omega) (by omega)) ?_
      refine wp_t rfl ?_
      refine wp_gd (by rw [hI.1]; exact htI) ?_
      rw [hI.1, ct, hq]
      -- behind a fault
      have bl : ∀ e T', (∀ S, Zi X e T (nN T) S → S.1 64 0 = nI t → wp (rj_Model_readHead_84 (RR nf (d + 30)) nf S) Q) → Zi X e T (nN T) T' → T'.1 64 0 = nI t → wp (rl_Model_readHead_6 (RR nf (d + 30)) nf fl' T') Q := by
        intro e T' h84 hz h64
        obtain ⟨g', rfl⟩ : ∃ g, fl' = g + 1 := ⟨fl' - 1, by omega⟩
        rw [rl_Model_readHead_6]
        refine wp_be (q_bad1 hz.bd) ?_
        refine wp_f (by decide) ?_
        exact h84 T' hz h64
      -- the field at work
      have main : ∀ T1 j1, Gd X T1 j1 → Gw T1 j1 → Fdl t c q 0 T T1 → T1.1 62 0 = nI q → j ≤ j1 → q < 6 → (∀ l j3, (match pField (xK X) j1 with
          | .error e => .error e
          | .ok j2 => match pPa (xK X) f (q + 1) j2 with
            | .error e => .error e
            | .ok (l, j3) => .ok (j1 :: l, j3) : Except Nat (List Nat × Nat)) = .ok (l, j3) → ∀ T', j ≤ j3 → xK X j3 = 43 → Gd X T' j3 → Gw T' j3 → Fdl t c q l.length T T' → T'.1 62 0 = nI (q + l.length) → q + l.length ≤ 6 → RepFs X T' c l → wp (rj_Model_readHead_84 (RR nf (d + 30)) nf T') Q) → (∀ e, (match pField (xK X) j1 with
          | .error e => .error e
          | .ok j2 => match pPa (xK X) f (q + 1) j2 with
            | .error e => .error e
            | .ok (l, j3) => .ok (j1 :: l, j3) : Except Nat (List Nat × Nat)) = .error e → ∀ T', j ≤ e → Zi X e T (nN T) T' → T'.1 64 0 = nI t → wp (rj_Model_readHead_84 (RR nf (d + 30)) nf T') Q) → wp (rj_Model_readHead_40 (RR nf (d + 30)) nf (rl_Model_readHead_6 (RR nf (d + 30)) nf fl') T1) Q := by
        intro T1 j1 hG1 hW1 hF1 h62' hj1 hq6 hok' herr'
        obtain ⟨y1, y2, y3, y4, y5, y6, y7, y8, y9⟩ := hF1
        unfold rj_Model_readHead_40
        refine wp_gd (by rw [y6]; exact htI) ?_
        rw [y6, ct, y7, Nat.add_zero]
        refine wp_f (fun h => absurd (nI_inj (a := q) (b := 6) (by omega) (by omega) h) (by omega)) ?_
        refine wp_f (fun h => absurd (nI_inj (a := q) (b := 20) (by omega) (by omega) (h62'.symm.trans h)) (by omega)) ?_
        refine wp_bi (x_field (t := t) (c := c) (q := q) hX hnf hG1 hW1 ⟨y6, hI.2.1, y5, hI.2.2.2⟩ (by omega) y7 (by omega)) ?_
        intro r l S2 hS2
        refine wp_st ?_
        generalize pField (xK X) j1 = res at hS2 hok' herr'
        cases res with
        | error e =>
          obtain ⟨a1, a2, c', a3, -⟩ := hS2
          refine bl e _ (fun S hS h64 => herr' e rfl S (by omega) hS h64) ?_ ?_
          · exact ((a2.fy y1).le (by rw [y4]; exact Nat.le_refl _)).w (by omega)
          · rw [sI_ne (by omega)]; exact a3.1
        | ok j2 =>
          obtain ⟨a1, a2, a3, a4, a5⟩ := hS2
          have f1 : Fdl t c q 1 T S2 := by
            have := Fdl.tr (n := 0) (k := 1) (T := T) (T1 := T1) (T2 := S2) ⟨y1, y2, y3, y4, y5, y6, y7, y8, y9⟩ (Fdd.fl a4)
            rw [Nat.zero_add] at this
            exact this
          have e62 : S2.1 62 0 = nI q := by rw [congrFun a4.2.2.1 0]; exact h62'
          rw [e62, nI_1]
          have f2 : Fdl t c q 1 T (sI S2 62 0 (nI (q + 1))) := f1.w62
          have r2 : RepF X (sI S2 62 0 (nI (q + 1))) c j1 := by
            obtain ⟨b1, b2, w, b3, b4⟩ := a5
            exact ⟨b1, by rw [sI_ne (by omega)]; exact b2, w, by rw [sI_ne (by omega)]; exact b3, RepW.av 6 w _ (Aw.w (by omega)).av b4⟩
          have hG3 : Gd X (sI S2 62 0 (nI (q + 1))) j2 := a2.wh (by omega)
          have hW3 : Gw (sI S2 62 0 (nI (q + 1))) j2 := a3.wh (by omega)
          have s62 : (sI S2 62 0 (nI (q + 1))).1 62 0 = nI (q + 1) := sI_v
          generalize sI S2 62 0 (nI (q + 1)) = S3 at *
          refine ih fl' (q + 1) S3 j2 (c + 1) hG3 hW3 ⟨f2.2.2.2.2.2.1, hI.2.1, f2.2.2.2.2.1, by omega⟩ f2.2.2.2.2.2.2.1 s62 (by omega) (by omega) (by omega) (by omega) ?_ ?_
          · intro l' j3 T' hp b1 b2 b3 b4 b5 b6 b7 b8
            refine hok' (j1 :: l') j3 (by dsimp only; rw [hp]) T' (by omega) b2 b3 b4 ?_ ?_ ?_ ?_
            · have := f2.tr b5
              rw [show 1 + l'.length = (j1 :: l').length by simp only [List.length_cons]; omega] at this
              exact this
            · rw [b6]; congr 1; simp only [List.length_cons]; omega
            · simp only [List.length_cons]; omega
            · intro k hk
              cases k with
              | zero => exact r2.fl b5 (by omega)
              | succ k =>
                have := b8 k (by simp only [List.length_cons] at hk; omega)
                rw [show c + 1 + k = c + (k + 1) by omega] at this
                exact this
          · intro e T' hp b1 b2 b3
            exact herr' e (by dsimp only; rw [hp]) T' (by omega) ((b2.fy f2.1).le (by rw [f2.2.2.2.1]; exact Nat.le_refl _)) b3
      by_cases hq0 : q = 0
      · subst hq0
        refine wp_t (by decide) ?_
        rw [if_neg (show ¬ (0 ≠ 0 ∧ xK X j ≠ 47) by omega), if_neg (show ¬ 0 = 6 by omega), if_pos (show 0 = 0 from rfl)] at hok herr
        exact main T j hG hW (Fdl.z hq hI.2.2.1 hI.1) h62 (Nat.le_refl _) (by omega) (fun l j3 hp T' => hok l j3 T' hp) (fun e hp T' => herr e T' hp)
      · refine wp_f (fun q0 => hq0 (by have := (nI_leI (a := q) (b := 0) (by omega) (by omega)).mp q0; omega)) ?_
        by_cases k47 : xK X j = 47
        · have hj2 := hG.lt hX (by omega)
          rw [if_neg (show ¬ (q ≠ 0 ∧ xK X j ≠ 47) by omega)] at hok herr
          refine wp_be (q_ndY hX hG.1 hG.2.1 47 rfl k47 (by omega)) ?_
          have hG1 := hG.adv hX hj2
          have hj3 := hG1.1.1
          have f0 : Fdl t c q 0 T (advS T) := ⟨Fz.rf.adv.fy, Fn.rf.adv, advS_if (by omega), nN_adv, by rw [advS_i (by omega)]; exact hI.2.2.1, by rw [advS_i (by omega)]; exact hI.1, by rw [advS_i (by omega)]; exact hq, fun g j a b c d e => advS_i (by omega), fun g j a b c => advS_j (by omega)⟩
          by_cases q6 : q = 6
          · rw [if_pos q6] at herr
            have hz := hG1.zi (T0 := T) (B := nN T) f0.1 (by rw [nN_adv]; exact Nat.le_refl _)
            have hIz : Ic (failS (advS T) 1 ((advS T).1 3 0)) t c := ⟨by rw [failS_f (by omega) (by omega)]; exact f0.2.2.2.2.2.1, hI.2.1, by rw [failS_f (by omega) (by omega)]; exact f0.2.2.2.2.1, hI.2.2.2⟩
            unfold rj_Model_readHead_40
            refine wp_gd (by rw [f0.2.2.2.2.2.1]; exact htI) ?_
            rw [f0.2.2.2.2.2.1, ct, f0.2.2.2.2.2.2.1]
            refine wp_t (by rw [q6]; rfl) ?_
            refine wp_be (q_wrong0 hG1.2.1) ?_
            refine wp_bi (b_field hz hIz) ?_
            intro r l S3 h3
            refine wp_st ?_
            exact bl (j + 1) _ (fun S hS h64 => herr (j + 1) S rfl (by omega) hS h64) (h3.1.w (by omega)) (by rw [sI_ne (by omega)]; exact h3.2.1)
          · rw [if_neg q6, if_neg hq0] at hok herr
            exact main (advS T) (j + 1) hG1 hW.adv f0 (by rw [advS_i (by omega)]; exact h62) (by omega) (by omega) (fun l j3 hp T' => hok l j3 T' hp) (fun e hp T' => herr e T' hp)
        · rw [if_pos (show q ≠ 0 ∧ xK X j ≠ 47 from ⟨hq0, k47⟩)] at herr
          refine wp_be (q_ndN hX hG.1 hG.2.1 47 rfl k47 (by omega) (by omega)) ?_
          have hz := hG.zi (T0 := T) (B := nN T) Fy.rf (Nat.le_refl _)
          have hIz : Ic (failS T 1 (T.1 3 0)) t c := ⟨by rw [failS_f (by omega) (by omega)]; exact hI.1, hI.2.1, by rw [failS_f (by omega) (by omega)]; exact hI.2.2.1, hI.2.2.2⟩
          have s19 : (failS T 1 (T.1 3 0)).1 19 t = nI q := by rw [failS_f (by omega) (by omega)]; exact hq
          have s62 : (failS T 1 (T.1 3 0)).1 62 0 = nI q := by rw [failS_f (by omega) (by omega)]; exact h62
          generalize failS T 1 (T.1 3 0) = S at *
          have fin : ∀ S', Zi X j T (nN T) S' → S'.1 64 0 = nI t → wp (rl_Model_readHead_6 (RR nf (d + 30)) nf fl' S') Q := fun S' h h64 => bl j S' (fun S hS h64 => herr j S rfl (Nat.le_refl _) hS h64) h h64
          unfold rj_Model_readHead_40
          refine wp_gd (by rw [hIz.1]; exact htI) ?_
          refine wp_if (fun _ => ?_) (fun _ => wp_if (fun _ => ?_) (fun _ => ?_))
          · refine wp_be (q_wrong1 hz.bd) ?_
            refine wp_bi (b_field hz hIz) ?_
            intro r l S3 h3
            refine wp_st ?_
            exact fin _ (h3.1.w (by omega)) (by rw [sI_ne (by omega)]; exact h3.2.1)
          · refine wp_be (q_wrong1 hz.bd) ?_
            refine wp_bi (b_field hz hIz) ?_
            intro r l S3 h3
            refine wp_st ?_
            exact fin _ (h3.1.w (by omega)) (by rw [sI_ne (by omega)]; exact h3.2.1)
          · refine wp_bi (b_field hz hIz) ?_
            intro r l S3 h3
            refine wp_st ?_
            exact fin _ (h3.1.w (by omega)) (by rw [sI_ne (by omega)]; exact h3.2.1)
end HD
