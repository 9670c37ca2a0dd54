/-! the class's parser: fields, parameters, where -/
/-- what reading parts of item t from the q-th on leaves as it was, while no fault is told -/
def Fpp (t q : Nat) (T T' : gSt) : Prop := (∀ k j, (k ≠ 58 ∧ k ≠ 128) → k ≠ 60 → ¬ (k = 32 ∧ j = t) → ¬ (k = 43 ∧ 8 * t + q ≤ j) → T'.1 k j = T.1 k j) ∧ T'.2 = T.2
def RpL (T : gSt) (t q : Nat) (l : List Nat) : Prop := ∀ n, n < l.length → T.1 43 (8 * t + q + n) = nI (l.getD n 0)
def CfQ (X : Lx) (T : gSt) (t q p j : Nat) (v : Bool) (res : Except Nat (List Nat × Nat)) (T' : gSt) : Prop := match res with
  | .ok (l, j3) => GC X T' j3 p ∧ j < j3 ∧ Fpp t q T T' ∧ T'.1 32 t = nI (q + l.length) ∧ RpL T' t q l ∧ q + l.length ≤ 8 ∧ (if v = true then T'.1 60 0 = nI (q + l.length) else T'.1 60 0 = T.1 60 0)
  | .error e => Bd X T' e ∧ FcI t T T'
def pPb (K : Nat → Nat) (f q jj : Nat) : Except Nat (List Nat × Nat) := if q = 6 then .error jj else match pField K jj with
  | .error e => .error e
  | .ok j2 => match pPa K f (q + 1) j2 with
    | .error e => .error e
    | .ok (l, j3) => .ok (jj :: l, j3)
/-- parameters and the ) behind them -/
def pPe (x : Except Nat (List Nat × Nat)) : Except Nat (List Nat × Nat) := match x with
  | .error e => .error e
  | .ok (l, j) => .ok (l, j + 1)
section CFL
variable {nf d : Nat} {T T' T1 T2 T3 T7 : gSt} {X : Lx} {i j k p p' q m n e c z lo hi v g j0 t : Nat} {x y r a0 a b : Int32} {u : Int64} {K : Int32 → Int64 → gSt → gR} {K2 : Int32 → gSt → gR} {Q : Int32 → Int64 → gSt → Prop} {ls : List Nat}
theorem Fpp.rf : Fpp t q T T := ⟨fun _ _ _ _ _ _ => rfl, rfl⟩
theorem Fpp.tr {q' : Nat} (h : Fpp t q T T1) (h2 : Fpp t q' T1 T') (hq : q ≤ q') : Fpp t q T T' := ⟨fun k j a b c d => (h2.1 k j a b c (by omega)).trans (h.1 k j a b c d), h2.2.trans h.2⟩
theorem Fpp.ci (h : Fpp t q T T') : FcI t T T' := ⟨fun k j a b c d e f g l m n => h.1 k j (by omega) e (by omega) (by omega), fun k j a => by rw [h.2]⟩
theorem Fpp.pt (hq : q < 8) : Fpp t q T (cMv (cPt T t q i) j) := ⟨fun k j' a b c d => by rw [mvo a]; unfold cPt; rw [rdI, if_neg (by omega), rdI, if_neg (by omega)], rfl⟩
theorem cPt_32 : (cMv (cPt T t q i) j).1 32 t = nI (q + 1) := by rw [mvo (by omega)]; exact sI_v
theorem cPt_43 : (cMv (cPt T t q i) j).1 43 (8 * t + q) = nI i := by rw [mvo (by omega)]; unfold cPt; rw [sI_ne (by omega), sI_v]
theorem GC.pt (h : GC X T i p) (hj : j ≤ xn X) : GC X (cMv (cPt T t q i) j) j p := GC.mv (T := cPt T t q i) ((h.wi (by omega)).wi (by omega)) hj
theorem RpL.cs (h : T.1 43 (8 * t + q) = nI j) (h2 : RpL T t (q + 1) ls) : RpL T t q (j :: ls) := by
  intro n hn
  cases n with
  | zero => exact h
  | succ n =>
    have := h2 n (by simpa using hn)
    rw [show 8 * t + q + (n + 1) = 8 * t + (q + 1) + n by omega, this]
    rfl
theorem zb_fl (hX : XO X) (h : Bd X T e) (hd : 3 ≤ d) (hn : 1 ≤ n) {x1 x2 : Int32} : rl_Parser_parseFields_8 (PP nf d) nf n T x1 x2 = some (0, 0, T) := by
  obtain ⟨d, rfl⟩ : ∃ g, d = g + 3 := ⟨d - 3, by omega⟩
  obtain ⟨n, rfl⟩ : ∃ g, n = g + 1 := ⟨n - 1, by omega⟩
  rw [rl_Parser_parseFields_8]
  split
  · rw [b_need hX h, bis, b_need hX h, bis]
  · rw [if_neg (by rw [h.1]; decide), b_need hX h, bis, b_need hX h, bis]
/-- the loop over fields -/
theorem c_fl (hX : XO X) (hnf : 100 ≤ nf) (ht : t < 24) (hd : 20 ≤ d) : ∀ (f q j fl : Nat) (T : gSt), f + q = 9 → q ≤ 8 → 11 ≤ fl + q → GC X T j p → p ≤ j + 1 → T.1 32 t = nI q → (q = 0 ∨ ¬ xK X j = 41) → wp (rl_Parser_parseFields_8 (PP nf d) nf fl T (nI t) (nI q)) (fun _ _ T' => CfQ X T t q p j false (pSt (xK X) (pFl (xK X) f q j)) T') := by
  intro f
  induction f with
  | zero =>
    intro q j fl T h1 h2
    exact absurd h1 (by omega)
  | succ f ih =>
    intro q j fl T h1 h2 h3 hg hp hq h41
    have hxn := hX.1
    have hj0 := hg.2.1
    obtain ⟨fl, rfl⟩ : ∃ g, fl = g + 1 := ⟨fl - 1, by omega⟩
    have n8 : ¬ (8 : Int32) < nI q := fun w => by
      have := (nI_ltI (a := 8) (b := q) (by omega) (by omega)).mp w
      omega
    have go : wp (rj_Parser_parseFields_34 (PP nf d) nf (rl_Parser_parseFields_8 (PP nf d) nf fl) T (nI t) (nI q)) (fun _ _ T' => CfQ X T t q p j false (pSt (xK X) (pFl (xK X) (f + 1) q j)) T') := by
      unfold rj_Parser_parseFields_34
      rw [pFl]
      by_cases c8 : q = 8
      · rw [if_pos (show nI q = 8 by rw [c8]; rfl), if_pos c8]
        refine w_stop hX hg (by omega) ?_
        have b1 := hg.bd hX (show p ≤ 4008 by omega)
        have q1 : (cBd X j T).1 32 t = nI q := by
          unfold cBd
          rw [sI_ne (by omega), sI_ne (by omega), sI_ne (by omega), sI_ne (by omega)]; exact hq
        refine wp_bi (zb_part hX b1 q1 ht (by omega) (by omega)) ?_
        intro _ _ T2 h2'
        refine wb_need hX h2'.1 (by omega) ?_
        rw [vK, zb_fl hX h2'.1 (by omega) (by omega)]
        exact wp_some ⟨h2'.1, FC.bd.ci.tr h2'.2⟩
      · have n8' : ¬ nI q = 8 := fun w => by
          have := nI_inj (b := 8) (by omega) (by omega) w
          omega
        rw [if_neg n8', if_neg c8]
        refine w_part hX hnf hg hp hq ht (by omega) (by omega) (fun j2 ej hij hjn => ?_) (fun e Tb ee bb fb => ?_)
        · rw [ej]
          dsimp only
          have g2 := hg.pt (t := t) (q := q) hjn
          have f2 : Fpp t q T (cMv (cPt T t q j) j2) := Fpp.pt (by omega)
          have w32 : (cMv (cPt T t q j) j2).1 32 t = nI (q + 1) := cPt_32
          have w43 : (cMv (cPt T t q j) j2).1 43 (8 * t + q) = nI j := cPt_43
          have w60 : (cMv (cPt T t q j) j2).1 60 0 = T.1 60 0 := by rw [mvo (by omega)]; unfold cPt; rw [sI_ne (by omega), sI_ne (by omega)]
          generalize cMv (cPt T t q j) j2 = T2 at *
          refine w_need (k := 46) hX g2 rfl (by omega) (by omega) (fun k46 => ?_) (fun k46 => ?_)
          · rw [if_pos k46, vK, nI_1]
            have h46 := K_lt hX k46 (by omega)
            have g3 := g2.mv (j := j2 + 1) (by omega)
            have f3 : Fpp t q T (cMv T2 (j2 + 1)) := f2.tr (q' := q) ⟨fun k j' a _ _ _ => mvo a, cMv_2s⟩ (Nat.le_refl _)
            have x32 : (cMv T2 (j2 + 1)).1 32 t = nI (q + 1) := by rw [mvo (by omega)]; exact w32
            have x43 : (cMv T2 (j2 + 1)).1 43 (8 * t + q) = nI j := by rw [mvo (by omega)]; exact w43
            have x60 : (cMv T2 (j2 + 1)).1 60 0 = T.1 60 0 := by rw [mvo (by omega)]; exact w60
            generalize cMv T2 (j2 + 1) = T3 at *
            by_cases k41 : xK X (j2 + 1) = 41
            · rw [if_pos k41]
              have h41' := K_lt hX k41 (by omega)
              obtain ⟨fl, rfl⟩ : ∃ g, fl = g + 1 := ⟨fl - 1, by omega⟩
              have n8'' : ¬ (8 : Int32) < nI (q + 1) := fun w => by
                have := (nI_ltI (a := 8) (b := q + 1) (by omega) (by omega)).mp w
                omega
              rw [rl_Parser_parseFields_8, if_neg n8'', if_pos g3.2.2.1, if_neg (lo_nz (by omega) (by omega))]
              refine w_sees (k := 41) hX g3 rfl (by omega) (fun _ => ?_) (fun w => absurd k41 w)
              refine w_need (k := 41) hX g3 rfl (by omega) (by omega) (fun _ => ?_) (fun w => absurd k41 w)
              have g4 := g3.mv (j := j2 + 1 + 1) (by omega)
              unfold pSt
              dsimp only
              refine w_need (k := 46) hX g4 rfl (by omega) (by omega) (fun k46' => ?_) (fun k46' => ?_)
              · rw [if_pos k46', cMv_2]
                have h6 := K_lt hX k46' (by omega)
                refine wp_some ⟨g3.mv (by omega), by omega, f3.tr (q' := q) ⟨fun k j' a _ _ _ => mvo a, cMv_2s⟩ (Nat.le_refl _), by rw [mvo (by omega)]; exact x32, ?_, by simp only [List.length]; omega, ?_⟩
                · refine RpL.cs (by rw [mvo (by omega)]; exact x43) (fun n hn => absurd hn (by simp))
                · rw [if_neg (by decide), mvo (by omega)]; exact x60
              · rw [if_neg k46']
                exact wp_some ⟨g4.bd hX (by omega), f3.ci.tr (FC.mv.tr FC.bd).ci⟩
            · rw [if_neg k41]
              by_cases c9 : q + 1 ≤ 8
              · refine wp_mono (ih (q + 1) (j2 + 1) fl T3 (by omega) c9 (by omega) g3 (by omega) x32 (Or.inr k41)) ?_
                intro _ _ T4 h4
                generalize pFl (xK X) f (q + 1) (j2 + 1) = res at *
                cases res with
                | error e => exact ⟨h4.1, f3.ci.tr h4.2⟩
                | ok y =>
                  obtain ⟨ls, j3⟩ := y
                  unfold pSt at h4 ⊢
                  dsimp only at h4 ⊢
                  by_cases k46' : xK X (j3 + 1) = 46
                  · rw [if_pos k46'] at h4 ⊢
                    obtain ⟨a1, a2, a3, a4, a5, a6, a7⟩ := h4
                    rw [if_neg (by decide)] at a7
                    refine ⟨a1, by omega, f3.tr a3 (by omega), ?_, RpL.cs ?_ a5, ?_, ?_⟩
                    · rw [a4, List.length_cons, show q + 1 + ls.length = q + (ls.length + 1) by omega]
                    · rw [a3.1 43 (8 * t + q) (by omega) (by omega) (by omega) (by omega)]; exact x43
                    · rw [List.length_cons]; omega
                    · rw [if_neg (by decide), a7]; exact x60
                  · rw [if_neg k46'] at h4 ⊢
                    exact ⟨h4.1, f3.ci.tr h4.2⟩
              · exact absurd c9 (by omega)
          · rw [if_neg k46]
            have b3 := g2.bd hX (show p ≤ 4008 by omega)
            rw [vK, zb_fl hX b3 (by omega) (by omega)]
            exact wp_some ⟨b3, f2.ci.tr FC.bd.ci⟩
        · rw [ee]
          refine wb_need hX bb (by omega) ?_
          rw [vK, zb_fl hX bb (by omega) (by omega)]
          exact wp_some ⟨bb, fb⟩
    rw [rl_Parser_parseFields_8, if_neg n8, if_pos hg.2.2.1]
    by_cases c0 : q = 0
    · rw [if_pos (show nI q = 0 by rw [c0]; rfl)]
      exact go
    · rw [if_neg (lo_nz c0 (by omega))]
      refine w_sees (k := 41) hX hg rfl (by omega) (fun w => by omega) (fun _ => ?_)
      exact go
theorem zb_pl (hX : XO X) (h : Bd X T e) (hd : 3 ≤ d) (hn : 1 ≤ n) {x1 x3 : Int32} : rl_Parser_parseParameters_17 (PP nf d) nf n T x1 0 x3 = some (0, 0, T) := by
  obtain ⟨d, rfl⟩ : ∃ g, d = g + 3 := ⟨d - 3, by omega⟩
  obtain ⟨n, rfl⟩ : ∃ g, n = g + 1 := ⟨n - 1, by omega⟩
  rw [rl_Parser_parseParameters_17]
  split
  · rw [b_need hX h, bis]
  · rw [if_pos rfl, b_need hX h, bis]
theorem pPa_s {K : Nat → Nat} {f q j : Nat} : pPa K (f + 1) q j = if K j = 43 then .ok ([], j) else if q ≠ 0 ∧ K j ≠ 47 then .error j else pPb K f q (if q = 0 then j else j + 1) := by
  rw [pPa]
  unfold pPb
  split
  · rfl
  · split
    · rfl
    · rename_i c1 c2
      by_cases c6 : q = 6
      · rw [if_pos c6, if_pos c6, if_neg (by omega)]
      · rw [if_neg c6, if_neg c6]
        rfl
/-- the loop over parameters where one is to come -/
theorem c_pal (hX : XO X) (hnf : 100 ≤ nf) (ht : t < 24) (hd : 20 ≤ d) : ∀ (f q j fl : Nat) (T : gSt), f + q = 6 → 9 ≤ fl + q → GC X T j p → p ≤ j + 1 → T.1 32 t = nI q → T.1 60 0 = nI q → wp (rl_Parser_parseParameters_17 (PP nf d) nf fl T (nI t) 1 (nI q)) (fun _ _ T' => CfQ X T t q p j true (pPe (pPb (xK X) f q j)) T') := by
  intro f
  induction f with
  | zero =>
    intro q j fl T h1 h3 hg hp hq h60
    have hxn := hX.1
    have hj0 := hg.2.1
    have c6 : q = 6 := by omega
    obtain ⟨fl, rfl⟩ : ∃ g, fl = g + 2 := ⟨fl - 2, by omega⟩
    rw [rl_Parser_parseParameters_17, c6, if_neg (by decide), if_neg (by decide), if_pos (show nI 6 = 6 from rfl)]
    unfold pPb pPe
    rw [if_pos rfl]
    refine w_stop hX hg (by omega) ?_
    unfold rj_Parser_parseParameters_37
    rw [stK]
    have b1 : Bd X (sI (cBd X j T) 60 0 ((cBd X j T).1 60 0 + 1)) j := (hg.bd hX (show p ≤ 4008 by omega)).wi (by omega)
    have f1 : FcI t T (sI (cBd X j T) 60 0 ((cBd X j T).1 60 0 + 1)) := FC.bd.ci.tr (FcI.wr (by omega))
    have q1 : (sI (cBd X j T) 60 0 ((cBd X j T).1 60 0 + 1)).1 32 t = nI q := by
      unfold cBd
      rw [sI_ne (by omega), sI_ne (by omega), sI_ne (by omega), sI_ne (by omega), sI_ne (by omega)]; exact hq
    generalize sI (cBd X j T) 60 0 ((cBd X j T).1 60 0 + 1) = T1 at *
    refine wp_bi (zb_part hX b1 q1 ht (by omega) (by omega)) ?_
    intro _ _ T2 h2'
    refine wb_acc h2'.1 (by omega) ?_
    rw [vK, zb_pl hX h2'.1 (by omega) (by omega)]
    exact wp_some ⟨h2'.1, f1.tr h2'.2⟩
  | succ f ih =>
    intro q j fl T h1 h3 hg hp hq h60
    have hxn := hX.1
    have hj0 := hg.2.1
    obtain ⟨fl, rfl⟩ : ∃ g, fl = g + 2 := ⟨fl - 2, by omega⟩
    have n6 : ¬ (6 : Int32) < nI q := fun w => by
      have := (nI_ltI (a := 6) (b := q) (by omega) (by omega)).mp w
      omega
    have n6' : ¬ nI q = 6 := fun w => by
      have := nI_inj (b := 6) (by omega) (by omega) w
      omega
    rw [rl_Parser_parseParameters_17, if_neg n6, if_neg (show ¬ (1 : Int32) = 0 by decide), if_neg n6']
    unfold rj_Parser_parseParameters_37
    rw [stK, h60, nI_1]
    have g1 : GC X (sI T 60 0 (nI (q + 1))) j p := hg.wi (by omega)
    have f1 : Fpp t q T (sI T 60 0 (nI (q + 1))) := ⟨fun k j' a b c d => by rw [sI_ne b], rfl⟩
    have q1 : (sI T 60 0 (nI (q + 1))).1 32 t = nI q := by rw [sI_ne (by omega)]; exact hq
    have v1 : (sI T 60 0 (nI (q + 1))).1 60 0 = nI (q + 1) := sI_v
    generalize sI T 60 0 (nI (q + 1)) = T1 at *
    unfold pPb
    rw [if_neg (show ¬ q = 6 by omega)]
    refine w_part hX hnf g1 hp q1 ht (by omega) (by omega) (fun j2 ej hij hjn => ?_) (fun e Tb ee bb fb => ?_)
    · rw [ej]
      dsimp only
      have g2 := g1.pt (t := t) (q := q) hjn
      have f2 : Fpp t q T (cMv (cPt T1 t q j) j2) := f1.tr (q' := q) (Fpp.pt (by omega)) (Nat.le_refl _)
      have w32 : (cMv (cPt T1 t q j) j2).1 32 t = nI (q + 1) := cPt_32
      have w43 : (cMv (cPt T1 t q j) j2).1 43 (8 * t + q) = nI j := cPt_43
      have w60 : (cMv (cPt T1 t q j) j2).1 60 0 = nI (q + 1) := by rw [mvo (by omega)]; unfold cPt; rw [sI_ne (by omega), sI_ne (by omega)]; exact v1
      generalize cMv (cPt T1 t q j) j2 = T2 at *
      rw [pPa_s]
      refine w_acc (k := 47) hX g2 rfl (by omega) (by omega) (fun k47 => ?_) (fun k47 => ?_)
      · rw [vK, if_neg (show ¬ xK X j2 = 43 by omega), if_neg (show ¬ (q + 1 ≠ 0 ∧ xK X j2 ≠ 47) by omega), if_neg (show ¬ q + 1 = 0 by omega)]
        have h47 := K_lt hX k47 (by omega)
        have g3 := g2.mv (j := j2 + 1) (by omega)
        have f3 : Fpp t q T (cMv T2 (j2 + 1)) := f2.tr (q' := q) ⟨fun k j' a _ _ _ => mvo a, cMv_2s⟩ (Nat.le_refl _)
        have x43 : (cMv T2 (j2 + 1)).1 43 (8 * t + q) = nI j := by rw [mvo (by omega)]; exact w43
        refine wp_mono (ih (q + 1) (j2 + 1) (fl + 1) (cMv T2 (j2 + 1)) (by omega) (by omega) g3 (by omega) (by rw [mvo (by omega)]; exact w32) (by rw [mvo (by omega)]; exact w60)) ?_
        intro _ _ T4 h4
        generalize cMv T2 (j2 + 1) = T3 at *
        generalize pPb (xK X) f (q + 1) (j2 + 1) = res at *
        cases res with
        | error e => exact ⟨h4.1, f3.ci.tr h4.2⟩
        | ok y =>
          obtain ⟨ls, j3⟩ := y
          obtain ⟨a1, a2, a3, a4, a5, a6, a7⟩ := h4
          rw [if_pos rfl] at a7
          refine ⟨a1, by omega, f3.tr a3 (by omega), ?_, RpL.cs ?_ a5, ?_, ?_⟩
          · rw [a4, List.length_cons, show q + 1 + ls.length = q + (ls.length + 1) by omega]
          · rw [a3.1 43 (8 * t + q) (by omega) (by omega) (by omega) (by omega)]; exact x43
          · rw [List.length_cons]; omega
          · rw [if_pos rfl, a7, List.length_cons, show q + 1 + ls.length = q + (ls.length + 1) by omega]
      · rw [vK, rl_Parser_parseParameters_17]
        have fin : wp (bi (PP nf d 60 T2 [(43 : Int32)] []) fun r4 l4 T4 => some (0, 0, T4)) (fun _ _ T' => CfQ X T t q p j true (pPe (match (if xK X j2 = 43 then .ok ([], j2) else if q + 1 ≠ 0 ∧ xK X j2 ≠ 47 then .error j2 else pPb (xK X) f (q + 1) (if q + 1 = 0 then j2 else j2 + 1) : Except Nat (List Nat × Nat)) with
            | .error e => .error e
            | .ok (l, j3) => .ok (j :: l, j3))) T') := by
          refine w_need (k := 43) hX g2 rfl (by omega) (by omega) (fun k43 => ?_) (fun k43 => ?_)
          · rw [if_pos k43]
            have h43 := K_lt hX k43 (by omega)
            refine wp_some ⟨g2.mv (by omega), by omega, f2.tr (q' := q) ⟨fun k j' a _ _ _ => mvo a, cMv_2s⟩ (Nat.le_refl _), by rw [mvo (by omega)]; exact w32, RpL.cs (by rw [mvo (by omega)]; exact w43) (fun n hn => absurd hn (by simp)), by simp only [List.length]; omega, ?_⟩
            rw [if_pos rfl, mvo (by omega)]
            exact w60
          · rw [if_neg k43, if_pos (show q + 1 ≠ 0 ∧ xK X j2 ≠ 47 from ⟨by omega, k47⟩)]
            exact wp_some ⟨g2.bd hX (by omega), f2.ci.tr FC.bd.ci⟩
        split
        · exact fin
        · rw [if_pos rfl]
          exact fin
    · rw [ee]
      refine wb_acc bb (by omega) ?_
      rw [vK, zb_pl hX bb (by omega) (by omega)]
      exact wp_some ⟨bb, f1.ci.tr fb⟩
end CFL
