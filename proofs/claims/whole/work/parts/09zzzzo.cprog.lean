/-! the class's parser: items, the whole text -/
def enB : Tr → Nat
  | .add (.add (.var _) (.add (.var i) (.var _))) _ => i
  | _ => 0
/-- how the class holds an item -/
def RcI (X : Lx) (T : gSt) (t lo hi : Nat) (x : It) : Prop := match x with
  | (i, e, l, rt, dt, _, wt, _, b) => T.1 28 t = nI (xK X i) ∧ T.1 29 t = nI (i + 1) ∧ T.2 30 t = xN X (i + 1) ∧ e ≤ 3 ∧ T.1 31 t = nI e ∧ T.1 32 t = nI l.length ∧ l.length ≤ 8 ∧ RpL T t 0 l ∧ T.1 33 t = nI rt ∧ T.1 34 t = nI (dt - 1) ∧ T.1 35 t = nI (wt - 1) ∧ (xK X i = 12 → T.1 36 t = (if emB b = true then 0 else nI lo) ∧ T.1 37 t = nI (enB b) ∧ RcS X T b 2 0 lo hi)
def RcP (X : Lx) (T : gSt) : Nat → Nat → Nat → List It → Prop
  | _, lo, hi, [] => lo = hi
  | t, lo, hi, x :: l => ∃ m, lo ≤ m ∧ m ≤ hi ∧ RcI X T t lo m x ∧ RcP X T (t + 1) m hi l
/-- what an item's head holds, as its fields or its fun begin -/
def CiQ (X : Lx) (T : gSt) (t p i : Nat) (res : Except Nat (It × Nat)) (T' : gSt) : Prop := match res with
  | .ok (x, j) => ∃ p', GC X T' j p' ∧ i < j ∧ p ≤ p' ∧ p' + i ≤ p + j ∧ FcI t T T' ∧ Nf T T' p ∧ T'.1 27 0 = nI (t + 1) ∧ RcI X T' t p p' x
  | .error e => Bd X T' e ∧ FcI t T T'
section CPR
variable {nf d : Nat} {T T' T1 T2 T3 T7 : gSt} {X : Lx} {i j k p p' q m n e c z lo hi v g j0 j2 t : Nat} {x y r a0 a : Int32} {b : Tr} {u : Int64} {K : Int32 → Int64 → gSt → gR} {K2 : Int32 → gSt → gR} {Q : Int32 → Int64 → gSt → Prop} {ls : List Nat}
theorem c_fields (hX : XO X) (hnf : 100 ≤ nf) (ht : t < 24) (hd : 21 ≤ d) (hg : GC X T j p) (hp : p ≤ j + 1) (hq : T.1 32 t = 0) : wp (PP nf d 64 T [nI t] []) (fun _ _ T' => CfQ X T t 0 p j false (if xK X j = 40 then pSt (xK X) (pFl (xK X) 9 0 (j + 1)) else .error j) T') := by
  obtain ⟨d, rfl⟩ : ∃ g, d = g + 1 := ⟨d - 1, by omega⟩
  have hxn := hX.1
  have hj0 := hg.2.1
  rw [e_Parser_parseFields]
  unfold rb_Parser_parseFields
  refine w_need (k := 40) hX hg rfl (by omega) (by omega) (fun k40 => ?_) (fun k40 => ?_)
  · rw [if_pos k40]
    have h1 := K_lt hX k40 (by omega)
    have g1 := hg.mv (j := j + 1) (by omega)
    refine wp_mono (c_fl (d := d) hX hnf ht (by omega) 9 0 (j + 1) nf (cMv T (j + 1)) (by omega) (by omega) (by omega) g1 (by omega) (by rw [mvo (by omega)]; exact hq) (Or.inl rfl)) ?_
    intro _ _ T2 h2
    generalize pSt (xK X) (pFl (xK X) 9 0 (j + 1)) = res at *
    cases res with
    | error e => exact ⟨h2.1, FC.mv.ci.tr h2.2⟩
    | ok y =>
      obtain ⟨l, j3⟩ := y
      obtain ⟨a1, a2, a3, a4, a5, a6, a7⟩ := h2
      refine ⟨a1, by omega, Fpp.tr (q' := 0) ⟨fun k j' c1 _ _ _ => mvo c1, cMv_2s⟩ a3 (Nat.le_refl _), a4, a5, a6, ?_⟩
      rw [if_neg (by decide)] at a7 ⊢
      rw [a7, mvo (by omega)]
  · rw [if_neg k40]
    have b1 := hg.bd hX (show p ≤ 4008 by omega)
    rw [zb_fl hX b1 (by omega) (by omega)]
    exact wp_some ⟨b1, FC.bd.ci⟩
theorem c_params (hX : XO X) (hnf : 100 ≤ nf) (ht : t < 24) (hd : 21 ≤ d) (hg : GC X T j p) (hp : p ≤ j + 1) (hq : T.1 32 t = 0) (h60 : T.1 60 0 = 0) : wp (PP nf d 67 T [nI t] []) (fun _ _ T' => CfQ X T t 0 p j true (pPe (pPa (xK X) 7 0 j)) T') := by
  obtain ⟨d, rfl⟩ : ∃ g, d = g + 1 := ⟨d - 1, by omega⟩
  have hxn := hX.1
  have hj0 := hg.2.1
  rw [e_Parser_parseParameters]
  unfold rb_Parser_parseParameters
  rw [pPa_s]
  refine w_sees (k := 43) hX hg rfl (by omega) (fun k43 => ?_) (fun k43 => ?_)
  · rw [if_pos k43]
    have h1 := K_lt hX k43 (by omega)
    obtain ⟨nf', hnf'⟩ : ∃ g, nf = g + 1 := ⟨nf - 1, by omega⟩
    rw [show rl_Parser_parseParameters_17 (PP nf d) nf nf T (nI t) 0 0 = (bi (PP nf d 60 T [(43 : Int32)] []) fun r6 l6 T6 => some (0, 0, T6)) by rw [hnf', rl_Parser_parseParameters_17, if_neg (by decide), if_pos rfl]]
    refine w_need (k := 43) hX hg rfl (by omega) (by omega) (fun _ => ?_) (fun w => absurd k43 w)
    refine wp_some ⟨hg.mv (by omega), by omega, ⟨fun k j' c1 _ _ _ => mvo c1, cMv_2s⟩, by rw [mvo (by omega)]; exact hq, fun n hn => absurd hn (by simp), by simp, ?_⟩
    rw [if_pos rfl, mvo (by omega)]
    exact h60
  · rw [if_neg k43, if_neg (show ¬ (0 ≠ 0 ∧ xK X j ≠ 47) by omega), if_pos (show (0 : Nat) = 0 from rfl)]
    exact c_pal hX hnf ht (by omega) 6 0 j nf T (by omega) (by omega) hg hp hq h60
/-- a fun behind its REGIONS -/
theorem c_fun (hX : XO X) (hnf : 5000 ≤ nf) (hg : GC X T j p) (hp : p ≤ j + 1) (hp1 : 1 ≤ p) (ht : t < 24) (hd : 301 ≤ d) (h32 : T.1 32 t = 0) (h33 : T.1 33 t = 0) (h34 : T.1 34 t = 0) (h35 : T.1 35 t = 0) : wp (PP nf d 66 T [nI t] []) (fun _ _ T' => match uF (xK X) j with
    | .ok (l, rt, dt, n, wt, w, b, j2) => ∃ p', GC X T' j2 p' ∧ j < j2 ∧ p ≤ p' ∧ p' + j ≤ p + j2 ∧ FcI t T T' ∧ Nf T T' p ∧ (∀ k j', (27 ≤ k ∧ k ≤ 31) → T'.1 k j' = T.1 k j') ∧ T'.2 = T.2 ∧ T'.1 32 t = nI l.length ∧ l.length ≤ 8 ∧ RpL T' t 0 l ∧ T'.1 33 t = nI rt ∧ T'.1 34 t = nI (dt - 1) ∧ T'.1 35 t = nI (wt - 1) ∧ T'.1 36 t = (if emB b = true then 0 else nI p) ∧ T'.1 37 t = nI (j2 - 1) ∧ RcS X T' b 2 0 p p'
    | .error e => CuE X T t e T') := by
  obtain ⟨d, rfl⟩ : ∃ g, d = g + 1 := ⟨d - 1, by omega⟩
  have hxn := hX.1
  have hj0 := hg.2.1
  have zt : inb (nI t) 24 := nin ht (by omega)
  have ct : (nI t).toNatClampNeg = t := nc (by omega)
  rw [e_Parser_parseFun]
  unfold rb_Parser_parseFun uF
  rw [stK, stK]
  have g1 : GC X (sI (sI T 60 0 0) 61 0 0) j p := (hg.wi (by omega)).wi (by omega)
  have r1 : ∀ k j', k ≠ 60 → k ≠ 61 → (sI (sI T 60 0 0) 61 0 0).1 k j' = T.1 k j' := fun k j' c1 c2 => by rw [sI_ne c2, sI_ne c1]
  have f1 : FcI t T (sI (sI T 60 0 0) 61 0 0) := (FcI.wr (by omega)).tr (FcI.wr (by omega))
  have v60 : (sI (sI T 60 0 0) 61 0 0).1 60 0 = 0 := by rw [sI_ne (by omega), sI_v]
  have v61 : (sI (sI T 60 0 0) 61 0 0).1 61 0 = 0 := sI_v
  have e2 : (sI (sI T 60 0 0) 61 0 0).2 = T.2 := rfl
  generalize sI (sI T 60 0 0) 61 0 0 = T1 at *
  refine w_need (k := 42) hX g1 rfl (by omega) (by omega) (fun k42 => ?_) (fun k42 => ?_)
  · rw [if_pos k42]
    have h1 := K_lt hX k42 (by omega)
    have g2 := g1.mv (j := j + 1) (by omega)
    refine wp_bi (c_params (d := d) hX (by omega) ht (by omega) g2 (by omega) (by rw [mvo (by omega), r1 32 t (by omega) (by omega)]; exact h32) (by rw [mvo (by omega)]; exact v60)) ?_
    intro _ _ T3 h3
    generalize pPa (xK X) 7 0 (j + 1) = res at *
    cases res with
    | error e =>
      obtain ⟨b3, f3⟩ := h3
      dsimp only
      refine wb_acc b3 (by omega) ?_
      rw [if_pos rfl]
      exact zb_49 hX (by omega) b3 ((f1.tr FC.mv.ci).tr f3) ht (by omega)
    | ok y =>
      obtain ⟨l, j3⟩ := y
      obtain ⟨g3, a2, a3, a4, a5, a6, a7⟩ := h3
      rw [if_pos rfl] at a7
      rw [Nat.zero_add] at a4 a6 a7
      dsimp only
      have l3 := g3.2.1
      have o3 : ∀ k j', (k ≠ 58 ∧ k ≠ 128) → k ≠ 60 → k ≠ 61 → k ≠ 32 → k ≠ 43 → T3.1 k j' = T.1 k j' := fun k j' c1 c2 c3 c4 c5 => by rw [a3.1 k j' c1 c2 (by omega) (by omega), mvo c1, r1 k j' c2 c3]
      have f3 : FcI t T T3 := (f1.tr FC.mv.ci).tr a3.ci
      have x61 : T3.1 61 0 = 0 := by rw [a3.1 61 0 (by omega) (by omega) (by omega) (by omega), mvo (by omega)]; exact v61
      have e3 : T3.2 = T.2 := a3.2.trans (cMv_2s.trans e2)
      -- what is left of the head and the BLOCK
      have key : ∀ (S : gSt) (jj rt : Nat), GC X S jj p → j ≤ jj → p ≤ jj + 1 → (∀ k j', (k ≠ 58 ∧ k ≠ 128) → ¬ (k = 33 ∧ j' = t) → S.1 k j' = T3.1 k j') → S.2 = T3.2 → S.1 33 t = nI rt → wp (rj_Parser_parseFun_49 (PP nf d) nf S (nI t)) (fun _ _ T' => match (match uD (xK X) l.length jj with
          | .error e => .error e
          | .ok (dt, n, wt, w, b, j5) => .ok (l, rt, dt, n, wt, w, b, j5) : Except Nat (List Nat × Nat × Nat × Nat × Nat × Nat × Tr × Nat)) with
          | .ok (l, rt, dt, n, wt, w, b, j2) => ∃ p', GC X T' j2 p' ∧ j < j2 ∧ p ≤ p' ∧ p' + j ≤ p + j2 ∧ FcI t T T' ∧ Nf T T' p ∧ (∀ k j', (27 ≤ k ∧ k ≤ 31) → T'.1 k j' = T.1 k j') ∧ T'.2 = T.2 ∧ T'.1 32 t = nI l.length ∧ l.length ≤ 8 ∧ RpL T' t 0 l ∧ T'.1 33 t = nI rt ∧ T'.1 34 t = nI (dt - 1) ∧ T'.1 35 t = nI (wt - 1) ∧ T'.1 36 t = (if emB b = true then 0 else nI p) ∧ T'.1 37 t = nI (j2 - 1) ∧ RcS X T' b 2 0 p p'
          | .error e => CuE X T t e T') := by
        intro S jj rt gS hjj hpj oS eS s33
        have fS : FcI t T S := f3.tr ⟨fun k j' c1 c2 c3 c4 c5 c6 c7 c8 c9 c10 => oS k j' (by omega) (by omega), fun k j' _ => by rw [eS]⟩
        refine wp_mono (c_49 (d := d) (v := l.length) hX hnf gS (by rw [oS 60 0 (by omega) (by omega)]; exact a7) (by rw [oS 61 0 (by omega) (by omega)]; exact x61) (by omega) hpj hp1 ht (by omega) (by rw [oS 35 t (by omega) (by omega), o3 35 t (by omega) (by omega) (by omega) (by omega) (by omega)]; exact h35) (by rw [oS 34 t (by omega) (by omega), o3 34 t (by omega) (by omega) (by omega) (by omega) (by omega)]; exact h34)) ?_
        intro _ _ T4 h4
        generalize uD (xK X) l.length jj = res at *
        cases res with
        | error e => exact ⟨h4.1, fS.tr h4.2⟩
        | ok y =>
          obtain ⟨dt, n, wt, w, b, j5⟩ := y
          obtain ⟨⟨p', b1, b2, b3, b4, b5, b6, b7, b8, b9⟩, c1, c2, c3⟩ := h4
          refine ⟨p', b1, by omega, b3, by omega, fS.tr b5.ci, fun k j' d1 d2 d3 => ?_, fun k j' d1 => ?_, ?_, ?_, a6, fun n hn => ?_, ?_, c2, c3, b7, b8, b9⟩
          · rw [b6 k j' d1 d2 d3, oS k j' (by omega) (by omega), o3 k j' (by omega) (by omega) (by omega) (by omega) (by omega)]
          · rw [b5.1 k j' (by omega) (by omega) (by omega) (by omega) (by omega) (by omega) (by omega) (by omega), oS k j' (by omega) (by omega), o3 k j' (by omega) (by omega) (by omega) (by omega) (by omega)]
          · rw [b5.2, eS, e3]
          · rw [b5.1 32 t (by omega) (by omega) (by omega) (by omega) (by omega) (by omega) (by omega) (by omega), oS 32 t (by omega) (by omega)]; exact a4
          · rw [b5.1 43 _ (by omega) (by omega) (by omega) (by omega) (by omega) (by omega) (by omega) (by omega), oS 43 _ (by omega) (by omega)]; exact a5 n hn
          · rw [c1, s33]
      refine w_acc (k := 48) hX g3 rfl (by omega) (by omega) (fun k48 => ?_) (fun k48 => ?_)
      · rw [if_neg (show ¬ (1 : Int32) = 0 by decide), if_pos k48, gd, if_pos zt, ct, stK]
        have h4 := K_lt hX k48 (by omega)
        have g4 := g3.mv (j := j3 + 1 + 1) (by omega)
        rw [g4.1]
        have g5 : GC X (sI (cMv T3 (j3 + 1 + 1)) 33 t (nI (j3 + 1 + 1))) (j3 + 1 + 1) p := g4.wi (by omega)
        have r5 : ∀ k j', (k ≠ 58 ∧ k ≠ 128) → ¬ (k = 33 ∧ j' = t) → (sI (cMv T3 (j3 + 1 + 1)) 33 t (nI (j3 + 1 + 1))).1 k j' = T3.1 k j' := fun k j' c1 c2 => by rw [rdI, if_neg c2, mvo c1]
        have v5 : (sI (cMv T3 (j3 + 1 + 1)) 33 t (nI (j3 + 1 + 1))).1 33 t = nI (j3 + 1 + 1) := sI_v
        have e5 : (sI (cMv T3 (j3 + 1 + 1)) 33 t (nI (j3 + 1 + 1))).2 = T3.2 := sI_2s.trans cMv_2s
        have f5 : FcI t T (sI (cMv T3 (j3 + 1 + 1)) 33 t (nI (j3 + 1 + 1))) := (f3.tr FC.mv.ci).tr (FcI.wr (by omega))
        generalize sI (cMv T3 (j3 + 1 + 1)) 33 t (nI (j3 + 1 + 1)) = T5 at *
        refine w_type hX (by omega) g5 (by omega) (by omega) (fun j4 ej hij hjn => ?_) (fun e Tb ee bb fb => ?_)
        · rw [show j3 + 2 = j3 + 1 + 1 by omega, ej]
          dsimp only
          exact key (cMv T5 j4) j4 (j3 + 1 + 1) (g5.mv hjn) (by omega) (by omega) (fun k j' c1 c2 => by rw [mvo c1, r5 k j' c1 c2]) (cMv_2s.trans e5) (by rw [mvo (by omega)]; exact v5)
        · rw [show j3 + 2 = j3 + 1 + 1 by omega, ee]
          exact zb_49 hX (by omega) bb (f5.tr fb.ci) ht (by omega)
      · rw [if_pos (show (0 : Int32) = 0 from rfl), if_neg k48]
        exact key T3 (j3 + 1) 0 g3 (by omega) (by omega) (fun _ _ _ _ => rfl) rfl (by rw [o3 33 t (by omega) (by omega) (by omega) (by omega) (by omega)]; exact h33)
  · rw [if_neg k42]
    have b2 := g1.bd hX (show p ≤ 4008 by omega)
    -- parameters behind a fault
    have q2 : (cBd X j T1).1 32 t = 0 := by
      unfold cBd
      rw [sI_ne (by omega), sI_ne (by omega), sI_ne (by omega), sI_ne (by omega), r1 32 t (by omega) (by omega)]; exact h32
    have f2 : FcI t T (cBd X j T1) := f1.tr FC.bd.ci
    generalize cBd X j T1 = T2 at *
    have pr : wp (PP nf d 67 T2 [nI t] []) (fun _ _ T' => Bd X T' j ∧ FcI t T2 T') := by
      obtain ⟨d, rfl⟩ : ∃ g, d = g + 1 := ⟨d - 1, by omega⟩
      rw [e_Parser_parseParameters]
      unfold rb_Parser_parseParameters
      refine wb_sees b2 ?_
      obtain ⟨nf', hnf'⟩ : ∃ g, nf = g + 1 := ⟨nf - 1, by omega⟩
      rw [show rl_Parser_parseParameters_17 (PP nf d) nf nf T2 (nI t) 1 0 = rj_Parser_parseParameters_37 (PP nf d) nf (rl_Parser_parseParameters_17 (PP nf d) nf nf') T2 (nI t) 0 by rw [hnf', rl_Parser_parseParameters_17, if_neg (by decide), if_neg (by decide), if_neg (by decide)]]
      unfold rj_Parser_parseParameters_37
      rw [stK]
      have b3 : Bd X (sI T2 60 0 (T2.1 60 0 + 1)) j := b2.wi (by omega)
      have f3 : FcI t T2 (sI T2 60 0 (T2.1 60 0 + 1)) := FcI.wr (by omega)
      have q3 : (sI T2 60 0 (T2.1 60 0 + 1)).1 32 t = nI 0 := by rw [sI_ne (by omega)]; exact q2
      generalize sI T2 60 0 (T2.1 60 0 + 1) = T3 at *
      refine wp_bi (zb_part hX b3 q3 ht (by omega) (by omega)) ?_
      intro _ _ T4 h4
      refine wb_acc h4.1 (by omega) ?_
      rw [vK, zb_pl hX h4.1 (by omega) (by omega)]
      exact wp_some ⟨h4.1, f3.tr h4.2⟩
    refine wp_bi pr ?_
    intro _ _ T4 h4
    refine wb_acc h4.1 (by omega) ?_
    rw [if_pos rfl]
    exact zb_49 hX (by omega) h4.1 (f2.tr h4.2) ht (by omega)
end CPR
