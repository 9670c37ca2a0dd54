/-! the class's parser: heads of funs, where, dead; whole funs -/
def whR (X : Lx) (T : gSt) (x : Except Nat (Nat × Nat)) : gSt := match x with
  | .ok (_, j) => cMv T j
  | .error e => cBd X e (cMv T e)
def uB (K : Nat → Nat) (v j : Nat) : Except Nat (Tr × Nat) := match pBl K 20 j v 0 with
  | .error e => .error e
  | .ok (b, j2, _, _) => .ok (b, j2)
def uW (K : Nat → Nat) (v j : Nat) : Except Nat (Nat × Nat × Tr × Nat) := match pTail K j with
  | .error e => .error e
  | .ok (wt, w, j3) => match uB K v j3 with
    | .error e => .error e
    | .ok (b, j2) => .ok (wt, w, b, j2)
def uD (K : Nat → Nat) (v j : Nat) : Except Nat (Nat × Nat × Nat × Nat × Tr × Nat) := if K j = 13 then (match pDead K 3 0 (j + 1) with
  | .error e => .error e
  | .ok (n, j2) => match uW K v j2 with
    | .error e => .error e
    | .ok (wt, w, b, j3) => .ok (j + 1, n, wt, w, b, j3)) else (match uW K v j with
    | .error e => .error e
    | .ok (wt, w, b, j3) => .ok (0, 0, wt, w, b, j3))
def uF (K : Nat → Nat) (j : Nat) : Except Nat (List Nat × Nat × Nat × Nat × Nat × Nat × Tr × Nat) := if K j = 42 then (match pPa K 7 0 (j + 1) with
  | .error e => .error e
  | .ok (l, j3) => if K (j3 + 1) = 48 then (match pTy K 6 false (j3 + 2) with
    | .error e => .error e
    | .ok j4 => match uD K l.length j4 with
      | .error e => .error e
      | .ok (dt, n, wt, w, b, j5) => .ok (l, j3 + 2, dt, n, wt, w, b, j5)) else (match uD K l.length (j3 + 1) with
      | .error e => .error e
      | .ok (dt, n, wt, w, b, j5) => .ok (l, 0, dt, n, wt, w, b, j5))) else .error j
/-- what the end of a fun's head and its BLOCK leave as it was -/
def Fw (t : Nat) (T T' : gSt) : Prop := (∀ k j, k ≠ 58 → k ≠ 59 → k ≠ 53 → k ≠ 54 → k ≠ 60 → k ≠ 61 → ¬ (11 ≤ k ∧ k ≤ 19 ∨ k = 128) → ¬ (33 ≤ k ∧ k ≤ 37 ∧ j = t) → T'.1 k j = T.1 k j) ∧ T'.2 = T.2
def Cu0 (X : Lx) (T : gSt) (t p j : Nat) (b : Tr) (j2 : Nat) (T' : gSt) : Prop := ∃ p', GC X T' j2 p' ∧ j < j2 ∧ p ≤ p' ∧ p' + j ≤ p + j2 ∧ Fw t T T' ∧ Nf T T' p ∧ T'.1 36 t = (if emB b = true then 0 else nI p) ∧ T'.1 37 t = nI (j2 - 1) ∧ RcS X T' b 2 0 p p'
def CuE (X : Lx) (T : gSt) (t e : Nat) (T' : gSt) : Prop := Bd X T' e ∧ FcI t T T'
section CFU
variable {nf d : Nat} {T T' T1 T2 T3 T7 : gSt} {X : Lx} {i j k p p' q m n e c z lo hi v g j0 j2 t : Nat} {x y r a0 a : Int32} {b : Tr} {u : Int64} {K : Int32 → Int64 → gSt → gR} {K2 : Int32 → gSt → gR} {Q : Int32 → Int64 → gSt → Prop} {ls : List Nat}
theorem Fw.rf : Fw t T T := ⟨fun _ _ _ _ _ _ _ _ _ _ => rfl, rfl⟩
theorem Fw.tr (h : Fw t T T1) (h2 : Fw t T1 T') : Fw t T T' := ⟨fun k j a b c d e f g l => (h2.1 k j a b c d e f g l).trans (h.1 k j a b c d e f g l), h2.2.trans h.2⟩
theorem Fw.ci (h : Fw t T T') : FcI t T T' := ⟨fun k j a b c d e f g l m n => h.1 k j a b c d e f l (by omega), fun k j a => by rw [h.2]⟩
theorem FD.fw (h : FD T T') : Fw t T T' := ⟨fun k j a b c d e f g l => by rw [h.1 k a b c d e f g], h.2⟩
theorem Fw.wr (h : 33 ≤ k ∧ k ≤ 37) : Fw t T (sI T k t x) := ⟨fun k' j a b c d e f g l => by rw [rdI, if_neg (fun w => by omega)], rfl⟩
theorem pWh_n (hX : XO X) : ∀ (f q j : Nat), j ≤ xn X → (∀ w j3, pWh (xK X) f q j = .ok (w, j3) → j < j3 ∧ j3 ≤ xn X) ∧ (∀ e, pWh (xK X) f q j = .error e → j ≤ e ∧ e ≤ xn X) := by
  intro f
  induction f with
  | zero =>
    intro q j hj
    rw [pWh]
    exact ⟨fun w j3 h => by simp at h, fun e h => by simp at h; omega⟩
  | succ f ih =>
    intro q j hj
    rw [pWh]
    by_cases c3 : q = 3
    · rw [if_pos c3]
      exact ⟨fun w j3 h => by simp at h, fun e h => by simp at h; omega⟩
    rw [if_neg c3]
    by_cases c4 : xK X j ≠ 4
    · rw [if_pos c4]
      exact ⟨fun w j3 h => by simp at h, fun e h => by simp at h; omega⟩
    rw [if_neg c4]
    have h1 := K_lt hX (show xK X j = 4 by omega) (by omega)
    by_cases c5 : xK X (j + 1) ≠ 52
    · rw [if_pos c5]
      exact ⟨fun w j3 h => by simp at h, fun e h => by simp at h; omega⟩
    rw [if_neg c5]
    have h2 := K_lt hX (show xK X (j + 1) = 52 by omega) (by omega)
    by_cases c6 : xK X (j + 2) ≠ 4
    · rw [if_pos c6]
      exact ⟨fun w j3 h => by simp at h, fun e h => by simp at h; omega⟩
    rw [if_neg c6]
    have h3 := K_lt hX (show xK X (j + 2) = 4 by omega) (by omega)
    by_cases c7 : xK X (j + 3) = 47
    · rw [if_pos c7]
      have h4 := K_lt hX c7 (by omega)
      have := ih (q + 1) (j + 4) (by omega)
      exact ⟨fun w j3 h => by have := this.1 w j3 h; omega, fun e h => by have := this.2 e h; omega⟩
    · rw [if_neg c7]
      exact ⟨fun w j3 h => by simp at h; omega, fun e h => by simp at h⟩
theorem zb_wl (hX : XO X) (h : Bd X T e) (hn : 1 ≤ n) {x2 : Int32} : rl_Parser_parseWhere_4 (PP nf d) nf n T 0 x2 = some (0, 0, T) := by
  obtain ⟨n, rfl⟩ : ∃ g, n = g + 1 := ⟨n - 1, by omega⟩
  rw [rl_Parser_parseWhere_4]
  split
  · rfl
  · rw [if_pos rfl]
theorem c_wh (hX : XO X) (hd : 4 ≤ d) : ∀ (f q j fl : Nat) (T : gSt), f + q = 4 → q ≤ 3 → 6 ≤ fl + q → GC X T j p → p ≤ 4008 → rl_Parser_parseWhere_4 (PP nf d) nf fl T 1 (nI q) = some (0, 0, whR X T (pWh (xK X) f q j)) := by
  obtain ⟨d, rfl⟩ : ∃ g, d = g + 4 := ⟨d - 4, by omega⟩
  intro f
  induction f with
  | zero =>
    intro q j fl T h1 h2
    omega
  | succ f ih =>
    intro q j fl T h1 h2 h3 hg hp
    have hxn := hX.1
    have hj0 := hg.2.1
    obtain ⟨fl, rfl⟩ : ∃ g, fl = g + 2 := ⟨fl - 2, by omega⟩
    have n3 : ¬ (3 : Int32) < nI q := fun w => by
      have := (nI_ltI (a := 3) (b := q) (by omega) (by omega)).mp w
      omega
    have bad : ∀ (S : gSt) (e : Nat), Bd X S e → (bi (PP nf (d + 4) 59 S [(47 : Int32)] []) fun r8 l8 T8 => vK (nI q + (1 : Int32)) fun z9 => rl_Parser_parseWhere_4 (PP nf (d + 4)) nf (fl + 1) T8 r8 z9) = some (0, 0, S) := by
      intro S e hb
      rw [show PP nf (d + 4) 59 S [47] [] = some (0, 0, S) from b_acc (d := d + 2) hb, bis, vK, zb_wl hX hb (by omega)]
    rw [rl_Parser_parseWhere_4, if_neg n3, if_neg (by decide), pWh]
    by_cases c3 : q = 3
    · rw [if_pos (show nI q = 3 by rw [c3]; rfl), if_pos c3, show PP nf (d + 4) 61 T [] [] = some (0, 0, cBd X j T) from c_stop (d := d + 2) hX hg, bis]
      have b1 := hg.bd hX hp
      unfold rj_Parser_parseWhere_22
      rw [show PP nf (d + 4) 60 (cBd X j T) [4] [] = some (0, 0, cBd X j T) from b_need (d := d + 1) hX b1, bis, show PP nf (d + 4) 60 (cBd X j T) [52] [] = some (0, 0, cBd X j T) from b_need (d := d + 1) hX b1, bis, show PP nf (d + 4) 60 (cBd X j T) [4] [] = some (0, 0, cBd X j T) from b_need (d := d + 1) hX b1, bis, bad _ _ b1]
      show some (0, 0, cBd X j T) = some (0, 0, cBd X j (cMv T j))
      rw [cMv_s hg]
    · have n3' : ¬ nI q = 3 := fun w => by
        have := nI_inj (b := 3) (by omega) (by omega) w
        omega
      rw [if_neg n3', if_neg c3]
      unfold rj_Parser_parseWhere_22
      rw [show PP nf (d + 4) 60 T [4] [] = some (0, 0, if xK X j = 4 then cMv T (j + 1) else cBd X j T) from c_need (d := d) (k := 4) hX hg (by omega), bis]
      by_cases c4 : xK X j = 4
      · have h1' := K_lt hX c4 (by omega)
        rw [if_pos c4, if_neg (show ¬ xK X j ≠ 4 by omega)]
        have g1 := hg.mv (j := j + 1) (by omega)
        rw [show PP nf (d + 4) 60 (cMv T (j + 1)) [52] [] = some (0, 0, if xK X (j + 1) = 52 then cMv (cMv T (j + 1)) (j + 1 + 1) else cBd X (j + 1) (cMv T (j + 1))) from c_need (d := d) (k := 52) hX g1 (by omega), bis]
        by_cases c5 : xK X (j + 1) = 52
        · have h2' := K_lt hX c5 (by omega)
          rw [if_pos c5, if_neg (show ¬ xK X (j + 1) ≠ 52 by omega), cMv_2]
          have g2 := hg.mv (j := j + 1 + 1) (by omega)
          rw [show PP nf (d + 4) 60 (cMv T (j + 1 + 1)) [4] [] = some (0, 0, if xK X (j + 1 + 1) = 4 then cMv (cMv T (j + 1 + 1)) (j + 1 + 1 + 1) else cBd X (j + 1 + 1) (cMv T (j + 1 + 1))) from c_need (d := d) (k := 4) hX g2 (by omega), bis]
          by_cases c6 : xK X (j + 1 + 1) = 4
          · have h3' := K_lt hX c6 (by omega)
            rw [if_pos c6, if_neg (show ¬ xK X (j + 2) ≠ 4 from fun w => w c6), cMv_2]
            have g3 := hg.mv (j := j + 3) (by omega)
            rw [show j + 1 + 1 + 1 = j + 3 by omega, show PP nf (d + 4) 59 (cMv T (j + 3)) [47] [] = (if xK X (j + 3) = 47 then some (1, 0, cMv (cMv T (j + 3)) (j + 3 + 1)) else some (0, 0, cMv T (j + 3))) from c_acc (d := d + 1) (k := 47) hX g3 (by omega)]
            by_cases c7 : xK X (j + 3) = 47
            · have h4' := K_lt hX c7 (by omega)
              rw [if_pos c7, if_pos c7, bis, vK, nI_1, cMv_2, ih (q + 1) (j + 3 + 1) (fl + 1) (cMv T (j + 3 + 1)) (by omega) (by omega) (by omega) (hg.mv (by omega)) hp]
              show some (0, 0, whR X (cMv T (j + 4)) (pWh (xK X) f (q + 1) (j + 4))) = _
              cases pWh (xK X) f (q + 1) (j + 4) with
              | ok y =>
                obtain ⟨w, j3⟩ := y
                show some (0, 0, cMv (cMv T (j + 4)) j3) = some (0, 0, cMv T j3)
                rw [cMv_2]
              | error e =>
                show some (0, 0, cBd X e (cMv (cMv T (j + 4)) e)) = some (0, 0, cBd X e (cMv T e))
                rw [cMv_2]
            · rw [if_neg c7, if_neg c7, bis, vK]
              rw [rl_Parser_parseWhere_4]
              split
              · rfl
              · rw [if_pos rfl]
                rfl
          · rw [if_neg c6, if_pos (show xK X (j + 2) ≠ 4 from c6), bad _ _ (g2.bd hX hp)]
            rfl
        · rw [if_neg c5, if_pos (show xK X (j + 1) ≠ 52 from c5)]
          have b1 := g1.bd hX hp
          rw [show PP nf (d + 4) 60 (cBd X (j + 1) (cMv T (j + 1))) [4] [] = some (0, 0, cBd X (j + 1) (cMv T (j + 1))) from b_need (d := d + 1) hX b1, bis, bad _ _ b1]
          rfl
      · rw [if_neg c4, if_pos (show xK X j ≠ 4 from c4)]
        have b1 := hg.bd hX hp
        rw [show PP nf (d + 4) 60 (cBd X j T) [52] [] = some (0, 0, cBd X j T) from b_need (d := d + 1) hX b1, bis, show PP nf (d + 4) 60 (cBd X j T) [4] [] = some (0, 0, cBd X j T) from b_need (d := d + 1) hX b1, bis, bad _ _ b1]
        show some (0, 0, cBd X j T) = some (0, 0, cBd X j (cMv T j))
        rw [cMv_s hg]
theorem w_where (hX : XO X) (hnf : 100 ≤ nf) (hg : GC X T j p) (hp : p ≤ 4008) (hd : 5 ≤ d) (h1 : ∀ w j3, pWh (xK X) 4 0 j = .ok (w, j3) → j < j3 → j3 ≤ xn X → wp (K 0 0 (cMv T j3)) Q) (h2 : ∀ e Tb, pWh (xK X) 4 0 j = .error e → Bd X Tb e → FC T Tb → wp (K 0 0 Tb) Q) : wp (bi (PP nf d 68 T [] []) K) Q := by
  obtain ⟨d, rfl⟩ : ∃ g, d = g + 1 := ⟨d - 1, by omega⟩
  have hn := pWh_n hX 4 0 j hg.2.1
  rw [e_Parser_parseWhere]
  unfold rb_Parser_parseWhere
  have ew := c_wh (nf := nf) (d := d) hX (by omega) 4 0 j nf T (by omega) (by omega) (by omega) hg hp
  rw [show rl_Parser_parseWhere_4 (PP nf d) nf nf T 1 0 = _ from ew, bis]
  clear ew
  generalize hr : pWh (xK X) 4 0 j = res at *
  cases res with
  | ok y =>
    obtain ⟨w, j3⟩ := y
    have := hn.1 w j3 rfl
    exact h1 w j3 rfl this.1 this.2
  | error e =>
    have := hn.2 e rfl
    exact h2 e _ rfl ((hg.mv this.2).bd hX hp) (FC.mv.tr FC.bd)
theorem pDead_e {Kn : Nat → Nat} {j : Nat} : pDead Kn 3 0 j = if Kn j = 4 then .ok (1 + rgs Kn 2 (j + 1), j + 1 + rgs Kn 2 (j + 1)) else .error j := by
  simp only [pDead, rgs]
  by_cases c1 : Kn j = 4
  · by_cases c2 : Kn (j + 1) = 4
    · by_cases c3 : Kn (j + 1 + 1) = 4
      · simp [c1, c2, c3]
      · simp [c1, c2, c3]
    · simp [c1, c2]
  · simp [c1]
/-- behind a fault: the end of a fun -/
theorem zb_112 (hX : XO X) (hnf : 1 ≤ nf) (hb : Bd X T2 e) (hF : FcI t T T2) (ht : t < 24) (hd : 4 ≤ d) : wp (rj_Parser_parseFun_112 (PP nf d) nf T2 (nI t)) (fun _ _ T' => CuE X T t e T') := by
  unfold rj_Parser_parseFun_112
  rw [zb_block hX hnf hb hd, bis, gd, if_pos (nin ht (by omega)), stK, gd, if_pos (nin ht (by omega)), stK, nc (by omega)]
  exact wp_some ⟨(hb.wi (by omega)).wi (by omega), (hF.tr (FcI.wr (by omega))).tr (FcI.wr (by omega))⟩
theorem zb_84 (hX : XO X) (hnf : 1 ≤ nf) (hb : Bd X T2 e) (hF : FcI t T T2) (ht : t < 24) (hd : 4 ≤ d) : wp (rj_Parser_parseFun_84 (PP nf d) nf T2 (nI t)) (fun _ _ T' => CuE X T t e T') := by
  unfold rj_Parser_parseFun_84
  refine wb_acc hb (by omega) ?_
  rw [if_pos rfl]
  exact zb_112 hX hnf hb hF ht hd
theorem zb_49 (hX : XO X) (hnf : 1 ≤ nf) (hb : Bd X T2 e) (hF : FcI t T T2) (ht : t < 24) (hd : 4 ≤ d) : wp (rj_Parser_parseFun_49 (PP nf d) nf T2 (nI t)) (fun _ _ T' => CuE X T t e T') := by
  unfold rj_Parser_parseFun_49
  refine wb_acc hb (by omega) ?_
  rw [if_pos rfl]
  exact zb_84 hX hnf hb hF ht hd
/-- a fun's BLOCK -/
theorem c_112 (hX : XO X) (hnf : 5000 ≤ nf) (hg : GC X T j p) (h60 : T.1 60 0 = nI v) (h61 : T.1 61 0 = 0) (hv : v ≤ 20) (hp : p ≤ j + 1) (hp1 : 1 ≤ p) (ht : t < 24) (hd : 300 ≤ d) : wp (rj_Parser_parseFun_112 (PP nf d) nf T (nI t)) (fun _ _ T' => match uB (xK X) v j with
    | .ok (b, j2) => Cu0 X T t p j b j2 T' ∧ T'.1 33 t = T.1 33 t ∧ T'.1 34 t = T.1 34 t ∧ T'.1 35 t = T.1 35 t
    | .error e => CuE X T t e T') := by
  unfold rj_Parser_parseFun_112 uB
  have zt : inb (nI t) 24 := nin ht (by omega)
  have ct : (nI t).toNatClampNeg = t := nc (by omega)
  simp only [gd, if_pos zt, ct]
  refine w_block (v := v) (g := 0) (c_blk hX hnf 20 (by omega)) hg h60 h61 hv (by omega) hp hp1 (by omega) rfl (fun b j2 v' g' p' T2 l eb g2 b1 b2 b3 f2 n2 u60 u61 u20 u8 rs => ?_) (fun e xr T2 l ee b2 f2 hxr => ?_)
  · rw [eb, stK, stK]
    dsimp only
    have l2 := g2.2.1
    have e58 : (sI T2 36 t (if emB b = true then 0 else nI p)).1 58 0 = nI j2 := by rw [sI_ne (by omega)]; exact g2.1
    have e37 : nI j2 - 1 = nI (j2 - 1) := by
      have := nI_sub (k := j2 - 1)
      rw [show j2 - 1 + 1 = j2 by omega] at this
      exact this
    rw [e58, e37]
    have g3 : GC X (sI (sI T2 36 t (if emB b = true then 0 else nI p)) 37 t (nI (j2 - 1))) j2 p' := (g2.wi (by omega)).wi (by omega)
    have f3 : Fw t T (sI (sI T2 36 t (if emB b = true then 0 else nI p)) 37 t (nI (j2 - 1))) := (f2.fw.tr (Fw.wr (by omega))).tr (Fw.wr (by omega))
    have r3 : ∀ k j', k ≠ 36 → k ≠ 37 → (sI (sI T2 36 t (if emB b = true then 0 else nI p)) 37 t (nI (j2 - 1))).1 k j' = T2.1 k j' := fun k j' c1 c2 => by rw [sI_ne c2, sI_ne c1]
    have o : ∀ k, 33 ≤ k → k ≤ 35 → (sI (sI T2 36 t (if emB b = true then 0 else nI p)) 37 t (nI (j2 - 1))).1 k t = T.1 k t := fun k c1 c2 => by rw [r3 k t (by omega) (by omega), f2.ve (by omega)]
    refine wp_some ⟨⟨p', g3, b1, b2, by omega, f3, fun k j' c1 c2 c3 => ?_, ?_, sI_v, RcS.ag b 2 0 _ _ (by omega) rs ⟨fun g j' c1 c2 _ _ _ => r3 g j' (by omega) (by omega), fun w => absurd w (by omega)⟩⟩, o 33 (by omega) (by omega), o 34 (by omega) (by omega), o 35 (by omega) (by omega)⟩
    · rw [r3 k j' (by omega) (by omega), n2 k j' c1 c2 c3]
    · rw [sI_ne (by omega), sI_v]
  · rw [ee, stK, stK]
    exact wp_some ⟨(b2.wi (by omega)).wi (by omega), (f2.ci.tr (FcI.wr (by omega))).tr (FcI.wr (by omega))⟩
theorem Cu0.of (h : Cu0 X T2 t p' j b j2 T') (hF : Fw t T T2) (hN : Nf T T2 p') (hj : i ≤ j) : Cu0 X T t p' i b j2 T' := by
  obtain ⟨p2, h1, h2, h3, h4, h5, h6, h7⟩ := h
  exact ⟨p2, h1, by omega, h3, by omega, hF.tr h5, hN.tr h6, h7⟩
theorem at_s (hg : GC X T (j + 1) p) : T.1 58 0 - 1 = nI j := by rw [hg.1]; exact nI_sub
theorem c_84 (hX : XO X) (hnf : 5000 ≤ nf) (hg : GC X T j p) (h60 : T.1 60 0 = nI v) (h61 : T.1 61 0 = 0) (hv : v ≤ 20) (hp : p ≤ j + 1) (hp1 : 1 ≤ p) (ht : t < 24) (hd : 300 ≤ d) (h35 : T.1 35 t = 0) : wp (rj_Parser_parseFun_84 (PP nf d) nf T (nI t)) (fun _ _ T' => match uW (xK X) v j with
    | .ok (wt, w, b, j2) => Cu0 X T t p j b j2 T' ∧ T'.1 33 t = T.1 33 t ∧ T'.1 34 t = T.1 34 t ∧ T'.1 35 t = nI (wt - 1)
    | .error e => CuE X T t e T') := by
  unfold rj_Parser_parseFun_84 uW pTail
  have zt : inb (nI t) 24 := nin ht (by omega)
  have ct : (nI t).toNatClampNeg = t := nc (by omega)
  have hxn := hX.1
  have hj0 := hg.2.1
  refine w_acc (k := 14) hX hg rfl (by omega) (by omega) (fun k14 => ?_) (fun k14 => ?_)
  · rw [if_neg (show ¬ (1 : Int32) = 0 by decide), if_pos k14, gd, if_pos zt, ct, stK]
    have h1 := K_lt hX k14 (by omega)
    have g1 := hg.mv (j := j + 1) (by omega)
    rw [at_s g1]
    have g2 : GC X (sI (cMv T (j + 1)) 35 t (nI j)) (j + 1) p := g1.wi (by omega)
    have f2 : Fw t T (sI (cMv T (j + 1)) 35 t (nI j)) := (FC.mv.fd.fw).tr (Fw.wr (by omega))
    have r2 : ∀ k j', k ≠ 35 → (k ≠ 58 ∧ k ≠ 128) → (sI (cMv T (j + 1)) 35 t (nI j)).1 k j' = T.1 k j' := fun k j' c1 c2 => by rw [sI_ne c1, mvo c2]
    have v2 : (sI (cMv T (j + 1)) 35 t (nI j)).1 35 t = nI j := sI_v
    generalize sI (cMv T (j + 1)) 35 t (nI j) = T2 at *
    refine w_where hX (by omega) g2 (by omega) (by omega) (fun w j3 ew hw hn => ?_) (fun e Tb ee bb fb => ?_)
    · rw [ew]
      dsimp only
      have g3 := g2.mv (j := j3) hn
      refine wp_mono (c_112 (d := d) (v := v) hX hnf g3 (by rw [mvo (by omega), r2 60 0 (by omega) (by omega)]; exact h60) (by rw [mvo (by omega), r2 61 0 (by omega) (by omega)]; exact h61) hv (by omega) hp1 ht hd) ?_
      intro _ _ T4 h4
      generalize uB (xK X) v j3 = res at *
      cases res with
      | error e => exact ⟨h4.1, (f2.ci.tr FC.mv.ci).tr h4.2⟩
      | ok y =>
        obtain ⟨b, j5⟩ := y
        obtain ⟨a1, a2, a3, a4⟩ := h4
        refine ⟨a1.of (f2.tr FC.mv.fd.fw) (fun k j' c1 c2 c3 => by rw [mvo (by omega), r2 k j' (by omega) (by omega)]) (by omega), ?_, ?_, ?_⟩
        · rw [a2, mvo (by omega), r2 33 t (by omega) (by omega)]
        · rw [a3, mvo (by omega), r2 34 t (by omega) (by omega)]
        · rw [a4, mvo (by omega), v2]
          rfl
    · rw [ee]
      exact zb_112 hX (by omega) bb (f2.ci.tr fb.ci) ht (by omega)
  · rw [if_pos (show (0 : Int32) = 0 from rfl), if_neg k14]
    dsimp only
    refine wp_mono (c_112 (d := d) (v := v) hX hnf hg h60 h61 hv hp hp1 ht hd) ?_
    intro _ _ T4 h4
    generalize uB (xK X) v j = res at *
    cases res with
    | error e => exact h4
    | ok y =>
      obtain ⟨b, j5⟩ := y
      obtain ⟨a1, a2, a3, a4⟩ := h4
      exact ⟨a1, a2, a3, by rw [a4, h35]; rfl⟩
theorem c_49 (hX : XO X) (hnf : 5000 ≤ nf) (hg : GC X T j p) (h60 : T.1 60 0 = nI v) (h61 : T.1 61 0 = 0) (hv : v ≤ 20) (hp : p ≤ j + 1) (hp1 : 1 ≤ p) (ht : t < 24) (hd : 300 ≤ d) (h35 : T.1 35 t = 0) (h34 : T.1 34 t = 0) : wp (rj_Parser_parseFun_49 (PP nf d) nf T (nI t)) (fun _ _ T' => match uD (xK X) v j with
    | .ok (dt, n, wt, w, b, j2) => Cu0 X T t p j b j2 T' ∧ T'.1 33 t = T.1 33 t ∧ T'.1 34 t = nI (dt - 1) ∧ T'.1 35 t = nI (wt - 1)
    | .error e => CuE X T t e T') := by
  unfold rj_Parser_parseFun_49 uD
  have zt : inb (nI t) 24 := nin ht (by omega)
  have ct : (nI t).toNatClampNeg = t := nc (by omega)
  have hxn := hX.1
  have hj0 := hg.2.1
  refine w_acc (k := 13) hX hg rfl (by omega) (by omega) (fun k13 => ?_) (fun k13 => ?_)
  · rw [if_neg (show ¬ (1 : Int32) = 0 by decide), if_pos k13, gd, if_pos zt, ct, stK, pDead_e]
    have h1 := K_lt hX k13 (by omega)
    have g1 := hg.mv (j := j + 1) (by omega)
    rw [at_s g1]
    have g2 : GC X (sI (cMv T (j + 1)) 34 t (nI j)) (j + 1) p := g1.wi (by omega)
    have f2 : Fw t T (sI (cMv T (j + 1)) 34 t (nI j)) := (FC.mv.fd.fw).tr (Fw.wr (by omega))
    have r2 : ∀ k j', k ≠ 34 → (k ≠ 58 ∧ k ≠ 128) → (sI (cMv T (j + 1)) 34 t (nI j)).1 k j' = T.1 k j' := fun k j' c1 c2 => by rw [sI_ne c1, mvo c2]
    have v2 : (sI (cMv T (j + 1)) 34 t (nI j)).1 34 t = nI j := sI_v
    generalize sI (cMv T (j + 1)) 34 t (nI j) = T2 at *
    refine w_need (k := 4) hX g2 rfl (by omega) (by omega) (fun k4 => ?_) (fun k4 => ?_)
    · rw [if_pos k4]
      have h2 := K_lt hX k4 (by omega)
      have g3 := g2.mv (j := j + 1 + 1) (by omega)
      have rn := rgs_n (m := 2) hX (show j + 1 + 1 ≤ xn X by omega)
      rw [c_regs (m := 2) (x := 2) hX (by omega) g3 (by omega) rfl (by omega), bis, cMv_2]
      dsimp only
      generalize rgs (xK X) 2 (j + 1 + 1) = rg at *
      have g4 := g2.mv (j := j + 1 + 1 + rg) (by omega)
      refine wp_mono (c_84 (d := d) (v := v) hX hnf g4 (by rw [mvo (by omega), r2 60 0 (by omega) (by omega)]; exact h60) (by rw [mvo (by omega), r2 61 0 (by omega) (by omega)]; exact h61) hv (by omega) hp1 ht hd (by rw [mvo (by omega), r2 35 t (by omega) (by omega)]; exact h35)) ?_
      intro _ _ T4 h4
      generalize uW (xK X) v (j + 1 + 1 + rg) = res at *
      cases res with
      | error e => exact ⟨h4.1, (f2.ci.tr FC.mv.ci).tr h4.2⟩
      | ok y =>
        obtain ⟨wt, w, b, j5⟩ := y
        obtain ⟨a1, a2, a3, a4⟩ := h4
        refine ⟨a1.of (f2.tr FC.mv.fd.fw) (fun k j' c1 c2 c3 => by rw [mvo (by omega), r2 k j' (by omega) (by omega)]) (by omega), ?_, ?_, a4⟩
        · rw [a2, mvo (by omega), r2 33 t (by omega) (by omega)]
        · rw [a3, mvo (by omega), v2]
          rfl
    · rw [if_neg k4]
      have b3 := g2.bd hX (show p ≤ 4008 by omega)
      rw [zb_regs (by omega) b3 (by omega), bis]
      exact zb_84 hX (by omega) b3 (f2.ci.tr FC.bd.ci) ht (by omega)
  · rw [if_pos (show (0 : Int32) = 0 from rfl), if_neg k13]
    refine wp_mono (c_84 (d := d) (v := v) hX hnf hg h60 h61 hv hp hp1 ht hd h35) ?_
    intro _ _ T4 h4
    generalize uW (xK X) v j = res at *
    cases res with
    | error e => exact h4
    | ok y =>
      obtain ⟨wt, w, b, j5⟩ := y
      obtain ⟨a1, a2, a3, a4⟩ := h4
      exact ⟨a1, a2, by rw [a3, h34]; rfl, a4⟩
end CFU
