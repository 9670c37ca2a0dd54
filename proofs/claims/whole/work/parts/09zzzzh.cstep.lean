/-! the class's parser: STEPS one by one -/
section CST
variable {nf d : Nat} {T T' T1 T2 T3 T7 : gSt} {X : Lx} {i j k p p' q m n e c z lo hi v g j0 : Nat} {x y r a0 : Int32} {l : Int64} {t ta tb : Tr} {tr : Tr → Tr} {K : Int32 → Int64 → gSt → gR} {K2 : Int32 → gSt → gR} {Q : Int32 → Int64 → gSt → Prop}
theorem w_nd (hX : XO X) (hg : GC X T i p) (hp8 : p < 4008) (hi : i < xn X) (hd : 2 ≤ d) (h : ∀ T4, GC X T4 (i + 1) (p + 1) → FC T T4 → Nf T T4 p → FrN T4 p a0 (nI i) → wp (K2 (nI p) T4) Q) : wp (bi (PP nf d 28 T [a0, T.1 58 0] []) fun r1 _ T1 => bi (PP nf d 58 T1 [] []) fun _ _ T2 => K2 r1 T2) Q := by
  refine w_node hg hp8 (by omega) ?_
  have g3 : GC X (cNd T p a0 (nI i)) i (p + 1) := hg.nd
  rw [at1 hX g3 hi hd, bis]
  exact h _ (g3.mv (by omega)) (FC.nd.tr FC.mv) (Nf.nd.tr Nf.mv) FrN.mk.mv
theorem FC.v60 (h : FC T T') : T'.1 60 = T.1 60 ∧ T'.1 61 = T.1 61 := ⟨h.1 60 (by omega) (by omega) (by omega) (by omega) (by omega), h.1 61 (by omega) (by omega) (by omega) (by omega) (by omega)⟩
theorem FrN.kp (h : FrN T p a0 y) (hn : Nf T T' (p + 1)) : FrN T' p a0 y := by
  unfold FrN at *
  rw [hn 11 p (by omega) (by omega) (by omega), hn 12 p (by omega) (by omega) (by omega), hn 13 p (by omega) (by omega) (by omega), hn 14 p (by omega) (by omega) (by omega), hn 15 p (by omega) (by omega) (by omega), hn 16 p (by omega) (by omega) (by omega), hn 17 p (by omega) (by omega) (by omega), hn 18 p (by omega) (by omega) (by omega)]
  exact h
/-- one EXPR behind a step's beginning, then ; -/
theorem w_e17 (hX : XO X) (hG : CPx nf X m) (hp : p ≤ i + 1) (hij : i < j0) (hg7 : GC X T7 j0 (p + 1)) (hF : FD T T7) (hN : Nf T T7 p) (hv : FrN T7 p a0 (nI i)) (h60 : T7.1 60 0 = nI v) (h61 : T7.1 61 0 = nI g) (hv2 : v ≤ 20) (hg8 : g ≤ 8) (hx : x = nI (21 - m)) (hd : 8 * m + 12 ≤ d) (hr : ∀ a T' p', cRX T' (RcG X T' a) (p + 1) p' → T'.1 17 p = nI (p + 1) → T'.1 11 p = a0 → T'.1 12 p = nI i → p + 1 < p' → RcS X T' (tr a) 0 0 p p') : wp (bi (PP nf d 78 T7 [x] []) fun r8 _ T8 => gd (inb (nI p) 4008) <| stK (sI T8 17 (nI p).toNatClampNeg r8) fun T9 => bi (PP nf d 60 T9 [(46 : Int32)] []) fun _ _ T10 => some (nI p, 0, T10)) (fun r _ T' => CsQ X T i p (se (pEx (xK X) m 0 j0) fun a j => sn (xK X) 46 j (.ok (tr a, j + 1, v, g))) r T') := by
  have hxn := hX.1
  have hj0 := hg7.2.1
  have p8 : p < 4008 := by omega
  have zp : inb (nI p) 4008 := nin p8 (by omega)
  have cp : (nI p).toNatClampNeg = p := nc (by omega)
  refine w_expr hG hg7 (by omega) hd hx (fun a j p' T8 l ea g8 a1 a2 a3 f8 n8 _ _ rx => ?_) (fun e xr T8 l ee b8 f8 hxr => ?_)
  · rw [gd, if_pos zp, cp, stK, ea]
    dsimp only [se]
    unfold sn
    have g9 : GC X (sI T8 17 p (nI (p + 1))) j p' := g8.wr (by omega)
    have f9 : FD T (sI T8 17 p (nI (p + 1))) := (hF.tr f8.fd).tr (FD.wr (by omega))
    have w9 : ∀ k j', 11 ≤ k → k ≤ 18 → j' < p + 1 → ¬ (k = 17 ∧ j' = p) → (sI T8 17 p (nI (p + 1))).1 k j' = T7.1 k j' := fun k j' b1 b2 b3 b4 => by
      rw [rdI, if_neg b4, n8 k j' b1 b2 b3]
    have u17 : (sI T8 17 p (nI (p + 1))).1 17 p = nI (p + 1) := sI_v
    have rx9 : cRX (sI T8 17 p (nI (p + 1))) (RcG X (sI T8 17 p (nI (p + 1))) a) (p + 1) p' := rx.ag (fun g j' b1 b2 b3 b4 _ => by rw [rdI, if_neg (fun w => by omega)])
    have v60 : (sI T8 17 p (nI (p + 1))).1 60 0 = nI v := by rw [sI_ne (by omega), f8.v60.1]; exact h60
    have v61 : (sI T8 17 p (nI (p + 1))).1 61 0 = nI g := by rw [sI_ne (by omega), f8.v60.2]; exact h61
    generalize sI T8 17 p (nI (p + 1)) = T9 at *
    have l9 := g9.2.1
    refine w_need (k := 46) hX g9 rfl (by omega) (by omega) (fun k2 => ?_) (fun k2 => ?_)
    · rw [if_pos k2]
      have h2 := K_lt hX k2 (by omega)
      have mv : ∀ g j', (g ≠ 58 ∧ g ≠ 128) → (cMv T9 (j + 1)).1 g j' = T9.1 g j' := fun g j' q1 => by rw [cMv_o (by omega)]
      refine wp_some ⟨p', g9.mv (by omega), by omega, by omega, by omega, rfl, f9.tr FC.mv.fd, fun k j' b1 b2 b3 => ?_, by rw [mv 60 0 (by omega)]; exact v60, by rw [mv 61 0 (by omega)]; exact v61, hv2, hg8, ?_, ?_⟩
      · rw [mv k j' (by omega), w9 k j' b1 b2 (by omega) (fun w => by omega), hN k j' b1 b2 b3]
      · rw [mv 13 p (by omega), w9 13 p (by omega) (by omega) (by omega) (by omega)]; exact hv.2.2.1
      · exact hr a _ p' (rx9.ag (fun g j' q1 q2 _ _ _ => mv g j' (by omega))) (by rw [mv 17 p (by omega)]; exact u17) (by rw [mv 11 p (by omega), w9 11 p (by omega) (by omega) (by omega) (by omega)]; exact hv.1) (by rw [mv 12 p (by omega), w9 12 p (by omega) (by omega) (by omega) (by omega)]; exact hv.2.1) a2
    · rw [if_neg k2]
      exact wp_some ⟨g9.bd hX (by omega), f9.tr FC.bd.fd, p, rfl, p8⟩
  · rw [gd, if_pos zp, cp, stK, ee]
    exact wb_need hX (b8.wr (by omega)) (by omega) (wp_some ⟨b8.wr (by omega), (hF.tr f8.fd).tr (FD.wr (by omega)), p, rfl, p8⟩)
abbrev vrP (K : Nat → Nat) (E : Nat → ER) (i v g : Nat) : SR := if v = 20 then .error (i + 1) else sn K 2 (i + 1) (sn K 48 (i + 2) (sy (pTy K 6 false (i + 3)) fun j => if K j = 50 then se (E (j + 1)) fun a j2 => sn K 46 j2 (.ok (tD 20 i v a tZ, j2 + 1, v + 1, g)) else sn K 46 j (.ok (tD 20 i v tZ tZ, j + 1, v + 1, g))))
theorem c_var (hX : XO X) (hnf : 5000 ≤ nf) (hm : m ≤ 19) (hG : CPx nf X m) (hg : GC X T i p) (hi : i < xn X) (h60 : T.1 60 0 = nI v) (h61 : T.1 61 0 = nI g) (hv : v ≤ 20) (hg8 : g ≤ 8) (hp : p ≤ i + 1) (hd : 12 * m + 50 ≤ d) : wp (PP nf d 72 T [nI (20 - m)] []) (fun r _ T' => CsQ X T i p (vrP (xK X) (pEx (xK X) m 0) i v g) r T') := by
  obtain ⟨d, rfl⟩ : ∃ g, d = g + 1 := ⟨d - 1, by omega⟩
  have hxn := hX.1
  have p8 : p < 4008 := by omega
  have e21 : nI (20 - m) + 1 = nI (21 - m) := by rw [nI_1, show 20 - m + 1 = 21 - m by omega]
  rw [e_Parser_parseVar]
  unfold rb_Parser_parseVar
  refine w_nd hX hg p8 hi (by omega) ?_
  intro T4 g4 f4 n4 v4
  have w60 : T4.1 60 0 = nI v := by rw [f4.v60.1]; exact h60
  have w61 : T4.1 61 0 = nI g := by rw [f4.v60.2]; exact h61
  unfold vrP
  by_cases c20 : v = 20
  · rw [if_pos (show T4.1 60 0 = 20 by rw [w60, c20]; rfl), if_pos c20]
    refine w_stop hX g4 (by omega) ?_
    have hb := g4.bd hX (show p + 1 ≤ 4008 by omega)
    have fb : FD T (cBd X (i + 1) T4) := f4.fd.tr FC.bd.fd
    unfold rj_Parser_parseVar_31
    rw [stK]
    generalize cBd X (i + 1) T4 = Tb at *
    have b1 : Bd X (sI Tb 60 0 (Tb.1 60 0 + 1)) (i + 1) := hb.wr (by omega)
    have f1 : FD T (sI Tb 60 0 (Tb.1 60 0 + 1)) := fb.tr (FD.wr (by omega))
    generalize sI Tb 60 0 (Tb.1 60 0 + 1) = T5 at *
    refine wb_need hX b1 (by omega) (wb_need hX b1 (by omega) ?_)
    rw [zb_type hX b1 (by omega), bis]
    refine wb_acc b1 (by omega) ?_
    rw [if_pos rfl]
    exact wb_need hX b1 (by omega) (wp_some ⟨b1, f1, p, rfl, p8⟩)
  · have n20 : ¬ T4.1 60 0 = 20 := fun w => by
      rw [w60] at w
      have := nI_inj (b := 20) (by omega) (by omega) w
      omega
    rw [if_neg n20, if_neg c20]
    unfold rj_Parser_parseVar_31 sn
    rw [stK, w60, nI_1, e21]
    have g5 : GC X (sI T4 60 0 (nI (v + 1))) (i + 1) (p + 1) := g4.wr (by omega)
    have f5 : FD T (sI T4 60 0 (nI (v + 1))) := f4.fd.tr (FD.wr (by omega))
    have n5' : ∀ k j', 11 ≤ k → k ≤ 18 → (sI T4 60 0 (nI (v + 1))).1 k j' = T4.1 k j' := fun k j' b1 b2 => by rw [sI_ne (by omega)]
    have n5 : Nf T (sI T4 60 0 (nI (v + 1))) p := fun k j' b1 b2 b3 => by rw [n5' k j' b1 b2, n4 k j' b1 b2 b3]
    have v5 : FrN (sI T4 60 0 (nI (v + 1))) p 15 (nI i) := v4.kp (fun k j' b1 b2 _ => n5' k j' b1 b2)
    have x60 : (sI T4 60 0 (nI (v + 1))).1 60 0 = nI (v + 1) := sI_v
    have x61 : (sI T4 60 0 (nI (v + 1))).1 61 0 = nI g := by rw [sI_ne (by omega)]; exact w61
    generalize sI T4 60 0 (nI (v + 1)) = T5 at *
    have bad : ∀ (Tb : gSt) (e : Nat), Bd X Tb e → FD T Tb → wp (bi (PP nf d 59 Tb [(50 : Int32)] []) fun r9 l9 T9 => if r9 = (0 : Int32) then (bi (PP nf d 60 T9 [(46 : Int32)] []) fun r11 l11 T11 => some (nI p, 0, T11))
    else (bi (PP nf d 78 T9 [nI (21 - m)] []) fun r13 l13 T13 => gd (inb (nI p) 4008) <| stK (sI T13 17 (nI p).toNatClampNeg r13) fun T14 => bi (PP nf d 60 T14 [(46 : Int32)] []) fun r15 l15 T15 => some (nI p, 0, T15))) (fun r _ T' => CsE X T e r T') := by
      intro Tb e hb fb
      refine wb_acc hb (by omega) ?_
      rw [if_pos rfl]
      exact wb_need hX hb (by omega) (wp_some ⟨hb, fb, p, rfl, p8⟩)
    refine w_need (k := 2) hX g5 rfl (by omega) (by omega) (fun k2 => ?_) (fun k2 => ?_)
    · rw [if_pos k2]
      have h2 := K_lt hX k2 (by omega)
      have g6 := g5.mv (j := i + 1 + 1) (by omega)
      refine w_need (k := 48) hX g6 rfl (by omega) (by omega) (fun k48 => ?_) (fun k48 => ?_)
      · have h3 := K_lt hX k48 (by omega)
        rw [if_pos (show xK X (i + 2) = 48 from k48)]
        have g7 := g6.mv (j := i + 1 + 1 + 1) (by omega)
        refine w_type hX (by omega) g7 (by omega) (by omega) (fun j ej hij hjn => ?_) (fun e Tb ee bb fb => ?_)
        · rw [show i + 3 = i + 1 + 1 + 1 by omega, ej]
          dsimp only [sy]
          rw [cMv_2, cMv_2]
          have g8 := g5.mv (j := j) hjn
          have f8 : FD T (cMv T5 j) := f5.tr FC.mv.fd
          have n8 : Nf T (cMv T5 j) p := n5.tr Nf.mv
          have v8 := v5.mv (i := j)
          have mv : ∀ S i' g j', (g ≠ 58 ∧ g ≠ 128) → (cMv S i').1 g j' = S.1 g j' := fun S i' g j' q1 => by rw [cMv_o (by omega)]
          have y60 : (cMv T5 j).1 60 0 = nI (v + 1) := by rw [mv _ _ 60 0 (by omega)]; exact x60
          have y61 : (cMv T5 j).1 61 0 = nI g := by rw [mv _ _ 61 0 (by omega)]; exact x61
          generalize cMv T5 j = T8 at *
          refine w_acc (k := 50) hX g8 rfl (by omega) (by omega) (fun k50 => ?_) (fun k50 => ?_)
          · have h4 := K_lt hX k50 (by omega)
            rw [if_pos k50, if_neg (show ¬ (1 : Int32) = 0 by decide)]
            have g9 := g8.mv (j := j + 1) (by omega)
            refine w_e17 (tr := fun a => tD 20 i v a tZ) (v := v + 1) hX hG hp (by omega) g9 (f8.tr FC.mv.fd) (n8.tr Nf.mv) v8.mv (by rw [mv _ _ 60 0 (by omega)]; exact y60) (by rw [mv _ _ 61 0 (by omega)]; exact y61) (by omega) hg8 rfl (by omega) ?_
            intro a T' p' rx a17 a11 a12 lt
            refine ⟨by omega, a12, a11, ?_⟩
            rw [if_neg (by rw [cRX_nz rx]; decide)]
            exact ⟨a17, rx⟩
          · rw [if_neg k50, if_pos (show (0 : Int32) = 0 from rfl)]
            refine w_need (k := 46) hX g8 rfl (by omega) (by omega) (fun k46 => ?_) (fun k46 => ?_)
            · rw [if_pos k46]
              have h4 := K_lt hX k46 (by omega)
              have v9 := v8.mv (i := j + 1)
              refine wp_some ⟨p + 1, g8.mv (by omega), by omega, by omega, by omega, rfl, f8.tr FC.mv.fd, n8.tr Nf.mv, by rw [mv _ _ 60 0 (by omega)]; exact y60, by rw [mv _ _ 61 0 (by omega)]; exact y61, by omega, hg8, v9.2.2.1, ?_⟩
              refine ⟨by omega, v9.2.1, v9.1, ?_⟩
              rw [if_pos (show isZ tZ = true from rfl)]
              exact ⟨rfl, v9.2.2.2.2.2.2.1⟩
            · rw [if_neg k46]
              exact wp_some ⟨g8.bd hX (by omega), f8.tr FC.bd.fd, p, rfl, p8⟩
        · rw [show i + 3 = i + 1 + 1 + 1 by omega, ee]
          exact bad _ _ bb ((f5.tr (FC.mv.tr FC.mv).fd).tr fb.fd)
      · rw [if_neg (show ¬ xK X (i + 2) = 48 from k48)]
        have b6 := g6.bd hX (by omega)
        rw [zb_type hX b6 (by omega), bis]
        exact bad _ _ b6 (f5.tr (FC.mv.tr FC.bd).fd)
    · rw [if_neg k2]
      have b5 := g5.bd hX (by omega)
      refine wb_need hX b5 (by omega) ?_
      rw [zb_type hX b5 (by omega), bis]
      exact bad _ _ b5 (f5.tr FC.bd.fd)
/-- return, print, throw -/
theorem c_word (hX : XO X) (hm : m ≤ 19) (hG : CPx nf X m) (hg : GC X T i p) (hi : i < xn X) (h60 : T.1 60 0 = nI v) (h61 : T.1 61 0 = nI g) (hv : v ≤ 20) (hg8 : g ≤ 8) (hp : p ≤ i + 1) (hd : 12 * m + 50 ≤ d) (hx : x = nI (xK X i)) (hk : xK X i = 19 ∨ xK X i = 20 ∨ xK X i = 25) : wp (PP nf d 76 T [x, nI (20 - m)] []) (fun r _ T' => CsQ X T i p (if xK X i = 19 then (if xK X (i + 1) = 46 then .ok (tD 23 i 0 tZ tZ, i + 2, v, g) else se (pEx (xK X) m 0 (i + 1)) fun a j => sn (xK X) 46 j (.ok (tD 23 i 0 a tZ, j + 1, v, g))) else se (pEx (xK X) m 0 (i + 1)) fun a j => sn (xK X) 46 j (.ok (tD (if xK X i = 20 then 24 else 25) i 0 a tZ, j + 1, v, g))) r T') := by
  obtain ⟨d, rfl⟩ : ∃ g, d = g + 1 := ⟨d - 1, by omega⟩
  have hxn := hX.1
  have p8 : p < 4008 := by omega
  have e21 : nI (20 - m) + 1 = nI (21 - m) := by rw [nI_1, show 20 - m + 1 = 21 - m by omega]
  rw [e_Parser_parseWordStep]
  unfold rb_Parser_parseWordStep
  refine w_nd hX hg p8 hi (by omega) ?_
  intro T4 g4 f4 n4 v4
  have w60 : T4.1 60 0 = nI v := by rw [f4.v60.1]; exact h60
  have w61 : T4.1 61 0 = nI g := by rw [f4.v60.2]; exact h61
  unfold rj_Parser_parseWordStep_32
  rw [e21, hx] at *
  by_cases c : xK X i = 19
  · rw [if_pos c, if_pos (show nI (xK X i) = 19 by rw [c]; rfl)]
    refine w_sees (k := 46) hX g4 rfl (by omega) (fun k46 => ?_) (fun k46 => ?_)
    · rw [if_pos k46]
      have h2 := K_lt hX k46 (by omega)
      refine w_need (k := 46) hX g4 rfl (by omega) (by omega) (fun _ => ?_) (fun w => absurd k46 w)
      have v5 := v4.mv (i := i + 1 + 1)
      have mv : ∀ S i' g j', (g ≠ 58 ∧ g ≠ 128) → (cMv S i').1 g j' = S.1 g j' := fun S i' g j' q1 => by rw [cMv_o (by omega)]
      refine wp_some ⟨p + 1, g4.mv (by omega), by omega, by omega, by omega, rfl, (f4.tr FC.mv).fd, n4.tr Nf.mv, by rw [mv _ _ 60 0 (by omega)]; exact w60, by rw [mv _ _ 61 0 (by omega)]; exact w61, hv, hg8, v5.2.2.1, ?_⟩
      refine ⟨by omega, v5.2.1, ?_, ?_⟩
      · rw [v5.1, c]; rfl
      · rw [if_pos (show isZ tZ = true from rfl)]
        exact ⟨rfl, v5.2.2.2.2.2.2.1⟩
    · rw [if_neg k46]
      refine w_e17 (tr := fun a => tD 23 i 0 a tZ) hX hG hp (by omega) g4 f4.fd n4 v4 w60 w61 hv hg8 rfl (by omega) ?_
      intro a T' p' rx a17 a11 a12 lt
      refine ⟨by omega, a12, by rw [a11, c]; rfl, ?_⟩
      rw [if_neg (by rw [cRX_nz rx]; decide)]
      exact ⟨a17, rx⟩
  · have n19 : ¬ nI (xK X i) = 19 := fun w => by
      have := nI_inj (b := 19) (by omega) (by omega) w
      omega
    rw [if_neg c, if_neg n19]
    by_cases c2 : xK X i = 20
    · rw [if_pos c2]
      refine w_e17 (tr := fun a => tD 24 i 0 a tZ) hX hG hp (by omega) g4 f4.fd n4 v4 w60 w61 hv hg8 rfl (by omega) ?_
      intro a T' p' rx a17 a11 a12 lt
      exact ⟨by omega, a12, by rw [a11, c2]; rfl, a17, rx⟩
    · have c3 : xK X i = 25 := by omega
      rw [if_neg c2]
      refine w_e17 (tr := fun a => tD 25 i 0 a tZ) hX hG hp (by omega) g4 f4.fd n4 v4 w60 w61 hv hg8 rfl (by omega) ?_
      intro a T' p' rx a17 a11 a12 lt
      exact ⟨by omega, a12, by rw [a11, c3]; rfl, a17, rx⟩
end CST
