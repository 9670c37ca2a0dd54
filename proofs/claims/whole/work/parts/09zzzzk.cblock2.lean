/-! the class's parser: BLOCKS -/
section CSC
variable {nf d : Nat} {T T' T1 T2 T3 T7 : gSt} {X : Lx} {i j k p p' q m n e c z lo hi v g j0 : Nat} {x y r a0 a b : Int32} {l : Int64} {t ta tb : Tr} {tr : Tr → Tr} {K : Int32 → Int64 → gSt → gR} {K2 : Int32 → gSt → gR} {Q : Int32 → Int64 → gSt → Prop}
theorem zb_bl (hX : XO X) (h : Bd X T e) (hd : 3 ≤ d) (hn : 1 ≤ n) {x1 x2 x3 x4 : Int32} : rl_Parser_parseBlock_25 (PP nf d) nf n T x1 x2 x3 x4 = some (x2, 0, T) := by
  obtain ⟨d, rfl⟩ : ∃ g, d = g + 3 := ⟨d - 3, by omega⟩
  obtain ⟨n, rfl⟩ : ∃ g, n = g + 1 := ⟨n - 1, by omega⟩
  rw [rl_Parser_parseBlock_25]
  split
  · rw [b_need hX h, bis]
  · rw [if_neg (by rw [h.1]; decide), b_need hX h, bis]
def lsQ (X : Lx) (T : gSt) (i p la : Nat) (x2 : Int32) (res : SR) (r : Int32) (T' : gSt) : Prop := match res with
  | .ok (s, j, v', g') => ∃ p', GC X T' j p' ∧ i < j ∧ p ≤ p' ∧ p' + i + 1 ≤ p + j ∧ r = (if la = 0 then (if isZ s = true then 0 else nI p) else x2) ∧ FD T T' ∧ (∀ k j', 11 ≤ k → k ≤ 18 → j' < p → ¬ (k = 13 ∧ j' = la ∧ la ≠ 0) → T'.1 k j' = T.1 k j') ∧ (la ≠ 0 → T'.1 13 la = if isZ s = true then 0 else nI p) ∧ T'.1 60 0 = nI v' ∧ T'.1 61 0 = nI g' ∧ v' ≤ 20 ∧ g' ≤ 8 ∧ RcS X T' s 1 0 p p'
  | .error e => CsE X T e r T'
theorem c_bl (hX : XO X) (hnf : 5000 ≤ nf) (hm : m ≤ 19) (hG : CPx nf X m) (hB : CPb nf X m) (hd : 12 * m + 51 ≤ d) : ∀ (f i p v g c fl la : Nat) (T : gSt) (x2 : Int32), f + i ≥ 4001 → c + 1 ≤ i → fl + c ≥ 4002 → GC X T i p → T.1 60 0 = nI v → T.1 61 0 = nI g → v ≤ 20 → g ≤ 8 → p ≤ i + 1 → 1 ≤ p → la < p → (la = 0 → x2 = 0) → (la ≠ 0 → T.1 13 la = 0) → (∃ w, x2 = nI w ∧ w < 4008) → wp (rl_Parser_parseBlock_25 (PP nf d) nf fl T (nI (20 - m)) x2 (nI la) (nI c)) (fun r _ T' => lsQ X T i p la x2 (sb (pSteps (xK X) (pStep (xK X) (pEx (xK X) m 0) (pBl (xK X) m)) f i v g) fun s j v2 g2 => sn (xK X) 41 j (.ok (s, j + 1, v2, g2))) r T') := by
  intro f
  induction f with
  | zero =>
    intro i p v g c fl la T x2 h1 h2 h3 hg
    have := hg.2.1
    have := hX.1
    omega
  | succ f ih =>
    intro i p v g c fl la T x2 h1 h2 h3 hg h60 h61 hv hg8 hp hp1 hla hl0 hl1 hx2
    have hxn := hX.1
    have hi0 := hg.2.1
    obtain ⟨fl, rfl⟩ : ∃ g, fl = g + 1 := ⟨fl - 1, by omega⟩
    have n4 : ¬ (4000 : Int32) ≤ nI c := fun w => by
      have := (nI_leI (a := 4000) (b := c) (by omega) (by omega)).mp w
      omega
    rw [rl_Parser_parseBlock_25, if_neg n4, if_pos hg.2.2.1, pSteps]
    refine w_sees (k := 41) hX hg rfl (by omega) (fun k41 => ?_) (fun k41 => ?_)
    · rw [if_pos k41]
      dsimp only [sb]
      unfold sn
      have hi := K_lt hX k41 (by omega)
      refine w_need (k := 41) hX hg rfl (by omega) (by omega) (fun _ => ?_) (fun w => absurd k41 w)
      rw [if_pos k41]
      refine wp_some ⟨p, hg.mv (by omega), by omega, by omega, by omega, ?_, FC.mv.fd, fun k j' b1 b2 b3 _ => mvo (by omega), fun w => ?_, by rw [mvo (by omega)]; exact h60, by rw [mvo (by omega)]; exact h61, hv, hg8, Or.inl rfl, rfl⟩
      · by_cases c0 : la = 0
        · rw [if_pos c0, if_pos (show isZ tZ = true from rfl)]; exact hl0 c0
        · rw [if_neg c0]
      · rw [mvo (by omega), if_pos (show isZ tZ = true from rfl)]; exact hl1 w
    · rw [if_neg k41]
      refine wp_bi (c_step hX hnf hm hG hB hg h60 h61 hv hg8 hp (by omega)) ?_
      intro r _ T2 h2'
      generalize pStep (xK X) (pEx (xK X) m 0) (pBl (xK X) m) i v g = res at *
      cases res with
      | error e =>
        obtain ⟨b2, f2, xr, er, hxr⟩ := h2'
        dsimp only [sb]
        by_cases c0 : la = 0
        · rw [if_pos (show nI la = 0 by rw [c0]; rfl), vK, zb_bl hX b2 (by omega) (by omega)]
          exact wp_some ⟨b2, f2, xr, er, hxr⟩
        · rw [if_neg (lo_nz c0 (by omega)), gd, if_pos (nin (by omega) (by omega)), stK, vK, zb_bl hX (b2.wr (by omega)) (by omega) (by omega)]
          exact wp_some ⟨b2.wr (by omega), f2.tr (FD.wr (by omega)), hx2⟩
      | ok y =>
        obtain ⟨s, j, v2, g2⟩ := y
        obtain ⟨p2, g2', a1, a2, a3, rfl, f2, n2, w60, w61, w20, w8, v13, rs⟩ := h2'
        have l2 := g2'.2.1
        have key : ∀ (T3 : gSt) (y2 : Int32), GC X T3 j p2 → FD T T3 → (∀ k j', 11 ≤ k → k ≤ 18 → ¬ (k = 13 ∧ j' = la ∧ la ≠ 0) → T3.1 k j' = T2.1 k j') → (la ≠ 0 → T3.1 13 la = nI p) → T3.1 60 0 = nI v2 → T3.1 61 0 = nI g2 → y2 = (if la = 0 then nI p else x2) → wp (rl_Parser_parseBlock_25 (PP nf d) nf fl T3 (nI (20 - m)) y2 (nI p) (nI c + 1)) (fun r _ T' => lsQ X T i p la x2 (sb (sb (pSteps (xK X) (pStep (xK X) (pEx (xK X) m 0) (pBl (xK X) m)) f j v2 g2) fun r j3 v3 g3 => .ok (tD 11 0 0 s r, j3, v3, g3)) fun s j v2 g2 => sn (xK X) 41 j (.ok (s, j + 1, v2, g2))) r T') := by
          intro T3 y2 g3 f3 o3 k3 x60 x61 hy
          have rs3 : RcS X T3 s 0 0 p p2 := RcS.ag s 0 0 _ _ (by omega) rs ⟨fun g j' b1 b2 b3 b4 b5 => o3 g j' b1 b2 (by omega), fun w => absurd w (by omega)⟩
          have x13 : T3.1 13 p = 0 := by rw [o3 13 p (by omega) (by omega) (by omega)]; exact v13
          have hw : ∃ w, y2 = nI w ∧ w < 4008 := by
            rw [hy]
            by_cases c0 : la = 0
            · rw [if_pos c0]; exact ⟨p, rfl, by omega⟩
            · rw [if_neg c0]; exact hx2
          rw [nI_1]
          refine wp_mono (ih j p2 v2 g2 (c + 1) fl p T3 y2 (by omega) (by omega) (by omega) g3 x60 x61 w20 w8 (by omega) (by omega) a2 (fun w => by omega) (fun _ => x13) hw) ?_
          intro r _ T4 h4
          generalize pSteps (xK X) (pStep (xK X) (pEx (xK X) m 0) (pBl (xK X) m)) f j v2 g2 = res at *
          cases res with
          | error e => exact ⟨h4.1, f3.tr h4.2.1, h4.2.2⟩
          | ok y =>
            obtain ⟨rt, j3, v3, g3'⟩ := y
            dsimp only [sb] at h4 ⊢
            unfold sn at h4 ⊢
            by_cases k41 : xK X j3 = 41
            · rw [if_pos k41] at h4 ⊢
              obtain ⟨p4, g4, b1, b2, b3, b4, f4, n4, q13, u60, u61, u20, u8, rl⟩ := h4
              rw [if_neg (by omega)] at b4
              refine ⟨p4, g4, by omega, by omega, by omega, ?_, f3.tr f4, fun k j' d1 d2 d3 d4 => ?_, fun w => ?_, u60, u61, u20, u8, ?_⟩
              · rw [b4, hy]
                rfl
              · rw [n4 k j' d1 d2 (by omega) (by omega), o3 k j' d1 d2 d4, n2 k j' d1 d2 d3]
              · rw [n4 13 la (by omega) (by omega) (by omega) (by omega), k3 w]
                rfl
              · refine ⟨rfl, p2, a2, b2, RcS.ag s 0 0 _ _ (by omega) rs3 ⟨fun g j' d1 d2 d3 d4 d5 => n4 g j' d1 d2 d4 (fun w => d5 ⟨rfl, w.1, w.2.1⟩), fun w => absurd w (by omega)⟩, q13 (by omega), rl⟩
            · rw [if_neg k41] at h4 ⊢
              exact ⟨h4.1, f3.tr h4.2.1, h4.2.2⟩
        by_cases c0 : la = 0
        · rw [if_pos (show nI la = 0 by rw [c0]; rfl), vK]
          exact key T2 (nI p) g2' f2 (fun _ _ _ _ _ => rfl) (fun w => absurd c0 w) w60 w61 (by rw [if_pos c0])
        · rw [if_neg (lo_nz c0 (by omega)), gd, if_pos (nin (by omega) (by omega)), nc (by omega), stK, vK]
          refine key _ x2 (g2'.wr (by omega)) (f2.tr (FD.wr (by omega))) (fun k j' d1 d2 d3 => ?_) (fun _ => sI_v) (by rw [sI_ne (by omega)]; exact w60) (by rw [sI_ne (by omega)]; exact w61) (by rw [if_neg c0])
          rw [rdI, if_neg (fun w => d3 ⟨w.1, w.2, c0⟩)]
/-- BLOCKS, however deep they may go on -/
theorem c_blk (hX : XO X) (hnf : 5000 ≤ nf) : ∀ m, m ≤ 20 → CPb nf X m := by
  intro m
  induction m with
  | zero =>
    intro _ T i p v g d hg h60 h61 hv hg8 hp hp1 hd
    obtain ⟨d, rfl⟩ : ∃ g, d = g + 3 := ⟨d - 3, by omega⟩
    have hxn := hX.1
    have hi0 := hg.2.1
    rw [e_Parser_parseBlock _ (d + 2)]
    unfold rb_Parser_parseBlock
    rw [if_neg (by decide), c_stop hX hg, bis]
    exact wp_some ⟨hg.bd hX (by omega), FC.bd.fd, 0, rfl, by omega⟩
  | succ m ih =>
    intro hm T i p v g d hg h60 h61 hv hg8 hp hp1 hd
    obtain ⟨d, rfl⟩ : ∃ g, d = g + 1 := ⟨d - 1, by omega⟩
    have hxn := hX.1
    have hi0 := hg.2.1
    rw [show 21 - (m + 1) = 20 - m by omega, e_Parser_parseBlock]
    unfold rb_Parser_parseBlock
    rw [if_pos (show nI (20 - m) ≤ 20 from (nI_leI (a := 20 - m) (b := 20) (by omega) (by omega)).mpr (by omega)), pBl]
    refine w_need (k := 40) hX hg rfl (by omega) (by omega) (fun k40 => ?_) (fun k40 => ?_)
    · have hi := K_lt hX k40 (by omega)
      have g1 := hg.mv (j := i + 1) (by omega)
      unfold sn
      rw [if_pos k40]
      have go := c_bl (d := d) hX hnf (by omega) (c_all hX hnf m (by omega)) (ih (by omega)) (by omega) 4001 (i + 1) p v g 0 nf 0 (cMv T (i + 1)) 0 (by omega) (by omega) (by omega) g1 (by rw [mvo (by omega)]; exact h60) (by rw [mvo (by omega)]; exact h61) hv hg8 (by omega) hp1 (by omega) (fun _ => rfl) (fun w => absurd rfl w) ⟨0, rfl, by omega⟩
      refine wp_mono go ?_
      intro r _ T2 h2
      generalize pSteps (xK X) (pStep (xK X) (pEx (xK X) m 0) (pBl (xK X) m)) 4001 (i + 1) v g = res at *
      cases res with
      | error e => exact ⟨h2.1, FC.mv.fd.tr h2.2.1, h2.2.2⟩
      | ok y =>
        obtain ⟨s, j, v2, g2⟩ := y
        dsimp only [sb] at h2 ⊢
        unfold sn at h2
        by_cases k41 : xK X j = 41
        · rw [if_pos k41] at h2 ⊢
          obtain ⟨p2, g2', a1, a2, a3, er, f2, n2, _, w60, w61, w20, w8, rs⟩ := h2
          rw [if_pos rfl] at er
          refine ⟨p2, g2', by omega, a2, by omega, er, FC.mv.fd.tr f2, fun k j' b1 b2 b3 => ?_, w60, w61, w20, w8, rfl, rs⟩
          rw [n2 k j' b1 b2 b3 (fun w => w.2.2 rfl), mvo (by omega)]
        · rw [if_neg k41] at h2 ⊢
          exact ⟨h2.1, FC.mv.fd.tr h2.2.1, h2.2.2⟩
    · unfold sn
      rw [if_neg k40]
      obtain ⟨d3, hd3⟩ : ∃ g, d = g + 3 := ⟨d - 3, by omega⟩
      have b1 := hg.bd hX (show p ≤ 4008 by omega)
      rw [zb_bl hX b1 (by omega) (by omega)]
      exact wp_some ⟨b1, FC.bd.fd, 0, rfl, by omega⟩
end CSC
