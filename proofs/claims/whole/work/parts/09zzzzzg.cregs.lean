/-! the class reads several REGIONS -/
section CRS
variable {R : RgR} {S S' T T' T1 : gSt} {X : Lx} {nf d i k n m c g q e cnt : Nat} {x y : Int32}
theorem sh4 {G r : Nat} (hk : k < 3) (hG : G < 16 ^ k) (hr : r < 16) : nI G ||| (nI r <<< (((4 : Int32) * nI k) &&& 31)) = nI (G + 16 ^ k * r) := by
  rcases (by omega : k = 0 ∨ k = 1 ∨ k = 2) with e | e | e <;> subst e
  · have : G = 0 := by simpa using hG
    subst this
    rw [bShl (j := 0) (by decide) (by omega), Nat.pow_zero, Nat.mul_one, Nat.one_mul, Nat.zero_add]
    exact Int32.zero_or
  · rw [bShl (j := 4) (by decide) (by omega), bOr (j := 4) (by omega) (by omega)]
  · rw [bShl (j := 8) (by decide) (by omega), bOr (j := 8) (by omega) (by omega)]
theorem sh10 {G r : Nat} (hk : k < 3) (hG : G < 1024 ^ k) (hr : r < 1024) : nI G ||| (nI r <<< (((10 : Int32) * nI k) &&& 31)) = nI (G + 1024 ^ k * r) := by
  rcases (by omega : k = 0 ∨ k = 1 ∨ k = 2) with e | e | e <;> subst e
  · have : G = 0 := by simpa using hG
    subst this
    rw [bShl (j := 0) (by decide) (by omega), Nat.pow_zero, Nat.mul_one, Nat.one_mul, Nat.zero_add]
    exact Int32.zero_or
  · rw [bShl (j := 10) (by decide) (by omega), bOr (j := 10) (by omega) (by omega)]
  · rw [bShl (j := 20) (by decide) (by omega), bOr (j := 20) (by omega) (by omega)]
theorem pwl {b G r : Nat} (hb : 1 ≤ b) (hG : G < b ^ k) (hr : r < b) : G + b ^ k * r < b ^ (k + 1) := by
  rw [Nat.pow_succ]
  have : b ^ k * r + b ^ k ≤ b ^ k * b := by
    rw [← Nat.mul_succ]
    exact Nat.mul_le_mul_left _ hr
  omega
/-- digits of a number that grows at its top -/
theorem pwd {b G r j : Nat} (hb : 1 ≤ b) (hG : G < b ^ k) (hj : j < k) : (G + b ^ k * r) / b ^ j % b = G / b ^ j % b := by
  obtain ⟨e, rfl⟩ : ∃ e, k = j + e + 1 := ⟨k - j - 1, by omega⟩
  have pos : 0 < b ^ j := Nat.pow_pos (by omega)
  have : b ^ (j + e + 1) * r = b ^ j * (b * (b ^ e * r)) := by
    rw [show j + e + 1 = j + (e + 1) by omega, Nat.pow_add, Nat.pow_succ, Nat.mul_assoc, Nat.mul_comm (b ^ e) b, Nat.mul_assoc]
  rw [this, Nat.add_mul_div_left _ _ pos, Nat.add_mul_mod_self_left]
theorem pwt {b G r : Nat} (hb : 1 ≤ b) (hG : G < b ^ k) (hr : r < b) : (G + b ^ k * r) / b ^ k % b = r := by
  have pos : 0 < b ^ k := Nat.pow_pos (by omega)
  rw [Nat.add_mul_div_left _ _ pos, Nat.div_eq_of_lt hG, Nat.zero_add, Nat.mod_eq_of_lt hr]
/-- the loop over REGIONS, whatever there is -/
theorem a_rgl (hX : XO X) (hnf : 20 ≤ nf) (hc3 : cnt ≤ 3) (hi : i < 98000) (hn1 : 1 ≤ n) (hn2 : n ≤ 12) (hd : 2 ≤ d) : ∀ (m k fl G : Nat) (T : gSt), m + k = cnt → m < fl → G < 16 ^ k → TkC X T → T.1 72 0 = nI n → WT T → ∃ g T', rl_Heads_readRegions_5 (PP nf d) nf fl T (nI i) (nI cnt) (nI G) (nI k) = some (nI g, 0, T') ∧ g < 16 ^ cnt ∧ FwH T T' ∧ T'.2 = T.2 := by
  intro m
  induction m with
  | zero =>
    intro k fl G T h1 h2 hG hT hn hW
    obtain ⟨fl, rfl⟩ : ∃ g, fl = g + 1 := ⟨fl - 1, by omega⟩
    rw [rl_Heads_readRegions_5, if_pos (show nI cnt ≤ nI k from (nI_leI (by omega) (by omega)).mpr (by omega))]
    exact ⟨G, T, rfl, by rw [show cnt = k by omega]; exact hG, FwH.rf hW, rfl⟩
  | succ m ih =>
    intro k fl G T h1 h2 hG hT hn hW
    obtain ⟨fl, rfl⟩ : ∃ g, fl = g + 1 := ⟨fl - 1, by omega⟩
    rw [rl_Heads_readRegions_5, if_neg (fun w => by
      have := (nI_leI (by omega) (by omega)).mp w
      omega), if_neg (fun w => by
      have := (nI_leI (a := 3) (b := k) (by omega) (by omega)).mp w
      omega), show nI i + nI k = nI (i + k) from (Int32.ofNat_add _ _).symm]
    obtain ⟨r, T1, r1, r2, r3, r4⟩ := a_reg (i := i + k) hX hnf hT hn hn1 hn2 hW (by omega) hd
    rw [r1, bis, vK, vK, nI_1, sh4 (by omega) hG (by omega)]
    obtain ⟨g, T', g1, g2, g3, g4⟩ := ih (k + 1) fl (G + 16 ^ k * r) T1 (by omega) (by omega) (pwl (by omega) hG (by omega)) (hT.fh r3) (by rw [r3.1 72 (by omega) (by omega)]; exact hn) r3.2.2.1
    exact ⟨g, T', g1, g2, r3.tr g3, g4.trans r4⟩
theorem a_rgs (hX : XO X) (hnf : 20 ≤ nf) (hc3 : cnt ≤ 3) (hi : i < 98000) (hT : TkC X T) (hn : T.1 72 0 = nI n) (hn1 : 1 ≤ n) (hn2 : n ≤ 12) (hW : WT T) (hd : 3 ≤ d) : ∃ g T', PP nf d 136 T [nI i, nI cnt] [] = some (nI g, 0, T') ∧ g < 4096 ∧ FwH T T' ∧ T'.2 = T.2 := by
  obtain ⟨d, rfl⟩ : ∃ g, d = g + 1 := ⟨d - 1, by omega⟩
  rw [e_Heads_readRegions]
  unfold rb_Heads_readRegions
  obtain ⟨g, T', g1, g2, g3, g4⟩ := a_rgl (d := d) hX hnf hc3 hi hn1 hn2 (by omega) cnt 0 nf 0 T (by omega) (by omega) (by decide) hT hn hW
  refine ⟨g, T', g1, ?_, g3, g4⟩
  have := Nat.pow_le_pow_right (show 16 > 0 by omega) hc3
  have e : (16 : Nat) ^ 3 = 4096 := rfl
  omega
/-- what several REGIONS come to, on both sides -/
def RgQ (R : RgR) (S S' T T' : gSt) (cnt W : Nat) (w : Int32) (g : Nat) : Prop := (S'.1 7 0 = 0 ∧ S' = S ∧ T' = T ∧ w = nI W ∧ W < 1024 ^ cnt ∧ g < 16 ^ cnt ∧ ∀ k, k < cnt → R (W / 1024 ^ k % 1024) (g / 16 ^ k % 16)) ∨ (BfR S' T' ∧ FE S S')
theorem b_rgl (hX : XO X) (hnf : 20 ≤ nf) (hc3 : cnt ≤ 3) (hi : i + cnt ≤ xn X) (h0 : ∀ k, k < cnt → ¬ xN X (i + k) = 0) (hT : TkC X T) (hN : NmR R S T) (h00 : R 0 0) (hW : WT T) (hs : S.1 7 0 = 0) (ht : T.1 53 0 = 0) (hd : 2 ≤ d) : ∀ (m k fl G V : Nat), m + k = cnt → m < fl → G < 16 ^ k → V < 1024 ^ k → (∀ j, j < k → R (V / 1024 ^ j % 1024) (G / 16 ^ j % 16)) → ∃ g W T', rl_Heads_readRegions_5 (PP nf d) nf fl T (nI i) (nI cnt) (nI G) (nI k) = some (nI g, 0, T') ∧ g < 4096 ∧ FwH T T' ∧ T'.2 = T.2 ∧ RgQ R S (waX X m S i k (nI V)).2 T T' cnt W (waX X m S i k (nI V)).1 g := by
  have hxn := hX.1
  have e16 : (16 : Nat) ^ 3 = 4096 := rfl
  have l16 := Nat.pow_le_pow_right (show 16 > 0 by omega) hc3
  intro m
  induction m with
  | zero =>
    intro k fl G V h1 h2 hG hV hR
    obtain ⟨fl, rfl⟩ : ∃ g, fl = g + 1 := ⟨fl - 1, by omega⟩
    have ek : k = cnt := by omega
    subst ek
    rw [rl_Heads_readRegions_5, if_pos (Int32.le_refl _), waX]
    exact ⟨G, V, T, rfl, by omega, FwH.rf hW, rfl, Or.inl ⟨hs, rfl, rfl, rfl, hV, hG, hR⟩⟩
  | succ m ih =>
    intro k fl G V h1 h2 hG hV hR
    obtain ⟨fl, rfl⟩ : ∃ g, fl = g + 1 := ⟨fl - 1, by omega⟩
    rw [rl_Heads_readRegions_5, if_neg (fun w => by
      have := (nI_leI (by omega) (by omega)).mp w
      omega), if_neg (fun w => by
      have := (nI_leI (a := 3) (b := k) (by omega) (by omega)).mp w
      omega), show nI i + nI k = nI (i + k) from (Int32.ofNat_add _ _).symm, waX, if_pos hs]
    rcases b_reg (i := i + k) hX hnf hT hN h00 (by omega) (h0 k (by omega)) hd with ⟨c, m', e1, e2, e3, e4, e5⟩ | ⟨e1, e2⟩
    · have p0 : 0 ≤ rgQ X S (i + k) := by rw [e1]; exact (nI_leI (a := 0) (b := c) (by omega) (by omega)).mpr (by omega)
      have es : srS X S (i + k) = S := by unfold srS; rw [if_pos p0]
      have er : srR X S (i + k) = nI c := by unfold srR; rw [if_pos p0, e1]
      rw [e5, bis, vK, vK, nI_1, sh4 (by omega) hG (by omega), es, er, sh10 (by omega) hV e3]
      refine ih (k + 1) fl (G + 16 ^ k * m') (V + 1024 ^ k * c) (by omega) (by omega) (pwl (by omega) hG (by omega)) (pwl (by omega) hV e3) (fun j hj => ?_)
      by_cases cj : j = k
      · rw [cj, pwt (by omega) hV e3, pwt (by omega) hG (by omega)]
        exact e2
      · rw [pwd (by omega) hV (by omega), pwd (by omega) hG (by omega)]
        exact hR j (by omega)
    · have p0 : ¬ 0 ≤ rgQ X S (i + k) := by rw [e1]; decide
      have es : srS X S (i + k) = flT S 3 (nI (xP X (i + k))) := by unfold srS; rw [if_neg p0]
      have fe : FE S (flT S 3 (nI (xP X (i + k)))) := FE.fl (by decide)
      have s7 : (flT S 3 (nI (xP X (i + k)))).1 7 0 = 3 ∧ (flT S 3 (nI (xP X (i + k)))).1 8 0 = nI (xP X (i + k)) := by
        unfold flT failS
        rw [if_pos hs, sI_ne (by omega), sI_v, sI_v]
        exact ⟨rfl, rfl⟩
      have wx : ∀ (m k : Nat) (a : Int32), (waX X m (flT S 3 (nI (xP X (i + k)))) i k a).2 = flT S 3 (nI (xP X (i + k))) := by
        intro m k a
        cases m with
        | zero => rfl
        | succ m =>
          rw [waX, if_neg]
          unfold flT failS
          rw [if_pos hs, sI_ne (by omega), sI_v]
          decide
      have t53 : (ntS T 3 (nI (xP X (i + k)))).1 53 0 = 3 ∧ (ntS T 3 (nI (xP X (i + k)))).1 54 0 = nI (xP X (i + k)) := by
        unfold ntS
        rw [if_pos ht, sI_ne (by omega), sI_v, sI_v]
        exact ⟨rfl, rfl⟩
      have f1 : FwH T (ntS T 3 (nI (xP X (i + k)))) := FwH.nt hW
      rw [e2, bis, vK, vK, nI_1, es]
      have z0 : nI G ||| ((0 : Int32) <<< (((4 : Int32) * nI k) &&& 31)) = nI G := by
        have := sh4 (k := k) (G := G) (r := 0) (by omega) hG (by omega)
        rw [Nat.mul_zero, Nat.add_zero] at this
        exact this
      rw [z0]
      obtain ⟨n, n1, n2, n3, _⟩ := hN
      obtain ⟨g, T', g1, g2, g3, g4⟩ := a_rgl (d := d) (i := i) hX hnf hc3 (by omega) n2 n3 hd m (k + 1) fl G (ntS T 3 (nI (xP X (i + k)))) (by omega) (by omega) (Nat.lt_of_lt_of_le hG (Nat.pow_le_pow_right (by omega) (by omega))) (hT.fh f1) (by rw [nt_o (by omega) (by omega)]; exact n1) f1.2.2.1
      refine ⟨g, 0, T', g1, by omega, f1.tr g3, g4.trans nt_2, Or.inr ⟨?_, ?_⟩⟩
      · have keep := g3.2.2.2.2 (by rw [t53.1]; decide)
        have ex : ∀ a, (waX X m (flT S 3 (nI (xP X (i + k)))) i (k + 1) a).2 = flT S 3 (nI (xP X (i + k))) := by
          intro a
          cases m with
          | zero => rfl
          | succ m => rw [waX, if_neg (by rw [s7.1]; decide)]
        rw [ex]
        exact ⟨by rw [s7.1]; decide, by rw [keep.1, t53.1, s7.1], by rw [keep.2, t53.2, s7.2]⟩
      · have ex : ∀ a, (waX X m (flT S 3 (nI (xP X (i + k)))) i (k + 1) a).2 = flT S 3 (nI (xP X (i + k))) := by
          intro a
          cases m with
          | zero => rfl
          | succ m => rw [waX, if_neg (by rw [s7.1]; decide)]
        rw [ex]
        exact fe
theorem b_rgs (hX : XO X) (hnf : 20 ≤ nf) (hc3 : cnt ≤ 3) (hi : i + cnt ≤ xn X) (h0 : ∀ k, k < cnt → ¬ xN X (i + k) = 0) (hT : TkC X T) (hN : NmR R S T) (h00 : R 0 0) (hW : WT T) (hs : S.1 7 0 = 0) (ht : T.1 53 0 = 0) (hd : 3 ≤ d) : ∃ g W T', PP nf d 136 T [nI i, nI cnt] [] = some (nI g, 0, T') ∧ g < 4096 ∧ FwH T T' ∧ T'.2 = T.2 ∧ RgQ R S (waX X cnt S i 0 0).2 T T' cnt W (waX X cnt S i 0 0).1 g := by
  obtain ⟨d, rfl⟩ : ∃ g, d = g + 1 := ⟨d - 1, by omega⟩
  rw [e_Heads_readRegions]
  unfold rb_Heads_readRegions
  exact b_rgl (d := d) hX hnf hc3 hi h0 hT hN h00 hW hs ht (by omega) cnt 0 nf 0 0 (by omega) (by omega) (by decide) (by decide) (fun j hj => by omega)
end CRS
