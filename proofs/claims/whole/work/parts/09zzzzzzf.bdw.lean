/-! readDead and readWhere, on both sides -/
def WeQ (S S' T : gSt) (t w : Nat) (T' : gSt) : Prop := FwK t T T' ∧ ((S' = S ∧ T'.1 53 0 = 0 ∧ T'.2 = T.2 ∧ T'.1 46 t = nI w ∧ T'.1 40 t = wcT 3 1 (bwT S t w 0 0) ∧ (∀ q, q < w → PiR S T' t q) ∧ (∀ g j, ¬ (g = 40 ∧ j = t) → ¬ (g = 46 ∧ j = t) → ¬ (g = 47 ∧ 3 * t ≤ j ∧ j < 3 * t + 3) → T'.1 g j = T.1 g j)) ∨ BfR S' T')
section CDW
variable {S S' T T' T1 : gSt} {X : Lx} {nf d i k n m t e w dt wt : Nat} {N : Nat → Int64}
theorem OwR.st (h : OwR S T t e N) (h1 : S'.1 15 = S.1 15) (h2 : S'.2 16 = S.2 16) (h3 : T'.1 72 0 = T.1 72 0) (h4 : ∀ j, T'.2 73 j = T.2 73 j) : OwR S' T' t e N := by
  obtain ⟨a, b, c, f, g, l⟩ := h
  exact ⟨a, by rw [h1]; exact b, fun q hq => by rw [h2]; exact c q hq, by rw [h3]; exact f, fun r r1 r2 => by rw [h4]; exact g r r1 r2, l⟩
theorem b_dead (hX : XO X) (hnf : 20 ≤ nf) (ht : t < 24) (hd : 5 ≤ d) (h34 : T.1 34 t = nI (dt - 1)) (hdt : dt < 70000) (hg : dt = 0 ∧ n = 0 ∨ 2 ≤ dt ∧ n = rgs (xK X) 3 dt) (hT : TkC X T) (hR : WR T) (hW : WT T) (hO : OwR S T t e N) (hD : DdR X S t dt n) (hs : S.1 7 0 = 0) (h53 : T.1 53 0 = 0) (h30 : S.1 30 t = 0) : wp (PP nf d 131 T [nI t] []) (fun _ _ T' => DdQ S (deL t n 0 S) T t T') := by
  obtain ⟨d, rfl⟩ : ∃ g, d = g + 1 := ⟨d - 1, by omega⟩
  have ct : (nI t).toNatClampNeg = t := nc (by omega)
  have zt : inb (nI t) 24 := nin ht (by omega)
  rw [e_Heads_readDead]
  unfold rb_Heads_readDead
  simp only [gd, if_pos zt, ct, h34, vK, nI_1]
  have f3 : FwK t T (sI T 39 t 0) := FwK.wr hW (Or.inl ⟨by omega, by omega, rfl⟩)
  have o3 : ∀ k j, ¬ (k = 39 ∧ j = t) → (sI T 39 t 0).1 k j = T.1 k j := fun k j h => by rw [rdI, if_neg h]
  have O3 : OwR S (sI T 39 t 0) t e N := hO.st rfl rfl (by rw [sI_ne (by omega)]) (fun _ => rfl)
  have v3 : (sI T 39 t 0).1 39 t = S.1 30 t := by rw [sI_v, h30]
  have fin : ∀ T', DdQ S (deL t n 0 S) (sI T 39 t 0) t T' → DdQ S (deL t n 0 S) T t T' := by
    intro T' ⟨a, b⟩
    refine ⟨f3.tr a, ?_⟩
    rcases b with ⟨b1, b2, b3, b4, b5, b6, b7⟩ | b
    · exact Or.inl ⟨b1, b2, b3, fun k j q => (b4 k j q).trans (o3 k j q), b5, b6, b7⟩
    · exact Or.inr b
  rcases hg with ⟨g1, g2⟩ | ⟨g1, g2⟩
  · subst g1 g2
    rw [if_pos (show nI (0 - 1) = 0 from rfl), stK]
    refine wp_mono (b_ddl (nf := nf) (d := d) (cnt := 0) (i := 0 - 1 + 1) (N := N) hX hnf ht (by omega) (by omega) 0 0 nf S (sI T 39 t 0) (by omega) (by omega) (hT.fk f3) (hR.fk f3) f3.2.2.1 O3 (fun k hk => absurd hk (Nat.not_lt_zero _)) hs (by rw [sI_ne (by omega)]; exact h53) v3 (by omega)) ?_
    intro _ _ T' h
    exact fin T' h
  · rw [if_neg (fun w => by have := (nI_inj (a := dt - 1) (b := 0) (by omega) (by omega) w); omega), c_cntR hX hT (by omega) (by omega) (by omega), bis, stK, show dt - 1 + 1 = dt by omega, ← g2]
    have rb : n ≤ 3 := by rw [g2]; exact (rgs_b (xK X) 3 dt).1
    refine wp_mono (b_ddl (nf := nf) (d := d) (cnt := n) (i := dt) (N := N) hX hnf ht rb (by omega) n 0 nf S (sI T 39 t 0) (by omega) (by omega) (hT.fk f3) (hR.fk f3) f3.2.2.1 O3 hD hs (by rw [sI_ne (by omega)]; exact h53) v3 (by omega)) ?_
    intro _ _ T' h
    exact fin T' h
theorem b_where (hX : XO X) (hnf : 20 ≤ nf) (ht : t < 24) (hd : 6 ≤ d) (h35 : T.1 35 t = nI (wt - 1)) (hwt : wt < 70000) (hg : wt = 0 ∧ w = 0 ∨ 2 ≤ wt ∧ 1 ≤ w ∧ w ≤ 3) (hT : TkC X T) (hR : WR T) (hW : WT T) (hO : OwR S T t e N) (hD : WhR X S t wt w) (hs : S.1 7 0 = 0) (h53 : T.1 53 0 = 0) : wp (PP nf d 132 T [nI t] []) (fun _ _ T' => WeQ S (whL t (2 * w) 0 S) T t w T') := by
  obtain ⟨d, rfl⟩ : ∃ g, d = g + 1 := ⟨d - 1, by omega⟩
  have ct : (nI t).toNatClampNeg = t := nc (by omega)
  have zt : inb (nI t) 24 := nin ht (by omega)
  rw [e_Heads_readWhere]
  unfold rb_Heads_readWhere
  simp only [gd, if_pos zt, ct, stK, vK]
  have f1 : FwK t T (sI T 40 t 0) := FwK.wr hW (Or.inl ⟨by omega, by omega, rfl⟩)
  have f2 : FwK t T (sI (sI T 40 t 0) 46 t 0) := f1.tr (FwK.wr f1.2.2.1 (Or.inr (Or.inl ⟨rfl, rfl⟩)))
  have p2 : (sI (sI T 40 t 0) 46 t 0).1 46 t = nI 0 := sI_v
  have q2 : (sI (sI T 40 t 0) 46 t 0).1 35 t = nI (wt - 1) := by rw [sI_ne (by omega), sI_ne (by omega)]; exact h35
  have v2 : (sI (sI T 40 t 0) 46 t 0).1 40 t = 0 := by rw [sI_ne (by omega), sI_v]
  have e2 : (sI (sI T 40 t 0) 46 t 0).2 = T.2 := rfl
  have o2 : ∀ g j, ¬ (g = 40 ∧ j = t) → ¬ (g = 46 ∧ j = t) → (sI (sI T 40 t 0) 46 t 0).1 g j = T.1 g j := fun g j a b => by rw [rdI, if_neg b, rdI, if_neg a]
  generalize sI (sI T 40 t 0) 46 t 0 = T2 at *
  rw [q2, nI_1]
  have hO2 : ∀ T', T'.1 72 0 = T2.1 72 0 → T'.2 = T2.2 → OwR S T' t e N := fun T' a b => hO.st rfl rfl (by rw [a, o2 72 0 (by omega) (by omega)]) (fun j => by rw [b, e2])
  have fin : ∀ T', WhQ S (whL t (2 * w) (2 * 0) S) T2 t 0 w T' → WeQ S (whL t (2 * w) 0 S) T t w T' := by
    intro T' ⟨a, b⟩
    refine ⟨f2.tr a, ?_⟩
    rcases b with ⟨b1, b2, b3, b4, b5, b6, b7, b8⟩ | b
    · rw [Nat.mul_zero] at b1
      rw [v2] at b5
      exact Or.inl ⟨b1, b2, b3.trans e2, by rw [b4, Nat.zero_add], b5, fun q hq => b6 q (by omega) (by omega), fun g j x y z => (b8 g j x y z).trans (o2 g j x y)⟩
    · exact Or.inr (by rw [Nat.mul_zero] at b; exact b)
  have h53' : T2.1 53 0 = 0 := by rw [o2 53 0 (by omega) (by omega)]; exact h53
  rcases hg with ⟨g1, g2⟩ | ⟨g1, g2, g3⟩
  · subst g1 g2
    rw [if_pos (show nI (0 - 1) = 0 from rfl)]
    refine wp_mono (b_wl (nf := nf) (d := d) (i := 1) (N := N) (w := 0) (T := T2) hX hnf ht (by omega) (by omega) (by omega) hO2 (fun k hk => absurd hk (Nat.not_lt_zero _)) hs 0 0 nf T2 (by omega) (by omega) rfl rfl (hT.fk f2) (hR.fk f2) f2.2.2.1 h53' p2) ?_
    intro _ _ T' h
    exact fin T' h
  · rw [if_neg (fun w => by have := (nI_inj (a := wt - 1) (b := 0) (by omega) (by omega) w); omega), show wt - 1 + 1 = wt by omega]
    have := b_wl (nf := nf) (d := d) (i := wt) (N := N) (w := w) (T := T2) hX hnf ht g3 (by omega) (by omega) hO2 hD hs w 0 nf T2 (by omega) (by omega) rfl rfl (hT.fk f2) (hR.fk f2) f2.2.2.1 h53' p2
    rw [if_neg (by omega)] at this
    refine wp_mono this ?_
    intro _ _ T' h
    exact fin T' h
end CDW
