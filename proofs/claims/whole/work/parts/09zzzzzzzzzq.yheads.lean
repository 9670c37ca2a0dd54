/-! the check of heads, both sides -/
/-- behind both parses -/
def PsR (X : Lx) (its : List It) (S T : gSt) : Prop := RmP X its S ∧ JL X S T its 0 0 0 1 ∧ T.1 27 0 = nI its.length ∧ TkC X T ∧ T.1 53 0 = 0 ∧ (EW T + 1 < 2 ^ 40 ∧ ∀ s, s < 16384 → SW T s / KM ≤ EW T) ∧ S.1 1 0 = T.1 21 0 ∧ CtR S T ∧ T.1 71 0 = 0 ∧ T.1 51 0 = 0 ∧ (T.1 11 0 = 0 ∧ T.1 12 0 = 0 ∧ T.1 13 0 = 0)
/-- behind the heads -/
def HfR (X : Lx) (its : List It) (S T T' : gSt) : Prop := FnR X (hdsS X its S) T' ∧ FiL X (hdsS X its S) T' its 0 0 ∧ FpL X T' its 0 0 1 ∧ WF X T' ∧ T'.1 51 0 = 0 ∧ T'.1 27 0 = nI its.length ∧ lvC T' 16384 ≤ hdW its ∧ (∀ v, v < 2 → T'.1 52 v = T.1 52 v + nI (cfT X v its)) ∧ JL X (hdsS X its S) T' its 0 0 0 1 ∧ HcL X (hdsS X its S) T' its 0 0
section YHD
variable {S S' T T' T1 T2 : gSt} {X : Lx} {nf d it e v g n k i u c m lo hi a z z0 n0 y p q r j s f t fl rt dt wt w : Nat} {x op : Int32} {nm : Int64} {b : Tr} {l : List Nat} {xi : It} {xs its : List It} {R : RgR}
theorem mn_2 : (mnS S).2 = S.2 := by
  unfold mnS
  split
  · rfl
  · unfold flT failS
    split <;> rfl
theorem NuL.mn : ∀ (xs : List It) (t c : Nat), NuL S xs t c → NuL (mnS S) xs t c := by
  intro xs
  induction xs with
  | nil => intro t c _; trivial
  | cons x xs ih =>
    intro t c h
    refine ⟨h.1.st (mn_o (by omega) (by omega)) (by rw [mn_2]) (by rw [mn_2]), fun q => ?_, ih _ _ h.2.2⟩
    rw [mn_o (by omega) (by omega)] at q ⊢
    exact h.2.1 q
theorem JL.hg : ∀ (xs : List It) (t c a lo : Nat), JL X S T xs t c a lo → hgL X xs := by
  intro xs
  induction xs with
  | nil => intro t c a lo _; trivial
  | cons x xs ih =>
    intro t c a lo h
    obtain ⟨z, m, h1, h2⟩ := h
    exact ⟨h1.2.2.2.2.2.2.2.2.1.1, ih _ _ _ _ h2⟩
theorem JI.ih (h : JI X S T t c xi a z lo m) : (T.1 28 t = 12 ↔ S.1 12 t = 2) ∧ (S.1 12 t = 0 ∨ S.1 12 t = 1 ∨ S.1 12 t = 2) ∧ T.2 30 t = S.2 13 t ∧ T.1 31 t = S.1 15 t ∧ ∃ e, S.1 15 t = nI e ∧ e ≤ 3 := by
  obtain ⟨i, e, l, rt, dt, n, wt, w, b⟩ := xi
  obtain ⟨⟨x1, x2, x3, x4, x5, x6, x7, x8⟩, ⟨y1, y2, y3, y4, y5, y6, y7, y8, y9, y10⟩, a3, a4, a5, a6, a7, a8, a9, a10, a11, a12⟩ := h
  obtain ⟨k1, k2, k3, _⟩ := a10
  refine ⟨?_, ?_, by rw [y3, a3], by rw [y4, x4], e, x4, x3⟩
  · rw [y1, x1]
    rcases k3 with k | k | k
    · rw [k, if_pos rfl]; exact ⟨fun w => absurd w (by decide), fun w => absurd w (by decide)⟩
    · rw [k, if_neg (by decide), if_pos rfl]; exact ⟨fun w => absurd w (by decide), fun w => absurd w (by decide)⟩
    · rw [k, if_neg (by decide), if_neg (by decide)]; exact ⟨fun _ => rfl, fun _ => rfl⟩
  · rw [x1]
    split
    · exact Or.inl rfl
    · split
      · exact Or.inr (Or.inl rfl)
      · exact Or.inr (Or.inr rfl)
theorem y_heads (hX : XO X) (hnf : 16385 ≤ nf) (hz : ∀ q, xK X q = 4 → ¬ xN X q = 0) (hd : 63 ≤ d) (h : PsR X its S T) (hl : hdW its + 20 < 16384) (hc : cn (hdsS X its S) < 6000) : wp (PP nf d 126 T [] []) (fun _ _ T' => FhB 0 (tcT T) T' ∧ (BfR (hdsS X its S) T' ∨ HfR X its S T T')) := by
  obtain ⟨d, rfl⟩ : ∃ g, d = g + 1 := ⟨d - 1, by omega⟩
  obtain ⟨hR, hJ, h27, hT, h53, ⟨hE, hE2⟩, h1, hct, h71, h51, h11⟩ := h
  obtain ⟨r11, rl, rI, rK, r15, rO, rRi, r7, _⟩ := hR
  obtain ⟨tw, tl⟩ := tc_ty (T := T) hE hE2
  have t1 : (tcT T).1 = T.1 := rfl
  have t2 : ∀ q j, q ≠ 63 → (tcT T).2 q j = T.2 q j := fun q j hq => by unfold tcT; rw [rdJ, if_neg (fun w => hq w.1)]
  have hJ1 : JL X (sI S 65 0 1) (tcT T) its 0 0 0 1 := JL.st (S := S) (T := T) (S' := sI S 65 0 1) (T' := tcT T) (fun k hk _ _ _ _ _ => sI_ne (by omega)) (fun _ _ => rfl) (fun k _ => by rw [t1]) (fun j => t2 30 j (by omega)) its _ _ _ _ hJ
  have c0 : Ck0 (sI S 65 0 1) := ck0_65 r11 rl r15
  have in1 : inn (sI S 65 0 1) = its.length := by
    unfold inn
    rw [sI_ne (by omega), r11, nc (by omega)]
  have hT1 : TkC X (tcT T) := by
    unfold TkC at hT ⊢
    rw [t1]
    refine ⟨hT.1, hT.2.1, fun j hj => ?_⟩
    rw [t2 24 j (by omega)]
    exact hT.2.2 j hj
  have hs : HsR X (sI S 65 0 1) (tcT T) := ⟨hT1, ⟨its.length, in1, h27, rl, fun t ht => by
    obtain ⟨c, x, a, z, lo, m, hi⟩ := JL.get its _ _ _ _ hJ1 t (by omega) (by omega)
    exact hi.ih⟩, c0.1, by rw [sI_ne (by omega)]; exact r7, h53, tw⟩
  rw [e_Heads_check]
  unfold rb_Heads_check
  rw [c_tclear (by omega), bis]
  have hwh : ∀ s, s < its.length → ∃ q, WH X (tcT T) s q := fun s hs => by
    obtain ⟨c, x, a, z, lo, m, hi⟩ := JL.get its _ _ _ _ hJ1 s (by omega) (by omega)
    obtain ⟨i, e, l, rt, dt, n, wt, w, b⟩ := x
    obtain ⟨x1, x2, a3, a4, a5, a6, a7, a8, a9, a10, a11, a12⟩ := hi
    exact ⟨_, (x2.wh hX a9.1 x1.2.2.1 a10 a11).1⟩
  have hmr : HmR (sI S 65 0 1) (tcT T) its.length := fun s hs => by
    obtain ⟨c, x, a, z, lo, m, hi⟩ := JL.get its _ _ _ _ hJ1 s (by omega) (by omega)
    obtain ⟨i, e, l, rt, dt, n, wt, w, b⟩ := x
    obtain ⟨x1, x2, a3, a4, a5, a6, a7, a8, a9, a10, a11, a12⟩ := hi
    obtain ⟨y1, y2, y3, y4, y5, y6, y7, y8, y9, y10⟩ := x2
    refine ⟨l.length, y6, a5, y5, a7.trans ?_⟩
    rw [y8]
    have rt7 : rt < 70000 := (HeT.wh (rt := rt) (T := tcT T) hX ⟨y1, y2, y3, y4, y5, y6, y7, y8, y9, y10⟩ a9.1 x1.2.2.1 a10 a11).2.1
    exact ⟨fun q => by have q' : rt = 0 := q; rw [q']; rfl, fun q => nI_inj (a := rt) (b := 0) (by omega) (by omega) q⟩
  refine wp_mono (b_chk9 (nf := nf) (d := d) hX hnf hz (by omega) rl (Nat.le_refl _) its 0 0 nf 0 (sI S 65 0 1) (tcT T) (by omega) (by omega) hs in1 (JL.hr its _ _ _ _ hJ1) hmr hwh (JL.hg its _ _ _ _ hJ1) rO (by rw [sI_ne (by omega)]; exact h1) (by omega) hc) ?_
  intro _ _ T' ⟨fb, ck⟩
  refine ⟨fb, ?_⟩
  rcases ck with ⟨H, F, hC, hlv, hv, hv2⟩ | bf
  · refine Or.inr ?_
    have e7 : (hdsS X its S).1 7 0 = 0 := H.2.2.2.1
    have fm : FH (sI S 65 0 1) (hdsS X its S) := (FH.hds its 0 0 _).tr FH.mn
    have o : ∀ k, (11 ≤ k ∧ k ≤ 18) ∨ (28 ≤ k ∧ k ≤ 37) ∨ k = 43 → T'.1 k = (tcT T).1 k := fun k hk => by
      funext j
      exact fb.1 k j (by omega) (by omega) (by omega) (by omega) (by omega) (by omega) (by omega) (by omega) (by omega) (by omega) (by omega) (by omega)
    have ob : ∀ k j, k ≠ 52 → k ≠ 53 → k ≠ 54 → k ≠ 67 → k ≠ 68 → k ≠ 72 → k ≠ 75 → k ≠ 76 → ¬ (38 ≤ k ∧ k ≤ 47) → T'.1 k j = T.1 k j := fun k j a1 a2 a3 a4 a5 a6 a7 a8 a9 => by
      rw [← t1]
      exact fb.1 k j a1 a2 a3 a4 a5 a6 a7 a8 (by omega) (by omega) (by omega) (by omega)
    have hJ2 : JL X (hdsS X its S) T' its 0 0 0 1 := JL.st fm.1 fm.2.1 o (fun j => fb.2.1 30 j (by omega) (by omega) (by omega)) its _ _ _ _ hJ1
    have in2 : inn (hdsS X its S) = its.length := by
      unfold inn
      rw [fm.1 11 (by omega) (by omega) (by omega) (by omega) (by omega) (by omega)]
      exact in1
    have e7' : (hdsL X its 0 0 (sI S 65 0 1)).1 7 0 = 0 := FH.mn.ok e7
    have nu : NuL (hdsS X its S) its 0 0 := NuL.mn its 0 0 (hds_nu its 0 0 0 1 _ hJ1 e7')
    have hCk : Ckf (hdsS X its S) := hds_ck r11 rl (his_65 _ _ _ rI) (kn_65 _ _ rK) c0 rRi hc e7
    have e27 : T'.1 27 0 = nI its.length := by rw [ob 27 0 (by omega) (by omega) (by omega) (by omega) (by omega) (by omega) (by omega) (by omega) (by omega)]; exact h27
    have e51 : T'.1 51 0 = 0 := by rw [ob 51 0 (by omega) (by omega) (by omega) (by omega) (by omega) (by omega) (by omega) (by omega) (by omega)]; exact h51
    have hai := ai_mk (S := hdsS X its S) (T := T') hX its 0 0 0 1 (by omega) hJ2 hC (fun q x hx h12 hrt => by
      have := hds_26 (X := X) its 0 0 (sI S 65 0 1) e7' q x hx (by
        rw [← h12]
        rw [fm.1 12 (by omega) (by omega) (by omega) (by omega) (by omega) (by omega)]) hrt
      rw [← this]
      unfold hdsS
      rw [mn_o (by omega) (by omega)])
    refine ⟨⟨H, hCk, fun t ht => (hai t (by omega) (by omega)).1, ?_, ?_⟩, fi_mk (by omega) its 0 0 0 1 (by omega) hJ2 hC nu, JL.fp its _ _ _ _ hJ2, ⟨H.1, fb.2.2.1, ⟨its.length, e27, rl⟩, ⟨0, e51, by omega⟩, ?_, fun t ht => ?_⟩, e51, e27, by omega, fun v hv' => by rw [hv v hv', t1], hJ2, hC⟩
    · have c88' : c88 (sI S 65 0 1) (hdsS X its S) := c88.go (c88.hds its 0 0 _) (fun k hk => mn_o (by omega) (by omega))
      obtain ⟨x1, x2, x3, x4, x5⟩ := hct
      have e : ∀ k, 88 ≤ k → (hdsS X its S).1 k = S.1 k := fun k hk => by rw [c88' k hk, sI_ne (by omega)]
      refine ⟨?_, ?_, ?_, ?_, ?_⟩
      · rw [hv2 2 (by omega), e 92 (by omega)]; exact x1
      · rw [hv2 3 (by omega), e 88 (by omega)]; exact x2
      · rw [hv2 4 (by omega), e 89 (by omega)]; exact x3
      · rw [hv2 5 (by omega), e 90 (by omega)]; exact x4
      · rw [hv2 6 (by omega), e 91 (by omega)]; exact x5
    · rw [ob 71 0 (by omega) (by omega) (by omega) (by omega) (by omega) (by omega) (by omega) (by omega) (by omega)]; exact h71
    · rw [ob 11 0 (by omega) (by omega) (by omega) (by omega) (by omega) (by omega) (by omega) (by omega) (by omega), ob 12 0 (by omega) (by omega) (by omega) (by omega) (by omega) (by omega) (by omega) (by omega) (by omega), ob 13 0 (by omega) (by omega) (by omega) (by omega) (by omega) (by omega) (by omega) (by omega) (by omega)]
      exact h11
    · have : itN T' = its.length := by unfold itN; rw [e27, nc (by omega)]
      exact (hai t (by omega) (by omega)).2
  · exact Or.inl bf
end YHD
