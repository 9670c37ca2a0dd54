/-! jumps that are aimed, questions: both sides -/
def aiT (T : gSt) (r : Int32) : gSt := if r = -1 then T else sI T 49 r.toNatClampNeg (T.1 51 0)
section ZSF
variable {S S' S1 S2 T T' T1 T2 T3 : gSt} {X : Lx} {nf d it e v g n dd v' g' k i e' u c m lo hi a b n0 y z p q r j s f yv yx yr lr N m0 c0 : Nat} {ta tb tr : Tr} {pl x op cc t x4 rr : Int32} {R : RgR} {nm w w2 : Int64} {bo : Bool} {zz : T5} {cd po : Nat → Nat} {xi : It}
/-- a row is laid, and told -/
theorem em_r (hW : WT T) (h : ∃ c, T.1 51 0 = nI c ∧ c ≤ 6032) (hd : 1 ≤ d) : ∃ r T', PP nf d 51 T [x, pl, op] [] = some (r, 0, T') ∧ FX T T' ∧ (∀ n, T.1 51 0 = nI n → n < 6032 → T' = emS T n x pl op ∧ r = nI n) ∧ (r = -1 ∨ ∃ n, r = nI n ∧ n < 6032 ∧ T.1 51 0 = nI n ∧ T'.1 51 0 = nI (n + 1)) := by
  obtain ⟨c, c1, c2⟩ := h
  by_cases cc : c < 6032
  · refine ⟨_, _, c_emit c1 cc hd, FX.em hW c1 cc, fun n hn hn2 => ?_, Or.inr ⟨c, rfl, cc, c1, em_51⟩⟩
    have : n = c := nI_inj (by omega) (by omega) (by rw [← hn, ← c1])
    rw [this]
    exact ⟨rfl, rfl⟩
  · obtain ⟨d, rfl⟩ : ∃ g, d = g + 1 := ⟨d - 1, by omega⟩
    refine ⟨-1, T, ?_, FX.rf hW, fun n hn hn2 => ?_, Or.inl rfl⟩
    · rw [e_Code_emit]
      unfold rb_Code_emit
      rw [c1, if_neg (fun w => by
        have := (nI_ltI (a := c) (b := 6032) (by omega) (by omega)).mp w
        omega)]
    · have : n = c := nI_inj (by omega) (by omega) (by rw [← hn, ← c1])
      omega
/-- aim -/
theorem c_am (h : rr = -1 ∨ ∃ m c, rr = nI m ∧ T.1 51 0 = nI c ∧ m < c ∧ c ≤ 6032) (hd : 2 ≤ d) : PP nf d 52 T [rr] [] = some (0, 0, aiT T rr) := by
  obtain ⟨d, rfl⟩ : ∃ g, d = g + 2 := ⟨d - 2, by omega⟩
  rw [e_Code_aim _ (d + 1)]
  unfold rb_Code_aim aiT
  rw [e_Code_has]
  unfold rb_Code_has
  rcases h with h | ⟨m, c, h1, h2, h3, h4⟩
  · rw [h, if_pos (show (-1 : Int32) < 0 by decide), bis, if_pos rfl, if_pos rfl]
  · rw [h1, if_neg (fun w => by
      have := (nI_ltI (a := m) (b := 0) (by omega) (by omega)).mp w
      omega), h2, if_neg (fun w => by
      have := (nI_leI (a := c) (b := m) (by omega) (by omega)).mp w
      omega), bis, if_neg (by decide), gd, if_pos (nin (by omega) (by omega)), stK, if_neg (nI_m1 (by omega)), h2]
theorem am_o (hk : k ≠ 49) : (aiT T rr).1 k = T.1 k := by
  unfold aiT
  split
  · rfl
  · exact sI_ne hk
theorem am_2 : (aiT T rr).2 = T.2 := by
  unfold aiT
  split <;> rfl
theorem am_49 (h : rr = nI m) (hm : m < 100000) : (aiT T rr).1 49 j = if j = m then T.1 51 0 else T.1 49 j := by
  unfold aiT
  rw [h, if_neg (nI_m1 (by omega)), nc (by omega), rdI]
  by_cases c : j = m
  · rw [if_pos ⟨rfl, c⟩, if_pos c]
  · rw [if_neg (fun q => c q.2), if_neg c]
theorem am_ty (hW : WT T) : WT (aiT T rr) ∧ ∀ y, tyY T y → tyY (aiT T rr) y := by
  have := hW.ag (T' := aiT T rr) am_2 (by rw [am_o (by omega)])
  exact this
theorem FZ.am (h : FZ T T1) (h51 : ∃ c, T.1 51 0 = nI c ∧ c ≤ 6032) (hr : rr = -1 ∨ ∃ m, rr = nI m ∧ m < 100000 ∧ ∀ c, T.1 51 0 = nI c → c ≤ 6032 → c ≤ m) : FZ T (aiT T1 rr) := by
  obtain ⟨h1, h2, h3, h4, h5, h6, h7⟩ := h
  obtain ⟨w1, w2⟩ := am_ty (rr := rr) h3
  refine ⟨fun k a b => by rw [am_o (by omega)]; exact h1 k a b, fun q j a b c d => by rw [am_2]; exact h2 q j a b c d, w1, fun y hy => w2 y (h4 y hy), fun hh => by rw [am_o (by omega), am_o (by omega)]; exact h5 hh, fun c hc hc2 => ?_, by rw [am_o (by omega)]; exact h7.1, fun v hv => by rw [am_o (by omega)]; exact h7.2 v hv⟩
  obtain ⟨c', g1, g2, g3, g4⟩ := h6 c hc hc2
  refine ⟨c', by rw [am_o (by omega)]; exact g1, g2, g3, fun g j a b hj => ?_⟩
  by_cases c49 : g = 49
  · subst c49
    rcases hr with w | ⟨m, w, wm, wc⟩
    · unfold aiT
      rw [if_pos w]
      exact g4 49 j a b hj
    · have := wc c hc hc2
      rw [am_49 w wm, if_neg (by omega)]
      exact g4 49 j a b hj
  · rw [am_o c49]
    exact g4 g j a b hj
theorem FqZ.am (h : FqZ T T1 v) (hW : WT T1) : FqZ T (aiT T1 rr) v := by
  obtain ⟨a1, a2, a3, u, u', a4, a5, a6, a7, a8, a9⟩ := h
  refine ⟨by rw [am_o (by omega)]; exact a1, by rw [am_o (by omega)]; exact a2, by rw [am_o (by omega)]; exact a3, u, u', a4, by rw [am_o (by omega)]; exact a5, a6, a7, a8, fun j hj => ?_⟩
  obtain ⟨y, y1, y2⟩ := a9 j hj
  exact ⟨y, by rw [am_o (by omega)]; exact y1, (am_ty hW).2 y y2⟩
theorem HeT.am (h : HeT X T p xi) : HeT X (aiT T rr) p xi := by
  obtain ⟨i, e, l, rt, dt, n, wt, w, bd⟩ := xi
  obtain ⟨a1, a2, a3, a4, a5, a6, a7, a8, a9, a10⟩ := h
  exact ⟨by rw [am_o (by omega)]; exact a1, by rw [am_o (by omega)]; exact a2, by rw [am_2]; exact a3, by rw [am_o (by omega)]; exact a4, by rw [am_o (by omega)]; exact a5, a6, fun k hk => by rw [am_o (by omega)]; exact a7 k hk, by rw [am_o (by omega)]; exact a8, by rw [am_o (by omega)]; exact a9, by rw [am_o (by omega)]; exact a10⟩
theorem SrR.am (h : SrR X it e v g n S T) : SrR X it e v g n S (aiT T rr) ∧ TyF S S T (aiT T rr) := by
  have hV := h.1.2.2.2.2.2.2.2.2.1
  have hF : TyF S S T (aiT T rr) := TyF.st rfl (fun _ _ _ => rfl) rfl (by rw [am_2]) (by rw [am_2])
  obtain ⟨⟨a1, a2, a3, a4, a5, a6, a7, a9, a11, a12, a13, a14, a15, a16⟩, hfw⟩ := h
  have fw : flw (aiT T rr) = flw T := by unfold flw; rw [am_2]
  refine ⟨⟨⟨?_, ?_, a3, a4, by rw [am_o (by omega)]; exact a5, (am_ty a6).1, a7.st rfl rfl rfl rfl rfl rfl (fun _ => rfl) (by rw [am_o (by omega)]) (fun j => by rw [am_o (by omega)]) (by rw [am_o (by omega)]) (fun k => by rw [am_2]), a9.st rfl (by rw [am_o (by omega)]), a11.mo hF rfl (fun _ _ => rfl) rfl (fun _ => rfl) rfl rfl (by rw [am_o (by omega)]) (fun u => by rw [am_2]) (fun u => by rw [am_o (by omega)]) (fun u => by rw [am_o (by omega)]), fun t ht => ?_, by rw [am_o (by omega)]; exact a13, a14.st (am_o (by omega)) (fun _ _ _ => rfl), by rw [am_o (by omega)]; exact a15, a16⟩, ?_⟩, hF⟩
  · unfold TkC at a1 ⊢
    rw [am_o (k := 25) (by omega), am_o (k := 21) (by omega), am_o (k := 22) (by omega), am_o (k := 23) (by omega), am_2]
    exact a1
  · exact a2.st rfl rfl rfl rfl (fun k j hk => by rw [am_o (by omega)]) (fun j => by rw [am_2])
  · obtain ⟨c, x, b1, b2, b3, b4, b5, b6, b7, b8, b9, b10, b11⟩ := a12 t ht
    exact ⟨c, x, b1.am, b2.st rfl (fun k j hk => by rw [am_o (by omega)]), b3.st hF rfl rfl rfl (fun q _ => rfl) rfl rfl b2.2.1 b10 (fun k j hk => by rw [am_o (by omega)]), b4, b5, b6, b7, b8, b9, b10, b11⟩
  · rw [fw]
    exact hfw.mo hV hF rfl rfl rfl (fun u => by rw [am_o (by omega)])
theorem AgK.am (h : AgK S S' T T1 a b) (hr : rr = -1 ∨ ∃ m, rr = nI m ∧ m < 100000 ∧ b ≤ m) : AgK S S' T (aiT T1 rr) a b := by
  obtain ⟨h1, h2, h3, h4⟩ := h
  refine ⟨h1.tr (TyF.st rfl (fun _ _ _ => rfl) rfl (by rw [am_2]) (by rw [am_2])), h2, fun k a b => by rw [am_o (by omega)]; exact h3 k a b, fun g q g1 g2 q1 q2 => ?_⟩
  by_cases c49 : g = 49
  · subst c49
    rcases hr with w | ⟨m, w, wm, wc⟩
    · unfold aiT
      rw [if_pos w]
      exact h4 49 q g1 g2 q1 q2
    · rw [am_49 w wm, if_neg (by omega)]
      exact h4 49 q g1 g2 q1 q2
  · rw [am_o c49]
    exact h4 g q g1 g2 q1 q2
/-- checkQuestion -/
theorem y_qst (hX : XO X) (hnf : 16385 ≤ nf) (hC : CE1 nf X tr) (hP : CeP X T tr 1 lo hi z m (dd + 1) d a b) (hd : 8 * m + 112 ≤ d) (h13 : T.1 13 z = 0) : wp (PP nf (d + 2) 185 T [nI lo, nI dd] []) (fun _ _ T' => FX T T' ∧ ∀ it e v g n S n0, SrR X it e v g n S T → Rm X (chk X tr 0 0 S).2.2.2 T tr n0 → BfR (cdC X tr S) T' ∨ (cdC X tr S = (chk X tr 0 0 S).2.2.2 ∧ SrR X it e v g n (cdC X tr S) T' ∧ TyF S (cdC X tr S) T T' ∧ (∃ m, T'.1 51 0 = nI m ∧ m ≤ n0 + kwT tr ∧ KxC e (cdC X tr S) T' S (chk X tr 0 0 S).2.2.1 n0 m) ∧ lvC T' 16384 ≤ lvC T 16384 + lvT X tr)) := by
  rw [e_Steps_checkQuestion _ (d + 1)]
  unfold rb_Steps_checkQuestion
  rw [nI_1]
  refine wp_bi (hC.run hnf hX hP hd h13) ?_
  obtain ⟨p1, p2, p3, p4, p5, p6, p7, p8, p9⟩ := hP
  intro r _ T2 ⟨y, e1, hq⟩
  have fx := hq.2.1
  have yl := hq.1.lt
  have bb := x_begin (nf := nf) (d := d + 1) hX hnf (p9.1.fx fx) (p1.fx fx) p3 p6 (by omega) p4 p5 (by omega)
  have q1 : (nI y = (1 : Int32)) = (y = 1) := ci_eq (j := 1) (by omega) (by omega)
  -- it is sound, or it isn't
  have go : ∀ u : Int32, (u = 1 ∨ u = 0) → (u = 0 ↔ ¬ y = 1 ∧ ¬ (kdC T2 y = 3 ∨ kdC T2 y = 4)) → wp (bi (PP nf (d + 1) 33 T2 [nI lo] []) fun r3 _ T3 => bi (PP nf (d + 1) 142 T3 [u, (4 : Int32), r3] []) fun _ _ T4 => some ((0 : Int32), (0 : Int64), T4)) (fun _ _ T' => FX T T' ∧ ∀ it e v g n S n0, SrR X it e v g n S T → Rm X (chk X tr 0 0 S).2.2.2 T tr n0 → BfR (cdC X tr S) T' ∨ (cdC X tr S = (chk X tr 0 0 S).2.2.2 ∧ SrR X it e v g n (cdC X tr S) T' ∧ TyF S (cdC X tr S) T T' ∧ (∃ m, T'.1 51 0 = nI m ∧ m ≤ n0 + kwT tr ∧ KxC e (cdC X tr S) T' S (chk X tr 0 0 S).2.2.1 n0 m) ∧ lvC T' 16384 ≤ lvC T 16384 + lvT X tr)) := by
    intro u hu hiff
    rw [bb, bis, c_dem (by omega), bis]
    have f3 : FX T2 (if u = 0 then ntS T2 4 (plT X tr) else T2) := FX.dm fx.2.2.1
    refine wp_some ⟨fx.tr f3, fun it e v g n S n0 hR hm => ?_⟩
    rcases hR.xq fx (hq.2.2 _ _ S n0 hR.xr hm) with bf | ⟨a1, a2, ⟨h, a3⟩, ⟨m', a4, a5, a6⟩, a7⟩
    · left
      have : cdC X tr S = (chk X tr 0 0 S).2.2.2 := by
        unfold cdC cnT
        rw [if_neg (fun q => bf.1 q.1)]
      rw [this]
      exact bf.fx f3
    · have h0 := a1.1.2.2.2.1
      have y1 := a3.y1
      have pt := a3.pt
      have cond : ((chk X tr 0 0 S).2.2.2.1 7 0 = 0 ∧ ¬ (chk X tr 0 0 S).1 = 0 ∧ isPt (chk X tr 0 0 S).2.2.2 (chk X tr 0 0 S).1 = 0) ↔ u = 0 := by
        rw [hiff, y1, pt]
        exact ⟨fun w => w.2, fun w => ⟨h0, w⟩⟩
      by_cases cu : u = 0
      · left
        rw [if_pos cu]
        unfold cdC cnT
        rw [if_pos (cond.mpr cu)]
        exact bf_nt (a := 4) h0 a1.1.2.2.2.2.1 (by decide)
      · right
        have : cdC X tr S = (chk X tr 0 0 S).2.2.2 := by
          unfold cdC cnT
          rw [if_neg (fun w => cu (cond.mp w))]
        rw [if_neg cu, this]
        exact ⟨rfl, a1, a2, ⟨m', a4, a5, a6⟩, a7⟩
  rw [e1]
  simp only [q1]
  by_cases c1 : y = 1
  · rw [if_pos c1]
    exact go 1 (Or.inl rfl) ⟨fun w => absurd w (by decide), fun w => absurd c1 w.1⟩
  · rw [if_neg c1, c_isPointed (by omega) (by omega), bis]
    by_cases c3 : kdC T2 y = 3 ∨ kdC T2 y = 4
    · rw [if_pos c3, if_neg (by decide)]
      exact go 1 (Or.inl rfl) ⟨fun w => absurd w (by decide), fun w => absurd c3 w.2⟩
    · rw [if_neg c3, if_pos rfl]
      exact go 0 (Or.inr rfl) ⟨fun _ => ⟨c1, c3⟩, fun _ => rfl⟩
/-- the VAR that is asked for is the same behind a BLOCK -/
theorem akV_fv (hR : SrR X it e v g n S T) (fv : FV S S') (hn : vn S' = vn S) (hF : TyF S S' T T') : akV S' nm = akV S nm := by
  have es : fd (isVa S' nm) (vn S') = fd (isVa S nm) (vn S) := by
    rw [hn]
    have : ∀ k, k ≤ vn S → fd (isVa S' nm) k = fd (isVa S nm) k := by
      intro k
      induction k with
      | zero => intro _; rfl
      | succ k ih =>
        intro hk
        have e : isVa S' nm k = isVa S nm k := by unfold isVa; rw [(fv.2.2.2.2.2.1 k (by omega)).2.2]
        rw [fd, fd, e, ih (by omega)]
    exact this _ (Nat.le_refl _)
  unfold akV
  rw [es]
  rcases fd_v (p := isVa S nm) (vn S) with ⟨e1, al⟩ | ⟨q, q1, q2, e1⟩
  · rw [e1, if_pos (by decide), if_pos (by decide)]
  · have v20 := hR.1.2.2.2.2.2.2.2.2.1.vs.1
    have cq : (nI q).toNatClampNeg = q := nc (by omega)
    obtain ⟨e79, e80, _⟩ := fv.2.2.2.2.2.1 q q1
    have t80 : tf S' 80 (nI q) = tf S 80 (nI q) := by unfold tf; rw [cq]; exact e80
    have t79 : tf S' 79 (nI q) = tf S 79 (nI q) := by unfold tf; rw [cq]; exact e79
    rw [e1, t80, t79]
    by_cases c0 : tf S 80 (nI q) ≤ 0
    · rw [if_pos c0, if_pos c0]
    · rw [if_neg c0, if_neg c0]
      have : tf S' 66 (tf S 80 (nI q)) = tf S 66 (tf S 80 (nI q)) := by
        have e : tf S 80 (nI q) = S.1 80 q := by unfold tf; rw [cq]
        rcases hR.1.tv q q1 with w | ⟨p, w, w1, w2⟩
        · rw [e, w] at c0
          exact absurd (by decide) c0
        · rw [e, w]
          unfold tf
          have := hR.1.2.2.1.1.1.2.2
          rw [nc (by omega)]
          exact hF.2.1 p 66 w1 w2 (by omega) (by omega)
      rw [this]
theorem akN_fv (hR : SrR X it e v g n S T) (fv : FV S S') (hn : vn S' = vn S) (hF : TyF S S' T T') (t : Tr) : akN X t S' = akN X t S := by
  induction t using Tr_ind with
  | hz t hz =>
    unfold akN
    split
    · exact absurd rfl (hz _ _ _ _ _)
    · rfl
  | h k i e ta tb ihA ihB =>
    show (if k = 2 then akN X ta S' else if k = 5 ∧ chK e = 256 ∧ tkd X ta = 4 ∧ tkd X tb = 1 then akV S' (xN X (lfI ta)) else -1) = (if k = 2 then akN X ta S else if k = 5 ∧ chK e = 256 ∧ tkd X ta = 4 ∧ tkd X tb = 1 then akV S (xN X (lfI ta)) else -1)
    rw [ihA, akV_fv hR fv hn hF]
end ZSF
