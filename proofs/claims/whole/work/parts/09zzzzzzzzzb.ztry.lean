/-! a try STEP on both sides: what changes around its BLOCKS -/
section ZSJ
variable {S S' S1 S2 T T' T1 T2 T3 : gSt} {X : Lx} {nf d it e v g n dd v' g' k i e' u c m lo hi a b n0 y z p q r j s f yv yx yr lr N m0 c0 dd1 i2 e2 n' : Nat} {ta tb tr tA tB : Tr} {pl x op cc t x4 rr ys no : Int32} {R : RgR} {nm w w2 : Int64} {bo zb : Bool} {A B : StF}
theorem SrR.gen (h : SrR X it e v g n S T) (so : ∀ k, ¬ (k = 84 ∨ k = 85 ∨ k = 87) → S'.1 k = S.1 k) (s2 : S'.2 = S.2) (tO : ∀ k, ¬ (k = 75 ∨ k = 76) → T'.1 k = T.1 k) (t2 : T'.2 = T.2) (hsi : SI S' v g n') (hrw : RwR e S' T') (h87 : S'.1 87 0 = T'.1 76 0) : SrR X it e v g n' S' T' ∧ TyF S S' T T' ∧ FZ T T' ∧ lvC T' 16384 = lvC T 16384 := by
  have hV := h.1.2.2.2.2.2.2.2.2.1
  have hF : TyF S S' T T' := TyF.st (by rw [so 65 (by omega)]) (fun k _ _ => so k (by omega)) (so 15 (by omega)) (by rw [t2]) (by rw [t2])
  have fz : FZ T T' := FZ.sc h.1.2.2.2.2.2.1 (fun k hk => tO k (by omega)) (fun q j _ _ _ => by rw [t2]) (by rw [tO 71 (by omega)])
  obtain ⟨f1, f2, f3⟩ := h.1.fns hF (by rw [so 71 (by omega)]) (so 73 (by omega)) (by rw [so 77 (by omega)]) (so 79 (by omega)) (so 80 (by omega))
  have ec : cn S' = cn S := by unfold cn; rw [so 65 (by omega)]
  have fs : FS S S' := ⟨fun k k1 k2 k3 => so k (by omega), fun k _ => by rw [s2], fun hg => ⟨by unfold Tg; rw [ec, so 65 (by omega)]; exact hg, by omega, fun _ p _ => by unfold rwT; rw [so 66 (by omega), so 67 (by omega), so 68 (by omega), so 69 (by omega), so 70 (by omega)]⟩, fun q => by rw [so 7 (by omega)]; exact q⟩
  have fw : flw T' = flw T := by unfold flw; rw [t2]
  obtain ⟨⟨a1, a2, a3, a4, a5, a6, a7, a9, a11, a12, a13, a14, a15, a16⟩, hfw⟩ := h
  refine ⟨⟨⟨a1.fz fz, a2.fz fs fz, hsi, by rw [so 7 (by omega)]; exact a4, by rw [tO 53 (by omega)]; exact a5, fz.2.2.1, hrw, a9.st (by rw [so 76 (by omega)]) (by rw [tO 40 (by omega)]), a11.mo hF f1 f3 (by rw [so 77 (by omega)]) (fun u => by rw [s2]) (so 79 (by omega)) (so 80 (by omega)) (by rw [tO 68 (by omega)]) (fun u => by rw [t2]) (fun u => by rw [tO 70 (by omega)]) (fun u => by rw [tO 71 (by omega)]), a12.fz hF fs fz, h87, a14.st (tO 52 (by omega)) (fun k k1 k2 => by rw [so k (by omega)]), by rw [tO 67 (by omega)]; exact a15, a16.1, by rw [so 12 (by omega)]; exact a16.2⟩, ?_⟩, hF, fz, lvC_62 (by rw [t2]) (by rw [t2]) 16384⟩
  rw [fw, so 81 (by omega), so 82 (by omega), so 75 (by omega), so 83 (by omega)]
  exact hfw.mo a11 hF f1 (by rw [so 77 (by omega)]) (so 79 (by omega)) (fun u => by rw [tO 70 (by omega)])
/-- RwA looks at other rows -/
theorem RwA.eq {cd : Nat → Nat} (h : RwA e m g cd S T) (so : ∀ k, ¬ (k = 84 ∨ k = 85 ∨ k = 87) → S'.1 k = S.1 k) (s2 : S'.2 = S.2) (tO : ∀ k, ¬ (k = 75 ∨ k = 76) → T'.1 k = T.1 k) (t2 : T'.2 = T.2) : RwA e m g cd S' T' := by
  obtain ⟨h1, h2, h3, h4, h5, h6, h7, h8, h9, h10, h11, h12, h13⟩ := h
  have er : rn S' = rn S := by unfold rn; rw [so 71 (by omega)]
  refine ⟨h1, h2, by rw [er]; exact h3, by rw [so 71 (by omega)]; exact h4, by rw [tO 72 (by omega)]; exact h5, fun k hk => by rw [s2, t2, so 73 (by omega)]; exact h6 k hk, fun k a b => by rw [t2]; exact h7 k a b, fun j hj => by rw [s2, t2, so 73 (by omega), so 74 (by omega)]; exact h8 j hj, h9, by rw [t2]; exact h10, by rw [t2]; exact h11, by rw [so 86 (by omega)]; exact h12, h13⟩
theorem trc_e2 (h : ∀ j, j < q → S'.1 85 j = S.1 85 j) : trc S' q = trc S q := by
  induction q with
  | zero => rfl
  | succ q ih => rw [trc, trc, ih (fun j hj => h j (by omega)), h q (by omega)]
/-- a try is entered -/
theorem SrR.tro (h : SrR X it e v g n S T) (hn : n < 40) : SrR X it e v g (n + 1) (trO S) (sI T 75 0 (T.1 75 0 + 1)) ∧ TyF S (trO S) T (sI T 75 0 (T.1 75 0 + 1)) ∧ FZ T (sI T 75 0 (T.1 75 0 + 1)) ∧ lvC (sI T 75 0 (T.1 75 0 + 1)) 16384 = lvC T 16384 := by
  have s84 := h.1.2.2.1.2.2.2.2.2.2.1
  have ean : arn S = n := by unfold arn; rw [s84]; exact nc (by omega)
  have so : ∀ k, ¬ (k = 84 ∨ k = 85 ∨ k = 87) → (trO S).1 k = S.1 k := fun k hk => by unfold trO; rw [sI_ne (by omega), sI_ne (by omega)]
  have e84 : (trO S).1 84 0 = nI (n + 1) := by unfold trO; rw [sI_v, ean]
  have e85 : ∀ j, (trO S).1 85 j = if j = n then -1 else S.1 85 j := fun j => by
    unfold trO
    rw [sI_ne (by omega), rdI, ean]
    by_cases c : j = n
    · rw [if_pos ⟨rfl, c⟩, if_pos c]
    · rw [if_neg (fun q => c q.2), if_neg c]
  obtain ⟨m, gg, n', cd, po, hA, hB⟩ := h.1.2.2.2.2.2.2.1
  obtain ⟨b1, b2, b3, b4, b5, b6, b7⟩ := hB
  have enn : n' = n := nI_inj (by omega) (by omega) (by rw [← b1, ← s84])
  subst enn
  have tO : ∀ k, ¬ (k = 75 ∨ k = 76) → (sI T 75 0 (T.1 75 0 + 1)).1 k = T.1 k := fun k hk => sI_ne (by omega)
  have trS : ∀ q, q ≤ n' → trc (trO S) q = trc S q := fun q hq => trc_e2 (fun j hj => by rw [e85, if_neg (by omega)])
  refine h.gen so rfl tO rfl (si_tro h.1.2.2.1 (by omega)).1 ⟨m, gg, n' + 1, cd, po, hA.eq so rfl tO rfl, e84, by omega, fun j hj => ?_, b4, fun q hq => ?_, ?_, fun j hj => ?_⟩ (by unfold trO; rw [sI_ne (by omega), sI_ne (by omega), sI_ne (by omega)]; exact h.1.2.2.2.2.2.2.2.2.2.2.1)
  · obtain ⟨x1, x2⟩ := b3 j hj
    rw [e85, if_neg (by omega)]
    exact ⟨by omega, x2⟩
  · rw [e85]
    by_cases c : q = n'
    · rw [if_pos c]; exact Or.inl rfl
    · rw [if_neg c]; exact b5 q (by omega)
  · rw [sI_v, b6, trc, trS n' (Nat.le_refl _), e85, if_pos rfl, if_pos rfl, nI_1]
  · have := (b3 j hj).1
    rw [sI_ne (by omega), trS _ (by omega)]
    exact b7 j hj
/-- a try is left -/
theorem SrR.tre (h : SrR X it e v g (n + 1) S T) (h85 : S.1 85 n = -1) (hn : n < 40) : SrR X it e v g n (sI S 84 0 (S.1 84 0 - 1)) (sI T 75 0 (T.1 75 0 - 1)) ∧ TyF S (sI S 84 0 (S.1 84 0 - 1)) T (sI T 75 0 (T.1 75 0 - 1)) ∧ FZ T (sI T 75 0 (T.1 75 0 - 1)) ∧ lvC (sI T 75 0 (T.1 75 0 - 1)) 16384 = lvC T 16384 := by
  have s84 := h.1.2.2.1.2.2.2.2.2.2.1
  have so : ∀ k, ¬ (k = 84 ∨ k = 85 ∨ k = 87) → (sI S 84 0 (S.1 84 0 - 1)).1 k = S.1 k := fun k hk => sI_ne (by omega)
  have e84 : (sI S 84 0 (S.1 84 0 - 1)).1 84 0 = nI n := by rw [sI_v, s84]; exact nI_sub
  have e85 : (sI S 84 0 (S.1 84 0 - 1)).1 85 = S.1 85 := sI_ne (by omega)
  obtain ⟨m, gg, n', cd, po, hA, hB⟩ := h.1.2.2.2.2.2.2.1
  obtain ⟨b1, b2, b3, b4, b5, b6, b7⟩ := hB
  have enn : n' = n + 1 := nI_inj (by omega) (by omega) (by rw [← b1, ← s84])
  subst enn
  have tO : ∀ k, ¬ (k = 75 ∨ k = 76) → (sI T 75 0 (T.1 75 0 - 1)).1 k = T.1 k := fun k hk => sI_ne (by omega)
  have trS : ∀ q, trc (sI S 84 0 (S.1 84 0 - 1)) q = trc S q := fun q => trc_e2 (fun j hj => by rw [e85])
  have pon : ∀ j, j < m → po j < n := fun j hj => by
    obtain ⟨x1, x2⟩ := b3 j hj
    have : ¬ po j = n := fun w => by
      rw [w, h85] at x2
      have := (hA.2.2.2.2.2.2.2.1 j hj).2.2.2.1
      have := hA.2.2.2.2.2.2.2.2.2.2.2.2
      exact nI_m1 (by omega) x2.symm
    omega
  refine h.gen so rfl tO rfl (si_out h.1.2.2.1).1 ⟨m, gg, n, cd, po, hA.eq so rfl tO rfl, e84, by omega, fun j hj => ?_, b4, fun q hq => ?_, ?_, fun j hj => ?_⟩ (by rw [sI_ne (by omega), sI_ne (by omega)]; exact h.1.2.2.2.2.2.2.2.2.2.2.1)
  · rw [e85]
    exact ⟨pon j hj, (b3 j hj).2⟩
  · rw [e85]; exact b5 q (by omega)
  · rw [sI_v, b6, trc, h85, if_pos rfl, trS]
    exact nI_sub
  · rw [sI_ne (by omega), trS]
    exact b7 j hj
/-- a catch is entered, or left -/
theorem SrR.cat (h : SrR X it e v g n S T) (hx : x = 1 ∨ x = -1) : SrR X it e v g n (sI S 87 0 (S.1 87 0 + x)) (sI T 76 0 (T.1 76 0 + x)) ∧ TyF S (sI S 87 0 (S.1 87 0 + x)) T (sI T 76 0 (T.1 76 0 + x)) ∧ FZ T (sI T 76 0 (T.1 76 0 + x)) ∧ lvC (sI T 76 0 (T.1 76 0 + x)) 16384 = lvC T 16384 := by
  have so : ∀ k, ¬ (k = 84 ∨ k = 85 ∨ k = 87) → (sI S 87 0 (S.1 87 0 + x)).1 k = S.1 k := fun k hk => sI_ne (by omega)
  have tO : ∀ k, ¬ (k = 75 ∨ k = 76) → (sI T 76 0 (T.1 76 0 + x)).1 k = T.1 k := fun k hk => sI_ne (by omega)
  have si := h.1.2.2.1
  refine h.gen so rfl tO rfl ?_ (h.1.2.2.2.2.2.2.1.st (by rw [so 71 (by omega)]) (so 73 (by omega)) (so 74 (by omega)) (by rw [sI_ne (by omega)]) (sI_ne (by omega)) (by rw [so 86 (by omega)]) (fun k => rfl) (by rw [tO 72 (by omega)]) (fun j => by rw [tO 74 (by omega)]) (by rw [sI_ne (by omega)]) (fun k => rfl)) (by rw [sI_v, sI_v, h.1.2.2.2.2.2.2.2.2.2.2.1])
  obtain ⟨s1, s2, s3, s4, s5, s6, s7, s8⟩ := si
  have c := s1.2.2
  exact ⟨s1.mv (fun k a b => sI_ne (by omega)) (fun k _ => rfl) c.1 c.2.1 c.2.2.2, s2, s3, s4, s5, s6, s7, s8⟩
/-- what a BLOCK gives something to is the same behind it -/
theorem gvA_fv (fv : FV S S') (hn : vn S' = vn S) (t : Tr) (hv : vn S ≤ 20) : ∀ acc : Int32, gvA X t S' acc = gvA X t S acc := by
  have fdq : ∀ nm, fd (isVa S' nm) (vn S') = fd (isVa S nm) (vn S) := fun nm => by
    rw [hn]
    have : ∀ k, k ≤ vn S → fd (isVa S' nm) k = fd (isVa S nm) k := by
      intro k
      induction k with
      | zero => intro _; rfl
      | succ k ih =>
        intro hk
        have e : isVa S' nm k = isVa S nm k := by unfold isVa; rw [(fv.2.2.2.2.2.1 k (by omega)).2.2]
        rw [fd, fd, e, ih (by omega)]
    exact this _ (Nat.le_refl _)
  have t79 : ∀ nm, ¬ fd (isVa S nm) (vn S) < 0 → tf S' 79 (fd (isVa S nm) (vn S)) = tf S 79 (fd (isVa S nm) (vn S)) := fun nm h => by
    rcases fd_v (p := isVa S nm) (vn S) with ⟨e1, al⟩ | ⟨q, q1, q2, e1⟩
    · rw [e1] at h; exact absurd (by decide) h
    · rw [e1]
      unfold tf
      rw [nc (by omega)]
      exact (fv.2.2.2.2.2.1 q q1).1
  induction t using Tr_ind with
  | hz t hz =>
    intro acc
    unfold gvA
    split
    · exact absurd rfl (hz _ _ _ _ _)
    · rfl
  | h k i e ta tb ihA ihB =>
    intro acc
    show gvN X (gvA X ta) (gvA X tb) ta tb k S' acc = gvN X (gvA X ta) (gvA X tb) ta tb k S acc
    unfold gvN
    simp only [ihA, ihB, fdq]
    by_cases c : tkd X ta = 4 ∧ ¬ fd (isVa S (xN X (lfI ta))) (vn S) < 0
    · rw [t79 _ c.2]
    · simp only [if_neg c]
end ZSJ
