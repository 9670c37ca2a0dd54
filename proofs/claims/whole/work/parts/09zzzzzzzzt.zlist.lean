/-! a list of STEPS, a BLOCK: both sides -/
def ZO2 (X : Lx) (it e v' g' n : Nat) (S T : gSt) (t : Tr) (ys no : Int32) (j n0 : Nat) (T' : gSt) : Prop := BfR (stS X it t ys no j S) T' ∨ (SrR X it e v' g' n (stS X it t ys no j S) T' ∧ TyF S (stS X it t ys no j S) T T' ∧ (∃ n1, T'.1 51 0 = nI n1 ∧ n0 ≤ n1 ∧ n1 ≤ n0 + kwS2 t ∧ KdS X it e (stS X it t ys no j S) T' t ys no S n0 n1) ∧ lvC T' 16384 ≤ lvC T 16384 + lvS2 X t ∧ FV S (stS X it t ys no j S))
/-- a STEP, its row laid -/
def Zs2 (nf : Nat) (X : Lx) (it : Nat) (t : Tr) : Prop := ∀ (T : gSt) (lo hi dd d a b v g v' g' : Nat), ZsP X T t lo hi dd d a b v g v' g' → wp (PP nf d 181 T [nI lo, nI dd] []) (fun _ _ T' => FZ T T' ∧ FqZ T T' v' ∧ ∀ e n S n0, SrR X it e v g n S T → n + bdT t ≤ 40 → T.1 51 0 = nI (n0 + 1) → cw3 T n0 = (1, nI (xP X (tkI t)), 0) → n0 + kwS2 t ≤ 6032 → lvC T 16384 + lvS2 X t + 30 < 16384 → cn (stS X it t 0 0 0 S) < 6000 → ZO2 X it e v' g' n S T t 0 0 0 n0 T')
/-- STEPS, whatever they are: what they come to -/
def ZlB (X : Lx) (it : Nat) (T : gSt) (t : Tr) (v g v' g' N : Nat) (T' : gSt) : Prop := ∀ e n S n0, SrR X it e v g n S T → n + bdT t ≤ N → n ≤ 40 → T.1 51 0 = nI n0 → n0 + kwS2 t ≤ 6032 → lvC T 16384 + lvS2 X t + 30 < 16384 → cn (stS X it t 0 0 0 S) < 6000 → ZO2 X it e v' g' n S T t 0 0 0 n0 T'
def ZlP (X : Lx) (T : gSt) (t : Tr) (mo lo hi dd d a b v g v' g' : Nat) : Prop := RcS X T t mo 0 lo hi ∧ 1 ≤ lo ∧ hi ≤ 4008 ∧ SG X t dd mo ∧ Ws X t mo a b v g v' g' ∧ b ≤ xn X ∧ WZ X T v g dd ∧ dd ≤ 20 ∧ 12 * (20 - dd) + 301 ≤ d ∧ v' ≤ 20 ∧ g' ≤ 8
def Zl0 (nf : Nat) (X : Lx) (it : Nat) (t : Tr) : Prop := ∀ (T : gSt) (lo hi dd d a b v g v' g' u0 fl j : Nat) (Q : Int32 → Int64 → gSt → Prop), ZlP X T t 1 lo hi dd (d + 1) a b v g v' g' → j ≤ a → 4002 ≤ fl + a → (∀ T1, FZ T T1 → FqZ T T1 v' → ZlB X it T t v g v' g' 40 T1 → wp (bi (PP nf d 112 T1 [nI u0] []) fun _ _ T4 => some ((0 : Int32), (0 : Int64), T4)) Q) → wp (rl_Steps_checkBlock_21 (PP nf d) nf fl T (nI dd) (nI u0) (if isZ t = true then 0 else nI lo) (nI j)) Q
def Zb0 (nf : Nat) (X : Lx) (it : Nat) (t : Tr) : Prop := ∀ (T : gSt) (lo hi dd d a b v g v' g' : Nat), ZlP X T t 2 lo hi dd d a b v g v' g' → wp (PP nf d 180 T [(if emB t = true then 0 else nI lo), nI dd] []) (fun _ _ T' => FZ T T' ∧ FqZ T T' v' ∧ T'.1 68 0 = T.1 68 0 ∧ ZlB X it T t v g v' g' 41 T' ∧ ∀ S, vn (stS X it t 0 0 0 S) = vn S)
section ZSB
variable {S S' S1 S2 T T' T1 T2 T3 : gSt} {X : Lx} {nf d it e v g n dd v' g' k i e' u c m lo hi a b n0 y z p q r j s f yv yx yr lr N : Nat} {ta tb tr : Tr} {pl x op cc t x4 : Int32} {R : RgR} {nm w w2 : Int64} {bo : Bool} {zz : T5}
theorem AgK.fz (hF : TyF S S' T T') (h12 : S'.1 12 = S.1 12) (fz : FZ T T') (h51 : T.1 51 0 = nI m) (hm : m ≤ 6032) (hb : b ≤ m) : AgK S S' T T' a b := by
  obtain ⟨c', _, _, _, h4⟩ := fz.2.2.2.2.2.1 m h51 hm
  exact ⟨hF, h12, fun k a b => fz.o (by omega) (by omega), fun g q g1 g2 _ q2 => h4 g q g1 g2 (by omega)⟩
theorem FZ.up (fz : FZ T T') (h51 : T.1 51 0 = nI m) (hm : m ≤ 6032) (h' : T'.1 51 0 = nI q) (hq : q < 100000) : m ≤ q := by
  obtain ⟨c', h1, h2, h3, _⟩ := fz.2.2.2.2.2.1 m h51 hm
  have : c' = q := nI_inj (by omega) (by omega) (by rw [← h1, ← h'])
  omega
theorem Zs0.to2 (h : Zs0 nf X it (tD k i e' ta tb)) (hk : k = 20 ∨ k = 23 ∨ k = 24 ∨ k = 25 ∨ k = 27 ∨ k = 29 ∨ k = 30) : Zs2 nf X it (tD k i e' ta tb) := by
  intro T lo hi dd d a b v g v' g' hP
  refine wp_mono (h T lo hi dd d a b v g v' g' hP) ?_
  intro _ _ T' ⟨z1, z2, z3⟩
  refine ⟨z1, z2, fun e n S n0 hR hbd h51 hrow hn hl hc => ?_⟩
  rcases z3 e n S n0 hR hbd h51 hrow hn hl hc with bf | ⟨a1, a2, ⟨n1, a3, a4, a5⟩, a6⟩
  · exact Or.inl bf
  · have v20 := hR.1.2.2.2.2.2.2.2.2.1.vs.1
    have kl := kwS2_n (k := k) (i := i) (e' := e') (ta := ta) (tb := tb)
    have := z1.up h51 (by
      rw [kl] at hn
      rcases hk with w | w | w | w | w | w | w <;> subst w <;> simp at hn <;> omega) a3 (by omega)
    exact Or.inr ⟨a1, a2, ⟨n1, a3, by omega, a4, a5⟩, a6, fv_st hk (by omega)⟩
/-- a list of STEPS behind a fault -/
theorem st_bad (hg : SG X tr dd 1) (h : ¬ S.1 7 0 = 0) : stS X it tr 0 0 0 S = S := by
  induction tr using Tr_ind with
  | hz t hz =>
    unfold stS
    split
    · exact absurd rfl (hz _ _ _ _ _)
    · rfl
  | h k i e ta tb _ _ =>
    rw [SG_n] at hg
    unfold sgN at hg
    rw [if_neg (by omega), if_neg (by omega), if_pos rfl] at hg
    obtain ⟨k11, _⟩ := hg
    subst k11
    rw [stS_n]
    unfold stN
    rw [if_neg (by omega), if_pos rfl, if_neg h]
/-- VARS of a BLOCK are out of sight behind it -/
theorem SrR.bl (h : SrR X it e v g n S T) (hm : m ≤ vn S) : SrR X it e v g n (sI S 77 0 (nI m)) (sI T 68 0 (nI m)) ∧ TyF S (sI S 77 0 (nI m)) T (sI T 68 0 (nI m)) ∧ FZ T (sI T 68 0 (nI m)) := by
  have hV := h.1.2.2.2.2.2.2.2.2.1
  have v20 := hV.vs.1
  have evn : vn (sI S 77 0 (nI m)) = m := by unfold vn; rw [sI_v]; exact nc (by omega)
  have o : ∀ k, k ≠ 77 → (sI S 77 0 (nI m)).1 k = S.1 k := fun k hk => sI_ne hk
  have tO : ∀ k, k ≠ 68 → (sI T 68 0 (nI m)).1 k = T.1 k := fun k hk => sI_ne hk
  have hF : TyF S (sI S 77 0 (nI m)) T (sI T 68 0 (nI m)) := TyF.st (by rw [o 65 (by omega)]) (fun k _ _ => o k (by omega)) (o 15 (by omega)) rfl rfl
  have hR : RgE e (sI S 77 0 (nI m)) = RgE e S := RgE_eq (by rw [o 71 (by omega)]) (o 73 (by omega))
  have fz : FZ T (sI T 68 0 (nI m)) := FZ.sc h.1.2.2.2.2.2.1 (fun k hk => tO k (by omega)) (fun q j _ _ _ => rfl) (by rw [tO 71 (by omega)])
  have sw : ∀ u, u ≤ vn S → slW (sI S 77 0 (nI m)) u = slW S u := slW_eq (fun u hu => by rw [o 80 (by omega)]) (fun u hu => isRo_tf hF (h.1.tv u hu) h.1.2.2.1.1.1)
  have ec : cn (sI S 77 0 (nI m)) = cn S := by unfold cn; rw [o 65 (by omega)]
  have fs : FS S (sI S 77 0 (nI m)) := FS.wr (by omega)
  obtain ⟨⟨a1, a2, a3, a4, a5, a6, a7, a9, a11, a12, a13, a14, a15, a16⟩, f1, f2, f3, f4, f5⟩ := h
  refine ⟨⟨⟨a1.fz fz, a2.fz fs fz, ?_, by rw [o 7 (by omega)]; exact a4, by rw [tO 53 (by omega)]; exact a5, fz.2.2.1, a7.st (by rw [o 71 (by omega)]) (o 73 (by omega)) (o 74 (by omega)) (by rw [o 84 (by omega)]) (o 85 (by omega)) (by rw [o 86 (by omega)]) (fun k => rfl) (by rw [tO 72 (by omega)]) (fun j => by rw [tO 74 (by omega)]) (by rw [tO 75 (by omega)]) (fun k => rfl), a9.st (by rw [o 76 (by omega)]) (by rw [tO 40 (by omega)]), ?_, a12.fz hF fs fz, by rw [o 87 (by omega), tO 76 (by omega)]; exact a13, a14.st (tO 52 (by omega)) (fun k k1 k2 => by rw [o k (by omega)]), by rw [tO 67 (by omega)]; exact a15, a16.1, by rw [o 12 (by omega)]; exact a16.2⟩, ?_⟩, hF, fz⟩
  · obtain ⟨s1, s2, s3, s4, s5, s6, s7, s8⟩ := a3
    refine ⟨s1.mv (fun k a b => o k (by omega)) (fun k hk => rfl) ?_ ?_ ?_, by omega, by rw [o 83 (by omega)]; exact s3, by rw [o 86 (by omega)]; exact s4, s5, by unfold rn at s6 ⊢; rw [o 71 (by omega)]; exact s6, by rw [o 84 (by omega)]; exact s7, by rw [o 85 (by omega)]; exact s8⟩
    · have := s1.2.2.1
      unfold Rg rn at this ⊢
      rw [o 71 (by omega), o 73 (by omega)]
      exact this
    · have := s1.2.2.2.1
      intro z hz
      rw [o 74 (by omega)]
      exact this z hz
    · refine ⟨by rw [sI_v, evn], by omega, fun u hu => ?_⟩
      rw [o 80 (by omega)]
      exact s1.2.2.2.2.2.2.2 u (by omega)
  · obtain ⟨n', h1, h2, h3, h4, h5, h6, h7, h8⟩ := a11
    have en : n' = vn S := by unfold vn; rw [h1, nc (by omega)]
    refine ⟨m, sI_v, sI_v, by omega, fun u hu => ?_, fun a b ha hb => h5 a b (by omega) (by omega), fun u hu => ?_, fun a b ha hb => by rw [o 79 (by omega)]; exact h7 a b (by omega) (by omega), h8⟩
    · obtain ⟨b1, b2, y, b3, b4, b5⟩ := h4 u (by omega)
      rw [hR, o 79 (by omega), o 80 (by omega), tO 70 (by omega)]
      exact ⟨b1, b2, y, b3, b4, TyR.mo hF (fun _ _ z => z) _ _ _ b5⟩
    · rw [sw u (by omega), tO 71 (by omega)]
      exact h6 u (by omega)
  · unfold FwR
    rw [hR, evn, o 79 (by omega), o 81 (by omega), o 82 (by omega), o 75 (by omega), o 83 (by omega), tO 70 (by omega)]
    exact ⟨f1, f2, f3, f4, fun u s hu hs h20 => f5 u s (by omega) hs h20⟩
end ZSB
