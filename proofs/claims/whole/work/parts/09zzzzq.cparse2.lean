/-! the class's parser: the whole text -/
section CPT
variable {nf d : Nat} {T T' T1 T2 T3 T7 : gSt} {X : Lx} {i j k p p' q m n e c z lo hi v g j0 j2 t : Nat} {x y r a0 a : Int32} {b : Tr} {u : Int64} {K : Int32 → Int64 → gSt → gR} {Q : Int32 → Int64 → gSt → Prop} {ls : List Nat} {it : It}
theorem zb_prs (h : Bd X T e) (hn : 1 ≤ n) : rl_Parser_parse_35 (PP nf d) nf n T x = some (0, 0, T) := by
  obtain ⟨n, rfl⟩ : ∃ g, n = g + 1 := ⟨n - 1, by omega⟩
  rw [rl_Parser_parse_35]
  split
  · rfl
  · rw [if_neg (by rw [h.1]; decide)]
def CpQ (X : Lx) (T : gSt) (t p : Nat) (res : Except Nat (List It)) (T' : gSt) : Prop := match res with
  | .ok l => ∃ p' j, GC X T' j p' ∧ p ≤ p' ∧ p' ≤ j + 1 ∧ FcI t T T' ∧ Nf T T' p ∧ t + l.length ≤ 24 ∧ T'.1 27 0 = nI (t + l.length) ∧ RcP X T' t p p' l
  | .error e => Bd X T' e ∧ FcI t T T'
theorem c_its (hX : XO X) (hnf : 5000 ≤ nf) (hd : 320 ≤ d) : ∀ (f i t p fl : Nat) (T : gSt), f + t = 24 → 26 ≤ fl + t → GC X T i p → p ≤ i + 1 → 1 ≤ p → (t = 0 ∨ ¬ xK X i = 0) → wp (rl_Parser_parse_35 (PP nf d) nf fl T (nI t)) (fun _ _ T' => CpQ X T t p (pIts (xK X) f i) T') := by
  intro f
  induction f with
  | zero =>
    intro i t p fl T h1 h2 hg hp hp1 h0
    have hxn := hX.1
    have hi0 := hg.2.1
    have t24 : t = 24 := by omega
    obtain ⟨fl, rfl⟩ : ∃ g, fl = g + 2 := ⟨fl - 2, by omega⟩
    rw [rl_Parser_parse_35, if_neg (by rw [t24]; decide), if_pos hg.2.2.1, if_neg (by rw [t24]; decide), pIts]
    refine w_sees (k := 0) hX hg rfl (by omega) (fun w => by omega) (fun _ => ?_)
    have b1 := hg.bd hX (show p ≤ 4008 by omega)
    have it : wp (PP nf d 62 T [nI t] []) (fun _ _ T' => T' = cBd X i T) := by
      obtain ⟨d, rfl⟩ : ∃ g, d = g + 3 := ⟨d - 3, by omega⟩
      rw [e_Parser_parseHead _ (d + 2)]
      unfold rb_Parser_parseHead rj_Parser_parseHead_14
      have n24 : (24 : Int32) ≤ nI t := by rw [t24]; decide
      simp only [if_pos n24]
      split
      · rw [c_stop hX hg, bis]
        exact wp_some rfl
      · rw [c_stop hX hg, bis]
        exact wp_some rfl
    unfold rj_Parser_parse_59
    refine wp_bi it ?_
    intro _ _ T2 h2'
    rw [h2', if_neg (by rw [b1.1]; decide), if_neg (by rw [b1.1]; decide), vK, zb_prs b1 (by omega)]
    exact wp_some ⟨b1, FC.bd.ci⟩
  | succ f ih =>
    intro i t p fl T h1 h2 hg hp hp1 h0
    have hxn := hX.1
    have hi0 := hg.2.1
    obtain ⟨fl, rfl⟩ : ∃ g, fl = g + 2 := ⟨fl - 2, by omega⟩
    have n24 : ¬ (24 : Int32) < nI t := fun w => by
      have := (nI_ltI (a := 24) (b := t) (by omega) (by omega)).mp w
      omega
    have go : wp (rj_Parser_parse_59 (PP nf d) nf (rl_Parser_parse_35 (PP nf d) nf (fl + 1)) T (nI t)) (fun _ _ T' => CpQ X T t p (pIts (xK X) (f + 1) i) T') := by
      rw [pIts]
      by_cases ck : xK X i = 10 ∨ xK X i = 11 ∨ xK X i = 12
      · rw [if_pos ck]
        refine c_item hX hnf hg hp hp1 (by omega) (by omega) ck ?_
        intro T2 h2'
        generalize pItem (xK X) i = res at *
        cases res with
        | error e =>
          rw [zb_prs h2'.1 (by omega)]
          exact wp_some h2'
        | ok y =>
          obtain ⟨x, j⟩ := y
          obtain ⟨p2, g2, a1, a2, a3, f2, n2, w27, ri⟩ := h2'
          dsimp only
          rw [nI_1]
          by_cases k0 : xK X j = 0
          · rw [if_pos k0, rl_Parser_parse_35, if_neg (fun w => by
              have := (nI_ltI (a := 24) (b := t + 1) (by omega) (by omega)).mp w
              omega), if_pos g2.2.2.1, if_neg (lo_nz (by omega) (by omega))]
            refine w_sees (k := 0) hX g2 rfl (by omega) (fun _ => ?_) (fun w => absurd k0 w)
            exact wp_some ⟨p2, j, g2, a2, by omega, f2, n2, by simp only [List.length]; omega, w27, p2, a2, Nat.le_refl _, ri, rfl⟩
          · rw [if_neg k0]
            refine wp_mono (ih j (t + 1) p2 (fl + 1) T2 (by omega) (by omega) g2 (by omega) (by omega) (Or.inr k0)) ?_
            intro _ _ T3 h3
            generalize pIts (xK X) f j = res at *
            cases res with
            | error e => exact ⟨h3.1, f2.tr (h3.2.mono (by omega))⟩
            | ok l =>
              obtain ⟨p3, j3, g3, b1, b2, f3, n3, b3, b4, rp⟩ := h3
              refine ⟨p3, j3, g3, by omega, b2, f2.tr (f3.mono (by omega)), n2.tr (n3.le a2), by rw [List.length_cons]; omega, by rw [b4, List.length_cons, show t + 1 + l.length = t + (l.length + 1) by omega], p2, a2, b1, ri.fr f3 n3, rp⟩
      · rw [if_neg ck]
        have b1 := hg.bd hX (show p ≤ 4008 by omega)
        have it : wp (PP nf d 62 T [nI t] []) (fun _ _ T' => T' = cBd X i T) := by
          obtain ⟨d, rfl⟩ : ∃ g, d = g + 3 := ⟨d - 3, by omega⟩
          have ns : ∀ c, c < 63 → ¬ xK X i = c → ¬ T.1 128 0 = nI c := fun c hc hn => by rw [hg.is hX (by omega)]; exact hn
          rw [e_Parser_parseHead _ (d + 2)]
          unfold rb_Parser_parseHead rj_Parser_parseHead_14
          have n24' : ¬ (24 : Int32) ≤ nI t := fun w => by
            have := (nI_leI (a := 24) (b := t) (by omega) (by omega)).mp w
            omega
          rw [if_neg (show ¬ T.1 128 0 = 12 from ns 12 (by omega) (by omega)), if_neg n24', if_pos (show (0 : Int32) = 0 from rfl), if_neg (show ¬ T.1 128 0 = 10 from ns 10 (by omega) (by omega)), if_neg (show ¬ T.1 128 0 = 11 from ns 11 (by omega) (by omega)), c_stop hX hg, bis]
          exact wp_some rfl
        unfold rj_Parser_parse_59
        refine wp_bi it ?_
        intro _ _ T2 h2'
        rw [h2', if_neg (by rw [b1.1]; decide), if_neg (by rw [b1.1]; decide), vK, zb_prs b1 (by omega)]
        exact wp_some ⟨b1, FC.bd.ci⟩
    rw [rl_Parser_parse_35, if_neg n24, if_pos hg.2.2.1]
    by_cases c0 : t = 0
    · rw [if_pos (show nI t = 0 by rw [c0]; rfl)]
      exact go
    · rw [if_neg (lo_nz c0 (by omega))]
      refine w_sees (k := 0) hX hg rfl (by omega) (fun w => by omega) (fun _ => ?_)
      exact go
/-- THE CLASS'S PARSE of a text whose tokens its rows hold -/
theorem c_parse (hX : XO X) (hnf : 5000 ≤ nf) (hd : 321 ≤ d) (hT : TkC X T) (h53 : T.1 53 0 = 0) (h19 : T.1 19 0 = nI 1) : wp (PP nf d 57 T [] []) (fun _ _ T' => CpQ X T 0 1 (pIts (xK X) 24 0) T') := by
  obtain ⟨d, rfl⟩ : ∃ g, d = g + 1 := ⟨d - 1, by omega⟩
  rw [e_Parser_parse]
  unfold rb_Parser_parse
  obtain ⟨d1, hd1⟩ : ∃ g, d = g + 1 := ⟨d - 1, by omega⟩
  have hk : PP nf d 25 (sI T 58 0 0) [(0 : Int32)] [] = some (nI (xK X 0), 0, sI T 58 0 0) := by
    rw [hd1]
    exact c_kind (i := 0) hX (hT.w (by omega)) (by omega)
  rw [stK, sI_v, hk, bis, stK, stK, stK]
  have g1 : GC X (sI (sI (sI (sI T 58 0 0) 128 0 (nI (xK X 0))) 59 0 0) 27 0 0) 0 1 := by
    refine ⟨?_, by omega, ?_, ?_, ?_, (((hT.w (by omega)).w (by omega)).w (by omega)).w (by omega), ?_, hX.1, ((hX.2 (xn X)).1 (Nat.le_refl _)).1⟩
    · rw [sI_ne (by omega), sI_ne (by omega), sI_ne (by omega), sI_v]; rfl
    · rw [sI_ne (by omega), sI_v]
    · rw [sI_ne (by omega), sI_ne (by omega), sI_ne (by omega), sI_ne (by omega)]; exact h53
    · rw [sI_ne (by omega), sI_ne (by omega), sI_ne (by omega), sI_ne (by omega)]; exact h19
    · rw [sI_ne (by omega), sI_ne (by omega), sI_v]
  have f1 : FcI 0 T (sI (sI (sI (sI T 58 0 0) 128 0 (nI (xK X 0))) 59 0 0) 27 0 0) := (((FC.wr (by omega)).ci.tr (FC.wr (by omega)).ci).tr (FC.wr (by omega)).ci).tr (FcI.wr (by omega))
  have n1 : Nf T (sI (sI (sI (sI T 58 0 0) 128 0 (nI (xK X 0))) 59 0 0) 27 0 0) 1 := fun k j' c1 c2 _ => by rw [sI_ne (by omega), sI_ne (by omega), sI_ne (by omega), sI_ne (by omega)]
  refine wp_mono (c_its (d := d) hX hnf (by omega) 24 0 0 1 nf _ (by omega) (by omega) g1 (by omega) (by omega) (Or.inl rfl)) ?_
  intro _ _ T2 h2
  generalize pIts (xK X) 24 0 = res at *
  cases res with
  | error e => exact ⟨h2.1, f1.tr h2.2⟩
  | ok l =>
    obtain ⟨p', j, a1, a2, a3, a4, a5, a6⟩ := h2
    exact ⟨p', j, a1, a2, a3, f1.tr a4, n1.tr a5, a6⟩
end CPT
