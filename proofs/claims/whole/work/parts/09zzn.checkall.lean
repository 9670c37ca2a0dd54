/-! parse and check, up to the laying out -/
section CHA
variable {nf d : Nat} {T T' T1 S S' : gSt} {X : Lx} {i j m a b z : Nat} {x : It} {Q : Int32 → Int64 → gSt → Prop}
theorem pBl_last {K : Nat → Nat} {m i v g : Nat} {tr : Tr} {j v' g' : Nat} (h : pBl K m i v g = .ok (tr, j, v', g')) : 1 ≤ j ∧ K (j - 1) = 41 := by
  cases m with
  | zero => rw [pBl] at h; cases h
  | succ m =>
    rw [pBl] at h
    unfold sn sb at h
    by_cases c : K i = 40
    · rw [if_pos c] at h
      generalize pSteps K (pStep K (pEx K m 0) (pBl K m)) 4001 (i + 1) v g = r at h
      cases r with
      | error e => cases h
      | ok y =>
        obtain ⟨s, j0, v2, g2⟩ := y
        dsimp only at h
        by_cases c2 : K j0 = 41
        · rw [if_pos c2] at h
          cases h
          exact ⟨by omega, c2⟩
        · rw [if_neg c2] at h; cases h
    · rw [if_neg c] at h; cases h
theorem pItem_last {K : Nat → Nat} (h : pItem K i = .ok (x, j)) : 1 ≤ j ∧ K (j - 1) ≠ 0 := by
  unfold pItem at h
  by_cases k12 : K i = 12
  · rw [if_pos k12] at h
    split at h
    · generalize pHead K (i + 2 + rgs K 3 (i + 2)) = r at h
      cases r with
      | error e => cases h
      | ok y =>
        obtain ⟨l, rt, dt, n, wt, w, j4⟩ := y
        dsimp only at h
        generalize hr2 : pBl K 20 j4 l.length 0 = r2 at h
        cases r2 with
        | error e => cases h
        | ok z =>
          obtain ⟨bd, j2, v', g'⟩ := z
          have := pBl_last hr2
          cases h
          exact ⟨this.1, by rw [this.2]; decide⟩
    · cases h
  · rw [if_neg k12] at h
    split at h
    · split at h
      · generalize pFl K 9 0 (i + 2 + rgs K 3 (i + 2) + 1) = r at h
        cases r with
        | error e => cases h
        | ok y =>
          obtain ⟨l, j3⟩ := y
          unfold pSt at h
          dsimp only at h
          by_cases c : K (j3 + 1) = 46
          · rw [if_pos c] at h
            cases h
            exact ⟨by omega, by show K (j3 + 1) ≠ 0; rw [c]; decide⟩
          · rw [if_neg c] at h
            cases h
      · cases h
    · cases h
theorem pIts_end (hX : LX X) : ∀ (f i : Nat) (l : List It), pIts (xK X) f i = .ok l → ItsOk X l i (xn X) := by
  intro f
  induction f with
  | zero => intro i l h; rw [pIts] at h; cases h
  | succ f ih =>
    intro i l h
    rw [pIts] at h
    by_cases k : xK X i = 10 ∨ xK X i = 11 ∨ xK X i = 12
    · rw [if_pos k] at h
      generalize hr : pItem (xK X) i = r at h
      cases r with
      | error e => cases h
      | ok y =>
        obtain ⟨x, j⟩ := y
        have p := pItem_ok k hr
        have q := pItem_last hr
        dsimp only at h
        by_cases k0 : xK X j = 0
        · rw [if_pos k0] at h
          cases h
          refine ⟨j, p, ?_⟩
          show j ≤ xn X
          exact Decidable.byContradiction fun w => q.2 (hX.2.2.1 (j - 1) (by omega))
        · rw [if_neg k0] at h
          generalize hr2 : pIts (xK X) f j = r2 at h
          cases r2 with
          | error e => cases h
          | ok ll =>
            have := ih _ _ hr2
            cases h
            exact ⟨j, p, this⟩
    · rw [if_neg k] at h; cases h
/-- what the parse hands to the check -/
def RmP (X : Lx) (its : List It) (S : gSt) : Prop := S.1 11 0 = nI its.length ∧ its.length ≤ 24 ∧ HIs X S its 0 0 ∧ Kn S its 0 ∧ (∀ t, t < its.length → ∃ r, S.1 15 t = nI r ∧ r ≤ 3) ∧ ItsOk X its 0 (xn X) ∧ Ri S ∧ S.1 7 0 = 0 ∧ ∃ T, er T = S ∧ RepP X T 0 0 0 its
theorem ck0_65 {xs : List It} (h11 : S.1 11 0 = nI xs.length) (hl : xs.length ≤ 24) (h15 : ∀ t, t < xs.length → ∃ r, S.1 15 t = nI r ∧ r ≤ 3) : Ck0 (sI S 65 0 1) := by
  have cn1 : cn (sI S 65 0 1) = 1 := by unfold cn; rw [rdI, if_pos ⟨rfl, rfl⟩]; rfl
  have hin : inn (sI S 65 0 1) = xs.length := by
    unfold inn
    rw [sI_ne (by omega), h11, nc (by omega)]
  refine ⟨⟨?_, by omega, by omega⟩, ?_, ?_, by omega, ?_⟩
  · rw [cn1, rdI, if_pos ⟨rfl, rfl⟩]; rfl
  · intro p h1 h2
    rw [cn1] at h2
    omega
  · rw [hin, sI_ne (by omega)]; exact h11
  · intro t ht
    rw [hin] at ht
    rw [sI_ne (by omega)]
    exact h15 t ht
theorem his_65 : ∀ (xs : List It) (t c : Nat), HIs X S xs t c → HIs X (sI S 65 0 1) xs t c := by
  intro xs
  induction xs with
  | nil => intro t c _; trivial
  | cons x xs ih =>
    intro t c h
    have aw : Aw S (sI S 65 0 1) := ⟨by unfold nU; rw [sI_ne (by omega)]; exact Nat.le_refl _, fun j _ => ⟨rfl, by rw [sI_ne (by omega)]⟩, by unfold nW; rw [sI_ne (by omega)]; exact Nat.le_refl _, fun g j a b _ => by rw [sI_ne (by omega)], fun j _ => rfl⟩
    refine ⟨⟨?_, ?_⟩, ih _ _ h.2⟩
    · obtain ⟨a1, a2, a3, a4, a5, a6, a7, a8, a9⟩ := h.1.1
      refine ⟨a1, ?_, ?_, a4, a5, ?_, a7, ?_, ?_⟩
      · rw [sI_ne (by omega)]; exact a2
      · rw [sI_ne (by omega)]; exact a3
      · intro k hk
        obtain ⟨b1, b2, w, b3, b4⟩ := a6 k hk
        exact ⟨b1, by rw [sI_ne (by omega)]; exact b2, w, by rw [sI_ne (by omega)]; exact b3, RepW.av 6 w _ aw.av b4⟩
      · unfold nU; rw [sI_ne (by omega)]; exact a8
      · unfold nW; rw [sI_ne (by omega)]; exact a9
    · obtain ⟨a1, a2, a3, a4, a5, a6, a7⟩ := h.1.2
      refine ⟨?_, ?_, a3, ?_, a5, ?_, a7⟩
      · unfold HR at a1 ⊢
        rw [sI_ne (by omega)]
        split
        · rename_i z; rw [if_pos z] at a1; exact a1
        · rename_i z
          rw [if_neg z] at a1
          obtain ⟨⟨w', a, b⟩, c⟩ := a1
          exact ⟨⟨w', a, RepW.av 6 _ _ aw.av b⟩, c⟩
      · rw [sI_ne (by omega)]; exact a2
      · rw [sI_ne (by omega)]; exact a4
      · rw [sI_ne (by omega)]; exact a6
theorem kn_65 : ∀ (xs : List It) (t : Nat), Kn S xs t → Kn (sI S 65 0 1) xs t := by
  intro xs
  induction xs with
  | nil => intro t _; trivial
  | cons x xs ih =>
    intro t h
    refine ⟨?_, ih _ h.2⟩
    rw [sI_ne (by omega)]
    exact h.1
/-- heads and funs, as the build goes -/
theorem x_chkA (hX : LX X) (hx : PI X) (hPl : ∀ q, q < xn X → xP X q < 100000) (hnf : 8300 ≤ nf) (hd : 700 ≤ d) (h0 : T.1 0 = xf X) (h1 : T.1 1 0 = nI (xz X)) (h7 : T.1 7 0 = 0) (h94 : T.1 94 0 = 0) (hRi : Ri T)
    (hroom : ∀ its S, pIts (xK X) 24 0 = .ok its → RmP X its S → cn (fnsL X its 0 0 (hdsS X its S)) < 6000)
    (hE : ∀ e T', pIts (xK X) 24 0 = .error e → T'.1 7 0 = 1 → T'.1 8 0 = nI (xP X e) → Fy T T' → wp (rj_Model_build_107 (RR nf (d + 1)) nf T') Q)
    (hO : ∀ its S T', pIts (xK X) 24 0 = .ok its → RmP X its S → (∃ T2, er T2 = S ∧ Fy T T2 ∧ RepP X T2 0 0 0 its ∧ nN T2 ≤ 8200 ∧ nU T2 ≤ 4000) → er T' = fnsL X its 0 0 (hdsS X its S) → T'.1 94 0 = 0 → (T'.1 7 0 = 0 → Ckf (er T') ∧ AnL X T' its 0 0 (hdsS X its S)) → wp (rj_Model_build_107 (RR nf (d + 1)) nf T') Q) :
    wp (bi (RR nf (d + 1) 23 T [] []) fun r12 l12 T12 => bi (RR nf (d + 1) 14 T12 [] []) fun r13 l13 T13 => if r13 = (0 : Int32) then (bi (RR nf (d + 1) 64 T13 [] []) fun r15 l15 T15 => rl_Model_build_71 (RR nf (d + 1)) nf nf T15 (0 : Int32)) else (rl_Model_build_71 (RR nf (d + 1)) nf nf T13 (0 : Int32))) Q := by
  obtain ⟨d', rfl⟩ : ∃ k, d = k + 33 := ⟨d - 33, by omega⟩
  have hxn := hX.1
  refine wp_bi (x_prog (d := d') hX (by omega) (by omega) h0 h1 h7) ?_
  intro _ _ T2 h2
  generalize hp : pIts (xK X) 24 0 = res at h2 hroom hE hO
  cases res with
  | error e =>
    have h2 : Zi X e T (2 * e + 100) T2 := h2
    have bad : ¬ T2.1 7 0 = 0 := by rw [h2.1]; decide
    rw [x_bd1 bad, bis, if_neg (by decide)]
    obtain ⟨fl, rfl⟩ : ∃ k, nf = k + 1 := ⟨nf - 1, by omega⟩
    rw [rl_Model_build_71]
    have go := hE e T2 rfl h2.1 h2.2.1 h2.2.2.1
    by_cases c : T2.1 11 0 ≤ 0
    · rw [if_pos c]; exact go
    · rw [if_neg c, x_bd1 bad, bis, if_neg (by decide)]; exact go
  | ok its =>
    obtain ⟨j, c, g1, g2, g3, g4, g5, g6, g7, g8, g9⟩ := h2
    have t7 : T2.1 7 0 = 0 := g1.2.1
    have hjn : j ≤ xn X := g1.1.1
    have hU : nU T2 ≤ 4000 := Nat.le_trans g1.2.2.2.2 (by omega)
    have hW : nW T2 ≤ 4000 := Nat.le_trans g2.2 (by omega)
    have iz := pIts_end hX _ _ _ hp
    have hh := RepP.his hU hW its 0 0 0 0 (xn X) g8 iz (Nat.le_refl _) (by omega) (by omega)
    have e74 : T2.1 74 = T.1 74 := g3.1 74 (by omega)
    have e94 : T2.1 94 0 = 0 := by rw [g3.1 94 (by omega)]; exact h94
    have ri2 : Ri (er T2) := by
      intro q hq
      show T2.1 74 q = 0 ∨ ∃ e, T2.1 74 q = nI e ∧ e < q
      rw [e74]
      exact hRi q hq
    have h15 : ∀ t, t < its.length → ∃ r, T2.1 15 t = nI r ∧ r ≤ 3 := fun t ht => hh.2.2 t (by omega) (by omega)
    have rm : RmP X its (er T2) := ⟨g4, g5, hh.1, hh.2.1, h15, iz, ri2, t7, T2, rfl, g8⟩
    have room := hroom its (er T2) rfl rm
    have k0 : Ck0 (sI (er T2) 65 0 1) := ck0_65 (S := er T2) g4 g5 h15
    have fhL := FH.hds (X := X) its 0 0 (sI (er T2) 65 0 1)
    have tgH : Tg (hdsS X its (er T2)) := FH.mn.tg (fhL.tg k0.1)
    have cH : cn (hdsS X its (er T2)) < 6000 := Nat.lt_of_le_of_lt ((fns_tr (X := X) its 0 0 _).1 tgH).2.1 room
    rw [x_bd0 t7, bis, if_pos rfl]
    refine wp_bi (x_hds (d := d' + 21) hnf hPl g4 g5 hh.1 h15 cH) ?_
    intro _ _ T3 h3
    obtain ⟨e3, a3⟩ := h3
    have fk : ∀ k, k < 65 → k ≠ 7 → k ≠ 8 → k ≠ 24 → k ≠ 26 → k ≠ 30 → (er T3).1 k = (er T2).1 k := fun k k1 k2 k3 k4 k5 k6 => by
      rw [e3]
      unfold hdsS
      rw [FH.mn.1 k k1 k2 k3 k4 k5 k6, fhL.1 k k1 k2 k3 k4 k5 k6, sI_ne (by omega)]
    have fk2 : ∀ k, k < 72 → (er T3).2 k = (er T2).2 k := fun k k1 => by
      rw [e3]
      unfold hdsS
      rw [FH.mn.2.1 k k1, fhL.2.1 k k1]
      rfl
    have rP3 : RepP X T3 0 0 0 its := by
      exact RepP.hd2 fk fk2 a3 _ _ _ _ g8
    have go := l_fns (nf := nf) (d := d' + 33) (Q := Q) hx hxn hPl hnf (by omega) (Nat.le_refl (xn X)) its 0 0 0 0 nf T3 (by omega) ?_ (by omega) (by omega) rP3 iz ?_ ?_ ?_ ?_ ?_ ?_ ?_ ?_
    · rw [show nI 0 = (0 : Int32) from rfl] at go
      exact go
    · have : T3.1 11 = T2.1 11 := fk 11 (by omega) (by omega) (by omega) (by omega) (by omega) (by omega)
      rw [this, Nat.zero_add]; exact g4
    · intro q
      rw [e3]
      exact hds_ck (S := er T2) g4 g5 (his_65 _ _ _ hh.1) (kn_65 _ _ hh.2.1) k0 ri2 cH (by rw [← e3]; exact q)
    · rw [e3]; exact tgH
    · have e : T3.1 49 = T2.1 49 := fk 49 (by omega) (by omega) (by omega) (by omega) (by omega) (by omega)
      unfold nN at g9 ⊢; rw [e]; omega
    · have e : T3.1 45 = T2.1 45 := fk 45 (by omega) (by omega) (by omega) (by omega) (by omega) (by omega)
      unfold nU at hU ⊢; rw [e]; exact hU
    · have e : T3.1 37 = T2.1 37 := fk 37 (by omega) (by omega) (by omega) (by omega) (by omega) (by omega)
      unfold nW at hW ⊢; rw [e]; exact hW
    · rw [a3.2.2]; exact e94
    · rw [e3]; exact room
    · intro T' e' k' n' f'
      rw [e3] at e' f'
      exact hO its (er T2) T' rfl rm ⟨T2, rfl, g3, g8, by omega, hU⟩ e' n' f'
end CHA
