/-! an if STEP on both sides -/
section ZSG
variable {S S' S1 S2 T T' T1 T2 T3 : gSt} {X : Lx} {nf d it e v g n dd v' g' k i e' u c m lo hi a b n0 y z p q r j s f yv yx yr lr N m0 c0 dd1 : Nat} {ta tb tr tA tB : Tr} {pl x op cc t x4 rr ys no : Int32} {R : RgR} {nm w w2 : Int64} {bo zb : Bool} {A B : StF}
theorem BfR.am (h : BfR S T) : BfR S (aiT T rr) := by
  unfold BfR
  rw [am_o (by omega), am_o (by omega)]
  exact h
theorem WZ.up (h : WZ X T v g dd) (hd : dd ≤ dd1) : WZ X T v g dd1 := by
  obtain ⟨a1, a2, a3, a4, a5, ⟨c, a6, a7⟩, a8⟩ := h
  exact ⟨a1, a2, a3, a4, a5, ⟨c, a6, by omega⟩, a8⟩
/-- flow is written -/
theorem FZ.fl (hW : WT T) : FZ T (sJ T 77 0 w) := FZ.sc hW (fun _ _ => rfl) (fun q j _ _ c => by rw [rdJ, if_neg (fun z => c z.1)]) rfl
theorem knT_fl : ∃ w, knT T x = sJ T 77 0 w ∨ knT T x = T := by
  unfold knT
  split
  · exact ⟨0, Or.inr rfl⟩
  · exact ⟨_, Or.inl rfl⟩
theorem WZ.kn (h : WZ X T v g dd) : WZ X (knT T x) v g dd ∧ FZ T (knT T x) ∧ FqZ T (knT T x) v := h.fl knT_o.1 knT_o.2
theorem pr_fs (hB : FSf B) : FS (A 0 0 0 (kwS S ys)) (prC X A B zb ys no i S) := by
  unfold prC
  dsimp only
  have h3 : FS (A 0 0 0 (kwS S ys)) (kwS (rsS (A 0 0 0 (kwS S ys)) (S.1 81 0) (S.1 82 0) (S.1 75 0) (S.1 83 0)) no) := FS.rs.tr FS.kw
  have h4 : FS (A 0 0 0 (kwS S ys)) (if zb = true then kwS (rsS (A 0 0 0 (kwS S ys)) (S.1 81 0) (S.1 82 0) (S.1 75 0) (S.1 83 0)) no else B 0 0 0 (kwS (rsS (A 0 0 0 (kwS S ys)) (S.1 81 0) (S.1 82 0) (S.1 75 0) (S.1 83 0)) no)) := by
    split
    · exact h3
    · exact h3.tr (hB _ _ _ _)
  generalize (if zb = true then kwS (rsS (A 0 0 0 (kwS S ys)) (S.1 81 0) (S.1 82 0) (S.1 75 0) (S.1 83 0)) no else B 0 0 0 (kwS (rsS (A 0 0 0 (kwS S ys)) (S.1 81 0) (S.1 82 0) (S.1 75 0) (S.1 83 0)) no)) = U at h4 ⊢
  split
  · split
    · exact h4.tr FS.mt
    · exact h4
  · exact FS.rf
/-- a BLOCK without STEPS -/
theorem em_id (he : emB tB = true) (hg : isZ tB = true ∨ SG X tB dd 2) (hw : if isZ tB = true then v' = v ∧ g' = g ∧ a ≤ b else Ws X tB 2 (a + 1) b v g v' g') : v' = v ∧ g' = g ∧ kwS2 tB = 0 ∧ lvS2 X tB = 0 ∧ ∀ S, (if isZ tB = true then S else stS X it tB 0 0 0 S) = S := by
  by_cases c : isZ tB = true
  · rw [if_pos c] at hw
    have hz : ∀ k i e a b, tB ≠ tD k i e a b := fun k i e a b w => by rw [w, show isZ (tD k i e a b) = false from rfl] at c; cases c
    refine ⟨hw.1, hw.2.1, ?_, ?_, fun S => if_pos c⟩
    · unfold kwS2
      split
      · exact absurd rfl (hz _ _ _ _ _)
      · rfl
    · unfold lvS2
      split
      · exact absurd rfl (hz _ _ _ _ _)
      · rfl
  · rw [if_neg c] at hw
    obtain ⟨i', e', t1, t2, et, w1, _⟩ := ws_2 hw
    subst et
    have z1 : isZ t1 = true := he
    have hz : ∀ k i e a b, t1 ≠ tD k i e a b := fun k i e a b w => by rw [w, show isZ (tD k i e a b) = false from rfl] at z1; cases z1
    have ew : v' = v ∧ g' = g := by
      unfold Ws at w1
      split at w1
      · exact absurd rfl (hz _ _ _ _ _)
      · exact w1.2.2
      · exact w1.elim
    refine ⟨ew.1, ew.2, ?_, ?_, fun S => ?_⟩
    · show kwS2 t1 = 0
      unfold kwS2
      split
      · exact absurd rfl (hz _ _ _ _ _)
      · rfl
    · show lvS2 X t1 = 0
      unfold lvS2
      split
      · exact absurd rfl (hz _ _ _ _ _)
      · rfl
    · rw [if_neg c, stS_n]
      unfold stN
      rw [if_pos rfl, stS_z hz]
      refine Prod.ext ?_ rfl
      funext k j
      rw [rdI]
      by_cases c2 : k = 77 ∧ j = 0
      · rw [if_pos c2, c2.1, c2.2]
      · rw [if_neg c2]
/-- two ways meet: the class's side -/
theorem y_mt (hX : XO X) (hw : WZ X T v g dd) (h12 : T.1 12 lo = nI i) (hl : lo < 4008) (hi : i < 100000) (hd : 4 ≤ d) : wp (rj_Steps_checkIf_173 (PP nf d) nf T (nI lo) w) (fun _ _ T' => FZ T T' ∧ FqZ T T' v ∧ ∀ it e n S st kw lv rc, SrR X it e v g n S T → FwR e S T st kw lv rc w → (rc = 0 ∨ rc = 1) → BfR (mtS S st kw lv rc (nI (xP X i))) T' ∨ (SrR X it e v g n (mtS S st kw lv rc (nI (xP X i))) T' ∧ TyF S (mtS S st kw lv rc (nI (xP X i))) T T' ∧ T'.1 = T.1 ∧ lvC T' 16384 = lvC T 16384)) := by
  obtain ⟨d, rfl⟩ : ∃ g, d = g + 1 := ⟨d - 1, by omega⟩
  have zl : inb (nI lo) 4008 := nin (by omega) (by omega)
  unfold rj_Steps_checkIf_173
  obtain ⟨o, h1, h2⟩ := c_meet (nf := nf) (d := d + 1) (T := T) (w := w) (u := T.2 77 0) (by omega)
  rw [h1, bis]
  obtain ⟨W2, z2, f2⟩ := hw.fl (T' := sJ T 77 0 (meW w (T.2 77 0))) rfl (fun p j hp => by rw [rdJ, if_neg (fun q => hp q.1)])
  rw [gd, if_pos zl, nc (by omega)]
  show wp (bi (PP nf (d + 1) 26 (sJ T 77 0 (meW w (T.2 77 0))) [T.1 12 lo] []) _) _
  rw [h12, c_start hX W2.1.1 hi, bis, c_dem (by omega), bis]
  have f3 : FX (sJ T 77 0 (meW w (T.2 77 0))) (if (if o = true then (1 : Int32) else 0) = 0 then ntS (sJ T 77 0 (meW w (T.2 77 0))) 8 (nI (xP X i)) else sJ T 77 0 (meW w (T.2 77 0))) := FX.dm z2.2.2.1
  refine wp_some ⟨z2.tr f3.fz, f2.tr (W2.fx f3).2, fun it e n S st kw lv rc hR hF hrc => ?_⟩
  rcases hR.mt (pl := nI (xP X i)) hF hrc with ⟨m1, m2, m3⟩ | ⟨m1, m2, m3⟩
  · have ho : o = true := h2.mpr m1
    rw [if_pos ho, if_neg (by decide)]
    exact Or.inr ⟨m2, m3, rfl, lvC_62 (T := T) (T' := sJ T 77 0 (meW w (T.2 77 0))) rfl rfl 16384⟩
  · have ho : ¬ o = true := fun w => m1 (h2.mp w)
    rw [if_neg ho, if_pos rfl]
    left
    unfold BfR ntS
    have h53 : (sJ T 77 0 (meW w (T.2 77 0))).1 53 0 = 0 := hR.1.2.2.2.2.1
    rw [if_pos h53, m2, m3, sI_ne (by omega), sI_v, sI_v]
    exact ⟨by decide, rfl, rfl⟩
end ZSG
