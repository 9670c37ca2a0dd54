/-! places of the code: STEPS without BLOCKS */
-/
def PlH (T0 Sf : gSt) (it n1 dd v : Nat) (S : gSt) (hs : List HD) (n' m' : Nat) : Prop := JS Sf it dd S hs ∧ SlB S v ∧ 1 ≤ dd ∧ S.1 83 0 = 1 ∧ (Sf.2 16 = S.2 16 ∧ Sf.2 32 = S.2 32) ∧ n' < 12000 ∧ m' < n1 ∧ PsH n' m' hs
section SUJ
variable {M0 T0 S S' S1 S2 Sf : gSt} {X : Lx} {it e v g n n' n2 m m' m2 k i q c en j a b v' g' dd dd' u s n1 B L p : Nat} {t ta tb : Tr} {x y r w ys no b0 : Int32} {st st' s0 : List Int32} {hs : List HD} {jj : T5} {ks js : List T5}
theorem slV_fv (fv : FV S S') : ∀ u, u ≤ vn S → slV Sf S' u = slV Sf S u := by
  intro u
  induction u with
  | zero => intro _; rfl
  | succ u ih => intro hu; rw [slV, slV, ih (by omega), (fv.2.2.2.2.2.1 u (by omega)).2.1]
theorem wk_of (fv : FV S S') (hv : vn S' ≤ vn S) (e75 : S'.1 75 0 = S.1 75 0) (e76 : S'.1 76 0 = S.1 76 0) (e87 : S'.1 87 0 = S.1 87 0) (h81 : ∀ u s, u < vn S → S.1 79 u = nI s → s < 20 → fi (S'.1 81 0) s = true → fi (S.1 81 0) s = true) (h82 : ∀ u s, u < vn S → S.1 79 u = nI s → s < 20 → fi (S'.1 82 0) s = true → fi (S.1 82 0) s = true) : WkS Sf S S' := by
  have er : rn S' = rn S := by unfold rn; rw [fv.1]
  refine ⟨⟨er, fv.2.1, fv.2.2.1, fv.2.2.2.1, e75, e76, e87⟩, fun u s ⟨a1, a2, a3, a4, a5⟩ => ?_⟩
  have hu : u < vn S := by omega
  obtain ⟨b1, b2, b3⟩ := fv.2.2.2.2.2.1 u hu
  rw [b1] at a2
  exact ⟨⟨hu, a2, a3, h81 u s hu a2 a3 a4, a5⟩, b2.symm, (slV_fv fv u (by omega)).symm, h82 u s hu a2 a3⟩
theorem wk_fe (h : FE S S') : WkS Sf S S' := by
  obtain ⟨f1, f2, f3, f4, f5, f6⟩ := fe_8 h
  exact wk_of (FV.fe h) (by unfold vn; rw [f3]; exact Nat.le_refl _) (by rw [h.1 75 (by unfold fE; omega)]) (by rw [h.1 76 (by unfold fE; omega)]) (by rw [h.1 87 (by unfold fE; omega)]) (fun _ _ _ _ _ w => by rw [f1] at w; exact w) (fun _ _ _ _ _ w => by rw [f2] at w; exact w)
theorem PlH.iv (pl : PlH T0 Sf it n1 dd v S hs n' m') (hC : Ck S) (hF : FW S Sf) (hc : cn Sf < 6000) : IvP Sf it S [] hs := pl.1.iv pl.2.1 hC hF hc
/-- an EXPR */
-/
theorem gd_xp (cx : CxP M0 T0 Sf) (hj : Sf.2 16 = S.2 16 ∧ Sf.2 32 = S.2 32) (ge : GE X Sf ta S) (hx : XG X ta (19 - dd) 1 ∧ dd ≤ 19) (hdd : 1 ≤ dd) (hE : ExC M0 (chk X ta 0 0 S).2.2.1 n n2) (hK : KxC (eN Sf it) Sf T0 S (chk X ta 0 0 S).2.2.1 m m2) (iv : IvP Sf it S st hs) (h1 : wsl Sf st ≤ 12) (h2 : st.length ≤ 3) (hn : n2 ≤ 12000) (hm : m2 ≤ n1) (hp : ∀ h : HD, h ∈ hs → n2 ≤ h.1 ∧ m2 ≤ h.2.1) (hg : IvP Sf it S (psh (chk X ta 0 0 S).1 st) hs → Gdk M0 T0 Sf n1 it k n2 m2 S (psh (chk X ta 0 0 S).1 st) hs) : Gdk M0 T0 Sf n1 it k n m S st hs := by
  obtain ⟨⟨lo, hi, hw, hd40⟩, hC, h0, hf, hF⟩ := ge
  have ty := (ty_all (X := X) cx.2.1 cx.1 iv.1.1 hj ta).1 lo hi (19 - dd) 1 S (Nat.le_refl _) hw hC h0 FE.rf hf hF hx.1
  have tl := ty.2.1 450 150 st (by unfold NW; omega) (by unfold NL; omega)
  obtain ⟨e1, l1⟩ := hE
  obtain ⟨e2, l2⟩ := hK
  subst e1 e2
  exact gd_ex cx _ k n m st _ l1 l2 tl iv hn hm hp hg
theorem chk_iv (cx : CxP M0 T0 Sf) (ge : GE X Sf ta S) : Ck (chk X ta 0 0 S).2.2.2 ∧ tR (chk X ta 0 0 S).2.2.2 (chk X ta 0 0 S).1 := by
  obtain ⟨⟨lo, hi, hw, hd40⟩, hC, h0, hf, hF⟩ := ge
  have c6 := hF.lt ((chk_fe (X := X) ta 0 0 S).tg hC.1) cx.2.1
  obtain ⟨a, b⟩ := iv_ex0 (chk_inv ta) hw hC c6
  exact ⟨a, (b hf).1⟩
theorem ni_0 {r pl : Int32} (h : (niT S r pl).1 7 0 = 0) (h0 : S.1 7 0 = 0) : r = 0 ∧ niT S r pl = S := by
  unfold niT at h ⊢
  by_cases c : S.1 7 0 = 0 ∧ ¬ r = 0
  · rw [if_pos c] at h
    exact absurd h (flT_bad (by decide))
  · rw [if_neg c]
    exact ⟨Decidable.byContradiction fun w => c ⟨h0, w⟩, rfl⟩
theorem rs_sg (h : RwS (eN Sf it) S) (hc : c ≤ eN Sf it) : sght S c := by
  obtain ⟨m, g, n, cd, po, ⟨a1, a2, a3, a4, a5, a6, a7, a8⟩, b1, _⟩ := h
  by_cases c0 : c = 0
  · exact Or.inl c0
  · exact Or.inr ⟨by omega, c - 1, by omega, by rw [b1 (c - 1) (by omega)]; congr 1; omega⟩
theorem fe_cn (h : FE S S') (hC : Ck S) : cn S ≤ cn S' := (h.2.2.1 hC.1).2.1
theorem rt_tv (hC : Ck S) (hit : it < inn Sf) (hF : FW S Sf) (h25 : 0 ≤ S.1 25 it) : tV S (S.1 26 it) := by
  have ei : it < inn S := by rw [← hF.einn]; exact hit
  obtain ⟨c, m, r, w, _, _, _, _, _, _, _, _, _, b, _⟩ := hC.2.2.2.2.1.2.2 it ei
  exact (b h25).1
theorem fit_n1 (hc : cn Sf < 6000) (h : fitT Sf S (-1) y) : False := by
  rcases h with ⟨w, _⟩ | ⟨w, _⟩ | ⟨p, q, hp, _⟩
  · exact absurd w (by decide)
  · exact absurd w (by decide)
  · have := hp.1
    exact nI_neg1 (by have := hp.2.2; omega) this
theorem fit_w (cx : CxP M0 T0 Sf) (h : fitT Sf S x y) : wS Sf x = wS Sf y := by
  have hc6 : cn Sf ≤ 6000 := by have := cx.2.1; omega
  rcases h with ⟨w1, w2⟩ | ⟨w1, q, hq, hk⟩ | ⟨p, q, hp, hq, hk, _⟩
  · rw [w1, w2]
  · rw [w1, wS_p hc6 hq (Or.inr hk)]
    rfl
  · unfold wS isRo
    rw [if_neg (hp.np hc6), if_neg (hq.np hc6), hp.cl hc6, hq.cl hc6]
    rcases hk with hk | ⟨hk1, hk2⟩
    · rw [hk]
    · rw [hk1, hk2]
      rfl
/-- print, throw */
-/
theorem gd_24 (cx : CxP M0 T0 Sf) (pl : PlH T0 Sf it n1 dd v S hs n' m') (hC : Ck S) (hF : FW S Sf) (ge : GE X Sf ta S) (hx : XG X ta (19 - dd) 1 ∧ dd ≤ 19) (hR : rwC4 M0 n = (0, nI p, 0, 0) ∧ ∃ n2 b, ExC M0 (chk X ta 0 0 S).2.2.1 (n + 1) n2 ∧ rwC4 M0 n2 = (29, b, 0, 0) ∧ n' = n2 + 1) (hT : cw3 T0 m = (1, nI p, 0) ∧ ∃ m2, KxC (eN Sf it) Sf T0 S (chk X ta 0 0 S).2.2.1 (m + 1) m2 ∧ cw3 T0 m2 = (7, 0, 0) ∧ m' = m2 + 1) (hk : (stS X it (tD 24 i e ta tb) ys no j S).1 7 0 = 0) (cont : (stS X it (tD 24 i e ta tb) ys no j S).1 83 0 = 1 → Gdk M0 T0 Sf n1 it k n' m' (stS X it (tD 24 i e ta tb) ys no j S) [] hs) : Gdk M0 T0 Sf n1 it k n m S [] hs := by
  have iv := pl.iv hC hF cx.2.1
  obtain ⟨js, sl, hdd, r83, hj, ln, lm, ps⟩ := pl
  obtain ⟨r1, n2, b, r2, r3, rfl⟩ := hR
  obtain ⟨t1, m2, t2, t3, rfl⟩ := hT
  have e0 : stS X it (tD 24 i e ta tb) ys no j S = niT (chk X ta 0 0 S).2.2.2 (chk X ta 0 0 S).1 (plT X ta) := rfl
  rw [e0] at hk cont
  obtain ⟨z1, z2⟩ := ni_0 hk ge.2.2.2.1
  rw [z2] at cont
  have fe := chk_fe (X := X) ta 0 0 S
  have cont := (cont (by rw [(fe_8 fe).2.2.2.2.2]; exact r83)).wk (wk_fe fe)
  have l1 : n + 1 ≤ n2 := by have := r2.1; omega
  have l2 : m + 1 ≤ m2 := by have := t2.1; omega
  refine gd_stp iv (by omega) (by omega) (ps.le (by omega) (by omega)) r1 t1 ?_
  refine gd_xp cx hj ge hx hdd r2 t2 iv (by show 0 ≤ 12; omega) (by show 0 ≤ 3; omega) (by omega) (by omega) (fun h hh => by have := ps h hh; omega) (fun ivx => ?_)
  rw [z1]
  rw [z1] at ivx
  have iv0 : IvP Sf it S [0] hs := ivx
  exact gd_ru iv0 (by omega) (by omega) (ps.le (by omega) (by omega)) (fun j hj => Or.inr (Or.inr (Or.inr (Or.inr (Or.inr (Or.inr (Or.inr (Or.inr (Or.inr (Or.inr (Or.inr (Or.inl ⟨b, 0, 0, 0, 0, r3, t3, rfl, iv, cont.le (by omega)⟩))))))))))))
theorem gd_25 (cx : CxP M0 T0 Sf) (pl : PlH T0 Sf it n1 dd v S hs n' m') (hC : Ck S) (hF : FW S Sf) (ge : GE X Sf ta S) (hx : XG X ta (19 - dd) 1 ∧ dd ≤ 19) (hR : rwC4 M0 n = (0, nI p, 0, 0) ∧ ∃ n2 b, ExC M0 (chk X ta 0 0 S).2.2.1 (n + 1) n2 ∧ rwC4 M0 n2 = (30, b, 0, 0) ∧ n' = n2 + 1) (hT : cw3 T0 m = (1, nI p, 0) ∧ ∃ m2, KxC (eN Sf it) Sf T0 S (chk X ta 0 0 S).2.2.1 (m + 1) m2 ∧ cw3 T0 m2 = (56, 0, 0) ∧ m' = m2 + 1) (hk : (stS X it (tD 25 i e ta tb) ys no j S).1 7 0 = 0) : Gdk M0 T0 Sf n1 it k n m S [] hs := by
  have iv := pl.iv hC hF cx.2.1
  obtain ⟨js, sl, hdd, r83, hj, ln, lm, ps⟩ := pl
  obtain ⟨r1, n2, b, r2, r3, rfl⟩ := hR
  obtain ⟨t1, m2, t2, t3, rfl⟩ := hT
  have e0 : stS X it (tD 25 i e ta tb) ys no j S = spS (niT (chk X ta 0 0 S).2.2.2 (chk X ta 0 0 S).1 (plT X ta)) := rfl
  have hk2 : (niT (chk X ta 0 0 S).2.2.2 (chk X ta 0 0 S).1 (plT X ta)).1 7 0 = 0 := by
    rw [e0] at hk
    unfold spS at hk
    rw [sI_ne (by omega), sI_ne (by omega), sI_ne (by omega)] at hk
    exact hk
  obtain ⟨z1, z2⟩ := ni_0 hk2 ge.2.2.2.1
  have l1 : n + 1 ≤ n2 := by have := r2.1; omega
  have l2 : m + 1 ≤ m2 := by have := t2.1; omega
  refine gd_stp iv (by omega) (by omega) (ps.le (by omega) (by omega)) r1 t1 ?_
  refine gd_xp cx hj ge hx hdd r2 t2 iv (by show 0 ≤ 12; omega) (by show 0 ≤ 3; omega) (by omega) (by omega) (fun h hh => by have := ps h hh; omega) (fun ivx => ?_)
  rw [z1]
  rw [z1] at ivx
  have iv0 : IvP Sf it S [0] hs := ivx
  exact gd_ru iv0 (by omega) (by omega) (ps.le (by omega) (by omega)) (fun j hj => Or.inr (Or.inr (Or.inr (Or.inr (Or.inr (Or.inr (Or.inr (Or.inr (Or.inr (Or.inr (Or.inr (Or.inr (Or.inl ⟨b, 0, 0, 0, 0, [], r3, t3, rfl⟩)))))))))))))
/-- a value has the words of its type */
-/
theorem tR_ok (cx : CxP M0 T0 Sf) (ge : GE X Sf ta S) (hn : ¬ (chk X ta 0 0 S).1 = -1) : (chk X ta 0 0 S).1 = -2 ∨ tV Sf (chk X ta 0 0 S).1 := by
  obtain ⟨a, b⟩ := chk_iv cx ge
  rcases b with b | b | b
  · exact absurd b hn
  · exact Or.inl b
  · exact Or.inr (ge.2.2.2.2.tv a.1 b)
theorem gd_30 (cx : CxP M0 T0 Sf) (pl : PlH T0 Sf it n1 dd v S hs n' m') (hC : Ck S) (hF : FW S Sf) (ge : GE X Sf ta S) (hx : XG X ta (19 - dd) 1 ∧ dd ≤ 19) (hR : rwC4 M0 n = (0, nI p, 0, 0) ∧ ∃ n2, ExC M0 (chk X ta 0 0 S).2.2.1 (n + 1) n2 ∧ rwC4 M0 n2 = (36, (if (chk X ta 0 0 S).1 = -1 then 0 else 1), 0, 0) ∧ n' = n2 + 1) (hT : cw3 T0 m = (1, nI p, 0) ∧ ∃ m2, KxC (eN Sf it) Sf T0 S (chk X ta 0 0 S).2.2.1 (m + 1) m2 ∧ KwD (eN Sf it) Sf T0 S 5 (chk X ta 0 0 S).1 m2 ∧ m' = m2 + 1) (hk : (stS X it (tD 30 i e ta tb) ys no j S).1 7 0 = 0) (cont : (stS X it (tD 30 i e ta tb) ys no j S).1 83 0 = 1 → Gdk M0 T0 Sf n1 it k n' m' (stS X it (tD 30 i e ta tb) ys no j S) [] hs) : Gdk M0 T0 Sf n1 it k n m S [] hs := by
  have iv := pl.iv hC hF cx.2.1
  obtain ⟨js, sl, hdd, r83, hj, ln, lm, ps⟩ := pl
  obtain ⟨r1, n2, r2, r3, rfl⟩ := hR
  obtain ⟨t1, m2, t2, ⟨cc, kw, t3⟩, rfl⟩ := hT
  have e0 : stS X it (tD 30 i e ta tb) ys no j S = (chk X ta 0 0 S).2.2.2 := rfl
  rw [e0] at cont
  have fe := chk_fe (X := X) ta 0 0 S
  have cont := (cont (by rw [(fe_8 fe).2.2.2.2.2]; exact r83)).wk (wk_fe fe)
  have l1 : n + 1 ≤ n2 := by have := r2.1; omega
  have l2 : m + 1 ≤ m2 := by have := t2.1; omega
  rw [wd_w kw] at t3
  refine gd_stp iv (by omega) (by omega) (ps.le (by omega) (by omega)) r1 t1 ?_
  refine gd_xp cx hj ge hx hdd r2 t2 iv (by show 0 ≤ 12; omega) (by show 0 ≤ 3; omega) (by omega) (by omega) (fun h hh => by have := ps h hh; omega) (fun ivx => ?_)
  by_cases c : (chk X ta 0 0 S).1 = -1
  · rw [if_pos c] at r3 t3
    unfold psh
    rw [if_pos c]
    exact gd_ru iv (by omega) (by omega) (ps.le (by omega) (by omega)) (fun j hj => Or.inr (Or.inr (Or.inr (Or.inr (Or.inr (Or.inr (Or.inr (Or.inr (Or.inr (Or.inr (Or.inr (Or.inr (Or.inr (Or.inr (Or.inl ⟨0, 0, 0, r3, t3, cont.le (by omega)⟩)))))))))))))))
  · rw [if_neg c] at r3 t3
    unfold psh at ivx ⊢
    rw [if_neg c] at ivx ⊢
    exact gd_ru ivx (by omega) (by omega) (ps.le (by omega) (by omega)) (fun j hj => Or.inr (Or.inr (Or.inr (Or.inr (Or.inr (Or.inr (Or.inr (Or.inr (Or.inr (Or.inr (Or.inr (Or.inr (Or.inr (Or.inl ⟨0, 0, _, 0, r3, t3, rfl, iv, cont.le (by omega)⟩))))))))))))))
/-- return */
-/
theorem gd_23 (cx : CxP M0 T0 Sf) (pl : PlH T0 Sf it n1 dd v S hs n' m') (hC : Ck S) (hF : FW S Sf) (ge : isZ ta = true ∨ GE X Sf ta S) (hx : isZ ta = true ∨ (XG X ta (19 - dd) 1 ∧ dd ≤ 19)) (hit : it < inn Sf) (h12 : Sf.1 12 it = 2) (hR : rwC4 M0 n = (0, nI p, 0, 0) ∧ (if isZ ta = true then rwC4 M0 (n + 1) = (28, 0, 0, 0) ∧ n' = n + 2 else ∃ n2, ExC M0 (chk X ta 0 0 S).2.2.1 (n + 1) n2 ∧ rwC4 M0 n2 = (28, 1, 0, 0) ∧ n' = n2 + 1)) (hT : cw3 T0 m = (1, nI p, 0) ∧ (if isZ ta = true then cw3 T0 (m + 1) = (58, 0, 0) ∧ m' = m + 2 else ∃ m2, KxC (eN Sf it) Sf T0 S (chk X ta 0 0 S).2.2.1 (m + 1) m2 ∧ KwD (eN Sf it) Sf T0 S 58 (S.1 26 it) m2 ∧ m' = m2 + 1)) (hk : (stS X it (tD 23 i e ta tb) ys no j S).1 7 0 = 0) : Gdk M0 T0 Sf n1 it k n m S [] hs := by
  have iv := pl.iv hC hF cx.2.1
  obtain ⟨js, sl, hdd, r83, hj, ln, lm, ps⟩ := pl
  obtain ⟨r1, hR⟩ := hR
  obtain ⟨t1, hT⟩ := hT
  have e0 : stS X it (tD 23 i e ta tb) ys no j S = (rtC X ta i it S).2 := rfl
  rw [e0] at hk
  have ro : (rtO S (isZ ta) it (nI (xP X i))).1 7 0 = 0 := by
    refine Decidable.byContradiction fun w => ?_
    unfold rtC at hk
    rw [if_neg w] at hk
    exact w hk
  have hret : (0 ≤ S.1 25 it) ↔ isZ ta = false := by
    refine Decidable.byContradiction fun w => ?_
    unfold rtO at ro
    rw [if_neg w] at ro
    exact flT_bad (by decide) ro
  have f25 : Sf.1 25 it = S.1 25 it := by rw [hF.1 25 (by omega) (by omega) (by omega)]
  have f26 : Sf.1 26 it = S.1 26 it := by rw [hF.1 26 (by omega) (by omega) (by omega)]
  by_cases z : isZ ta = true
  · rw [if_pos z] at hR hT
    obtain ⟨r2, rfl⟩ := hR
    obtain ⟨t2, rfl⟩ := hT
    refine gd_stp iv (by omega) (by omega) (ps.le (by omega) (by omega)) r1 t1 ?_
    have neg : Sf.1 25 it < 0 := by
      rw [f25]
      refine Int32.not_le.mp (fun w => ?_)
      have := hret.mp w
      rw [this] at z
      cases z
    exact gd_ru iv (by omega) (by omega) (ps.le (by omega) (by omega)) (fun j hj => Or.inr (Or.inr (Or.inr (Or.inr (Or.inr (Or.inr (Or.inr (Or.inr (Or.inr (Or.inr (Or.inr (Or.inr (Or.inr (Or.inr (Or.inr (Or.inr (Or.inr (Or.inr (Or.inr (Or.inr (Or.inr ⟨0, 0, 0, 0, 0, r2, t2, Or.inl ⟨neg, rfl, rfl⟩⟩)))))))))))))))))))))
  · rw [if_neg z] at hR hT
    have z' : isZ ta = false := by cases hz : isZ ta with | true => exact absurd hz z | false => rfl
    have pos := hret.mpr z'
    obtain ⟨n2, r2, r3, rfl⟩ := hR
    obtain ⟨m2, t2, ⟨cc, kw, t3⟩, rfl⟩ := hT
    have ge := ge.resolve_left z
    have hx := hx.resolve_left z
    have hk2 : (ftS (chk X ta 0 0 S).2.2.2 (chk X ta 0 0 S).1 ((chk X ta 0 0 S).2.2.2.1 26 it) (plT X ta)).1 7 0 = 0 := by
      unfold rtC at hk
      rw [if_pos ro, if_neg z] at hk
      have hk : (spS (ftS (chk X ta 0 0 S).2.2.2 (chk X ta 0 0 S).1 ((chk X ta 0 0 S).2.2.2.1 26 it) (plT X ta))).1 7 0 = 0 := hk
      unfold spS at hk
      rw [sI_ne (by omega), sI_ne (by omega), sI_ne (by omega)] at hk
      exact hk
    obtain ⟨mf, _, _⟩ := ft_okT hk2
    obtain ⟨c1, c2⟩ := chk_iv cx ge
    have fe := chk_fe (X := X) ta 0 0 S
    obtain ⟨ci, mi, iq⟩ := cx.2.2.2.2.2 it hit
    have q26 := iq.2.2.2.2.2.2.2.2.1 (by rw [f25]; exact pos) h12
    have e3 := iq.2.2.2.2.2.2.2.2.2.2
    have t26 : (chk X ta 0 0 S).2.2.2.1 26 it = Sf.1 26 it := by rw [fe.1 26 (by unfold fE; omega), f26]
    rw [t26] at mf
    have tv26 : tV S (S.1 26 it) := (rt_tv hC hit hF pos)
    have fit := mf_fit cx.2.1 c1.1 ge.2.2.2.2 fe c1.2.1 c2 (by rw [f26]; exact tv26.up (fe_cn fe hC)) mf
    have n1' : ¬ (chk X ta 0 0 S).1 = -1 := fun w => fit_n1 cx.2.1 (by rw [← w]; exact fit)
    have l1 : n + 1 ≤ n2 := by have := r2.1; omega
    have l2 : m + 1 ≤ m2 := by have := t2.1; omega
    refine gd_stp iv (by omega) (by omega) (ps.le (by omega) (by omega)) r1 t1 ?_
    refine gd_xp cx hj ge hx hdd r2 t2 iv (by show 0 ≤ 12; omega) (by show 0 ≤ 3; omega) (by omega) (by omega) (fun h hh => by have := ps h hh; omega) (fun ivx => ?_)
    unfold psh at ivx ⊢
    rw [if_neg n1'] at ivx ⊢
    have wfit : wS Sf (chk X ta 0 0 S).1 = wS Sf (Sf.1 26 it) := fit_w cx fit
    have w26 : wS Sf (Sf.1 26 it) = wS S (S.1 26 it) := by rw [f26]; exact (ws_fw hC hF cx.2.1 tv26).symm
    rw [wd_w kw, if_neg (tV_n1 (by rw [← f26]; exact q26.1) (by have := cx.2.1; omega))] at t3
    refine gd_ru ivx (by omega) (by omega) (ps.le (by omega) (by omega)) (fun j hj => Or.inr (Or.inr (Or.inr (Or.inr (Or.inr (Or.inr (Or.inr (Or.inr (Or.inr (Or.inr (Or.inr (Or.inr (Or.inr (Or.inr (Or.inr (Or.inr (Or.inr (Or.inr (Or.inr (Or.inr (Or.inr ⟨1, 0, 0, wS Sf (S.1 26 it), 0, r3, t3, Or.inr ⟨by rw [f25]; exact pos, _, rfl, by rw [wfit, f26], wS_3, fit, ?_⟩⟩)))))))))))))))))))))
    refine q26.2.mo (fun c hc => ?_)
    -- the RS are in sight
    exact rs_sg iv.2.1 hc
end SUJ
