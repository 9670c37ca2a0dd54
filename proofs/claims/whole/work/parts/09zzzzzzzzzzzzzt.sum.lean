/-! places of the code: values put to places; VARS */
-/
section SUM
variable {v0 n0 : Nat} {M0 T0 S S' S1 S2 Sf : gSt} {X : Lx} {it e v g n n' n2 m m' m2 k i q c en j a b v' g' dd dd' u s n1 B L p : Nat} {t ta tb : Tr} {x y r w ys no b0 t1 : Int32} {st st' s0 : List Int32} {hs : List HD} {jj : T5} {ks js : List T5}
theorem gd_29b (cx : CxP M0 T0 Sf) (pl : PlH T0 Sf it n1 dd v S hs n' m') (hC : Ck S) (hF : FW S Sf) (ge : GE X Sf tb S) (hFs : FW (stS X it (tD 29 i e ta tb) ys no j S) Sf) (ge2 : GE X Sf ta (chk X tb 0 0 S).2.2.2) (hx : XG X tb (19 - dd) 1 ∧ dd ≤ 19) (hx2 : XG X ta (19 - dd) 1 ∧ dd ≤ 19) (h4 : ¬ tkd X ta = 4) (h5 : tkd X ta = 14 ∨ tkd X ta = 15 ∨ tkd X ta = 16) (hR : rwC4 M0 n = (0, nI p, 0, 0) ∧ ∃ n2, ExC M0 (chk X tb 0 0 S).2.2.1 (n + 1) n2 ∧ n2 < n' ∧ CpP M0 (chk X ta 0 0 (chk X tb 0 0 S).2.2.2).2.2.1 n2 n') (hT : cw3 T0 m = (1, nI p, 0) ∧ ∃ m2, KxC (eN Sf it) Sf T0 S (chk X tb 0 0 S).2.2.1 (m + 1) m2 ∧ m2 < m' ∧ KpP (eN Sf it) Sf T0 (chk X tb 0 0 S).2.2.2 (chk X ta 0 0 (chk X tb 0 0 S).2.2.2).2.2.1 m2 m') (hk : (stS X it (tD 29 i e ta tb) ys no j S).1 7 0 = 0) (cont : (stS X it (tD 29 i e ta tb) ys no j S).1 83 0 = 1 → Gdk M0 T0 Sf n1 it k n' m' (stS X it (tD 29 i e ta tb) ys no j S) [] hs) : Gdk M0 T0 Sf n1 it k n m S [] hs := by
  have iv := pl.iv hC hF cx.2.1
  obtain ⟨js, sl, hdd, r83, hj, ln, lm, ps⟩ := pl
  obtain ⟨r1, n2, r2, r2', l0, l, r3, r4, r5, r6, rfl⟩ := hR
  obtain ⟨t1', m2, t2, t2', k0, kl, un, t3, t4, t5, rfl⟩ := hT
  obtain ⟨ek, el⟩ : k0 = l0 ∧ kl = l := by
    have := t3.symm.trans r3
    have h := List.append_inj' this rfl
    exact ⟨h.1, by injection h.2⟩
  subst ek el
  have fe := chk_fe (X := X) tb 0 0 S
  obtain ⟨f1, f2, f3, f4, f5, f6⟩ := fe_8 fe
  obtain ⟨c1, c2⟩ := chk_iv cx ge
  obtain ⟨d1, d2⟩ := chk_iv cx ge2
  have h7 := ge.2.2.2.1
  have h72 := ge2.2.2.2.1
  have e0 : stS X it (tD 29 i e ta tb) ys no j S = seC X ta tb S := rfl
  have e1 : seC X ta tb S = ftS (tgD (chk X ta 0 0 (chk X tb 0 0 S).2.2.2).2.2.2 (decide (tkd X ta = 14)) (chk X ta 0 0 (chk X tb 0 0 S).2.2.2).2.1) (chk X tb 0 0 S).1 (chk X ta 0 0 (chk X tb 0 0 S).2.2.2).1 (plT X tb) := by unfold seC; rw [if_pos h7, if_neg h4, if_pos h5]
  rw [e0, e1] at hk cont
  obtain ⟨mf, eft, h7t⟩ := ft_okT hk
  rw [eft] at cont
  have ft : FE (chk X ta 0 0 (chk X tb 0 0 S).2.2.2).2.2.2 (tgD (chk X ta 0 0 (chk X tb 0 0 S).2.2.2).2.2.2 (decide (tkd X ta = 14)) (chk X ta 0 0 (chk X tb 0 0 S).2.2.2).2.1) := FE.td
  have fe2 : FE (chk X tb 0 0 S).2.2.2 (chk X ta 0 0 (chk X tb 0 0 S).2.2.2).2.2.2 := chk_fe ta 0 0 _
  have feA := fe2.tr ft
  have hFt : FW (tgD (chk X ta 0 0 (chk X tb 0 0 S).2.2.2).2.2.2 (decide (tkd X ta = 14)) (chk X ta 0 0 (chk X tb 0 0 S).2.2.2).2.1) Sf := by
    rw [e0, e1, eft] at hFs
    exact hFs
  obtain ⟨_, g0, _, _, _, e86, _, _, g8, _⟩ := js.1.mg
  have fr1 : FR S (chk X tb 0 0 S).2.2.2 := FR.of (FV.fe fe) (FP.fe fe) e86 g8
  have js1 := js.fr fr1 f3
  have sl1 := sl.fv (FV.fe fe) f3 (Nat.le_refl _) sl.1
  have iv1 := js1.iv sl1 c1 ge.2.2.2.2 cx.2.1
  have hj1 : Sf.2 16 = (chk X tb 0 0 S).2.2.2.2 16 ∧ Sf.2 32 = (chk X tb 0 0 S).2.2.2.2 32 := by rw [fe.2.1]; exact hj
  obtain ⟨⟨lo, hi, hw, hd40⟩, gC, g0', gf, gF⟩ := ge2
  have ty := (ty_all (X := X) cx.2.1 cx.1 iv1.1.1 hj1 ta).1 lo hi (19 - dd) 1 (chk X tb 0 0 S).2.2.2 (Nat.le_refl _) hw gC g0' FE.rf gf gF hx2.1
  obtain ⟨l0', l', q1, q2, q3, q4⟩ := ty.2.2 h5
  obtain ⟨ek, el⟩ : l0' = k0 ∧ l' = kl := by
    have := q1.symm.trans t3
    have h := List.append_inj' this rfl
    exact ⟨h.1, by injection h.2⟩
  subst ek el
  have w3 := wS_3 (S := Sf) (x := (chk X tb 0 0 S).1)
  obtain ⟨s1, q5, q6⟩ := q4 450 150 [(chk X tb 0 0 S).1] (by show wS Sf _ + 0 + _ ≤ 450; unfold NW; omega) (by show 1 + _ ≤ 150; unfold NL; omega)
  have tvx : tV Sf (chk X ta 0 0 (chk X tb 0 0 S).2.2.2).1 := by
    rcases r4 with z | z | z
    · rw [tyJ_6 z] at q6
      obtain ⟨s0, p, t, f, c, e1, e2, _, _, _, tv, _⟩ := q6
      injection e2 with e2 _
      rw [e2]
      exact tv
    · rw [tyJ_8 z] at q6
      obtain ⟨s0, p, e1, e2, ⟨hp, _, h69, _⟩, e68⟩ := q6
      injection e2 with e2 _
      rw [e2, e68]
      exact tV_68 cx.1 hp h69
    · rw [tyJ_10 z] at q6
      obtain ⟨s0, p, e1, e2, ⟨hp, _, h69, _⟩, e68⟩ := q6
      injection e2 with e2 _
      rw [e2, e68]
      exact tV_68 cx.1 hp h69
  have hc6 : cn Sf ≤ 6000 := by have := cx.2.1; omega
  have tvT : tV (chk X ta 0 0 (chk X tb 0 0 S).2.2.2).2.2.2 (chk X ta 0 0 (chk X tb 0 0 S).2.2.2).1 := by
    rcases d2 with z | z | z
    · exact absurd z (tV_n1 tvx hc6)
    · exact absurd z (by rcases tvx.row with e | ⟨p, hp⟩; rw [e]; decide; exact hp.n2 hc6)
    · exact z
  have cD := gF.lt d1.1 cx.2.1
  have dT := d1.td (k14 := decide (tkd X ta = 14)) (w := (chk X ta 0 0 (chk X tb 0 0 S).2.2.2).2.1) cD
  have trU : tR (tgD (chk X ta 0 0 (chk X tb 0 0 S).2.2.2).2.2.2 (decide (tkd X ta = 14)) (chk X ta 0 0 (chk X tb 0 0 S).2.2.2).2.1) (chk X tb 0 0 S).1 := c2.imp id (fun z => z.imp id (fun z => z.up (fe_cn feA c1)))
  have fit := mf_fit cx.2.1 dT.1 hFt feA dT.2.1 trU (tvT.up (fe_cn ft d1)) mf
  have n1' : ¬ (chk X tb 0 0 S).1 = -1 := fun w => fit_n1 cx.2.1 (by rw [← w]; exact fit)
  have l1 : n + 1 ≤ n2 := by have := r2.1; omega
  have l2 : m + 1 ≤ m2 := by have := t2.1; omega
  have cont := (cont (by rw [(fe_8 feA).2.2.2.2.2, f6]; exact r83)).wk (wk_fe feA)
  refine gd_stp iv (by omega) (by omega) (ps.le (by omega) (by omega)) r1 t1' ?_
  refine gd_xp cx hj ge hx hdd r2 t2 iv (by show 0 ≤ 12; omega) (by show 0 ≤ 3; omega) (by omega) (by omega) (fun h hh => by have := ps h hh; omega) (fun ivx => ?_)
  unfold psh at ivx ⊢
  rw [if_neg n1'] at ivx ⊢
  have iv2 : IvP Sf it (chk X tb 0 0 S).2.2.2 [(chk X tb 0 0 S).1] hs := iv1.stk (fun x hx => by
    rw [List.mem_singleton.mp hx]
    exact (ivx.2.2.2.1 _ List.mem_cons_self).imp id (fun z => ⟨z.1, z.2.fv (FV.fe fe)⟩)) (by show wS Sf _ + 0 ≤ 450; omega) (by show 1 ≤ 150; omega)
  refine Gdk.wk ?_ (wk_fe fe)
  refine gd_ex cx (ksE l0') k n2 m2 _ s1 (by exact r5) t4 q5 iv2 (by omega) (by omega) (fun h hh => by have := ps h hh; omega) (fun iv3 => ?_)
  have okx := ty_in cx iv1.1 iv1.2.1 q6 iv3.2.2.2.1 (chk X ta 0 0 (chk X tb 0 0 S).2.2.2).1 List.mem_cons_self
  have tix : TyIn Sf (chk X tb 0 0 S).2.2.2 (chk X ta 0 0 (chk X tb 0 0 S).2.2.2).1 := by
    rcases okx with z | z
    · exact absurd z (by rcases tvx.row with e | ⟨p, hp⟩; rw [e]; decide; exact hp.n2 hc6)
    · exact z.2
  exact gd_ru iv3 (by omega) (by omega) (ps.le (by omega) (by omega)) (fun j hj => Or.inr (Or.inr (Or.inr (Or.inr (Or.inr (Or.inr (Or.inr (Or.inr (Or.inr (Or.inr (Or.inl ⟨l', un, _, _, r4, r6, t5, q6, fit, tix, iv1, cont.le (by omega)⟩)))))))))))
end SUM
