/-! both machines: a number of INPUTS -/
/-- the first i of the reference's INPUTS moved -/
def inT (M : gSt) (i : Nat) : gSt := (fun k j => if k = 151 then (if j < i then M.1 151 (j + 1) else M.1 151 j) else M.1 k j, M.2)
section XEB
variable {M0 T0 Sf S Sh : gSt} {G G' : GH} {D D' : Nat → (Nat → AV) × Nat} {nf d d' nb nb' mk mk' na na' ng ng' e bs ph bt rb tb ie en hb k q u s i j c t h P W Dp n m it n1 : Nat} {rg rg' : Nat → Nat} {ρ : Nat → Nat} {va : Nat → AV} {M M' T T' : gSt} {v : AV} {x a b cc ee op y z w : Int32} {st s0 st' : List Int32} {ov o0 ov' : List AV} {hs : List HD} {F : FRM} {Fr : Nat → FRM} {f : Nat → Int32} {jj : T5} {r1 : Int32} {l1 : Int64} {tg : List Nat}
theorem inT_r {a b : Nat} : (inT M i).1 a b = if a = 151 then (if b < i then M.1 151 (b + 1) else M.1 151 b) else M.1 a b := rfl
theorem inT_o {a : Nat} (h : a ≠ 151) : (inT M i).1 a = M.1 a := by
  funext b
  rw [inT_r, if_neg h]
theorem inT_s : sI (inT M i) 151 i (M.1 151 (i + 1)) = inT M (i + 1) := by
  refine st_ext (fun a b => ?_) rfl
  rw [rdI, inT_r, inT_r]
  by_cases c : a = 151
  · subst c
    rw [if_pos rfl, if_pos rfl]
    by_cases e : b = i
    · rw [if_pos ⟨rfl, e⟩, if_pos (by omega), e]
    · rw [if_neg (fun w : 151 = 151 ∧ b = i => e w.2)]
      by_cases z : b < i
      · rw [if_pos z, if_pos (by omega)]
      · rw [if_neg z, if_neg (by omega)]
  · rw [if_neg (fun w => c w.1), if_neg c, if_neg c]
theorem inT_0 : inT M 0 = M := by
  refine st_ext (fun a b => ?_) rfl
  rw [inT_r]
  by_cases c : a = 151
  · rw [if_pos c, if_neg (by omega), c]
  · rw [if_neg c]
theorem x_inp (h150 : M.1 150 0 = nI (c + 1)) (hw : c < 100) (hnf : 200 < nf) (hd : 1 ≤ d) : RR nf d 119 M [] [] = some (M.1 151 0, 0, inT (sI M 150 0 (nI c)) c) := by
  obtain ⟨d, rfl⟩ : ∃ g, d = g + 1 := ⟨d - 1, by omega⟩
  have go : ∀ (j i fl : Nat), j + i = c → j < fl → rl_Model_input__28 (RR nf d) nf fl (inT (sI M 150 0 (nI c)) i) (M.1 151 0) (nI i) = some (M.1 151 0, 0, inT (sI M 150 0 (nI c)) c) := by
    intro j
    induction j with
    | zero =>
      intro i fl h1 h2
      obtain ⟨fl, rfl⟩ : ∃ g, fl = g + 1 := ⟨fl - 1, by omega⟩
      have ei : i = c := by omega
      subst ei
      rw [rl_Model_input__28, inT_o (by omega), sI_v, if_pos (Int32.le_refl _)]
    | succ j ih =>
      intro i fl h1 h2
      obtain ⟨fl, rfl⟩ : ∃ g, fl = g + 1 := ⟨fl - 1, by omega⟩
      rw [rl_Model_input__28, inT_o (a := 150) (by omega), sI_v, if_neg (show ¬ nI c ≤ nI i from fun q => by
        have := (nI_leI (a := c) (b := i) (by omega) (by omega)).mp q
        omega), nI_1, gd, if_pos (nin (by omega) (by omega)), gd, if_pos (nin (by omega) (by omega)), nc (by omega), nc (by omega), stK, vK, show (inT (sI M 150 0 (nI c)) i).1 151 (i + 1) = (sI M 150 0 (nI c)).1 151 (i + 1) by rw [inT_r, if_pos rfl, if_neg (by omega)], inT_s]
      exact ih (i + 1) fl (by omega) (by omega)
  rw [e_Model_input_]
  unfold rb_Model_input_
  rw [h150, if_neg (nz1 (by omega)), gd, if_pos (by decide), vK, show nI (c + 1) - 1 = nI c from nI_p1, stK]
  have := go c 0 nf (by omega) (by omega)
  rw [inT_0] at this
  exact this
theorem c_inp (h111 : T.1 111 0 = nI (c + 1)) (hw : c < 100) (hd : 1 ≤ d) : PP nf d 204 T [] [] = some (T.1 110 0, 0, sA (sI T 111 0 (nI c)) 110 (va_cpy (T.1 110) (T.1 110) 1 0 c)) := by
  obtain ⟨d, rfl⟩ : ∃ g, d = g + 1 := ⟨d - 1, by omega⟩
  rw [e_Machine_nextInput]
  unfold rb_Machine_nextInput
  rw [h111, if_neg (nz1 (by omega)), gd, if_pos (by decide), vK, show nI (c + 1) - 1 = nI c from nI_p1, stK, sI_v, gd, if_pos (nin (by omega) (by omega)), nc (by omega), stK, sI_ne (by omega)]
  rfl
theorem sA_n {g : Nat → Int32} (hk : k ≠ q) : (sA T q g).1 k = T.1 k := if_neg hk
theorem sA_g {g : Nat → Int32} : (sA T q g).1 q = g := if_pos rfl
theorem xe_3 (cx : CxP M0 T0 Sf) (h : Sim M0 T0 Sf G D nb mk rg na ng P W Fr Dp M T) (rn : RnO M T) (hn : fn (Fr Dp) = n) (hm : fm (Fr Dp) = m) (hn2 : n < 12000) (h51 : T0.1 51 0 = nI n1) (hm2 : m < n1) (h6 : n1 ≤ 6032) (hR : rOk M0 jj n) (hK : KrO (RgE (eN Sf (fit (Fr Dp))) (fS (Fr Dp))) (slF (fS (Fr Dp))) Sf T0 jj m) (hty : tyJ Sf (fS (Fr Dp)) jj (fst' (Fr Dp)) st') (hI : IvP Sf (fit (Fr Dp)) (fS (Fr Dp)) st' (fhs (Fr Dp))) (hnf : 16385 ≤ nf) (hd : 20 ≤ d) (hd' : 20 ≤ d') (hj : jj.1 = 3) : ExQ nf d d' M0 T0 Sf P W mk rg na ng Fr Dp M T st' (n + 1) (m + 1) := by
  rw [tyJ_1 (Or.inr hj)] at hty
  subst hty
  obtain ⟨w1, w2, w3, w4, w5, w6, w7, w8, w9⟩ := h.rw (n := n) (m := m)
  obtain ⟨b1, b2, b3, b4, b5⟩ := h.bd
  obtain ⟨fr, iv⟩ := h.fr
  have hc6 : cn Sf ≤ 6000 := by have := cx.2.1; omega
  have rowR := rO_n hR (by rw [hj]; decide)
  unfold rB at rowR
  rw [hj, if_neg (by decide), if_neg (by decide), if_neg (by decide), if_neg (by decide), if_neg (by decide), if_neg (by decide)] at rowR
  unfold KrO at hK
  rw [hj, if_neg (by decide), if_neg (by decide), if_pos (by decide)] at hK
  obtain ⟨c, i1, i2, i3, i4⟩ := h.2.2.2.2.1
  have w6' : (sI M 102 0 (nI (n + 1))).1 109 0 = nI (fph (Fr Dp) + (fst' (Fr Dp)).length) := by rw [tp_102 (by omega), w6]
  have w7' : (sI T 105 0 (nI (m + 1))).1 100 0 = nI (fbs (Fr Dp) + 80 + wsl Sf (fst' (Fr Dp))) := by rw [tp_105 (by omega), w7]
  have run : ∀ (x : Int32) (M2 : gSt), RR nf (d - 1) 119 (sI M 102 0 (nI (n + 1))) [] [] = some (x, 0, M2) → M2.1 109 0 = nI (fph (Fr Dp) + (fst' (Fr Dp)).length) → RR nf d 118 (sI M 102 0 (nI (n + 1))) [3, jj.2.1, 0, 0] [] = some (0, 0, rpT M2 (fph (Fr Dp) + (fst' (Fr Dp)).length) x (-1) 0 0) := fun x M2 hx h2 => by
    obtain ⟨d, rfl⟩ : ∃ g, d = g + 1 := ⟨d - 1, by omega⟩
    rw [Nat.add_sub_cancel] at hx
    rw [e_Model_run_IIII]
    unfold rb_Model_run_IIII
    rw [if_neg (by decide), if_neg (by decide), if_pos rfl, hx, bis, x_push h2 (by omega) (by omega), bis]
  have crun : ∀ (x : Int32) (T2 : gSt), PP nf (d' - 1) 204 (sI T 105 0 (nI (m + 1))) [] [] = some (x, 0, T2) → T2.1 100 0 = nI (fbs (Fr Dp) + 80 + wsl Sf (fst' (Fr Dp))) → dC nf d' (sI T 105 0 (nI (m + 1))) 6 0 0 = some (0, 0, stW T2 (fbs (Fr Dp) + 80 + wsl Sf (fst' (Fr Dp))) (fun _ => x) 1) := fun x T2 hx h2 => by
    obtain ⟨d', rfl⟩ : ∃ g, d' = g + 1 := ⟨d' - 1, by omega⟩
    rw [Nat.add_sub_cancel] at hx
    rw [dC_203 (by decide), e_Machine_doSimple]
    unfold rb_Machine_doSimple
    rw [if_neg (by decide), if_neg (by decide), if_neg (by decide), if_neg (by decide), if_pos rfl, hx, bis, c_push h2 (by omega) (by omega), bis, ps_stW]
  cases c with
  | zero =>
    have e1 : RR nf (d - 1) 119 (sI M 102 0 (nI (n + 1))) [] [] = some (0, 0, sI M 102 0 (nI (n + 1))) := by
      obtain ⟨d, rfl⟩ : ∃ g, d = g + 2 := ⟨d - 2, by omega⟩
      show RR nf (d + 1) 119 _ [] [] = _
      rw [e_Model_input_]
      unfold rb_Model_input_
      rw [tp_102 (by omega), i1, if_pos (show nI 0 = 0 from rfl)]
    have e2 : PP nf (d' - 1) 204 (sI T 105 0 (nI (m + 1))) [] [] = some (0, 0, sI T 105 0 (nI (m + 1))) := by
      obtain ⟨d', rfl⟩ : ∃ g, d' = g + 2 := ⟨d' - 2, by omega⟩
      show PP nf (d' + 1) 204 _ [] [] = _
      rw [e_Machine_nextInput]
      unfold rb_Machine_nextInput
      rw [tp_105 (by omega), i2, if_pos (show nI 0 = 0 from rfl)]
    exact ex_go (v := ((0 : Int32), 0, 0)) (f := fun _ => 0) (st := []) (s0 := fst' (Fr Dp)) cx h rn hn hm hn2 h51 hm2 h6 rowR (by decide) hK (by decide) rfl hI VTs_0 RV_0 (fun i _ => CW_0.symm) (run 0 _ e1 w6') (crun 0 _ e2 w7')
  | succ c =>
    have e1 := x_inp (M := sI M 102 0 (nI (n + 1))) (nf := nf) (d := d - 1) (c := c) (by rw [tp_102 (by omega)]; exact i1) (by omega) (by omega) (by omega)
    have e2 := c_inp (T := sI T 105 0 (nI (m + 1))) (nf := nf) (d := d' - 1) (c := c) (by rw [tp_105 (by omega)]; exact i2) (by omega) (by omega)
    have r1 := run _ _ e1 (by rw [inT_o (by omega), sI_ne (by omega)]; exact w6')
    have c1 := crun _ _ e2 (by rw [sA_n (by omega), sI_ne (by omega)]; exact w7')
    rw [sI_ne (g' := 151) (by omega)] at r1
    rw [sI_ne (g' := 110) (by omega)] at c1
    have e0 : M.1 151 0 = T.1 110 0 := i4 0 (by omega)
    have oM : ∀ k, ¬ (k = 102 ∨ k = 150 ∨ k = 151 ∨ (109 ≤ k ∧ k ≤ 113)) → (rpT (inT (sI (sI M 102 0 (nI (n + 1))) 150 0 (nI c)) c) (fph (Fr Dp) + (fst' (Fr Dp)).length) (M.1 151 0) (-1) 0 0).1 k = M.1 k := fun k hk => by
      rw [rp_o (by omega) (by omega) (by omega) (by omega) (by omega), inT_o (by omega), sI_ne (by omega), sI_ne (by omega)]
    have oT : ∀ k, ¬ (k = 99 ∨ k = 100 ∨ k = 105 ∨ k = 110 ∨ k = 111) → (stW (sA (sI (sI T 105 0 (nI (m + 1))) 111 0 (nI c)) 110 (va_cpy (T.1 110) (T.1 110) 1 0 c)) (fbs (Fr Dp) + 80 + wsl Sf (fst' (Fr Dp))) (fun _ => T.1 110 0) 1).1 k = T.1 k := fun k hk => by
      rw [stW_o (by omega) (by omega), sA_n (by omega), sI_ne (by omega), sI_ne (by omega)]
    have hH : HpI G D nb mk rg na ng P W (rpT (inT (sI (sI M 102 0 (nI (n + 1))) 150 0 (nI c)) c) (fph (Fr Dp) + (fst' (Fr Dp)).length) (M.1 151 0) (-1) 0 0) (stW (sA (sI (sI T 105 0 (nI (m + 1))) 111 0 (nI c)) 110 (va_cpy (T.1 110) (T.1 110) 1 0 c)) (fbs (Fr Dp) + 80 + wsl Sf (fst' (Fr Dp))) (fun _ => T.1 110 0) 1) := h.1.eq (fun k hk => oM k (by omega)) (fun k k1 k2 => oT k (by omega))
    obtain ⟨ov', hs'⟩ := Sim.ex (st := []) (s0 := fst' (Fr Dp)) (st' := 0 :: fst' (Fr Dp)) (n := n + 1) (m := m + 1) cx.1 hc6 h hH (fun _ _ => rfl) (Nat.le_refl _) h.2.2.2.2.2.2.2 rfl hI (fun k hk => oM k (by omega)) rfl (fun k q k1 k2 hq => by
      rw [rp_lo k1 hq, inT_o (by omega), sI_ne (by omega), sI_ne (by omega)]) (fun k hk => oT k (by omega)) (oT 121 (by omega)) rfl (fun q hq => by
      rw [stW_w, if_neg (by omega), sA_n (by omega), sI_ne (by omega), sI_ne (by omega)]) ⟨c, by rw [rp_o (by omega) (by omega) (by omega) (by omega) (by omega), inT_o (by omega), sI_v], by rw [stW_o (by omega) (by omega), sA_n (by omega), sI_v], by omega, fun j hj => by
      rw [rp_o (by omega) (by omega) (by omega) (by omega) (by omega), inT_r, if_pos rfl, if_pos hj, sI_ne (by omega), sI_ne (by omega), stW_o (by omega) (by omega), sA_g, pk_cpy_in (Nat.zero_le _) (by omega), i4 (j + 1) (by omega), show 1 + (j - 0) = j + 1 by omega]⟩ (fun o0 _ e4 => ⟨(M.1 151 0, 0, 0) :: o0, VTs_0, by
      rw [rp_v.1, rp_v.2.1, rp_v.2.2.1, rp_v.2.2.2]
      exact RV_0, fun i hi => by
      have i3 : i < 1 := hi
      rw [stW_w, if_pos (by omega), CW_0, e0], e4⟩) (by rw [rp_h, List.length_cons, Nat.add_assoc]) (by rw [stW_t, show wsl Sf (0 :: fst' (Fr Dp)) = wS Sf 0 + wsl Sf (fst' (Fr Dp)) from rfl, wS_0]; congr 1; omega) (by rw [rp_o (by omega) (by omega) (by omega) (by omega) (by omega), inT_o (by omega), sI_ne (by omega), sI_v]) (by rw [stW_o (by omega) (by omega), sA_n (by omega), sI_ne (by omega), sI_v])
    refine Or.inl ⟨_, _, G, D, nb, mk, ov', StR.of (by rw [w4, hn]) hn2 (by rw [w1]; exact rowR) (by decide) r1, StC.of (by rw [w5, hm]) (by rw [w3]; exact h51) h6 hm2 (by rw [w2]; exact hK) (by decide) c1, ⟨?_, ?_⟩, by omega, hs'⟩
    · rw [oM 100 (by omega)]; exact rn.1
    · rw [oT 106 (by omega)]; exact rn.2
end XEB
