/-! the text may change while a program runs */
-/
def tx (M0 M' : gSt) : gSt := (fun k => if k ≤ 1 then M'.1 k else M0.1 k, M0.2)
section SWJ
variable {M0 T0 M T M' T' Sf : gSt} {G : GH} {D : Nat → (Nat → AV) × Nat} {nb mk na ng P W Dp n1 n27 u it K B : Nat} {rg : Nat → Nat} {Fr : Nat → FRM}
theorem tx_o {k : Nat} (h : 2 ≤ k) : (tx M0 M').1 k = M0.1 k := by
  show (if k ≤ 1 then M'.1 k else M0.1 k) = M0.1 k
  rw [if_neg (by omega)]
theorem tx_rOk : rOk (tx M0 M') = rOk M0 := rfl
theorem tx_rw : rwC4 (tx M0 M') = rwC4 M0 := rfl
theorem tx_cw : cw3 (tx T0 T') = cw3 T0 := rfl
theorem tx_rP : rP (tx M0 M') = rP M0 := rfl
theorem tx_ty {R : RgR} : TyR R Sf (tx T0 T') = TyR R Sf T0 := by
  funext f
  induction f with
  | zero => rfl
  | succ f ih =>
    funext x y
    rw [TyR, TyR, ih]
    rfl
theorem tx_kr {R : RgR} {sl : Int32 → Int32} : KrO R sl Sf (tx T0 T') = KrO R sl Sf T0 := by
  funext j n
  unfold KrO wdR itR
  simp only [tx_ty]
  rfl
theorem tx_pl {R : RgR} {u : Nat} {b : Bool} : PlW R Sf (tx T0 T') u b = PlW R Sf T0 u b := by
  funext l n
  unfold PlW wdR itR
  simp only [tx_ty]
  rfl
theorem tx_hd : HdS (tx T0 T') Sf n1 it = HdS T0 Sf n1 it := rfl
theorem tx_gd : ∀ k, Gdk (tx M0 M') (tx T0 T') Sf n1 it k = Gdk M0 T0 Sf n1 it k := by
  intro k
  induction k with
  | zero => rfl
  | succ k ih =>
    funext n m S st hs
    unfold Gdk GRu gSTEP gEX gCALL gGOR gGO gIF gIFN gLIF gLNS gSTO gPUT gOUT gRZ gDR gDR0 gENT gSHT gLVL gLVD gTRS gTRD gBK
    simp only [ih, tx_kr, tx_pl, tx_rw, tx_cw, tx_rOk, tx_rP, tx_hd]
theorem tx_it {t c m : Nat} : ItQ Sf (tx T0 T') t c m = ItQ Sf T0 t c m := rfl
theorem tx_ti : TiO Sf (tx T0 T') G nb = TiO Sf T0 G nb := rfl
theorem tx_hs : ∀ hs : List HD, HsG (tx M0 M') (tx T0 T') Sf n1 K it hs = HsG M0 T0 Sf n1 K it hs := by
  intro hs
  induction hs with
  | nil => rfl
  | cons h tl ih => rw [HsG, HsG, ih, tx_gd, tx_hd]
theorem tx_lk {F F' : FRM} : LkG (tx M0 M') (tx T0 T') Sf n1 K F F' = LkG M0 T0 Sf n1 K F F' := by
  unfold LkG
  rw [tx_gd]
theorem Sim.ch {M0' T0' : gSt} (hR : Rws Sf) (hc : cn Sf ≤ 6000) (h : Sim M0 T0 Sf G D nb mk rg na ng P W Fr Dp M T) (hM : ∀ k, 100 ≤ k → k ≠ 150 → k ≠ 151 → M'.1 k = M.1 k) (hT : ∀ k, 99 ≤ k → k ≠ 110 → k ≠ 111 → T'.1 k = T.1 k) (hI : InO M' T') (hP : PgO M0' T0' M' T') (hTi : TiO Sf T0' G nb) : Sim M0' T0' Sf G D nb mk rg na ng P W Fr Dp M' T' := by
  obtain ⟨h1, ⟨h2, h3, h4⟩, ⟨f1, f2, f3, f4, f5, f6⟩, ⟨t1, t2, t3, t4, t5, t6, t7⟩, hIn, hCo, hPg, _⟩ := h
  refine ⟨h1.eq (fun k hk => hM k (by omega) (by omega) (by omega)) (fun k k1 k2 => hT k (by omega) (by omega) (by omega)), ⟨h2, by rw [hM 103 (by omega) (by omega) (by omega)]; exact h3, by rw [hT 102 (by omega) (by omega) (by omega)]; exact h4⟩, ⟨fun e he => ⟨?_, (f1 e he).2⟩, fun e he => ?_, f3, f4, f5, f6⟩, ⟨by rw [hM 109 (by omega) (by omega) (by omega)]; exact t1, by rw [hT 100 (by omega) (by omega) (by omega)]; exact t2, t3, by rw [hM 123 (by omega) (by omega) (by omega)]; exact t4, by rw [hT 104 (by omega) (by omega) (by omega)]; exact t5, by rw [hM 102 (by omega) (by omega) (by omega)]; exact t6, by rw [hT 105 (by omega) (by omega) (by omega)]; exact t7⟩, hI, hCo.eq (fun k hk => hM k (by omega) (by omega) (by omega)) (fun k hk => hT k (by omega) (by omega) (by omega)) (fun q _ => by rw [hT 101 (by omega) (by omega) (by omega)]), hP, hTi⟩
  · exact FrO.mo hR hc (f1 e he).1 (f1 e he).2 (fun _ _ => rfl) (Nat.le_refl _) (fun _ _ w => w) (fun _ _ => rfl) (Nat.le_refl _) (fun k k1 k2 => hM k (by omega) (by omega) (by omega)) (fun k q k1 k2 _ => by rw [hM k (by omega) (by omega) (by omega)]) (fun k q k1 k2 _ => by rw [hM k (by omega) (by omega) (by omega)]) (fun w _ => by rw [hT 101 (by omega) (by omega) (by omega)]) (fun q _ => by rw [hT 103 (by omega) (by omega) (by omega)]) (fun q _ => by rw [hT 99 (by omega) (by omega) (by omega)])
  · have := f2 e he
    unfold LnO at this ⊢
    rw [hM 114 (by omega) (by omega) (by omega), hT 101 (by omega) (by omega) (by omega)]
    exact this
/-- only the text is another */
-/
def TxE (M M' : gSt) : Prop := (∀ k, 2 ≤ k → M'.1 k = M.1 k) ∧ M'.2 = M.2
theorem PgO.tx (h : PgO M0 T0 M T) (hM : TxE M M') (hT : TxE T T') : PgO (tx M0 M') (tx T0 T') M' T' := by
  refine ⟨fun k hk => ?_, hM.2.trans h.2.1, fun k hk => ?_, hT.2.trans h.2.2.2⟩
  · by_cases c : k ≤ 1
    · show M'.1 k = (if k ≤ 1 then M'.1 k else M0.1 k)
      rw [if_pos c]
    · rw [tx_o (by omega), hM.1 k (by omega), h.1 k hk]
  · by_cases c : k ≤ 1
    · show T'.1 k = (if k ≤ 1 then T'.1 k else T0.1 k)
      rw [if_pos c]
    · rw [tx_o (by omega), hT.1 k (by omega), h.2.2.1 k hk]
theorem GoO.tx (hR : Rws Sf) (hc : cn Sf ≤ 6000) (h : GoO M0 T0 Sf n1 K P W B M T) (hM : TxE M M') (hT : TxE T T') : GoO (tx M0 M') (tx T0 T') Sf n1 K P W B M' T' := by
  obtain ⟨G, D, nb, mk, rg, na, ng, Fr, Dp, ⟨⟨sim, rn, h3, h4⟩, gd⟩, st, hle⟩ := h
  have sim' := Sim.ch (M' := M') (T' := T') hR hc sim (fun k k1 _ _ => hM.1 k (by omega)) (fun k k1 _ _ => hT.1 k (by omega)) (sim.2.2.2.2.1.eq (fun k hk => hM.1 k (by omega)) (fun k hk => hT.1 k (by omega))) (sim.2.2.2.2.2.2.1.tx hM hT) (by rw [tx_ti]; exact sim.2.2.2.2.2.2.2)
  refine ⟨G, D, nb, mk, rg, na, ng, Fr, Dp, ⟨⟨sim', ⟨by rw [hM.1 100 (by omega)]; exact rn.1, by rw [hT.1 106 (by omega)]; exact rn.2⟩, fun e he => by rw [tx_hs]; exact h3 e he, fun e he => by rw [tx_lk]; exact h4 e he⟩, by rw [tx_gd]; exact gd⟩, st, ?_⟩
  have e1 : prN M' = prN M := by unfold prN; rw [hM.1 104 (by omega)]
  rw [e1]
  exact hle
theorem EnO.tx (h : EnO M0 T0 P W M T) (hM : TxE M M') (hT : TxE T T') : EnO (tx M0 M') (tx T0 T') P W M' T' := by
  obtain ⟨G, D, nb, mk, rg, na, ng, e, ⟨f1, f2, f3, f4⟩, h1, h2, h3, h4, h5, h6⟩ := h
  refine ⟨G, D, nb, mk, rg, na, ng, e, ⟨f1.eq (fun k hk => hM.1 k (by omega)) (fun k k1 k2 => hT.1 k (by omega)), f2.eq (fun k hk => hM.1 k (by omega)) (fun k hk => hT.1 k (by omega)), f3.eq (fun k hk => hM.1 k (by omega)) (fun k hk => hT.1 k (by omega)) (fun q _ => by rw [hT.1 101 (by omega)]), f4.tx hM hT⟩, ?_, ?_, h3, ?_, ?_, ?_⟩
  · rw [hM.1 103 (by omega)]; exact h1
  · rw [hT.1 102 (by omega)]; exact h2
  · rw [hM.1 100 (by omega), hT.1 106 (by omega)]; exact h4
  · rw [hM.1 100 (by omega)]; exact h5
  · rw [hM.1 100 (by omega), hM.1 108 (by omega), hT.1 107 (by omega)]; exact h6
/-- an input comes */
-/
theorem GoO.inp (hR : Rws Sf) (hc : cn Sf ≤ 6000) (h : GoO M0 T0 Sf n1 K P W B M T) (hM : ∀ k, k ≠ 150 → k ≠ 151 → M'.1 k = M.1 k) (hM2 : M'.2 = M.2) (hT : ∀ k, k ≠ 110 → k ≠ 111 → T'.1 k = T.1 k) (hT2 : T'.2 = T.2) (hI : InO M' T') : GoO M0 T0 Sf n1 K P W B M' T' := by
  obtain ⟨G, D, nb, mk, rg, na, ng, Fr, Dp, ⟨⟨sim, rn, h3, h4⟩, gd⟩, st, hle⟩ := h
  have sim' := Sim.ch (M' := M') (T' := T') hR hc sim (fun k k1 k2 k3 => hM k k2 k3) (fun k k1 k2 k3 => hT k k2 k3) hI (sim.2.2.2.2.2.2.1.eq (fun k hk => hM k (by omega) (by omega)) hM2 (fun k hk => hT k (by omega) (by omega)) hT2) sim.2.2.2.2.2.2.2
  refine ⟨G, D, nb, mk, rg, na, ng, Fr, Dp, ⟨⟨sim', ⟨by rw [hM 100 (by omega) (by omega)]; exact rn.1, by rw [hT 106 (by omega) (by omega)]; exact rn.2⟩, h3, h4⟩, gd⟩, st, ?_⟩
  have e1 : prN M' = prN M := by unfold prN; rw [hM 104 (by omega) (by omega)]
  rw [e1]
  exact hle
theorem PgA.tx (h : PgA M0 T0 Sf n1 n27 u) : PgA (tx M0 M') (tx T0 T') Sf n1 n27 u := by
  obtain ⟨⟨c1, c2, c3, c4, c5, c6⟩, h2, h3, h4⟩ := h
  refine ⟨⟨c1, c2, fun k hk => by rw [tx_o (by omega)]; exact c3 k hk, c4, c5, c6⟩, h2, fun t ht h12 => ?_, h4⟩
  obtain ⟨S', n', m', fb, hg⟩ := h3 t ht h12
  refine ⟨S', n', m', fb, ?_⟩
  rcases hg with ⟨a1, a2⟩ | hg
  · exact Or.inl ⟨a1, fun k => by rw [tx_gd]; exact a2 k⟩
  · exact Or.inr hg
end SWJ
