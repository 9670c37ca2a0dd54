/-! the two BLOCKS of an if -/
section XJ
variable {nf d fl : Nat} {T T' T1 S : gSt} {X : Lx} {k i e it lo hi a b v g v' g' v1 g1 n s p m c c1 j : Nat} {x ys no x2 : Int32} {ta tb sa sb t : Tr}
theorem rs_fo {st kw lv rc : Int32} : FO T (kwS (rsS T st kw lv rc) x) := FO.rs.tr FO.kw
theorem kw_7 : (kwS T x).1 7 = T.1 7 := by
  unfold kwS
  split
  · rfl
  · exact sI_ne (by omega)
theorem rs_7 {st kw lv rc : Int32} : (rsS T st kw lv rc).1 7 = T.1 7 := by
  unfold rsS
  rw [sI_ne (by omega), sI_ne (by omega), sI_ne (by omega), sI_ne (by omega)]
theorem x_pr (hx : PI X) (hX : xn X ≤ 4000) (hA : CkB nf X it sa) (hB : CkB nf X it sb) (hm : m < 8200) (hlc : lo ≤ c) (hch : c ≤ hi) (hhi : hi ≤ 8200) (h51 : T.1 51 m = nI (xP X j)) (hR1 : RepS X T sa lo lo c (T.1 53 m)) (hR2 : RepS X T sb c c hi (T.1 54 m)) (wa : Ws X sa 2 a c1 v g v1 g1) (wb : if isZ sb = true then v' = v1 ∧ g' = g1 ∧ c1 ≤ b else Ws X sb 2 (c1 + 1) b v1 g1 v' g') (hbx : b ≤ xn X) (hP : Pre it T n v g s) (hN1 : n + bdT sa ≤ 41) (hN2 : n + bdT sb ≤ 41) (hs : s + (hi - lo) ≤ 8200) (hd1 : 3 * bdT sa + 300 ≤ d) (hd2 : 3 * bdT sb + 300 ≤ d) (hc : cn (prC X (stS X it sa) (stS X it sb) (isZ sb) ys no j (er T)) < 6000) : wp (prT nf d m ys no T) (fun _ _ T' => er T' = prC X (stS X it sa) (stS X it sb) (isZ sb) ys no j (er T) ∧ Fm X T T' lo hi a b ∧ (T'.1 7 0 = 0 → AnS X it T' sa lo lo c (T.1 53 m) 0 0 (kwS (er T) ys) ∧ (if isZ sb = true then T.1 54 m = -1 else AnS X it T' sb c c hi (T.1 54 m) 0 0 (kwS (rsS (stS X it sa 0 0 0 (kwS (er T) ys)) ((er T).1 81 0) ((er T).1 82 0) ((er T).1 75 0) ((er T).1 83 0)) no)))) := by
  obtain ⟨d', rfl⟩ : ∃ z, d = z + 2 := ⟨d - 2, by omega⟩
  have zm : inb (nI m) 8200 := nin (by omega) (by omega)
  have cm : (nI m).toNatClampNeg = m := nc (by omega)
  have moa := Ws_mo _ _ _ _ _ _ _ _ wa
  have hcb : c1 ≤ b := by
    by_cases z : isZ sb = true
    · rw [if_pos z] at wb; exact wb.2.2
    · rw [if_neg z] at wb
      have := Ws_mo _ _ _ _ _ _ _ _ wb
      omega
  have h83 : T.1 83 0 = 0 ∨ T.1 83 0 = 1 := hP.1.2.2.1
  unfold prT
  refine wp_be x_know (wp_gd zm ?_)
  rw [cm]
  have n1 : Nw T (kwS T ys) := Nw.fo FO.kw
  have e1 : er (kwS T ys) = kwS (er T) ys := er_kw
  have s1 : SK (er T) (er (kwS T ys)) v g n := by
    rw [e1]
    exact hP.1.fo FO.kw (by rw [kw_83]; exact hP.1.2.2.1)
  have z1 : (kwS T ys).1 7 0 = 0 := by rw [kw_7]; exact hP.2.2.2.2.2.2
  unfold prC at hc ⊢
  dsimp only at hc ⊢
  rw [← e1] at hc ⊢
  generalize kwS T ys = K at *
  have hPK : Pre it K n v g s := hP.st (n1.fm (X := X) (lo := 0) (hi := 0) (a := 0) (b := 0)) n1.1 s1.1 z1
  have hRK : RepS X K sa lo lo c (T.1 53 m) := hR1.sw n1.1 (fun q _ _ => by rw [n1.2 61 rfl])
  have fA := st_fs (X := X) (it := it) sa 0 0 0 (er K)
  have gA := fA.tg s1.1.1.1
  have h4 : FS (stS X it sa 0 0 0 (er K)) (if isZ sb = true then kwS (rsS (stS X it sa 0 0 0 (er K)) ((er T).1 81 0) ((er T).1 82 0) ((er T).1 75 0) ((er T).1 83 0)) no else stS X it sb 0 0 0 (kwS (rsS (stS X it sa 0 0 0 (er K)) ((er T).1 81 0) ((er T).1 82 0) ((er T).1 75 0) ((er T).1 83 0)) no)) := (FS.rs.tr FS.kw).tr (FS.if2 FS.rf (st_fs sb _ _ _ _))
  have cA : cn (stS X it sa 0 0 0 (er K)) < 6000 := by
    refine FS.lt (T' := _) ?_ gA hc
    exact FS.if2 (FS.if2 (h4.tr FS.mt) h4) FS.rf
  rw [n1.1.1 53 (by omega) (by omega) rfl]
  refine wp_bi (hA K (d' + 2) lo c a c1 v g v1 g1 n s (T.1 53 m) hRK (by omega) wa (by omega) hPK hN1 (by omega) hd1 cA) ?_
  intro r l U hQ
  have swU : SPw T U := n1.1.tr hQ.sw
  have fmU : Fm X T U lo hi a b := (n1.fm).trw (hQ.2.1.up (by omega) (by omega) (by omega) (by omega)) n1.1
  rw [← hQ.1] at hc h4 ⊢
  by_cases c0 : U.1 7 0 = 0
  · have c0' : (er U).1 7 0 = 0 := c0
    rw [if_pos c0'] at hc ⊢
    have s2 := st_inv (X := X) (it := it) sa 2 _ _ _ _ _ _ n wa (by omega) (by show n + bdT sa ≤ 41; exact hN1) 0 0 0 n (er K) (Nat.le_refl _) s1.1 cA (by rw [← hQ.1]; exact c0')
    rw [← hQ.1] at s2
    refine wp_be (x_bd0 c0) (wp_t rfl (wp_gd h83 (wp_be x_know (wp_gd zm ?_))))
    have eW : er (kwS (sI (sI (sI (sI U 81 0 (T.1 81 0)) 82 0 (T.1 82 0)) 75 0 (T.1 75 0)) 83 0 (T.1 83 0)) no) = kwS (rsS (er U) ((er T).1 81 0) ((er T).1 82 0) ((er T).1 75 0) ((er T).1 83 0)) no := by
      rw [er_kw]
      exact congrArg (fun z => kwS z no) er_rs
    have nW : Nw U (kwS (sI (sI (sI (sI U 81 0 (T.1 81 0)) 82 0 (T.1 82 0)) 75 0 (T.1 75 0)) 83 0 (T.1 83 0)) no) := Nw.fo rs_fo
    have zW : (kwS (sI (sI (sI (sI U 81 0 (T.1 81 0)) 82 0 (T.1 82 0)) 75 0 (T.1 75 0)) 83 0 (T.1 83 0)) no).1 7 0 = 0 := by
      rw [kw_7]
      exact (congrFun rs_7 0).trans c0
    have sW : SK (er U) (er (kwS (sI (sI (sI (sI U 81 0 (T.1 81 0)) 82 0 (T.1 82 0)) 75 0 (T.1 75 0)) 83 0 (T.1 83 0)) no)) v1 g1 n := by
      rw [eW]
      exact s2.1.fo rs_fo (by rw [kw_83, rs_83]; exact h83)
    rw [← eW] at hc h4 ⊢
    generalize kwS (sI (sI (sI (sI U 81 0 (T.1 81 0)) 82 0 (T.1 82 0)) 75 0 (T.1 75 0)) 83 0 (T.1 83 0)) no = W at *
    have swW : SPw T W := swU.tr nW.1
    have fmW : Fm X T W lo hi a b := fmU.trw nW.fm swU
    have w51 : W.1 51 m = nI (xP X j) := by rw [swW.1 51 (by omega) (by omega) rfl]; exact h51
    have u83 : U.1 83 0 = 0 ∨ U.1 83 0 = 1 := s2.1.2.2.1
    rw [swW.1 54 (by omega) (by omega) rfl]
    have e8x : (er U).1 81 0 = U.1 81 0 ∧ (er U).1 82 0 = U.1 82 0 ∧ (er U).1 75 0 = U.1 75 0 ∧ (er U).1 83 0 = U.1 83 0 := ⟨rfl, rfl, rfl, rfl⟩
    -- the end
    have fin : ∀ V : gSt, er V = (if isZ sb = true then er W else stS X it sb 0 0 0 (er W)) → SPw T V → Fm X T V lo hi a b → (V.1 7 0 = 0 → AnS X it V sa lo lo c (T.1 53 m) 0 0 (er K) ∧ (if isZ sb = true then T.1 54 m = -1 else AnS X it V sb c c hi (T.1 54 m) 0 0 (er W))) → wp (rj_Model_checkIf_161 (RR nf (d' + 2)) nf V (nI m) (U.1 81 0) (U.1 82 0) (U.1 75 0) (U.1 83 0)) (fun _ _ T' => er T' = (if (if isZ sb = true then er W else stS X it sb 0 0 0 (er W)).1 7 0 = 0 then mtS (if isZ sb = true then er W else stS X it sb 0 0 0 (er W)) ((er U).1 81 0) ((er U).1 82 0) ((er U).1 75 0) ((er U).1 83 0) (nI (xP X j)) else (if isZ sb = true then er W else stS X it sb 0 0 0 (er W))) ∧ Fm X T T' lo hi a b ∧ (T'.1 7 0 = 0 → AnS X it T' sa lo lo c (T.1 53 m) 0 0 (er K) ∧ (if isZ sb = true then T.1 54 m = -1 else AnS X it T' sb c c hi (T.1 54 m) 0 0 (er W)))) := by
      intro V eV swV fmV anV
      rw [← eV, e8x.1, e8x.2.1, e8x.2.2.1, e8x.2.2.2]
      rw [if_end hm (by rw [swV.1 51 (by omega) (by omega) rfl]; exact h51) u83]
      by_cases q : V.1 7 0 = 0
      · have q' : (er V).1 7 0 = 0 := q
        rw [if_pos q, if_pos q']
        have nM : Nw V (mtS V (U.1 81 0) (U.1 82 0) (U.1 75 0) (U.1 83 0) (nI (xP X j))) := Nw.fo FO.mt
        refine wp_some ⟨er_mt, fmV.trw nM.fm swV, fun _ => ⟨AnS.kp sa _ _ _ _ _ _ _ _ _ _ _ _ _ _ wa (by omega) nM.kp (anV q).1, ?_⟩⟩
        by_cases z : isZ sb = true
        · have := (anV q).2
          rw [if_pos z] at this ⊢
          exact this
        · have := (anV q).2
          rw [if_neg z] at this wb ⊢
          exact AnS.kp sb _ _ _ _ _ _ _ _ _ _ _ _ _ _ wb hbx nM.kp this
      · have q' : ¬ (er V).1 7 0 = 0 := q
        rw [if_neg q, if_neg q']
        exact wp_some ⟨rfl, fmV, fun z => absurd z q⟩
    have anW : AnS X it W sa lo lo c (T.1 53 m) 0 0 (er K) := AnS.kp sa _ _ _ _ _ _ _ _ _ _ _ _ _ _ wa (by omega) nW.kp (hQ.2.2 c0)
    by_cases z : isZ sb = true
    · have e54 : T.1 54 m = -1 := isZ_rep z hR2
      refine wp_t (by rw [e54]; decide) ?_
      refine fin W (by rw [if_pos z]) swW fmW (fun _ => ⟨anW, ?_⟩)
      rw [if_pos z]
      exact e54
    · rw [if_neg z] at wb
      obtain ⟨_, _, _, _, hsb, _, _⟩ := Ws_2 sb wb
      have x54 : T.1 54 m = nI c ∧ c < hi := by
        have h := hR2
        rw [hsb, RepS_n] at h
        exact ⟨h.1, h.2.1⟩
      refine wp_f (by rw [x54.1]; exact nI_pos (by omega)) (wp_gd zm ?_)
      have hPW : Pre it W n v1 g1 s := hP.st fmW swW sW.1 zW
      have hRW : RepS X W sb c c hi (T.1 54 m) := hR2.sw swW (fun q h1 h2 => by rw [nW.2 61 rfl, (hQ.2.1.1 q (by omega)).2, n1.2 61 rfl])
      have cB : cn (stS X it sb 0 0 0 (er W)) < 6000 := by
        rw [if_neg z] at hc
        refine FS.lt (T' := _) ?_ ((st_fs (X := X) (it := it) sb 0 0 0 (er W)).tg sW.1.1.1) hc
        exact FS.if2 FS.mt FS.rf
      have mob := Ws_mo _ _ _ _ _ _ _ _ wb
      refine wp_bi (hB W (d' + 2) c hi (c1 + 1) b v1 g1 v' g' n s (T.1 54 m) hRW hhi wb hbx hPW hN2 (by omega) hd2 cB) ?_
      intro r l V hV
      have swV : SPw T V := swW.tr hV.sw
      have fmV : Fm X T V lo hi a b := fmW.trw (hV.2.1.up (by omega) (by omega) (by omega) (by omega)) swW
      refine fin V (by rw [if_neg z]; exact hV.1) swV fmV (fun q => ⟨?_, ?_⟩)
      · exact AnS.kp sa _ _ _ _ _ _ _ _ _ _ _ _ _ _ wa (by omega) (Kp.fmw hx hV.sw hV.2.1 (by omega) (by omega) (by omega) (by omega)) anW
      · rw [if_neg z]
        exact hV.2.2 q
  · have c0' : ¬ (er U).1 7 0 = 0 := c0
    rw [if_neg c0'] at hc ⊢
    exact wp_be (x_bd1 c0) (wp_f (by decide) (wp_some ⟨rfl, fmU, fun q => absurd q c0⟩))
end XJ
