/-! the reference's machine: something catches; a call ends -/
section RM9
variable {M M' V : gSt} {nf d t a b c k n m i q fl o h p e u en f j tb : Nat} {w x y z v r1 : Int32} {l1 : Int64}
def rzM (M : gSt) (k e : Nat) : gSt := sI (sI (sI (sI M 106 0 (M.1 106 0 + 1)) 123 0 (nI k)) 103 0 (nI (e + 1))) 109 0 (M.1 126 k)
theorem x_raise1 (h123 : M.1 123 0 = nI (k + 1)) (hk : k < 900) (h125 : M.1 125 k = nI (e + 1)) (he : e < 40) (h128 : M.1 128 k = nI c) (hc : c < 40) (hd : 1 ≤ d) (hsh : RR nf (d - 1) 109 (rzM M k e) [M.1 127 k] [] = some (r1, l1, V)) (hV : V.1 123 0 = nI k) (hV2 : V.1 124 = M.1 124) (hV3 : V.1 128 = M.1 128) (hV4 : V.1 103 0 = nI (e + 1)) : RR nf d 114 M [x] [] = some (0, 0, sI (sI V 102 0 (M.1 124 k)) 122 (40 * e + c) x) := by
  obtain ⟨d, rfl⟩ : ∃ g, d = g + 1 := ⟨d - 1, by omega⟩
  rw [Nat.add_sub_cancel] at hsh
  have zk : inb (nI k) 900 := nin hk (by omega)
  have ck : (nI k).toNatClampNeg = k := nc (by omega)
  unfold rzM at hsh
  rw [e_Model_raise]
  unfold rb_Model_raise
  rw [stK, sI_ne (g := 106) (g' := 123) (by omega), h123, if_neg (nz1 (by omega)), show nI (k + 1) - 1 = nI k from nI_p1, stK, sI_v, gd, if_pos zk, ck, sI_ne (g := 123) (g' := 125) (by omega), sI_ne (g := 106) (g' := 125) (by omega), h125, stK, sI_ne (g := 103) (g' := 123) (by omega), sI_v, gd, if_pos zk, ck, sI_ne (g := 103) (g' := 126) (by omega), sI_ne (g := 123) (g' := 126) (by omega), sI_ne (g := 106) (g' := 126) (by omega), stK, sI_ne (g := 109) (g' := 123) (by omega), sI_ne (g := 103) (g' := 123) (by omega), sI_v, gd, if_pos zk, ck, sI_ne (g := 109) (g' := 127) (by omega), sI_ne (g := 103) (g' := 127) (by omega), sI_ne (g := 123) (g' := 127) (by omega), sI_ne (g := 106) (g' := 127) (by omega), hsh, bis, hV, gd, if_pos zk, ck, hV2, stK, sI_ne (g := 102) (g' := 123) (by omega), hV, gd, if_pos zk, ck, sI_ne (g := 102) (g' := 103) (by omega), hV4, sI_ne (g := 102) (g' := 128) (by omega), hV3, h128, show nI (e + 1) - 1 = nI e from nI_p1, show (40 : Int32) * nI e = nI (40 * e) from (Int32.ofNat_mul 40 e).symm, show nI (40 * e) + nI c = nI (40 * e + c) from (Int32.ofNat_add _ _).symm, gd, if_pos (nin (by omega) (by omega)), nc (m := 40 * e + c) (by omega), stK]
theorem x_back (h103 : M.1 103 0 = nI (e + 1)) (he : e < 40) (h123 : M.1 123 0 = nI (tb + j)) (hj : tb + j ≤ 900) (hin : ∀ i, i < j → M.1 125 (tb + i) = nI (e + 1)) (hout : tb = 0 ∨ ∃ e', M.1 125 (tb - 1) = nI e' ∧ e' ≤ e) (hnf : 1000 < nf) (hd : 3 ≤ d) (hsh : RR nf (d - 2) 109 (sI (sI M 103 0 (nI e)) 123 0 (nI tb)) [M.1 116 e] [] = some (r1, l1, V)) (hV : V.1 103 0 = nI e) (hV2 : V.1 114 = M.1 114) : RR nf d 118 M [28, x, y, z] [] = some (0, 0, if e = 0 then sI V 100 0 2 else sI V 102 0 (M.1 114 e)) := by
  obtain ⟨d, rfl⟩ : ∃ g, d = g + 2 := ⟨d - 2, by omega⟩
  rw [Nat.add_sub_cancel] at hsh
  have fin : rj_Model_back_48 (RR nf d) nf (sI (sI M 103 0 (nI e)) 123 0 (nI tb)) = some (0, 0, if e = 0 then sI V 100 0 2 else sI V 102 0 (M.1 114 e)) := by
    unfold rj_Model_back_48
    rw [sI_ne (g := 123) (g' := 103) (by omega), sI_v, gd, if_pos (nin (by omega) (by omega)), nc (by omega), sI_ne (g := 123) (g' := 116) (by omega), sI_ne (g := 103) (g' := 116) (by omega), hsh, bis, hV]
    by_cases c : e = 0
    · subst c
      rw [if_pos (show nI 0 = 0 from rfl), if_pos rfl, stK]
    · rw [if_neg (show ¬ nI e = 0 from fun w => c (nI_inj (a := e) (b := 0) (by omega) (by omega) w)), if_neg c, gd, if_pos (nin (by omega) (by omega)), nc (by omega), hV2, stK]
  have go : ∀ (i fl : Nat), i ≤ j → i < fl → rl_Model_back_10 (RR nf d) nf fl (sI (sI M 103 0 (nI e)) 123 0 (nI (tb + i))) = some (0, 0, if e = 0 then sI V 100 0 2 else sI V 102 0 (M.1 114 e)) := by
    intro i
    induction i with
    | zero =>
      intro fl h1 h2
      obtain ⟨fl, rfl⟩ : ∃ g, fl = g + 1 := ⟨fl - 1, by omega⟩
      rw [rl_Model_back_10, sI_v, Nat.add_zero]
      by_cases t0 : tb = 0
      · subst t0
        rw [if_pos (by decide)]
        exact fin
      · obtain ⟨e', e1, e2⟩ := hout.resolve_left t0
        rw [if_neg (nI_np (by omega) (by omega)), show nI tb - 1 = nI (tb - 1) by rw [show tb = tb - 1 + 1 by omega]; exact nI_p1, gd, if_pos (nin (by omega) (by omega)), nc (by omega), sI_ne (g := 123) (g' := 125) (by omega), sI_ne (g := 103) (g' := 125) (by omega), e1, sI_ne (g := 123) (g' := 103) (by omega), sI_v, if_pos ((nI_leI (by omega) (by omega)).mpr e2)]
        exact fin
    | succ i ih =>
      intro fl h1 h2
      obtain ⟨fl, rfl⟩ : ∃ g, fl = g + 1 := ⟨fl - 1, by omega⟩
      rw [rl_Model_back_10, sI_v, if_neg (nI_np (by omega) (by omega)), show nI (tb + (i + 1)) - 1 = nI (tb + i) from nI_p1, gd, if_pos (nin (by omega) (by omega)), nc (by omega), sI_ne (g := 123) (g' := 125) (by omega), sI_ne (g := 103) (g' := 125) (by omega), hin i (by omega), sI_ne (g := 123) (g' := 103) (by omega), sI_v, if_neg (show ¬ nI (e + 1) ≤ nI e from fun q => by
        have := (nI_leI (a := e + 1) (b := e) (by omega) (by omega)).mp q
        omega), stK, sI_ow]
      exact ih fl (by omega) (by omega)
  rw [e_Model_run_IIII]
  unfold rb_Model_run_IIII
  rw [if_neg (by decide), if_neg (by decide), if_neg (by decide), if_neg (by decide), if_neg (by decide), if_neg (by decide), if_neg (by decide), if_neg (by decide), if_neg (by decide), if_neg (by decide), if_neg (by decide), if_neg (by decide), if_neg (by decide), if_neg (by decide), if_neg (by decide), if_neg (by decide), if_neg (by decide), if_neg (by decide), if_neg (by decide), if_neg (by decide), if_neg (by decide), if_neg (by decide), if_neg (by decide), if_neg (by decide), if_neg (by decide), if_neg (by decide), if_neg (by decide), if_pos rfl, e_Model_back]
  unfold rb_Model_back
  rw [h103, show nI (e + 1) - 1 = nI e from nI_p1, stK]
  have := go j nf (Nat.le_refl _) (by omega)
  rw [← h123, sI_idx (M := sI M 103 0 (nI e)) (k := 123) (q := 0) (by rw [sI_ne (by omega)])] at this
  exact (congrArg (fun z => bi z (fun _ _ T47 => some ((0 : Int32), (0 : Int64), T47))) this).trans bis
end RM9
