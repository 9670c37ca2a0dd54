/-! both machines: a ROW made -/
section MK6
variable {M0 T0 Sf S Sh : gSt} {G G' : GH} {D D' : Nat → (Nat → AV) × Nat} {nf d d' nb nb' mk mk' na na' ng ng' e bs ph bt rb tb ie en hb k q u s i j c t h P W Dp n m it n1 r o b f wd : Nat} {rg rg' : Nat → Nat} {ρ ρ' : Nat → Nat} {va : Nat → AV} {M M' Mo T T' T2 : gSt} {v : AV} {x a cc ee op y z w x1 bb : Int32} {st s0 st' : List Int32} {Fr : Nat → FRM} {jj : T5} {l ls : List Nat} {O : GO} {l1 : Int64}
theorem x_mr (h103 : M.1 103 0 = nI (e + 1)) (he : e < 40) (hs : s < 12) (hreg : (if s = 0 then 0 else M.1 121 (12 * e + s)) = nI r) (hd : 4 ≤ d) : RR nf d 118 M [15, nI s, cc, ee] [] = bi (bi (rb_Model_makeRow (RR nf (d - 3)) nf M (nI r) cc) (fun _ _ T => some (0, 0, T))) (fun _ _ T => some (0, 0, T)) := by
  obtain ⟨d, rfl⟩ : ∃ g, d = g + 3 := ⟨d - 3, by omega⟩
  rw [Nat.add_sub_cancel, e_Model_run_IIII]
  unfold rb_Model_run_IIII
  have reg := x_regM (nf := nf) (d := d + 1) h103 he hs (by omega)
  rw [hreg] at reg
  rw [if_neg (by decide), if_neg (by decide), if_neg (by decide), if_neg (by decide), if_neg (by decide), if_neg (by decide), if_neg (by decide), if_neg (by decide), if_neg (by decide), if_neg (by decide), if_neg (by decide), if_neg (by decide), if_neg (by decide), if_neg (by decide), if_pos rfl, e_Model_makeBy]
  unfold rb_Model_makeBy
  rw [reg, bis, if_pos rfl, e_Model_makeRow]
theorem mr_z (h109 : M.1 109 0 = nI (h + 2)) : M.1 109 0 - 2 = nI h := by
  rw [h109, show nI (h + 2) = nI h + 2 from Int32.ofNat_add _ _]
  exact Int32.add_sub_cancel _ _
theorem mr_neg (h109 : M.1 109 0 = nI (h + 2)) (h8 : h < 8200) (hx : ¬ 0 ≤ M.1 110 h) (hr : RR nf d 114 M [5] [] = some (z, l1, M')) : rb_Model_makeRow (RR nf d) nf M x cc = some (0, 0, M') := by
  unfold rb_Model_makeRow
  rw [mr_z h109, gd, if_pos (nin h8 (by omega)), nc (by omega), vK, if_neg hx, hr, bis]
theorem mr_1 (h109 : M.1 109 0 = nI (h + 2)) (h8 : h < 8200) (hx : M.1 110 h = nI k) (hk : k < 2 ^ 31) : rb_Model_makeRow (RR nf d) nf M x cc = bi (RR nf d 110 M [x, nI k] [(nI k).toInt64 * cc.toInt64]) (fun r4 _ T4 => if r4 = -1 then some (0, 0, T4) else rl_Model_makeRow_45 (RR nf d) nf nf T4 (nI k) r4 0) := by
  unfold rb_Model_makeRow
  rw [mr_z h109, gd, if_pos (nin h8 (by omega)), nc (by omega), vK, hx, if_pos (show (0 : Int32) ≤ nI k by
    rw [Int32.le_iff_toInt_le, nI_toInt hk]
    show (0 : Int) ≤ (k : Int)
    omega)]
theorem mr_0 (h109 : M.1 109 0 = nI (h + 2)) (h8 : h < 8200) (hnf : 1 ≤ nf) (hd : 1 ≤ d) : rl_Model_makeRow_45 (RR nf d) nf nf M 0 (-2) 0 = some (0, 0, rpT M h 0 (-2) 0 0) := by
  obtain ⟨nf, rfl⟩ : ∃ g, nf = g + 1 := ⟨nf - 1, by omega⟩
  rw [rl_Model_makeRow_45, if_pos (by decide), mr_z h109, stK, if_neg (by decide), x_push (h := h) (by rw [sI_v]) h8 hd, bis, rp_h, show nI (h + 1) - 1 = nI h from nI_p1, gd, if_pos (nin h8 (by omega)), nc (by omega), stK, rp_113, rp_109]
theorem mr_L (ho : o < 4096) (hb : M.1 138 o = bb) (hn : M.1 140 o = nI ls.length) (hl : ls.length < 100) (hc : chn (M.1 149) (M.1 139 o) ls) (hh : M.1 109 0 = nI (h + 2)) (h8 : h + 100 < 8200) (hnf : 200 < nf) (hd : 3 ≤ d) : ∀ (j i fl : Nat), j + i = ls.length → j < fl → rl_Model_makeRow_45 (RR nf d) nf fl (ptsT M ls (fun _ => h + 1) i) (nI ls.length) (nI o) (nI i) = some (0, 0, rpT (ptsT M ls (fun _ => h + 1) ls.length) h 0 (nI o) bb (nI ls.length)) := by
  have zo : inb (nI o) 4096 := nin ho (by omega)
  have eo : ∀ i k, ¬ (144 ≤ k ∧ k ≤ 148) → (ptsT M ls (fun _ => h + 1) i).1 k = M.1 k := fun i k hk => ptsT_o hk i
  intro j
  induction j with
  | zero =>
    intro i fl h1 h2
    obtain ⟨fl, rfl⟩ : ∃ g, fl = g + 1 := ⟨fl - 1, by omega⟩
    have ei : i = ls.length := by omega
    subst ei
    rw [rl_Model_makeRow_45, if_pos (Int32.le_refl _), mr_z (h := h) (by rw [eo _ 109 (by omega)]; exact hh), stK, if_pos (show (0 : Int32) ≤ nI o by
      rw [Int32.le_iff_toInt_le, nI_toInt (by omega)]
      show (0 : Int) ≤ (o : Int)
      omega), gd, if_pos zo, nc (by omega), sI_ne (g' := 138) (by omega), eo _ 138 (by omega), hb, x_push (h := h) (by rw [sI_v]) (by omega) (by omega), bis, rp_h, show nI (h + 1) - 1 = nI h from nI_p1, gd, if_pos (nin (by omega) (by omega)), nc (by omega), stK, rp_113, rp_109]
  | succ j ih =>
    intro i fl h1 h2
    obtain ⟨fl, rfl⟩ : ∃ g, fl = g + 1 := ⟨fl - 1, by omega⟩
    rw [rl_Model_makeRow_45, if_neg (show ¬ nI ls.length ≤ nI i from fun q => by
      have := (nI_leI (a := ls.length) (b := i) (by omega) (by omega)).mp q
      omega), gd, if_pos zo, nc (by omega), eo _ 138 (by omega), hb, eo _ 109 (by omega), hh, show nI (h + 2) - 1 = nI (h + 1) from nI_p1, x_put (l := ls) (k := i) (p := h + 1) ho (by rw [eo _ 138 (by omega)]; exact hb) (by rw [eo _ 140 (by omega)]; exact hn) (by omega) (by rw [eo _ 149 (by omega), eo _ 139 (by omega)]; exact hc) (by omega) (by omega) (by omega) (by omega), bis, vK, nI_1]
    exact ih (i + 1) fl (by omega) (by omega)
/-- a ROW of k places -/
theorem x_mrK {Mp : gSt} {fr' : List Nat} (ho : o < 4096) (hc : chn (Mp.1 149) (Mp.1 143 0) (l ++ fr')) (hn : (l ++ fr').Nodup) (hl : l.length = k) (hk : k < 100) (h137 : Mp.1 137 0 = nI nb) (h109 : Mp.1 109 0 = nI (h + 2)) (h8 : h + 200 < 8200) (hnf : 200 < nf) (hd : 3 ≤ d) : (if nI o = -1 then some (0, 0, tkT o l (mkB (mkU Mp r y) r o (nI k))) else rl_Model_makeRow_45 (RR nf d) nf nf (tkT o l (mkB (mkU Mp r y) r o (nI k))) (nI k) (nI o) 0) = some (0, 0, rpT (ptsT (tkT o l (mkB (mkU Mp r y) r o (nI k))) l.reverse (fun _ => h + 1) k) h 0 (nI o) (nI (nb + 1)) (nI k)) := by
  have e : ∀ q, q = 137 ∨ q = 149 ∨ q = 143 ∨ q = 109 → (mkU Mp r y).1 q = Mp.1 q := fun q hq => by
    unfold mkU mkN0
    rw [sI_ne (by omega), sI_ne (by omega), sI_ne (by omega), sI_ne (by omega)]
  obtain ⟨s1, s2, s3⟩ := mk_slot (M := mkU Mp r y) (r := r) (o := o) (x := nI k) (nb := nb) (by rw [e 149 (by omega), e 143 (by omega)]; exact hc) hn (by rw [e 137 (by omega)]; exact h137)
  have t109 : (tkT o l (mkB (mkU Mp r y) r o (nI k))).1 109 0 = nI (h + 2) := by
    rw [tkT_o (by omega) (by omega) (by omega) (by omega)]
    unfold mkB
    rw [sI_ne (by omega), sI_ne (by omega), sI_ne (by omega), sI_ne (by omega), sI_ne (by omega), sI_ne (by omega), e 109 (by omega)]
    exact h109
  generalize tkT o l (mkB (mkU Mp r y) r o (nI k)) = Mo at *
  have lr : l.reverse.length = k := by rw [List.length_reverse, hl]
  rw [if_neg (nI_n1 (by omega))]
  have := mr_L (bb := nI (nb + 1)) (M := Mo) (nf := nf) (d := d) (ls := l.reverse) (h := h) ho s2 (by rw [lr]; exact s3) (by omega) s1 t109 (by omega) hnf hd k 0 nf (by omega) (by omega)
  rw [lr] at this
  exact this
end MK6
