/-! region: checkRegion 82 -/
section XR
variable {nf d fl : Nat} {T T' T1 S : gSt} {X : Lx} {k i e it lo hi a b v g v' g' n s p m c u : Nat} {x ys no x2 : Int32} {ta tb t : Tr}
/-- the state when the loop over the ways in is through -/
def rgP (T : gSt) (u : Nat) (c : Int32) (z : Int32) : gSt := sI (sI (sI T 86 0 (T.1 86 0 + 1)) 48 u c) 74 c.toNatClampNeg z
theorem sI_2 {T : gSt} {g i : Nat} {y z : Int32} : sI (sI T g i y) g i z = sI T g i z := by
  unfold sI
  refine Prod.ext ?_ rfl
  funext k
  dsimp only
  by_cases h : k = g
  · subst h
    funext j
    by_cases q : j = i <;> simp [upd, q]
  · simp only [if_neg h]
theorem rg_loop (hm : m < 8200) (hg : g < 8) (hn : n ≤ 40) (h84 : T.1 84 0 = nI n) : ∀ (k j fl : Nat) (z : Int32), j + k = n → k < fl → rl_Model_checkRegion_73 (RR nf d) nf fl (rgP T u (nI (4 + g)) z) (nI m) (nI u) (nI (4 + g)) (nI j) = rl_Model_checkRegion_73 (RR nf d) nf (fl - k) (rgP T u (nI (4 + g)) (inL T k j z)) (nI m) (nI u) (nI (4 + g)) (nI n) := by
  have z4 : inb (nI (4 + g)) 12 := nin (by omega) (by omega)
  have c4 : (nI (4 + g)).toNatClampNeg = 4 + g := nc (by omega)
  have o84 : ∀ z, (rgP T u (nI (4 + g)) z).1 84 0 = nI n := by
    intro z
    unfold rgP
    rw [sI_ne (by omega), sI_ne (by omega), sI_ne (by omega)]
    exact h84
  have o85 : ∀ z j, (rgP T u (nI (4 + g)) z).1 85 j = T.1 85 j := by
    intro z j
    unfold rgP
    rw [sI_ne (by omega), sI_ne (by omega), sI_ne (by omega)]
  intro k
  induction k with
  | zero =>
    intro j fl z hj hf
    obtain rfl : j = n := by omega
    rfl
  | succ k ih =>
    intro j fl z hj hf
    obtain ⟨fl', rfl⟩ : ∃ q, fl = q + 1 := ⟨fl - 1, by omega⟩
    have zj : inb (nI j) 40 := nin (by omega) (by omega)
    have cj : (nI j).toNatClampNeg = j := nc (by omega)
    have ef : fl' + 1 - (k + 1) = fl' - k := by omega
    have hlt : ¬ nI n ≤ nI j := fun q => by
      have := (nI_leI (by omega) (by omega)).mp q
      omega
    rw [ef, rl_Model_checkRegion_73, o84, if_neg hlt, inL]
    rw [gd, if_pos zj, cj, o85]
    by_cases q : T.1 85 j ≤ 0
    · rw [if_pos q, if_pos q]
      show rl_Model_checkRegion_73 (RR nf d) nf fl' (rgP T u (nI (4 + g)) z) (nI m) (nI u) (nI (4 + g)) (nI j + 1) = _
      rw [nI_1]
      exact ih (j + 1) fl' z (by omega) (by omega)
    · rw [if_neg q, if_neg q, gd, if_pos zj, gd, if_pos z4]
      have e1 : sI (rgP T u (nI (4 + g)) z) 74 (nI (4 + g)).toNatClampNeg (T.1 85 j) = rgP T u (nI (4 + g)) (T.1 85 j) := sI_2
      show rl_Model_checkRegion_73 (RR nf d) nf fl' (sI (rgP T u (nI (4 + g)) z) 74 (nI (4 + g)).toNatClampNeg (T.1 85 j)) (nI m) (nI u) (nI (4 + g)) (nI j + 1) = _
      rw [nI_1, e1]
      exact ih (j + 1) fl' _ (by omega) (by omega)
def rgV5 (W : gSt) (nm : Int64) (r n : Nat) (c : Int32) : gSt := sI (sI (sI (sI (sI (sJ W 72 r nm) 73 r c) 71 0 (nI (r + 1))) 85 n c) 84 0 (nI (n + 1))) 75 0 (W.1 75 0 ||| (1 <<< (c &&& 31)))
theorem rg_tail {W : gSt} {nm : Int64} {r : Nat} {c : Int32} (hm : m < 8200) (hu : u < 4000) (hr : r < 12) (hn : n < 40) (w71 : W.1 71 0 = nI r) (w84 : W.1 84 0 = nI n) (w46 : W.2 46 u = nm) : rl_Model_checkRegion_73 (RR nf d) nf (fl + 1) W (nI m) (nI u) c (nI n) = bi (RR nf d 68 (rgV5 W nm r n c) [(rgV5 W nm r n c).1 52 m] []) (fun _ _ U => some (0, 0, rgL U c)) := by
  have zm : inb (nI m) 8200 := nin (by omega) (by omega)
  have cm : (nI m).toNatClampNeg = m := nc (by omega)
  have zu : inb (nI u) 4000 := nin (by omega) (by omega)
  have cu : (nI u).toNatClampNeg = u := nc (by omega)
  have zr : inb (nI r) 12 := nin (by omega) (by omega)
  have cr : (nI r).toNatClampNeg = r := nc (by omega)
  have zn : inb (nI n) 40 := nin (by omega) (by omega)
  have cn' : (nI n).toNatClampNeg = n := nc (by omega)
  rw [rl_Model_checkRegion_73, if_pos (by rw [w84]; exact Int32.le_refl _)]
  rw [gd, if_pos zu, gd, w71, if_pos zr, cr, cu, w46, stK]
  have k1 : (sJ W 72 r nm).1 71 0 = nI r := by rw [sJ_i, w71]
  rw [gd, k1, if_pos zr, cr, stK]
  have k2 : (sI (sJ W 72 r nm) 73 r c).1 71 0 = nI r := by rw [sI_ne (by omega), k1]
  rw [k2, nI_1, stK]
  have k3 : (sI (sI (sJ W 72 r nm) 73 r c) 71 0 (nI (r + 1))).1 84 0 = nI n := by rw [sI_ne (by omega), sI_ne (by omega), sJ_i, w84]
  rw [gd, k3, if_pos zn, cn', stK]
  have k4 : (sI (sI (sI (sJ W 72 r nm) 73 r c) 71 0 (nI (r + 1))) 85 n c).1 84 0 = nI n := by rw [sI_ne (by omega), k3]
  rw [k4, nI_1, stK]
  have k5 : (sI (sI (sI (sI (sJ W 72 r nm) 73 r c) 71 0 (nI (r + 1))) 85 n c) 84 0 (nI (n + 1))).1 75 0 = W.1 75 0 := by
    rw [sI_ne (by omega), sI_ne (by omega), sI_ne (by omega), sI_ne (by omega), sJ_i]
  rw [k5, stK, gd, if_pos zm, cm]
  rfl
theorem er_inL : ∀ (k j : Nat) (z : Int32), inL (er T) k j z = inL T k j z := by
  intro k
  induction k with
  | zero => intro j z; rfl
  | succ k ih =>
    intro j z
    rw [inL, inL, ih]
    rfl
theorem x_rg (hx : PI X) (hX : xn X ≤ 4000) (hnf : 8300 ≤ nf) (hA : CkB nf X it ta) (hlo : lo < hi) (hhi : hi ≤ 8200) (h51 : T.1 51 lo = nI (xP X i)) (h58 : T.1 58 lo = nI u) (hU : RepU X T u (i + 1) 1) (hR : RepS X T ta (lo + 1) (lo + 1) hi (T.1 52 lo)) (hai : i = a) (hg : g < 8) (hw : Ws X ta 2 (a + 2) b v (g + 1) v' g') (hbx : b ≤ xn X) (hP : Pre it T n v g s) (hN : n + bdT ta ≤ 40) (hN1 : n < 40) (hs : s + (hi - lo) ≤ 8200) (hd : 3 * bdT ta + 301 ≤ d) (hc : cn (rgC X (stS X it ta) i (er T)) < 6000) : wp (RR nf d 82 T [nI lo] []) (fun _ _ T' => er T' = rgC X (stS X it ta) i (er T) ∧ Fm X T T' lo hi a b ∧ (T'.1 7 0 = 0 → T'.1 48 u = 4 + (er T).1 86 0 ∧ AnS X it T' ta (lo + 1) (lo + 1) hi (T.1 52 lo) 0 0 (rgO (er T) (xN X (i + 1))))) := by
  obtain ⟨d', rfl⟩ : ∃ z, d = z + 2 := ⟨d - 2, by omega⟩
  have zm : inb (nI lo) 8200 := nin (by omega) (by omega)
  have cm : (nI lo).toNatClampNeg = lo := nc (by omega)
  have hUU := hP.2.2.1
  have hu4 : u < 4000 := by have := hU.1; omega
  have zu : inb (nI u) 4000 := nin (by omega) (by omega)
  have cu : (nI u).toNatClampNeg = u := nc (by omega)
  have hus : usN X T u (i + 1) := hU.us (n := 0) (by omega)
  have hSI := hP.1
  have hRg : Rg T := hSI.1.2.2.1.1
  have h0 := hP.2.2.2.2.2.2
  have h84 : T.1 84 0 = nI n := hSI.2.2.2.2.2.2.1
  have h86 : T.1 86 0 = nI g := hSI.2.2.2.1
  have hrn : rn T ≤ 3 + g := hSI.2.2.2.2.2.1
  have ean : arn (er T) = n := by
    show arn T = n
    unfold arn; rw [h84]; exact nc (by omega)
  have mo := Ws_mo _ _ _ _ _ _ _ _ hw
  have eQ := us_Q hus
  have e4g : (4 : Int32) + nI g = nI (4 + g) := by
    rw [show (4 : Int32) = nI 4 from rfl]
    exact (Int32.ofNat_add 4 g).symm
  have c4 : (nI (4 + g)).toNatClampNeg = 4 + g := nc (by omega)
  have z4 : inb (nI (4 + g)) 12 := nin (by omega) (by omega)
  rw [e_Model_checkRegion nf (d' + 1)]
  unfold rb_Model_checkRegion
  refine wp_gd zm (wp_v ?_)
  rw [cm, h58]
  refine wp_gd zu (wp_be (x_reg hRg.1 hRg.2 (by omega)) ?_)
  rw [cu]
  have eN : (if T.2 46 u = 72 then (0 : Int32) else rgV T (T.2 46 u) (rn T)) = rgQ X (er T) (i + 1) := eQ
  rw [eN]
  unfold rgC at hc ⊢
  by_cases c : 0 ≤ rgQ X (er T) (i + 1)
  · rw [if_pos c] at hc ⊢
    have c' : ¬ rgQ X (er T) (i + 1) < 0 := Int32.not_lt.mpr c
    have hb : ¬ (flT T 2 (nI (xP X (i + 1)))).1 7 0 = 0 := flT_bad (by decide)
    refine wp_f c' (wp_gd zu (wp_be x_fail ?_))
    rw [hus.2]
    unfold rj_Model_checkRegion_31
    exact wp_be (x_bd1 hb) (wp_f (by decide) (wp_some ⟨er_fl, Fm.nt nt_fl, fun q => absurd q hb⟩))
  rw [if_neg c] at hc ⊢
  have c' : rgQ X (er T) (i + 1) < 0 := Int32.not_le.mp c
  refine wp_t c' ?_
  unfold rj_Model_checkRegion_31
  refine wp_be (x_bd0 h0) (wp_t rfl (wp_v (wp_st (wp_gd zu (wp_st ?_)))))
  rw [h86, e4g, cu]
  refine wp_gd z4 (wp_st ?_)
  have e0 : sI (sI (sI T 86 0 (nI g + 1)) 48 u (nI (4 + g))) 74 (nI (4 + g)).toNatClampNeg 0 = rgP T u (nI (4 + g)) 0 := by
    unfold rgP
    rw [h86]
  have lp : rl_Model_checkRegion_73 (RR nf (d' + 1)) nf nf (rgP T u (nI (4 + g)) 0) (nI lo) (nI u) (nI (4 + g)) 0 = rl_Model_checkRegion_73 (RR nf (d' + 1)) nf (nf - n) (rgP T u (nI (4 + g)) (inL T n 0 0)) (nI lo) (nI u) (nI (4 + g)) (nI n) := by
    have := rg_loop (nf := nf) (d := d' + 1) (u := u) (m := lo) (by omega) hg (by omega) h84 n 0 nf 0 (by omega) (by omega)
    rw [show nI 0 = (0 : Int32) from rfl] at this
    exact this
  rw [e0, lp]
  obtain ⟨fl, hfl⟩ : ∃ q, nf - n = q + 1 := ⟨nf - n - 1, by omega⟩
  rw [hfl]
  have hW : ∀ k, k ≠ 86 → k ≠ 48 → k ≠ 74 → (rgP T u (nI (4 + g)) (inL T n 0 0)).1 k = T.1 k := by
    intro k a1 a2 a3
    unfold rgP
    rw [sI_ne a3, sI_ne a2, sI_ne a1]
  have hW2 : (rgP T u (nI (4 + g)) (inL T n 0 0)).2 = T.2 := rfl
  have hW48 : (rgP T u (nI (4 + g)) (inL T n 0 0)).1 48 = upd (T.1 48) u (nI (4 + g)) := by
    unfold rgP
    rw [sI_ne (by omega), sI_at, sI_ne (by omega)]
  have hWe : er (rgP T u (nI (4 + g)) (inL T n 0 0)) = sI (sI (er T) 86 0 (nI g + 1)) 74 (4 + g) (inL T n 0 0) := by
    unfold rgP
    rw [er_w rfl, er_a rfl, er_w rfl, h86, c4]
  generalize rgP T u (nI (4 + g)) (inL T n 0 0) = W at *
  have w71 : W.1 71 0 = nI (rn T) := by rw [hW 71 (by omega) (by omega) (by omega)]; exact hRg.1
  have w84 : W.1 84 0 = nI n := by rw [hW 84 (by omega) (by omega) (by omega)]; exact h84
  rw [rg_tail (nm := xN X (i + 1)) (by omega) hu4 (by omega) hN1 w71 w84 (by rw [hW2]; exact hus.1)]
  have eV : rgV5 W (xN X (i + 1)) (rn T) n (nI (4 + g)) = sI (sI (sI (sI (sI (sJ W 72 (rn T) (xN X (i + 1))) 73 (rn T) (nI (4 + g))) 71 0 (nI (rn T + 1))) 85 n (nI (4 + g))) 84 0 (nI (n + 1))) 75 0 (T.1 75 0 ||| (1 <<< (nI (4 + g) &&& 31))) := by
    unfold rgV5
    rw [hW 75 (by omega) (by omega) (by omega)]
  rw [eV]
  have eR : er (sI (sI (sI (sI (sI (sJ W 72 (rn T) (xN X (i + 1))) 73 (rn T) (nI (4 + g))) 71 0 (nI (rn T + 1))) 85 n (nI (4 + g))) 84 0 (nI (n + 1))) 75 0 (T.1 75 0 ||| (1 <<< (nI (4 + g) &&& 31)))) = rgO (er T) (xN X (i + 1)) := by
    rw [er_w rfl, er_w rfl, er_w rfl, er_w rfl, er_w rfl, show er (sJ W 72 (rn T) (xN X (i + 1))) = sJ (er W) 72 (rn T) (xN X (i + 1)) from rfl, hWe]
    unfold rgO
    rw [show (er T).1 86 0 = nI g from h86, e4g, c4, ean, er_inL]
    rfl
  have o : ∀ k, k < 65 → k ≠ 48 → (sI (sI (sI (sI (sI (sJ W 72 (rn T) (xN X (i + 1))) 73 (rn T) (nI (4 + g))) 71 0 (nI (rn T + 1))) 85 n (nI (4 + g))) 84 0 (nI (n + 1))) 75 0 (T.1 75 0 ||| (1 <<< (nI (4 + g) &&& 31)))).1 k = T.1 k := by
    intro k a1 a2
    rw [sI_ne (by omega), sI_ne (by omega), sI_ne (by omega), sI_ne (by omega), sI_ne (by omega), sJ_i, hW k (by omega) (by omega) (by omega)]
  have o48 : (sI (sI (sI (sI (sI (sJ W 72 (rn T) (xN X (i + 1))) 73 (rn T) (nI (4 + g))) 71 0 (nI (rn T + 1))) 85 n (nI (4 + g))) 84 0 (nI (n + 1))) 75 0 (T.1 75 0 ||| (1 <<< (nI (4 + g) &&& 31)))).1 48 = upd (T.1 48) u (nI (4 + g)) := by
    rw [sI_ne (by omega), sI_ne (by omega), sI_ne (by omega), sI_ne (by omega), sI_ne (by omega), sJ_i, hW48]
  have o93 : ∀ k, k = 93 ∨ k = 94 → (sI (sI (sI (sI (sI (sJ W 72 (rn T) (xN X (i + 1))) 73 (rn T) (nI (4 + g))) 71 0 (nI (rn T + 1))) 85 n (nI (4 + g))) 84 0 (nI (n + 1))) 75 0 (T.1 75 0 ||| (1 <<< (nI (4 + g) &&& 31)))).1 k = T.1 k := by
    intro k a1
    rw [sI_ne (by omega), sI_ne (by omega), sI_ne (by omega), sI_ne (by omega), sI_ne (by omega), sJ_i, hW k (by omega) (by omega) (by omega)]
  have o2 : ∀ k, k < 72 → (sI (sI (sI (sI (sI (sJ W 72 (rn T) (xN X (i + 1))) 73 (rn T) (nI (4 + g))) 71 0 (nI (rn T + 1))) 85 n (nI (4 + g))) 84 0 (nI (n + 1))) 75 0 (T.1 75 0 ||| (1 <<< (nI (4 + g) &&& 31)))).2 k = T.2 k := by
    intro k a1
    show (sJ W 72 (rn T) (xN X (i + 1))).2 k = T.2 k
    rw [sJ_ne (by omega), hW2]
  generalize sI (sI (sI (sI (sI (sJ W 72 (rn T) (xN X (i + 1))) 73 (rn T) (nI (4 + g))) 71 0 (nI (rn T + 1))) 85 n (nI (4 + g))) 84 0 (nI (n + 1))) 75 0 (T.1 75 0 ||| (1 <<< (nI (4 + g) &&& 31))) = V at *
  have swV : SPw T V := ⟨fun k k1 _ k3 => o k k1 (fun e => by rw [e] at k3; exact absurd k3 (by decide)), o2⟩
  have fmV : Fm X T V lo hi a b := by
    refine ⟨fun j _ => ?_, fun j => ?_, fun j _ => ?_, ?_⟩
    · rw [o 60 (by omega) (by omega), o 61 (by omega) (by omega)]; exact ⟨rfl, rfl⟩
    · rw [o48]
      by_cases q : j = u
      · right; exact ⟨i + 1, by omega, by omega, by rw [q]; exact hus.2⟩
      · left; simp [upd, q]
    · rw [o93 93 (by omega)]
    · rw [o93 94 (by omega)]
  have v0 : V.1 7 0 = 0 := by rw [o 7 (by omega) (by omega)]; exact h0
  have sr := si_rgo (nm := xN X (i + 1)) hSI hg (by omega)
  have pV : Pre it V (n + 1) v (g + 1) s := hP.st fmV swV (by rw [eR]; exact sr.1) v0
  have rV : RepS X V ta (lo + 1) (lo + 1) hi (T.1 52 lo) := hR.sw swV (fun j _ _ => by rw [o 61 (by omega) (by omega)])
  have fA := st_fs (X := X) (it := it) ta 0 0 0 (rgO (er T) (xN X (i + 1)))
  have cA := (FS.rgl (c := 4 + (er T).1 86 0)).lt (fA.tg sr.1.1.1) hc
  rw [o 52 (by omega) (by omega)]
  refine wp_bi (hA V (d' + 1) (lo + 1) hi (a + 2) b v (g + 1) v' g' (n + 1) s (T.1 52 lo) rV hhi hw hbx pV (by omega) (by omega) (by omega) (by rw [eR]; exact cA)) ?_
  intro r l U hQ
  have ntL : ∀ k, anF k = true → (rgL U (nI (4 + g))).1 k = U.1 k := fun k hk => by
    have h : k ≠ 75 ∧ k ≠ 71 ∧ k ≠ 84 := by
      unfold anF at hk
      simp only [Bool.or_eq_true, beq_iff_eq] at hk
      omega
    unfold rgL dlS
    rw [sI_ne h.1, sI_ne h.2.1, sI_ne h.2.2]
  have swL : SPw U (rgL U (nI (4 + g))) := ⟨fun k k1 _ _ => by unfold rgL dlS; rw [sI_ne (by omega), sI_ne (by omega), sI_ne (by omega)], fun k _ => rfl⟩
  have swU := swV.tr hQ.sw
  have h7 : (rgL U (nI (4 + g))).1 7 0 = U.1 7 0 := by unfold rgL dlS; rw [sI_ne (by omega), sI_ne (by omega), sI_ne (by omega)]
  refine wp_some ⟨?_, ?_, fun q => ⟨?_, ?_⟩⟩
  · rw [show (er T).1 86 0 = nI g from h86, e4g, ← eR, ← hQ.1]
    unfold rgL dlS
    rw [er_w rfl, er_w rfl, er_w rfl]
    rfl
  · exact (fmV.trw (hQ.2.1.up (by omega) (by omega) (by omega) (by omega)) swV).trw (Fm.nt ntL) swU
  · rw [ntL 48 rfl, show (er T).1 86 0 = nI g from h86, e4g]
    rcases hQ.2.1.2.1 u with z | ⟨q', e1, e2, e3⟩
    · rw [z, o48]; simp [upd]
    · rw [o 47 (by omega) (by omega), hus.2] at e3
      have := hx (i + 1) q' (by omega) (by omega) e3
      omega
  · rw [h7] at q
    have h3 := hQ.2.2 q
    rw [eR] at h3
    exact AnS.kp ta _ _ _ _ _ _ _ _ _ _ _ _ _ _ hw hbx (Kp.nw swL ntL) h3
theorem t_26 (hx : PI X) (hX : xn X ≤ 4000) (hnf : 8300 ≤ nf) (hA : CkB nf X it ta) : CkT nf X it (tD 26 i e ta tb) := by
  intro T d lo hi a b v g v' g' n s x hR hhi hw hbx hP hN hs hd hc
  obtain ⟨d', rfl⟩ : ∃ z, d = z + 1 := ⟨d - 1, by omega⟩
  rw [Ws_n] at hw
  obtain ⟨w1, w2, w3⟩ : i = a ∧ g < 8 ∧ Ws X ta 2 (a + 2) b v (g + 1) v' g' := hw
  rw [RepS_n] at hR
  obtain ⟨rfl, r2, r3, r4, ⟨u, r5, r6⟩, r7⟩ : x = nI lo ∧ lo < hi ∧ T.1 50 lo = 26 ∧ T.1 51 lo = nI (xP X i) ∧ (∃ u, T.1 58 lo = nI u ∧ RepU X T u (i + 1) 1) ∧ RepS X T ta (lo + 1) (lo + 1) hi (T.1 52 lo) := hR
  rw [bdT_n, if_neg (by omega), if_neg (by omega), if_neg (by omega), if_pos rfl] at hN hd
  have zm : inb (nI lo) 8200 := nin (by omega) (by omega)
  have cm : (nI lo).toNatClampNeg = lo := nc (by omega)
  have hc' : cn (rgC X (stS X it ta) i (er T)) < 6000 := hc
  have b1 : 1 ≤ bdT ta := by
    obtain ⟨_, _, _, _, rfl, _, _⟩ := Ws_2 ta w3
    rw [bdT_n, if_pos rfl]
    omega
  rw [e_Model_checkStep nf d']
  unfold rb_Model_checkStep
  refine wp_gd zm ?_
  rw [cm, r3]
  refine wp_f (by decide) (wp_f (by decide) (wp_f (by decide) (wp_f (by decide) (wp_f (by decide) (wp_f (by decide) (wp_t rfl (wp_bi (x_rg hx hX hnf hA r2 hhi r4 r5 r6 r7 w1 w2 w3 hbx hP hN (by omega) hs (by omega) hc') ?_)))))))
  intro r l T1 h1
  have sw : SPw T T1 := SPw.of (by rw [h1.1]; exact st_fs (X := X) (it := it) (tD 26 i e ta tb) 0 0 0 (er T))
  refine wp_some ⟨h1.1, h1.2.1, fun q => ?_⟩
  rw [AnS_n]
  show nI lo = nI lo ∧ lo < hi ∧ (∃ u, T1.1 58 lo = nI u ∧ RepU X T1 u (i + 1) 1 ∧ T1.1 48 u = 4 + (er T).1 86 0) ∧ AnS X it T1 ta (lo + 1) (lo + 1) hi (T1.1 52 lo) 0 0 (rgO (er T) (xN X (i + 1)))
  rw [sw.1 58 (by omega) (by omega) rfl, sw.1 52 (by omega) (by omega) rfl]
  exact ⟨rfl, r2, ⟨u, r5, r6.sw sw, (h1.2.2 q).1⟩, (h1.2.2 q).2⟩
end XR
