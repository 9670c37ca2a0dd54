/-! the reference's machine: instructions that touch what is pointed to -/
section RM7
variable {M M' M1 : gSt} {nf d t a b c k n m i q s fl o h p e r f : Nat} {w x y z v bb x1 x2 x3 x4 : Int32} {l : List Nat} {l1 : Int64}
theorem rp_109 : rpT (sI M 109 0 v) h x y z w = rpT M h x y z w := by
  unfold rpT
  rw [sI_cc (g := 109) (h := 110) (by omega), sI_cc (g := 109) (h := 111) (by omega), sI_cc (g := 109) (h := 112) (by omega), sI_cc (g := 109) (h := 113) (by omega), sI_ow]
theorem x_n6 (hh : M.1 109 0 = nI (h + 1)) (h8 : h < 8200) (hn : M.1 111 h = -1) (hr : RR nf (d - 2) 114 (sI M 109 0 (nI h)) [1] [] = some (x4, l1, M')) (hd : 2 ≤ d) : RR nf d 118 M [6, x, y, z] [] = some (0, 0, M') := by
  obtain ⟨d, rfl⟩ : ∃ g, d = g + 1 := ⟨d - 1, by omega⟩
  rw [e_Model_run_IIII]
  unfold rb_Model_run_IIII
  rw [if_neg (by decide), if_neg (by decide), if_neg (by decide), if_neg (by decide), if_neg (by decide), if_pos rfl]
  obtain ⟨d, rfl⟩ : ∃ g, d = g + 1 := ⟨d - 1, by omega⟩
  have z0 : inb (nI h) 8200 := nin (by omega) (by omega)
  have c0 : (nI h).toNatClampNeg = h := nc (by omega)
  rw [show d + 1 + 1 - 2 = d from rfl] at hr
  rw [e_Model_touch]
  unfold rb_Model_touch
  rw [stK, hh, nI_sub, sI_v, gd, if_pos z0, c0, vK, gd, if_pos z0, vK, gd, if_pos z0, vK]
  rw [if_neg (by decide), if_neg (by decide), if_neg (by decide), if_neg (by decide), sI_ne (g' := 111) (g := 109) (by omega), if_pos hn, hr, bis, bis]
theorem x_n7 (hh : M.1 109 0 = nI (h + 1)) (h8 : h < 8200) (hn : M.1 111 h = -1) (hr : RR nf (d - 2) 114 (sI M 109 0 (nI h)) [1] [] = some (x4, l1, M')) (hd : 2 ≤ d) : RR nf d 118 M [7, x, y, z] [] = some (0, 0, M') := by
  obtain ⟨d, rfl⟩ : ∃ g, d = g + 1 := ⟨d - 1, by omega⟩
  rw [e_Model_run_IIII]
  unfold rb_Model_run_IIII
  rw [if_neg (by decide), if_neg (by decide), if_neg (by decide), if_neg (by decide), if_neg (by decide), if_neg (by decide), if_pos rfl]
  obtain ⟨d, rfl⟩ : ∃ g, d = g + 1 := ⟨d - 1, by omega⟩
  have z0 : inb (nI h) 8200 := nin (by omega) (by omega)
  have c0 : (nI h).toNatClampNeg = h := nc (by omega)
  rw [show d + 1 + 1 - 2 = d from rfl] at hr
  rw [e_Model_touch]
  unfold rb_Model_touch
  rw [stK, hh, nI_sub, sI_v, gd, if_pos z0, c0, vK, gd, if_pos z0, vK, gd, if_pos z0, vK]
  rw [if_neg (by decide), if_neg (by decide), if_neg (by decide), if_neg (by decide), sI_ne (g' := 111) (g := 109) (by omega), if_pos hn, hr, bis, bis]
theorem x_n10 (hh : M.1 109 0 = nI (h + 1)) (h8 : h < 8200) (hn : M.1 111 h = -1) (hr : RR nf (d - 2) 114 (sI M 109 0 (nI h)) [1] [] = some (x4, l1, M')) (hd : 2 ≤ d) : RR nf d 118 M [10, x, y, z] [] = some (0, 0, M') := by
  obtain ⟨d, rfl⟩ : ∃ g, d = g + 1 := ⟨d - 1, by omega⟩
  rw [e_Model_run_IIII]
  unfold rb_Model_run_IIII
  rw [if_neg (by decide), if_neg (by decide), if_neg (by decide), if_neg (by decide), if_neg (by decide), if_neg (by decide), if_neg (by decide), if_neg (by decide), if_neg (by decide), if_pos rfl]
  obtain ⟨d, rfl⟩ : ∃ g, d = g + 1 := ⟨d - 1, by omega⟩
  have z0 : inb (nI h) 8200 := nin (by omega) (by omega)
  have c0 : (nI h).toNatClampNeg = h := nc (by omega)
  rw [show d + 1 + 1 - 2 = d from rfl] at hr
  rw [e_Model_touch]
  unfold rb_Model_touch
  rw [stK, hh, nI_sub, sI_v, gd, if_pos z0, c0, vK, gd, if_pos z0, vK, gd, if_pos z0, vK]
  rw [if_neg (by decide), if_neg (by decide), if_neg (by decide), if_neg (by decide), sI_ne (g' := 111) (g := 109) (by omega), if_pos hn, hr, bis, bis]
theorem x_n11 (hh : M.1 109 0 = nI (h + 1)) (h8 : h < 8200) (hn : M.1 111 h = -1) (hr : RR nf (d - 2) 114 (sI M 109 0 (nI h)) [1] [] = some (x4, l1, M')) (hd : 2 ≤ d) : RR nf d 118 M [11, x, y, z] [] = some (0, 0, M') := by
  obtain ⟨d, rfl⟩ : ∃ g, d = g + 1 := ⟨d - 1, by omega⟩
  rw [e_Model_run_IIII]
  unfold rb_Model_run_IIII
  rw [if_neg (by decide), if_neg (by decide), if_neg (by decide), if_neg (by decide), if_neg (by decide), if_neg (by decide), if_neg (by decide), if_neg (by decide), if_neg (by decide), if_neg (by decide), if_pos rfl]
  obtain ⟨d, rfl⟩ : ∃ g, d = g + 1 := ⟨d - 1, by omega⟩
  have z0 : inb (nI h) 8200 := nin (by omega) (by omega)
  have c0 : (nI h).toNatClampNeg = h := nc (by omega)
  rw [show d + 1 + 1 - 2 = d from rfl] at hr
  rw [e_Model_touch]
  unfold rb_Model_touch
  rw [stK, hh, nI_sub, sI_v, gd, if_pos z0, c0, vK, gd, if_pos z0, vK, gd, if_pos z0, vK]
  rw [if_neg (by decide), if_neg (by decide), if_neg (by decide), if_neg (by decide), sI_ne (g' := 111) (g := 109) (by omega), if_pos hn, hr, bis, bis]
theorem x_n12 (hh : M.1 109 0 = nI (h + 1)) (h8 : h < 8200) (hn : M.1 111 h = -1) (hr : RR nf (d - 2) 114 (sI M 109 0 (nI h)) [1] [] = some (x4, l1, M')) (hd : 2 ≤ d) : RR nf d 118 M [12, x, y, z] [] = some (0, 0, M') := by
  obtain ⟨d, rfl⟩ : ∃ g, d = g + 1 := ⟨d - 1, by omega⟩
  rw [e_Model_run_IIII]
  unfold rb_Model_run_IIII
  rw [if_neg (by decide), if_neg (by decide), if_neg (by decide), if_neg (by decide), if_neg (by decide), if_neg (by decide), if_neg (by decide), if_neg (by decide), if_neg (by decide), if_neg (by decide), if_neg (by decide), if_pos rfl]
  obtain ⟨d, rfl⟩ : ∃ g, d = g + 1 := ⟨d - 1, by omega⟩
  have z0 : inb (nI h) 8200 := nin (by omega) (by omega)
  have c0 : (nI h).toNatClampNeg = h := nc (by omega)
  rw [show d + 1 + 1 - 2 = d from rfl] at hr
  rw [e_Model_touch]
  unfold rb_Model_touch
  rw [stK, hh, nI_sub, sI_v, gd, if_pos z0, c0, vK, gd, if_pos z0, vK, gd, if_pos z0, vK]
  rw [if_neg (by decide), if_neg (by decide), if_neg (by decide), if_neg (by decide), sI_ne (g' := 111) (g := 109) (by omega), if_pos hn, hr, bis, bis]
theorem x_n23 (hh : M.1 109 0 = nI (h + 1)) (h8 : h < 8200) (hn : M.1 111 h = -1) (hr : RR nf (d - 2) 114 (sI M 109 0 (nI h)) [1] [] = some (x4, l1, M')) (hd : 2 ≤ d) : RR nf d 118 M [23, x, y, z] [] = some (0, 0, M') := by
  obtain ⟨d, rfl⟩ : ∃ g, d = g + 1 := ⟨d - 1, by omega⟩
  rw [e_Model_run_IIII]
  unfold rb_Model_run_IIII
  rw [if_neg (by decide), if_neg (by decide), if_neg (by decide), if_neg (by decide), if_neg (by decide), if_neg (by decide), if_neg (by decide), if_neg (by decide), if_neg (by decide), if_neg (by decide), if_neg (by decide), if_neg (by decide), if_neg (by decide), if_neg (by decide), if_neg (by decide), if_neg (by decide), if_neg (by decide), if_neg (by decide), if_neg (by decide), if_neg (by decide), if_neg (by decide), if_neg (by decide), if_pos rfl]
  obtain ⟨d, rfl⟩ : ∃ g, d = g + 1 := ⟨d - 1, by omega⟩
  have z0 : inb (nI h) 8200 := nin (by omega) (by omega)
  have c0 : (nI h).toNatClampNeg = h := nc (by omega)
  rw [show d + 1 + 1 - 2 = d from rfl] at hr
  rw [e_Model_touch]
  unfold rb_Model_touch
  rw [stK, hh, nI_sub, sI_v, gd, if_pos z0, c0, vK, gd, if_pos z0, vK, gd, if_pos z0, vK]
  rw [if_neg (by decide), if_neg (by decide), if_neg (by decide), if_neg (by decide), sI_ne (g' := 111) (g := 109) (by omega), if_pos hn, hr, bis, bis]
theorem x_n25 (hh : M.1 109 0 = nI (h + 1)) (h8 : h < 8200) (hn : M.1 111 h = -1) (hr : RR nf (d - 2) 114 (sI M 109 0 (nI h)) [1] [] = some (x4, l1, M')) (hd : 2 ≤ d) : RR nf d 118 M [25, x, y, z] [] = some (0, 0, M') := by
  obtain ⟨d, rfl⟩ : ∃ g, d = g + 1 := ⟨d - 1, by omega⟩
  rw [e_Model_run_IIII]
  unfold rb_Model_run_IIII
  rw [if_neg (by decide), if_neg (by decide), if_neg (by decide), if_neg (by decide), if_neg (by decide), if_neg (by decide), if_neg (by decide), if_neg (by decide), if_neg (by decide), if_neg (by decide), if_neg (by decide), if_neg (by decide), if_neg (by decide), if_neg (by decide), if_neg (by decide), if_neg (by decide), if_neg (by decide), if_neg (by decide), if_neg (by decide), if_neg (by decide), if_neg (by decide), if_neg (by decide), if_neg (by decide), if_neg (by decide), if_pos rfl]
  obtain ⟨d, rfl⟩ : ∃ g, d = g + 1 := ⟨d - 1, by omega⟩
  have z0 : inb (nI h) 8200 := nin (by omega) (by omega)
  have c0 : (nI h).toNatClampNeg = h := nc (by omega)
  rw [show d + 1 + 1 - 2 = d from rfl] at hr
  rw [e_Model_touch]
  unfold rb_Model_touch
  rw [stK, hh, nI_sub, sI_v, gd, if_pos z0, c0, vK, gd, if_pos z0, vK, gd, if_pos z0, vK]
  rw [if_neg (by decide), if_neg (by decide), if_neg (by decide), if_neg (by decide), sI_ne (g' := 111) (g := 109) (by omega), if_pos hn, hr, bis, bis]
theorem x_r13 (hh : M.1 109 0 = nI (h + 1)) (h8 : h < 8200) (hd : 3 ≤ d) : RR nf d 118 M [13, x, y, z] [] = some (0, 0, rpT M h (M.1 113 h) (-1) 0 0) := by
  obtain ⟨d, rfl⟩ : ∃ g, d = g + 1 := ⟨d - 1, by omega⟩
  rw [e_Model_run_IIII]
  unfold rb_Model_run_IIII
  rw [if_neg (by decide), if_neg (by decide), if_neg (by decide), if_neg (by decide), if_neg (by decide), if_neg (by decide), if_neg (by decide), if_neg (by decide), if_neg (by decide), if_neg (by decide), if_neg (by decide), if_neg (by decide), if_pos rfl]
  obtain ⟨d, rfl⟩ : ∃ g, d = g + 1 := ⟨d - 1, by omega⟩
  have z0 : inb (nI h) 8200 := nin (by omega) (by omega)
  have c0 : (nI h).toNatClampNeg = h := nc (by omega)
  rw [e_Model_touch]
  unfold rb_Model_touch
  rw [stK, hh, nI_sub, sI_v, gd, if_pos z0, c0, vK, gd, if_pos z0, vK, gd, if_pos z0, vK]
  rw [if_neg (by decide), if_neg (by decide), if_pos rfl, gd, if_pos z0, sI_ne (g' := 113) (g := 109) (by omega), x_push (h := h) (by rw [sI_v]) h8 (by omega), bis, bis, rp_109]
theorem x_r12 (hh : M.1 109 0 = nI (h + 1)) (h8 : h < 8200) (hn : ¬ M.1 111 h = -1) (hd : 3 ≤ d) : RR nf d 118 M [12, x, y, z] [] = some (0, 0, rpT M h (M.1 110 h) (M.1 111 h) (M.1 112 h) 0) := by
  obtain ⟨d, rfl⟩ : ∃ g, d = g + 1 := ⟨d - 1, by omega⟩
  rw [e_Model_run_IIII]
  unfold rb_Model_run_IIII
  rw [if_neg (by decide), if_neg (by decide), if_neg (by decide), if_neg (by decide), if_neg (by decide), if_neg (by decide), if_neg (by decide), if_neg (by decide), if_neg (by decide), if_neg (by decide), if_neg (by decide), if_pos rfl]
  obtain ⟨d, rfl⟩ : ∃ g, d = g + 1 := ⟨d - 1, by omega⟩
  have z0 : inb (nI h) 8200 := nin (by omega) (by omega)
  have c0 : (nI h).toNatClampNeg = h := nc (by omega)
  rw [e_Model_touch]
  unfold rb_Model_touch
  rw [stK, hh, nI_sub, sI_v, gd, if_pos z0, c0, vK, gd, if_pos z0, vK, gd, if_pos z0, vK]
  rw [if_neg (by decide), if_neg (by decide), if_neg (by decide), if_neg (by decide), sI_ne (g' := 111) (g := 109) (by omega), if_neg hn, if_neg (by decide), if_neg (by decide), if_neg (by decide), if_neg (by decide), if_neg (by decide), if_neg (by decide), if_pos rfl, sI_ne (g' := 110) (g := 109) (by omega), sI_ne (g' := 112) (g := 109) (by omega), x_push (h := h) (by rw [sI_v]) h8 (by omega), bis, bis, rp_109]
theorem x_r7 (hh : M.1 109 0 = nI (h + 1)) (h8 : h < 8200) (hn : ¬ M.1 111 h = -1) (hd : 3 ≤ d) : RR nf d 118 M [7, x, y, z] [] = some (0, 0, rpT M h x (M.1 111 h) (M.1 112 h) 0) := by
  obtain ⟨d, rfl⟩ : ∃ g, d = g + 1 := ⟨d - 1, by omega⟩
  rw [e_Model_run_IIII]
  unfold rb_Model_run_IIII
  rw [if_neg (by decide), if_neg (by decide), if_neg (by decide), if_neg (by decide), if_neg (by decide), if_neg (by decide), if_pos rfl]
  obtain ⟨d, rfl⟩ : ∃ g, d = g + 1 := ⟨d - 1, by omega⟩
  have z0 : inb (nI h) 8200 := nin (by omega) (by omega)
  have c0 : (nI h).toNatClampNeg = h := nc (by omega)
  rw [e_Model_touch]
  unfold rb_Model_touch
  rw [stK, hh, nI_sub, sI_v, gd, if_pos z0, c0, vK, gd, if_pos z0, vK, gd, if_pos z0, vK]
  rw [if_neg (by decide), if_neg (by decide), if_neg (by decide), if_neg (by decide), sI_ne (g' := 111) (g := 109) (by omega), if_neg hn, if_neg (by decide), if_pos rfl, sI_ne (g' := 112) (g := 109) (by omega), x_push (h := h) (by rw [sI_v]) h8 (by omega), bis, bis, rp_109]
theorem pp_109 (h8 : h < 8200) (ho : o < 4096) (hb : M.1 138 o = bb) (hn : M.1 140 o = nI l.length) (hl : l.length < 100000) (hc : chn (M.1 149) (M.1 139 o) l) (hk : k < l.length) (hg : ¬ M.1 148 (l.getD k 0) = 0) (hnf : l.length < nf) (hd : 2 ≤ d) : RR nf d 112 (sI M 109 0 (nI h)) [nI o, bb, nI k] [] = some (0, 0, rpT M h (M.1 144 (l.getD k 0)) (M.1 145 (l.getD k 0)) (M.1 146 (l.getD k 0)) (M.1 147 (l.getD k 0))) := by
  have e : ∀ q, q ≠ 109 → (sI M 109 0 (nI h)).1 q = M.1 q := fun q hq => sI_ne hq
  rw [x_pushPlace (h := h) (l := l) (k := k) ho (by rw [e 138 (by omega)]; exact hb) (by rw [e 140 (by omega)]; exact hn) hl (by rw [e 149 (by omega), e 139 (by omega)]; exact hc) hk (by rw [e 148 (by omega)]; exact hg) (by rw [sI_v]) h8 hnf hd, e 144 (by omega), e 145 (by omega), e 146 (by omega), e 147 (by omega), rp_109]
theorem x_r10 (hh : M.1 109 0 = nI (h + 1)) (h8 : h < 8200) (ho : o < 4096) (h111 : M.1 111 h = nI o) (h112 : M.1 112 h = bb) (hb : M.1 138 o = bb) (hn : M.1 140 o = nI l.length) (hl : l.length < 100000) (hc : chn (M.1 149) (M.1 139 o) l) (h110 : M.1 110 h = nI k) (hk : k < l.length) (hg : ¬ M.1 148 (l.getD k 0) = 0) (hnf : l.length < nf) (hd : 4 ≤ d) : RR nf d 118 M [10, x, y, z] [] = some (0, 0, rpT M h (M.1 144 (l.getD k 0)) (M.1 145 (l.getD k 0)) (M.1 146 (l.getD k 0)) (M.1 147 (l.getD k 0))) := by
  obtain ⟨d, rfl⟩ : ∃ g, d = g + 1 := ⟨d - 1, by omega⟩
  rw [e_Model_run_IIII]
  unfold rb_Model_run_IIII
  rw [if_neg (by decide), if_neg (by decide), if_neg (by decide), if_neg (by decide), if_neg (by decide), if_neg (by decide), if_neg (by decide), if_neg (by decide), if_neg (by decide), if_pos rfl]
  obtain ⟨d, rfl⟩ : ∃ g, d = g + 1 := ⟨d - 1, by omega⟩
  have z0 : inb (nI h) 8200 := nin (by omega) (by omega)
  have c0 : (nI h).toNatClampNeg = h := nc (by omega)
  rw [e_Model_touch]
  unfold rb_Model_touch
  rw [stK, hh, nI_sub, sI_v, gd, if_pos z0, c0, vK, gd, if_pos z0, vK, gd, if_pos z0, vK]
  have n1 : ¬ M.1 111 h = -1 := by rw [h111]; exact fun w => nI_neg1 (by omega) w.symm
  rw [if_neg (by decide), if_neg (by decide), if_neg (by decide), if_neg (by decide), sI_ne (g' := 111) (g := 109) (by omega), if_neg n1, if_neg (by decide), if_neg (by decide), if_neg (by decide), if_neg (by decide), if_pos rfl, sI_ne (g' := 110) (g := 109) (by omega), sI_ne (g' := 112) (g := 109) (by omega), h110, h111, h112, pp_109 h8 ho hb hn hl hc hk hg hnf (by omega), bis, bis]
theorem x_r6 (hh : M.1 109 0 = nI (h + 1)) (h8 : h < 8200) (ho : o < 4096) (h111 : M.1 111 h = nI o) (h112 : M.1 112 h = bb) (hb : M.1 138 o = bb) (hn : M.1 140 o = nI l.length) (hl : l.length < 100000) (hc : chn (M.1 149) (M.1 139 o) l) (hy : ¬ y = 1) (hk : k < l.length) (hg : ¬ M.1 148 (l.getD k 0) = 0) (hnf : l.length < nf) (hd : 4 ≤ d) : RR nf d 118 M [6, nI k, y, z] [] = some (0, 0, rpT M h (M.1 144 (l.getD k 0)) (M.1 145 (l.getD k 0)) (M.1 146 (l.getD k 0)) (M.1 147 (l.getD k 0))) := by
  obtain ⟨d, rfl⟩ : ∃ g, d = g + 1 := ⟨d - 1, by omega⟩
  rw [e_Model_run_IIII]
  unfold rb_Model_run_IIII
  rw [if_neg (by decide), if_neg (by decide), if_neg (by decide), if_neg (by decide), if_neg (by decide), if_pos rfl]
  obtain ⟨d, rfl⟩ : ∃ g, d = g + 1 := ⟨d - 1, by omega⟩
  have z0 : inb (nI h) 8200 := nin (by omega) (by omega)
  have c0 : (nI h).toNatClampNeg = h := nc (by omega)
  rw [e_Model_touch]
  unfold rb_Model_touch
  rw [stK, hh, nI_sub, sI_v, gd, if_pos z0, c0, vK, gd, if_pos z0, vK, gd, if_pos z0, vK]
  have n1 : ¬ M.1 111 h = -1 := by rw [h111]; exact fun w => nI_neg1 (by omega) w.symm
  rw [if_neg (by decide), if_neg (by decide), if_neg (by decide), if_neg (by decide), sI_ne (g' := 111) (g := 109) (by omega), if_neg n1, if_pos rfl, if_neg hy, if_neg hy, sI_ne (g' := 112) (g := 109) (by omega), h111, h112, pp_109 h8 ho hb hn hl hc hk hg hnf (by omega), bis, bis]
theorem x_r6u (hh : M.1 109 0 = nI (h + 1)) (h8 : h < 8200) (ho : o < 4096) (h111 : M.1 111 h = nI o) (h112 : M.1 112 h = bb) (hb : M.1 138 o = bb) (hn : M.1 140 o = nI l.length) (hl : l.length < 100000) (hc : chn (M.1 149) (M.1 139 o) l) (ht : M.1 142 o = x) (hk : 0 < l.length) (hg : ¬ M.1 148 (l.getD 0 0) = 0) (hnf : l.length < nf) (hd : 4 ≤ d) : RR nf d 118 M [6, x, 1, z] [] = some (0, 0, rpT M h (M.1 144 (l.getD 0 0)) (M.1 145 (l.getD 0 0)) (M.1 146 (l.getD 0 0)) (M.1 147 (l.getD 0 0))) := by
  obtain ⟨d, rfl⟩ : ∃ g, d = g + 1 := ⟨d - 1, by omega⟩
  rw [e_Model_run_IIII]
  unfold rb_Model_run_IIII
  rw [if_neg (by decide), if_neg (by decide), if_neg (by decide), if_neg (by decide), if_neg (by decide), if_pos rfl]
  obtain ⟨d, rfl⟩ : ∃ g, d = g + 1 := ⟨d - 1, by omega⟩
  have z0 : inb (nI h) 8200 := nin (by omega) (by omega)
  have c0 : (nI h).toNatClampNeg = h := nc (by omega)
  rw [e_Model_touch]
  unfold rb_Model_touch
  rw [stK, hh, nI_sub, sI_v, gd, if_pos z0, c0, vK, gd, if_pos z0, vK, gd, if_pos z0, vK]
  have n1 : ¬ M.1 111 h = -1 := by rw [h111]; exact fun w => nI_neg1 (by omega) w.symm
  rw [if_neg (by decide), if_neg (by decide), if_neg (by decide), if_neg (by decide), sI_ne (g' := 111) (g := 109) (by omega), if_neg n1, if_pos rfl, if_pos rfl, h111, gd, if_pos (nin ho (by omega)), nc (by omega), sI_ne (g' := 142) (g := 109) (by omega), if_pos ht, if_pos rfl, sI_ne (g' := 112) (g := 109) (by omega), h112, show (0 : Int32) = nI 0 from rfl, pp_109 h8 ho hb hn hl hc hk hg hnf (by omega), bis, bis]
theorem x_r6t (hh : M.1 109 0 = nI (h + 1)) (h8 : h < 8200) (ho : o < 4096) (h111 : M.1 111 h = nI o) (ht : ¬ M.1 142 o = x) (hr : RR nf (d - 2) 114 (sI M 109 0 (nI h)) [3] [] = some (x4, l1, M')) (hd : 4 ≤ d) : RR nf d 118 M [6, x, 1, z] [] = some (0, 0, M') := by
  obtain ⟨d, rfl⟩ : ∃ g, d = g + 1 := ⟨d - 1, by omega⟩
  rw [e_Model_run_IIII]
  unfold rb_Model_run_IIII
  rw [if_neg (by decide), if_neg (by decide), if_neg (by decide), if_neg (by decide), if_neg (by decide), if_pos rfl]
  obtain ⟨d, rfl⟩ : ∃ g, d = g + 1 := ⟨d - 1, by omega⟩
  have z0 : inb (nI h) 8200 := nin (by omega) (by omega)
  have c0 : (nI h).toNatClampNeg = h := nc (by omega)
  rw [show d + 1 + 1 - 2 = d from rfl] at hr
  rw [e_Model_touch]
  unfold rb_Model_touch
  rw [stK, hh, nI_sub, sI_v, gd, if_pos z0, c0, vK, gd, if_pos z0, vK, gd, if_pos z0, vK]
  have n1 : ¬ M.1 111 h = -1 := by rw [h111]; exact fun w => nI_neg1 (by omega) w.symm
  rw [if_neg (by decide), if_neg (by decide), if_neg (by decide), if_neg (by decide), sI_ne (g' := 111) (g := 109) (by omega), if_neg n1, if_pos rfl, if_pos rfl, h111, gd, if_pos (nin ho (by omega)), nc (by omega), sI_ne (g' := 142) (g := 109) (by omega), if_neg ht, hr, bis, bis]
theorem x_r11 (hh : M.1 109 0 = nI (h + 1)) (h8 : h < 8200) (ho : o < 4096) (h111 : M.1 111 h = nI o) (h112 : M.1 112 h = bb) (hb : M.1 138 o = bb) (hd : 4 ≤ d) : RR nf d 118 M [11, x, y, z] [] = some (0, 0, rpT M h (if M.1 142 o = x then 1 else 0) (-1) 0 0) := by
  obtain ⟨d, rfl⟩ : ∃ g, d = g + 1 := ⟨d - 1, by omega⟩
  rw [e_Model_run_IIII]
  unfold rb_Model_run_IIII
  rw [if_neg (by decide), if_neg (by decide), if_neg (by decide), if_neg (by decide), if_neg (by decide), if_neg (by decide), if_neg (by decide), if_neg (by decide), if_neg (by decide), if_neg (by decide), if_pos rfl]
  obtain ⟨d, rfl⟩ : ∃ g, d = g + 1 := ⟨d - 1, by omega⟩
  have z0 : inb (nI h) 8200 := nin (by omega) (by omega)
  have c0 : (nI h).toNatClampNeg = h := nc (by omega)
  rw [e_Model_touch]
  unfold rb_Model_touch
  rw [stK, hh, nI_sub, sI_v, gd, if_pos z0, c0, vK, gd, if_pos z0, vK, gd, if_pos z0, vK]
  have n1 : ¬ M.1 111 h = -1 := by rw [h111]; exact fun w => nI_neg1 (by omega) w.symm
  rw [if_neg (by decide), if_neg (by decide), if_neg (by decide), if_neg (by decide), sI_ne (g' := 111) (g := 109) (by omega), if_neg n1, if_neg (by decide), if_neg (by decide), if_neg (by decide), if_neg (by decide), if_neg (by decide), if_pos rfl, h111, gd, if_pos (nin ho (by omega)), nc (by omega), sI_ne (g' := 138) (g := 109) (by omega), sI_ne (g' := 112) (g := 109) (by omega), h112, if_pos hb]
  unfold rj_Model_touch_390
  rw [gd, if_pos (nin ho (by omega)), nc (by omega), sI_ne (g' := 142) (g := 109) (by omega)]
  split
  · rw [x_push (h := h) (by rw [sI_v]) h8 (by omega), bis, bis, rp_109]
  · rw [x_push (h := h) (by rw [sI_v]) h8 (by omega), bis, bis, rp_109]
theorem x_b8 (hh : M.1 109 0 = nI (h + 2)) (h8 : h + 1 < 8200) (hx : M.1 110 h + M.1 110 (h + 1) < 0 ∨ ¬ M.1 110 h + M.1 110 (h + 1) < M.1 113 h) (hr : RR nf (d - 2) 114 (sI M 109 0 (nI h)) [2] [] = some (x4, l1, M')) (hd : 4 ≤ d) : RR nf d 118 M [8, x, y, z] [] = some (0, 0, M') := by
  obtain ⟨d, rfl⟩ : ∃ g, d = g + 1 := ⟨d - 1, by omega⟩
  rw [e_Model_run_IIII]
  unfold rb_Model_run_IIII
  rw [if_neg (by decide), if_neg (by decide), if_neg (by decide), if_neg (by decide), if_neg (by decide), if_neg (by decide), if_neg (by decide), if_pos rfl]
  obtain ⟨d, rfl⟩ : ∃ g, d = g + 1 := ⟨d - 1, by omega⟩
  have z0 : inb (nI h) 8200 := nin (by omega) (by omega)
  have z1 : inb (nI (h + 1)) 8200 := nin (by omega) (by omega)
  have c0 : (nI h).toNatClampNeg = h := nc (by omega)
  have c1 : (nI (h + 1)).toNatClampNeg = h + 1 := nc (by omega)
  have ev : (sI M 109 0 (nI (h + 1))).1 109 0 - 1 = nI h := by rw [sI_v, nI_sub]
  rw [show d + 1 + 1 - 2 = d from rfl] at hr
  rw [e_Model_touch]
  unfold rb_Model_touch
  rw [stK, hh, show h + 2 = h + 1 + 1 from rfl, nI_sub, sI_v, gd, if_pos z1, c1, vK, gd, if_pos z1, vK, gd, if_pos z1, vK]
  rw [if_pos rfl]
  unfold rj_Model_touch_104
  rw [stK, ev, sI_ow, sI_v, gd, if_pos z0, c0, vK, gd, if_pos z0, vK, gd, if_pos z0, vK, sI_ne (g' := 110) (g := 109) (by omega), sI_ne (g' := 110) (g := 109) (by omega)]
  by_cases k1 : M.1 110 h + M.1 110 (h + 1) < 0
  · rw [if_pos k1, hr, bis, bis]
  · rw [if_neg k1, gd, if_pos z0, sI_ne (g' := 113) (g := 109) (by omega), if_neg (hx.resolve_left k1), hr, bis, bis]
theorem x_b9 (hh : M.1 109 0 = nI (h + 2)) (h8 : h + 1 < 8200) (hx : M.1 110 h + M.1 110 (h + 1) < 0 ∨ ¬ M.1 110 h + M.1 110 (h + 1) < M.1 113 h) (hr : RR nf (d - 2) 114 (sI M 109 0 (nI h)) [2] [] = some (x4, l1, M')) (hd : 4 ≤ d) : RR nf d 118 M [9, x, y, z] [] = some (0, 0, M') := by
  obtain ⟨d, rfl⟩ : ∃ g, d = g + 1 := ⟨d - 1, by omega⟩
  rw [e_Model_run_IIII]
  unfold rb_Model_run_IIII
  rw [if_neg (by decide), if_neg (by decide), if_neg (by decide), if_neg (by decide), if_neg (by decide), if_neg (by decide), if_neg (by decide), if_neg (by decide), if_pos rfl]
  obtain ⟨d, rfl⟩ : ∃ g, d = g + 1 := ⟨d - 1, by omega⟩
  have z0 : inb (nI h) 8200 := nin (by omega) (by omega)
  have z1 : inb (nI (h + 1)) 8200 := nin (by omega) (by omega)
  have c0 : (nI h).toNatClampNeg = h := nc (by omega)
  have c1 : (nI (h + 1)).toNatClampNeg = h + 1 := nc (by omega)
  have ev : (sI M 109 0 (nI (h + 1))).1 109 0 - 1 = nI h := by rw [sI_v, nI_sub]
  rw [show d + 1 + 1 - 2 = d from rfl] at hr
  rw [e_Model_touch]
  unfold rb_Model_touch
  rw [stK, hh, show h + 2 = h + 1 + 1 from rfl, nI_sub, sI_v, gd, if_pos z1, c1, vK, gd, if_pos z1, vK, gd, if_pos z1, vK]
  rw [if_neg (by decide), if_pos rfl]
  unfold rj_Model_touch_104
  rw [stK, ev, sI_ow, sI_v, gd, if_pos z0, c0, vK, gd, if_pos z0, vK, gd, if_pos z0, vK, sI_ne (g' := 110) (g := 109) (by omega), sI_ne (g' := 110) (g := 109) (by omega)]
  by_cases k1 : M.1 110 h + M.1 110 (h + 1) < 0
  · rw [if_pos k1, hr, bis, bis]
  · rw [if_neg k1, gd, if_pos z0, sI_ne (g' := 113) (g := 109) (by omega), if_neg (hx.resolve_left k1), hr, bis, bis]
theorem x_b24 (hh : M.1 109 0 = nI (h + 2)) (h8 : h + 1 < 8200) (hx : M.1 110 h + M.1 110 (h + 1) < 0 ∨ ¬ M.1 110 h + M.1 110 (h + 1) < M.1 113 h) (hr : RR nf (d - 2) 114 (sI M 109 0 (nI h)) [2] [] = some (x4, l1, M')) (hd : 4 ≤ d) : RR nf d 118 M [24, x, y, z] [] = some (0, 0, M') := by
  obtain ⟨d, rfl⟩ : ∃ g, d = g + 1 := ⟨d - 1, by omega⟩
  rw [e_Model_run_IIII]
  unfold rb_Model_run_IIII
  rw [if_neg (by decide), if_neg (by decide), if_neg (by decide), if_neg (by decide), if_neg (by decide), if_neg (by decide), if_neg (by decide), if_neg (by decide), if_neg (by decide), if_neg (by decide), if_neg (by decide), if_neg (by decide), if_neg (by decide), if_neg (by decide), if_neg (by decide), if_neg (by decide), if_neg (by decide), if_neg (by decide), if_neg (by decide), if_neg (by decide), if_neg (by decide), if_neg (by decide), if_neg (by decide), if_pos rfl]
  obtain ⟨d, rfl⟩ : ∃ g, d = g + 1 := ⟨d - 1, by omega⟩
  have z0 : inb (nI h) 8200 := nin (by omega) (by omega)
  have z1 : inb (nI (h + 1)) 8200 := nin (by omega) (by omega)
  have c0 : (nI h).toNatClampNeg = h := nc (by omega)
  have c1 : (nI (h + 1)).toNatClampNeg = h + 1 := nc (by omega)
  have ev : (sI M 109 0 (nI (h + 1))).1 109 0 - 1 = nI h := by rw [sI_v, nI_sub]
  rw [show d + 1 + 1 - 2 = d from rfl] at hr
  rw [e_Model_touch]
  unfold rb_Model_touch
  rw [stK, hh, show h + 2 = h + 1 + 1 from rfl, nI_sub, sI_v, gd, if_pos z1, c1, vK, gd, if_pos z1, vK, gd, if_pos z1, vK]
  rw [if_neg (by decide), if_neg (by decide), if_neg (by decide), if_pos rfl]
  unfold rj_Model_touch_104
  rw [stK, ev, sI_ow, sI_v, gd, if_pos z0, c0, vK, gd, if_pos z0, vK, gd, if_pos z0, vK, sI_ne (g' := 110) (g := 109) (by omega), sI_ne (g' := 110) (g := 109) (by omega)]
  by_cases k1 : M.1 110 h + M.1 110 (h + 1) < 0
  · rw [if_pos k1, hr, bis, bis]
  · rw [if_neg k1, gd, if_pos z0, sI_ne (g' := 113) (g := 109) (by omega), if_neg (hx.resolve_left k1), hr, bis, bis]
theorem x_r8 (hh : M.1 109 0 = nI (h + 2)) (h8 : h + 1 < 8200) (hx : M.1 110 h + M.1 110 (h + 1) = nI k) (hk2 : k < 100000) (h113 : M.1 113 h = nI l.length) (ho : o < 4096) (h111 : M.1 111 h = nI o) (h112 : M.1 112 h = bb) (hb : M.1 138 o = bb) (hn : M.1 140 o = nI l.length) (hl : l.length < 100000) (hc : chn (M.1 149) (M.1 139 o) l) (hk : k < l.length) (hg : ¬ M.1 148 (l.getD k 0) = 0) (hnf : l.length < nf) (hd : 4 ≤ d) : RR nf d 118 M [8, x, y, z] [] = some (0, 0, rpT M h (M.1 144 (l.getD k 0)) (M.1 145 (l.getD k 0)) (M.1 146 (l.getD k 0)) (M.1 147 (l.getD k 0))) := by
  obtain ⟨d, rfl⟩ : ∃ g, d = g + 1 := ⟨d - 1, by omega⟩
  rw [e_Model_run_IIII]
  unfold rb_Model_run_IIII
  rw [if_neg (by decide), if_neg (by decide), if_neg (by decide), if_neg (by decide), if_neg (by decide), if_neg (by decide), if_neg (by decide), if_pos rfl]
  obtain ⟨d, rfl⟩ : ∃ g, d = g + 1 := ⟨d - 1, by omega⟩
  have z0 : inb (nI h) 8200 := nin (by omega) (by omega)
  have z1 : inb (nI (h + 1)) 8200 := nin (by omega) (by omega)
  have c0 : (nI h).toNatClampNeg = h := nc (by omega)
  have c1 : (nI (h + 1)).toNatClampNeg = h + 1 := nc (by omega)
  have ev : (sI M 109 0 (nI (h + 1))).1 109 0 - 1 = nI h := by rw [sI_v, nI_sub]
  rw [e_Model_touch]
  unfold rb_Model_touch
  rw [stK, hh, show h + 2 = h + 1 + 1 from rfl, nI_sub, sI_v, gd, if_pos z1, c1, vK, gd, if_pos z1, vK, gd, if_pos z1, vK]
  rw [if_pos rfl]
  unfold rj_Model_touch_104
  rw [stK, ev, sI_ow, sI_v, gd, if_pos z0, c0, vK, gd, if_pos z0, vK, gd, if_pos z0, vK, sI_ne (g' := 110) (g := 109) (by omega), sI_ne (g' := 110) (g := 109) (by omega)]
  rw [hx, if_neg (nI_ge0 (by omega)), gd, if_pos z0, sI_ne (g' := 113) (g := 109) (by omega), h113, if_pos (show nI k < nI l.length from (nI_ltI (by omega) (by omega)).mpr hk), if_pos rfl, sI_ne (g' := 111) (g := 109) (by omega), sI_ne (g' := 112) (g := 109) (by omega), h111, h112, pp_109 (by omega) ho hb hn hl hc hk hg hnf (by omega), bis, if_neg (by decide)]
  unfold rj_Model_touch_207
  rw [if_neg (by decide), bis]
theorem x_r9 (hh : M.1 109 0 = nI (h + 2)) (h8 : h + 1 < 8200) (hx : M.1 110 h + M.1 110 (h + 1) = nI k) (hk2 : k < 100000) (h113 : M.1 113 h = nI n) (hk : k < n) (hn : n < 100000) (hd : 4 ≤ d) : RR nf d 118 M [9, x, y, z] [] = some (0, 0, rpT M h (nI k) (M.1 111 h) (M.1 112 h) 0) := by
  obtain ⟨d, rfl⟩ : ∃ g, d = g + 1 := ⟨d - 1, by omega⟩
  rw [e_Model_run_IIII]
  unfold rb_Model_run_IIII
  rw [if_neg (by decide), if_neg (by decide), if_neg (by decide), if_neg (by decide), if_neg (by decide), if_neg (by decide), if_neg (by decide), if_neg (by decide), if_pos rfl]
  obtain ⟨d, rfl⟩ : ∃ g, d = g + 1 := ⟨d - 1, by omega⟩
  have z0 : inb (nI h) 8200 := nin (by omega) (by omega)
  have z1 : inb (nI (h + 1)) 8200 := nin (by omega) (by omega)
  have c0 : (nI h).toNatClampNeg = h := nc (by omega)
  have c1 : (nI (h + 1)).toNatClampNeg = h + 1 := nc (by omega)
  have ev : (sI M 109 0 (nI (h + 1))).1 109 0 - 1 = nI h := by rw [sI_v, nI_sub]
  rw [e_Model_touch]
  unfold rb_Model_touch
  rw [stK, hh, show h + 2 = h + 1 + 1 from rfl, nI_sub, sI_v, gd, if_pos z1, c1, vK, gd, if_pos z1, vK, gd, if_pos z1, vK]
  rw [if_neg (by decide), if_pos rfl]
  unfold rj_Model_touch_104
  rw [stK, ev, sI_ow, sI_v, gd, if_pos z0, c0, vK, gd, if_pos z0, vK, gd, if_pos z0, vK, sI_ne (g' := 110) (g := 109) (by omega), sI_ne (g' := 110) (g := 109) (by omega)]
  rw [hx, if_neg (nI_ge0 (by omega)), gd, if_pos z0, sI_ne (g' := 113) (g := 109) (by omega), h113, if_pos (show nI k < nI n from (nI_ltI (by omega) (by omega)).mpr hk), if_neg (by decide), if_pos rfl, sI_ne (g' := 111) (g := 109) (by omega), sI_ne (g' := 112) (g := 109) (by omega), x_push (h := h) (by rw [sI_v]) (by omega) (by omega), bis, rp_109]
  unfold rj_Model_touch_207
  rw [if_neg (by decide), bis]
theorem rc_109 : rcT (sI M 109 0 v) c p = sI (rcT M c p) 109 0 v := by
  unfold rcT
  rw [sI_ne (g' := 110) (g := 109) (by omega), sI_ne (g' := 111) (g := 109) (by omega), sI_ne (g' := 112) (g := 109) (by omega), sI_ne (g' := 113) (g := 109) (by omega), sI_cc (g := 109) (h := 144) (by omega), sI_cc (g := 109) (h := 145) (by omega), sI_cc (g := 109) (h := 146) (by omega), sI_cc (g := 109) (h := 147) (by omega), sI_cc (g := 109) (h := 148) (by omega)]
theorem pu_109 (h8 : p < 8200) (ho : o < 4096) (hb : M.1 138 o = bb) (hn : M.1 140 o = nI l.length) (hl : l.length < 100000) (hc : chn (M.1 149) (M.1 139 o) l) (hk : k < l.length) (hnf : l.length < nf) (hd : 2 ≤ d) : RR nf d 113 (sI M 109 0 v) [nI o, bb, nI k, nI p] [] = some (0, 0, sI (rcT M (l.getD k 0) p) 109 0 v) := by
  have e : ∀ q, q ≠ 109 → (sI M 109 0 v).1 q = M.1 q := fun q hq => sI_ne hq
  rw [x_put (l := l) (k := k) ho (by rw [e 138 (by omega)]; exact hb) (by rw [e 140 (by omega)]; exact hn) hl (by rw [e 149 (by omega), e 139 (by omega)]; exact hc) hk h8 hnf hd, rc_109]
theorem x_r23 (hh : M.1 109 0 = nI (h + 2)) (h8 : h + 1 < 8200) (ho : o < 4096) (h111 : M.1 111 (h + 1) = nI o) (h112 : M.1 112 (h + 1) = bb) (hb : M.1 138 o = bb) (hn : M.1 140 o = nI l.length) (hl : l.length < 100000) (hc : chn (M.1 149) (M.1 139 o) l) (hy : ¬ y = 1) (hk : k < l.length) (hnf : l.length < nf) (hd : 4 ≤ d) : RR nf d 118 M [23, nI k, y, z] [] = some (0, 0, sI (rcT M (l.getD k 0) h) 109 0 (nI h)) := by
  obtain ⟨d, rfl⟩ : ∃ g, d = g + 1 := ⟨d - 1, by omega⟩
  rw [e_Model_run_IIII]
  unfold rb_Model_run_IIII
  rw [if_neg (by decide), if_neg (by decide), if_neg (by decide), if_neg (by decide), if_neg (by decide), if_neg (by decide), if_neg (by decide), if_neg (by decide), if_neg (by decide), if_neg (by decide), if_neg (by decide), if_neg (by decide), if_neg (by decide), if_neg (by decide), if_neg (by decide), if_neg (by decide), if_neg (by decide), if_neg (by decide), if_neg (by decide), if_neg (by decide), if_neg (by decide), if_neg (by decide), if_pos rfl]
  obtain ⟨d, rfl⟩ : ∃ g, d = g + 1 := ⟨d - 1, by omega⟩
  have z0 : inb (nI h) 8200 := nin (by omega) (by omega)
  have z1 : inb (nI (h + 1)) 8200 := nin (by omega) (by omega)
  have c0 : (nI h).toNatClampNeg = h := nc (by omega)
  have c1 : (nI (h + 1)).toNatClampNeg = h + 1 := nc (by omega)
  have ev : (sI M 109 0 (nI (h + 1))).1 109 0 - 1 = nI h := by rw [sI_v, nI_sub]
  rw [e_Model_touch]
  unfold rb_Model_touch
  rw [stK, hh, show h + 2 = h + 1 + 1 from rfl, nI_sub, sI_v, gd, if_pos z1, c1, vK, gd, if_pos z1, vK, gd, if_pos z1, vK]
  have n1 : ¬ M.1 111 (h + 1) = -1 := by rw [h111]; exact fun w => nI_neg1 (by omega) w.symm
  rw [if_neg (by decide), if_neg (by decide), if_neg (by decide), if_neg (by decide), sI_ne (g' := 111) (g := 109) (by omega), if_neg n1, if_neg (by decide), if_neg (by decide), if_neg (by decide), if_neg (by decide), if_neg (by decide), if_neg (by decide), if_neg (by decide), if_neg (by decide), if_neg (by decide), if_neg (by decide), if_neg (by decide), if_neg (by decide), if_neg (by decide), if_neg (by decide), if_neg (by decide), if_neg (by decide), if_neg (by decide), if_pos rfl, stK, nI_sub, sI_ow, if_neg hy, sI_v, sI_ne (g' := 112) (g := 109) (by omega), h111, h112, pu_109 (by omega) ho hb hn hl hc hk hnf (by omega), bis, if_neg hy, bis]
theorem x_r23u (hh : M.1 109 0 = nI (h + 2)) (h8 : h + 1 < 8200) (ho : o < 4096) (h111 : M.1 111 (h + 1) = nI o) (h112 : M.1 112 (h + 1) = bb) (hb : M.1 138 o = bb) (hn : M.1 140 o = nI l.length) (hl : l.length < 100000) (hc : chn (M.1 149) (M.1 139 o) l) (hk : 0 < l.length) (hnf : l.length < nf) (hd : 4 ≤ d) : RR nf d 118 M [23, x, 1, z] [] = some (0, 0, sI (sI (rcT M (l.getD 0 0) h) 109 0 (nI h)) 142 o x) := by
  obtain ⟨d, rfl⟩ : ∃ g, d = g + 1 := ⟨d - 1, by omega⟩
  rw [e_Model_run_IIII]
  unfold rb_Model_run_IIII
  rw [if_neg (by decide), if_neg (by decide), if_neg (by decide), if_neg (by decide), if_neg (by decide), if_neg (by decide), if_neg (by decide), if_neg (by decide), if_neg (by decide), if_neg (by decide), if_neg (by decide), if_neg (by decide), if_neg (by decide), if_neg (by decide), if_neg (by decide), if_neg (by decide), if_neg (by decide), if_neg (by decide), if_neg (by decide), if_neg (by decide), if_neg (by decide), if_neg (by decide), if_pos rfl]
  obtain ⟨d, rfl⟩ : ∃ g, d = g + 1 := ⟨d - 1, by omega⟩
  have z0 : inb (nI h) 8200 := nin (by omega) (by omega)
  have z1 : inb (nI (h + 1)) 8200 := nin (by omega) (by omega)
  have c0 : (nI h).toNatClampNeg = h := nc (by omega)
  have c1 : (nI (h + 1)).toNatClampNeg = h + 1 := nc (by omega)
  have ev : (sI M 109 0 (nI (h + 1))).1 109 0 - 1 = nI h := by rw [sI_v, nI_sub]
  rw [e_Model_touch]
  unfold rb_Model_touch
  rw [stK, hh, show h + 2 = h + 1 + 1 from rfl, nI_sub, sI_v, gd, if_pos z1, c1, vK, gd, if_pos z1, vK, gd, if_pos z1, vK]
  have n1 : ¬ M.1 111 (h + 1) = -1 := by rw [h111]; exact fun w => nI_neg1 (by omega) w.symm
  rw [if_neg (by decide), if_neg (by decide), if_neg (by decide), if_neg (by decide), sI_ne (g' := 111) (g := 109) (by omega), if_neg n1, if_neg (by decide), if_neg (by decide), if_neg (by decide), if_neg (by decide), if_neg (by decide), if_neg (by decide), if_neg (by decide), if_neg (by decide), if_neg (by decide), if_neg (by decide), if_neg (by decide), if_neg (by decide), if_neg (by decide), if_neg (by decide), if_neg (by decide), if_neg (by decide), if_neg (by decide), if_pos rfl, stK, nI_sub, sI_ow, if_pos rfl, sI_v, sI_ne (g' := 112) (g := 109) (by omega), h111, h112, show (0 : Int32) = nI 0 from rfl, pu_109 (by omega) ho hb hn hl hc hk hnf (by omega), bis, if_pos rfl, gd, if_pos (nin ho (by omega)), nc (by omega), stK, bis]
theorem x_r25 (hh : M.1 109 0 = nI (h + 2)) (h8 : h + 1 < 8200) (ho : o < 4096) (h111 : M.1 111 (h + 1) = nI o) (h112 : M.1 112 (h + 1) = bb) (hb : M.1 138 o = bb) (hn : M.1 140 o = nI l.length) (hl : l.length < 100000) (hc : chn (M.1 149) (M.1 139 o) l) (h110 : M.1 110 (h + 1) = nI k) (hk : k < l.length) (hnf : l.length < nf) (hd : 4 ≤ d) : RR nf d 118 M [25, x, y, z] [] = some (0, 0, sI (rcT M (l.getD k 0) h) 109 0 (nI h)) := by
  obtain ⟨d, rfl⟩ : ∃ g, d = g + 1 := ⟨d - 1, by omega⟩
  rw [e_Model_run_IIII]
  unfold rb_Model_run_IIII
  rw [if_neg (by decide), if_neg (by decide), if_neg (by decide), if_neg (by decide), if_neg (by decide), if_neg (by decide), if_neg (by decide), if_neg (by decide), if_neg (by decide), if_neg (by decide), if_neg (by decide), if_neg (by decide), if_neg (by decide), if_neg (by decide), if_neg (by decide), if_neg (by decide), if_neg (by decide), if_neg (by decide), if_neg (by decide), if_neg (by decide), if_neg (by decide), if_neg (by decide), if_neg (by decide), if_neg (by decide), if_pos rfl]
  obtain ⟨d, rfl⟩ : ∃ g, d = g + 1 := ⟨d - 1, by omega⟩
  have z0 : inb (nI h) 8200 := nin (by omega) (by omega)
  have z1 : inb (nI (h + 1)) 8200 := nin (by omega) (by omega)
  have c0 : (nI h).toNatClampNeg = h := nc (by omega)
  have c1 : (nI (h + 1)).toNatClampNeg = h + 1 := nc (by omega)
  have ev : (sI M 109 0 (nI (h + 1))).1 109 0 - 1 = nI h := by rw [sI_v, nI_sub]
  rw [e_Model_touch]
  unfold rb_Model_touch
  rw [stK, hh, show h + 2 = h + 1 + 1 from rfl, nI_sub, sI_v, gd, if_pos z1, c1, vK, gd, if_pos z1, vK, gd, if_pos z1, vK]
  have n1 : ¬ M.1 111 (h + 1) = -1 := by rw [h111]; exact fun w => nI_neg1 (by omega) w.symm
  rw [if_neg (by decide), if_neg (by decide), if_neg (by decide), if_neg (by decide), sI_ne (g' := 111) (g := 109) (by omega), if_neg n1, if_neg (by decide), if_neg (by decide), if_neg (by decide), if_neg (by decide), if_neg (by decide), if_neg (by decide), if_neg (by decide), if_neg (by decide), if_neg (by decide), if_neg (by decide), if_neg (by decide), if_neg (by decide), if_neg (by decide), if_neg (by decide), if_neg (by decide), if_neg (by decide), if_neg (by decide), if_neg (by decide)]
  unfold rj_Model_touch_502
  rw [stK, ev, sI_ow, sI_v, sI_ne (g' := 112) (g := 109) (by omega), sI_ne (g' := 110) (g := 109) (by omega), h110, h111, h112, pu_109 (by omega) ho hb hn hl hc hk hnf (by omega), bis, bis]
theorem x_r24 (hh : M.1 109 0 = nI (h + 3)) (h8 : h + 2 < 8200) (hx : M.1 110 (h + 1) + M.1 110 (h + 2) = nI k) (hk2 : k < 100000) (h113 : M.1 113 (h + 1) = nI l.length) (ho : o < 4096) (h111 : M.1 111 (h + 1) = nI o) (h112 : M.1 112 (h + 1) = bb) (hb : M.1 138 o = bb) (hn : M.1 140 o = nI l.length) (hl : l.length < 100000) (hc : chn (M.1 149) (M.1 139 o) l) (hk : k < l.length) (hnf : l.length < nf) (hd : 4 ≤ d) : RR nf d 118 M [24, x, y, z] [] = some (0, 0, sI (rcT M (l.getD k 0) h) 109 0 (nI h)) := by
  obtain ⟨d, rfl⟩ : ∃ g, d = g + 1 := ⟨d - 1, by omega⟩
  rw [e_Model_run_IIII]
  unfold rb_Model_run_IIII
  rw [if_neg (by decide), if_neg (by decide), if_neg (by decide), if_neg (by decide), if_neg (by decide), if_neg (by decide), if_neg (by decide), if_neg (by decide), if_neg (by decide), if_neg (by decide), if_neg (by decide), if_neg (by decide), if_neg (by decide), if_neg (by decide), if_neg (by decide), if_neg (by decide), if_neg (by decide), if_neg (by decide), if_neg (by decide), if_neg (by decide), if_neg (by decide), if_neg (by decide), if_neg (by decide), if_pos rfl]
  obtain ⟨d, rfl⟩ : ∃ g, d = g + 1 := ⟨d - 1, by omega⟩
  have z1 : inb (nI (h + 1)) 8200 := nin (by omega) (by omega)
  have z2 : inb (nI (h + 2)) 8200 := nin (by omega) (by omega)
  have c1 : (nI (h + 1)).toNatClampNeg = h + 1 := nc (by omega)
  have c2 : (nI (h + 2)).toNatClampNeg = h + 2 := nc (by omega)
  have ev : (sI M 109 0 (nI (h + 1))).1 109 0 - 1 = nI h := by rw [sI_v, nI_sub]
  have ev2 : (sI M 109 0 (nI (h + 2))).1 109 0 - 1 = nI (h + 1) := by rw [sI_v, show h + 2 = h + 1 + 1 from rfl, nI_sub]
  rw [e_Model_touch]
  unfold rb_Model_touch
  rw [stK, hh, show h + 3 = h + 2 + 1 from rfl, nI_sub, sI_v, gd, if_pos z2, c2, vK, gd, if_pos z2, vK, gd, if_pos z2, vK, if_neg (by decide), if_neg (by decide), if_neg (by decide), if_pos rfl]
  unfold rj_Model_touch_104
  rw [stK, ev2, sI_ow, sI_v, gd, if_pos z1, c1, vK, gd, if_pos z1, vK, gd, if_pos z1, vK, sI_ne (g' := 110) (g := 109) (by omega), sI_ne (g' := 110) (g := 109) (by omega), hx, if_neg (nI_ge0 (by omega)), gd, if_pos z1, sI_ne (g' := 113) (g := 109) (by omega), h113, if_pos (show nI k < nI l.length from (nI_ltI (by omega) (by omega)).mpr hk), if_neg (by decide), if_neg (by decide)]
  unfold rj_Model_touch_207
  rw [if_pos rfl, stK, ev, sI_ow, sI_v, sI_ne (g' := 111) (g := 109) (by omega), sI_ne (g' := 112) (g := 109) (by omega), h111, h112, pu_109 (by omega) ho hb hn hl hc hk hnf (by omega), bis, bis]
end RM7
