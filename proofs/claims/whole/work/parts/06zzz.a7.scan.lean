theorem scanS_i {T : gSt} {z k : Nat} (h : ∀ c ∈ [20, 21, 25, 19, 22, 23, 11, 12, 13, 14, 15, 16, 17, 18], k ≠ c) : (scanS T z).1 k = T.1 k := by
  unfold scanS
  dsimp only
  rw [if_neg (h 20 (by decide)), if_neg (h 21 (by decide)), if_neg (h 25 (by decide)), if_neg (h 19 (by decide)), if_neg (h 22 (by decide)), if_neg (h 23 (by decide)), if_neg (h 11 (by decide)), if_neg (h 12 (by decide)), if_neg (h 13 (by decide)), if_neg (h 14 (by decide)), if_neg (h 15 (by decide)), if_neg (h 16 (by decide)), if_neg (h 17 (by decide)), if_neg (h 18 (by decide))]
theorem scanS_j {T : gSt} {z k : Nat} (h : k ≠ 24) : (scanS T z).2 k = T.2 k := by
  unfold scanS
  dsimp only
  rw [if_neg h]
theorem gv_same {L : gL} {ad : Nat → Nat} {T T' : gSt} {g : Nat} (h : gkd L g = 2 ∨ (T'.1 g 0 = T.1 g 0 ∧ T'.2 g 0 = T.2 g 0)) : gv L ad T' g = gv L ad T g := by
  rcases h with h | ⟨h1, h2⟩
  · unfold gv
    rw [h]
    simp
  · unfold gv
    rw [h1, h2]
theorem scan_k1 : ∀ o, o < 12 → o ≠ 1 → ∀ k, k < gnf LH o → (gkd LH (gb LH o k) = 2 ∨ ((∀ c ∈ [20, 21, 25, 19, 22, 23, 11, 12, 13, 14, 15, 16, 17, 18], gb LH o k ≠ c) ∧ gb LH o k ≠ 24)) := by decide +kernel
theorem scan_k2 : ∀ i, i < 56 → (i ∈ [9, 10, 11, 12, 1, 2, 3, 4, 5, 6, 7, 8, 0] ∨ ((∀ c ∈ [20, 21, 25, 19, 22, 23, 11, 12, 13, 14, 15, 16, 17, 18], gid LH i ≠ c) ∧ gid LH i ≠ 24)) := by decide +kernel
set_option maxHeartbeats 8000000 in
set_option maxRecDepth 100000 in
theorem lift_scan (l : Launch) (dC : Nat → ClassId) (dI : Nat → Nat → Nat) (ea ev ad : Nat → Nat) (km : Nat → ClassId) (d : Nat) (T : gSt) (z : Nat) (hz : z ≤ 4000) (hch : ∀ j, j < 4000 → 0 ≤ T.1 0 j ∧ T.1 0 j ≤ 255) : GMv l dC dI LH ad km ea ev y_Source_scan w_Source_scan (rmD d) [.ref (ad 1), .ref (ad 12), .int (nI z)] T (scanS T z) := by
  intro sz
  refine glift_v (wc := [oc (ad 1) 8 (gf LH ad T 1), ic (ad 21) (km 9) 4001 (T.1 22), ic (ad 22) (km 10) 4001 (T.1 23), jc (ad 23) (km 11) 4001 (T.2 24), jc (ad 24) (km 12) 26 (T.2 26), ic (ad 13) (km 1) 4008 (T.1 11), ic (ad 14) (km 2) 4008 (T.1 12), ic (ad 15) (km 3) 4008 (T.1 13), ic (ad 16) (km 4) 4008 (T.1 14), ic (ad 17) (km 5) 4008 (T.1 15), ic (ad 18) (km 6) 4008 (T.1 16), ic (ad 19) (km 7) 4008 (T.1 17), ic (ad 20) (km 8) 4008 (T.1 18), ic (ad 12) (km 0) 4000 (T.1 0)]) (tys := [(km 9, .int), (km 10, .int), (km 11, .long), (km 12, .long), (km 1, .int), (km 2, .int), (km 3, .int), (km 4, .int), (km 5, .int), (km 6, .int), (km 7, .int), (km 8, .int), (km 0, .char)]) [1, 21, 22, 23, 24, 13, 14, 15, 16, 17, 18, 19, 20, 12] [9, 10, 11, 12, 1, 2, 3, 4, 5, 6, 7, 8, 0] (fun k => ?_) (by decide) (fun k => ?_) (fun j hj => ?_) (c_Source_scan l dC dI (sz := sz) (ad := ea) (av := ev) (h_this := (ad 1)) (h_tokenKind := (ad 21)) (h_tokenStart := (ad 22)) (h_tokenName := (ad 23)) (h_words := (ad 24)) (h_kind := (ad 13)) (h_tok := (ad 14)) (h_next := (ad 15)) (h_peer := (ad 16)) (h_op := (ad 17)) (h_left := (ad 18)) (h_right := (ad 19)) (h_tail := (ad 20)) (h_a1 := (ad 12)) (fs_this := (gf LH ad T 1)) (k_tokenKind := (km 9)) (f_tokenKind := (T.1 22)) (k_tokenStart := (km 10)) (f_tokenStart := (T.1 23)) (k_tokenName := (km 11)) (f_tokenName := (T.2 24)) (k_words := (km 12)) (f_words := (T.2 26)) (k_kind := (km 1)) (f_kind := (T.1 11)) (k_tok := (km 2)) (f_tok := (T.1 12)) (k_next := (km 3)) (f_next := (T.1 13)) (k_peer := (km 4)) (f_peer := (T.1 14)) (k_op := (km 5)) (f_op := (T.1 15)) (k_left := (km 6)) (f_left := (T.1 16)) (k_right := (km 7)) (f_right := (T.1 17)) (k_tail := (km 8)) (f_tail := (T.1 18)) (k_a1 := (km 0)) (f_a1 := (T.1 0)) (tz := z) (len_this := gf_len) (g_this_tokenKind := ((gf_k (L := LH) (o := 1) (k := 11) (Nat.le_of_ble_eq_true rfl)).trans (congrArg some (gv_a (L := LH) (g := 22) rfl)))) (g_this_tokenStart := ((gf_k (L := LH) (o := 1) (k := 12) (Nat.le_of_ble_eq_true rfl)).trans (congrArg some (gv_a (L := LH) (g := 23) rfl)))) (g_this_tokenName := ((gf_k (L := LH) (o := 1) (k := 13) (Nat.le_of_ble_eq_true rfl)).trans (congrArg some (gv_a (L := LH) (g := 24) rfl)))) (g_this_words := ((gf_k (L := LH) (o := 1) (k := 15) (Nat.le_of_ble_eq_true rfl)).trans (congrArg some (gv_a (L := LH) (g := 26) rfl)))) (g_this_kind := ((gf_k (L := LH) (o := 1) (k := 0) (Nat.le_of_ble_eq_true rfl)).trans (congrArg some (gv_a (L := LH) (g := 11) rfl)))) (g_this_tok := ((gf_k (L := LH) (o := 1) (k := 1) (Nat.le_of_ble_eq_true rfl)).trans (congrArg some (gv_a (L := LH) (g := 12) rfl)))) (g_this_next := ((gf_k (L := LH) (o := 1) (k := 2) (Nat.le_of_ble_eq_true rfl)).trans (congrArg some (gv_a (L := LH) (g := 13) rfl)))) (g_this_peer := ((gf_k (L := LH) (o := 1) (k := 3) (Nat.le_of_ble_eq_true rfl)).trans (congrArg some (gv_a (L := LH) (g := 14) rfl)))) (g_this_op := ((gf_k (L := LH) (o := 1) (k := 4) (Nat.le_of_ble_eq_true rfl)).trans (congrArg some (gv_a (L := LH) (g := 15) rfl)))) (g_this_left := ((gf_k (L := LH) (o := 1) (k := 5) (Nat.le_of_ble_eq_true rfl)).trans (congrArg some (gv_a (L := LH) (g := 16) rfl)))) (g_this_right := ((gf_k (L := LH) (o := 1) (k := 6) (Nat.le_of_ble_eq_true rfl)).trans (congrArg some (gv_a (L := LH) (g := 17) rfl)))) (g_this_tail := ((gf_k (L := LH) (o := 1) (k := 7) (Nat.le_of_ble_eq_true rfl)).trans (congrArg some (gv_a (L := LH) (g := 18) rfl)))) (hz := hz) (hch := hch)) ⟨by show 5 ≤ d + 10; omega, by show 116 ≤ 100 * d + 1000; omega, Nat.le_refl _, Nat.le_refl _⟩ (fun t hb k i x hk hx => ?_)
  · match k with
    | 0 => exact (gW_o (L := LH) (ad := ad) (km := km) (T := T) (o := 1) (Nat.le_of_ble_eq_true rfl)).symm
    | 1 => exact ((gW_a (L := LH) (ad := ad) (km := km) (T := T) (i := 9) (Nat.le_of_ble_eq_true rfl)).trans (by rw [gc_i (L := LH) (i := 9) (g := 22) (n := 4001) rfl rfl rfl]; rfl)).symm
    | 2 => exact ((gW_a (L := LH) (ad := ad) (km := km) (T := T) (i := 10) (Nat.le_of_ble_eq_true rfl)).trans (by rw [gc_i (L := LH) (i := 10) (g := 23) (n := 4001) rfl rfl rfl]; rfl)).symm
    | 3 => exact ((gW_a (L := LH) (ad := ad) (km := km) (T := T) (i := 11) (Nat.le_of_ble_eq_true rfl)).trans (by rw [gc_j (L := LH) (i := 11) (g := 24) (n := 4001) rfl rfl rfl]; rfl)).symm
    | 4 => exact ((gW_a (L := LH) (ad := ad) (km := km) (T := T) (i := 12) (Nat.le_of_ble_eq_true rfl)).trans (by rw [gc_j (L := LH) (i := 12) (g := 26) (n := 26) rfl rfl rfl]; rfl)).symm
    | 5 => exact ((gW_a (L := LH) (ad := ad) (km := km) (T := T) (i := 1) (Nat.le_of_ble_eq_true rfl)).trans (by rw [gc_i (L := LH) (i := 1) (g := 11) (n := 4008) rfl rfl rfl]; rfl)).symm
    | 6 => exact ((gW_a (L := LH) (ad := ad) (km := km) (T := T) (i := 2) (Nat.le_of_ble_eq_true rfl)).trans (by rw [gc_i (L := LH) (i := 2) (g := 12) (n := 4008) rfl rfl rfl]; rfl)).symm
    | 7 => exact ((gW_a (L := LH) (ad := ad) (km := km) (T := T) (i := 3) (Nat.le_of_ble_eq_true rfl)).trans (by rw [gc_i (L := LH) (i := 3) (g := 13) (n := 4008) rfl rfl rfl]; rfl)).symm
    | 8 => exact ((gW_a (L := LH) (ad := ad) (km := km) (T := T) (i := 4) (Nat.le_of_ble_eq_true rfl)).trans (by rw [gc_i (L := LH) (i := 4) (g := 14) (n := 4008) rfl rfl rfl]; rfl)).symm
    | 9 => exact ((gW_a (L := LH) (ad := ad) (km := km) (T := T) (i := 5) (Nat.le_of_ble_eq_true rfl)).trans (by rw [gc_i (L := LH) (i := 5) (g := 15) (n := 4008) rfl rfl rfl]; rfl)).symm
    | 10 => exact ((gW_a (L := LH) (ad := ad) (km := km) (T := T) (i := 6) (Nat.le_of_ble_eq_true rfl)).trans (by rw [gc_i (L := LH) (i := 6) (g := 16) (n := 4008) rfl rfl rfl]; rfl)).symm
    | 11 => exact ((gW_a (L := LH) (ad := ad) (km := km) (T := T) (i := 7) (Nat.le_of_ble_eq_true rfl)).trans (by rw [gc_i (L := LH) (i := 7) (g := 17) (n := 4008) rfl rfl rfl]; rfl)).symm
    | 12 => exact ((gW_a (L := LH) (ad := ad) (km := km) (T := T) (i := 8) (Nat.le_of_ble_eq_true rfl)).trans (by rw [gc_i (L := LH) (i := 8) (g := 18) (n := 4008) rfl rfl rfl]; rfl)).symm
    | 13 => exact ((gW_a (L := LH) (ad := ad) (km := km) (T := T) (i := 0) (Nat.le_of_ble_eq_true rfl)).trans (by rw [gc_i (L := LH) (i := 0) (g := 0) (n := 4000) rfl rfl rfl]; rfl)).symm
    | k + 14 => rfl
  · match k with
    | 0 => exact ((gT_a (L := LH) (km := km) (i := 9) (Nat.le_of_ble_eq_true rfl)).trans rfl).symm
    | 1 => exact ((gT_a (L := LH) (km := km) (i := 10) (Nat.le_of_ble_eq_true rfl)).trans rfl).symm
    | 2 => exact ((gT_a (L := LH) (km := km) (i := 11) (Nat.le_of_ble_eq_true rfl)).trans rfl).symm
    | 3 => exact ((gT_a (L := LH) (km := km) (i := 12) (Nat.le_of_ble_eq_true rfl)).trans rfl).symm
    | 4 => exact ((gT_a (L := LH) (km := km) (i := 1) (Nat.le_of_ble_eq_true rfl)).trans rfl).symm
    | 5 => exact ((gT_a (L := LH) (km := km) (i := 2) (Nat.le_of_ble_eq_true rfl)).trans rfl).symm
    | 6 => exact ((gT_a (L := LH) (km := km) (i := 3) (Nat.le_of_ble_eq_true rfl)).trans rfl).symm
    | 7 => exact ((gT_a (L := LH) (km := km) (i := 4) (Nat.le_of_ble_eq_true rfl)).trans rfl).symm
    | 8 => exact ((gT_a (L := LH) (km := km) (i := 5) (Nat.le_of_ble_eq_true rfl)).trans rfl).symm
    | 9 => exact ((gT_a (L := LH) (km := km) (i := 6) (Nat.le_of_ble_eq_true rfl)).trans rfl).symm
    | 10 => exact ((gT_a (L := LH) (km := km) (i := 7) (Nat.le_of_ble_eq_true rfl)).trans rfl).symm
    | 11 => exact ((gT_a (L := LH) (km := km) (i := 8) (Nat.le_of_ble_eq_true rfl)).trans rfl).symm
    | 12 => exact ((gT_a (L := LH) (km := km) (i := 0) (Nat.le_of_ble_eq_true rfl)).trans rfl).symm
    | k + 13 => rfl
  · by_cases ho : j < 12
    · have hj1 : j ≠ 1 := fun e => hj (by rw [e]; decide)
      rw [gW_o (L := LH) ho, gW_o (L := LH) ho]
      have e : gf LH ad (scanS T z) j = gf LH ad T j := List.map_congr_left (fun k hk => gv_same ((scan_k1 j ho hj1 k (List.mem_range.mp hk)).imp id (fun h => ⟨congrFun (scanS_i h.1) 0, congrFun (scanS_j h.2) 0⟩)))
      rw [e]
    · by_cases hi : j - 12 < 56
      · have e : j = gO LH + (j - 12) := by show j = 12 + (j - 12); omega
        rw [e, gW_a hi, gW_a hi]
        rcases scan_k2 (j - 12) hi with h | h
        · have hall : ∀ q ∈ [9, 10, 11, 12, 1, 2, 3, 4, 5, 6, 7, 8, 0], 12 + q ∈ [1, 21, 22, 23, 24, 13, 14, 15, 16, 17, 18, 19, 20, 12] := by decide
          exact absurd (show j ∈ [1, 21, 22, 23, 24, 13, 14, 15, 16, 17, 18, 19, 20, 12] by have := hall _ h; rwa [show 12 + (j - 12) = j by omega] at this) hj
        · have e2 : gc LH (scanS T z) (j - 12) = gc LH T (j - 12) := by unfold gc; rw [scanS_i h.1, scanS_j h.2]
          rw [e2]
      · rw [List.getElem?_eq_none (by rw [gW_len]; show 12 + 56 ≤ j; omega), List.getElem?_eq_none (by rw [gW_len]; show 12 + 56 ≤ j; omega)]
  · obtain ⟨w0, w1, w2, w3, w4, w5, w6, w7, w8, w9, w10, w11, ⟨e0, e1, e2, e3, e4, e5, e6, e7, e8, e9, e10, e11, e12, e13, e14, e15, e16⟩, hP, -⟩ := hb
    have hfs : w0 = gf LH ad (scanS T z) 1 := by
      refine List.ext_getElem? (fun j => ?_)
      by_cases hj : j < 16
      · rw [gf_k (L := LH) (o := 1) (show j < gnf LH 1 from hj)]
        have hh : j = 0 ∨ j = 1 ∨ j = 2 ∨ j = 3 ∨ j = 4 ∨ j = 5 ∨ j = 6 ∨ j = 7 ∨ j = 8 ∨ j = 9 ∨ j = 10 ∨ j = 11 ∨ j = 12 ∨ j = 13 ∨ j = 14 ∨ j = 15 := by omega
        rcases hh with rfl | rfl | rfl | rfl | rfl | rfl | rfl | rfl | rfl | rfl | rfl | rfl | rfl | rfl | rfl | rfl
        · rw [e1 0 (by decide) (by decide) (by decide) (by decide), gf_k (L := LH) (o := 1) (Nat.le_of_ble_eq_true rfl)]; rfl
        · rw [e1 1 (by decide) (by decide) (by decide) (by decide), gf_k (L := LH) (o := 1) (Nat.le_of_ble_eq_true rfl)]; rfl
        · rw [e1 2 (by decide) (by decide) (by decide) (by decide), gf_k (L := LH) (o := 1) (Nat.le_of_ble_eq_true rfl)]; rfl
        · rw [e1 3 (by decide) (by decide) (by decide) (by decide), gf_k (L := LH) (o := 1) (Nat.le_of_ble_eq_true rfl)]; rfl
        · rw [e1 4 (by decide) (by decide) (by decide) (by decide), gf_k (L := LH) (o := 1) (Nat.le_of_ble_eq_true rfl)]; rfl
        · rw [e1 5 (by decide) (by decide) (by decide) (by decide), gf_k (L := LH) (o := 1) (Nat.le_of_ble_eq_true rfl)]; rfl
        · rw [e1 6 (by decide) (by decide) (by decide) (by decide), gf_k (L := LH) (o := 1) (Nat.le_of_ble_eq_true rfl)]; rfl
        · rw [e1 7 (by decide) (by decide) (by decide) (by decide), gf_k (L := LH) (o := 1) (Nat.le_of_ble_eq_true rfl)]; rfl
        · rw [e5]; rfl
        · rw [e2]; rfl
        · rw [e3]; rfl
        · rw [e1 11 (by decide) (by decide) (by decide) (by decide), gf_k (L := LH) (o := 1) (Nat.le_of_ble_eq_true rfl)]; rfl
        · rw [e1 12 (by decide) (by decide) (by decide) (by decide), gf_k (L := LH) (o := 1) (Nat.le_of_ble_eq_true rfl)]; rfl
        · rw [e1 13 (by decide) (by decide) (by decide) (by decide), gf_k (L := LH) (o := 1) (Nat.le_of_ble_eq_true rfl)]; rfl
        · rw [e4]; rfl
        · rw [e1 15 (by decide) (by decide) (by decide) (by decide), gf_k (L := LH) (o := 1) (Nat.le_of_ble_eq_true rfl)]; rfl
      · rw [List.getElem?_eq_none (by rw [e0]; omega), List.getElem?_eq_none (by rw [gf_len]; show 16 ≤ j; omega)]
    subst hfs
    subst e6 e7 e8 e9 e10 e11 e12 e13 e14 e15 e16
    match k, hk with
    | 0, hk => cases hk; rw [gW_o (L := LH) (o := 1) (Nat.le_of_ble_eq_true rfl)] at hx; cases hx; exact hP 0 _ rfl
    | 1, hk => cases hk; rw [show (21 : Nat) = gO LH + 9 from rfl, gW_a (L := LH) (i := 9) (Nat.le_of_ble_eq_true rfl), gc_i (L := LH) (i := 9) (g := 22) (n := 4001) rfl rfl rfl] at hx; cases hx; exact hP 1 _ rfl
    | 2, hk => cases hk; rw [show (22 : Nat) = gO LH + 10 from rfl, gW_a (L := LH) (i := 10) (Nat.le_of_ble_eq_true rfl), gc_i (L := LH) (i := 10) (g := 23) (n := 4001) rfl rfl rfl] at hx; cases hx; exact hP 2 _ rfl
    | 3, hk => cases hk; rw [show (23 : Nat) = gO LH + 11 from rfl, gW_a (L := LH) (i := 11) (Nat.le_of_ble_eq_true rfl), gc_j (L := LH) (i := 11) (g := 24) (n := 4001) rfl rfl rfl] at hx; cases hx; exact hP 3 _ rfl
    | 4, hk => cases hk; rw [show (24 : Nat) = gO LH + 12 from rfl, gW_a (L := LH) (i := 12) (Nat.le_of_ble_eq_true rfl), gc_j (L := LH) (i := 12) (g := 26) (n := 26) rfl rfl rfl] at hx; cases hx; exact hP 4 _ rfl
    | 5, hk => cases hk; rw [show (13 : Nat) = gO LH + 1 from rfl, gW_a (L := LH) (i := 1) (Nat.le_of_ble_eq_true rfl), gc_i (L := LH) (i := 1) (g := 11) (n := 4008) rfl rfl rfl] at hx; cases hx; exact hP 5 _ rfl
    | 6, hk => cases hk; rw [show (14 : Nat) = gO LH + 2 from rfl, gW_a (L := LH) (i := 2) (Nat.le_of_ble_eq_true rfl), gc_i (L := LH) (i := 2) (g := 12) (n := 4008) rfl rfl rfl] at hx; cases hx; exact hP 6 _ rfl
    | 7, hk => cases hk; rw [show (15 : Nat) = gO LH + 3 from rfl, gW_a (L := LH) (i := 3) (Nat.le_of_ble_eq_true rfl), gc_i (L := LH) (i := 3) (g := 13) (n := 4008) rfl rfl rfl] at hx; cases hx; exact hP 7 _ rfl
    | 8, hk => cases hk; rw [show (16 : Nat) = gO LH + 4 from rfl, gW_a (L := LH) (i := 4) (Nat.le_of_ble_eq_true rfl), gc_i (L := LH) (i := 4) (g := 14) (n := 4008) rfl rfl rfl] at hx; cases hx; exact hP 8 _ rfl
    | 9, hk => cases hk; rw [show (17 : Nat) = gO LH + 5 from rfl, gW_a (L := LH) (i := 5) (Nat.le_of_ble_eq_true rfl), gc_i (L := LH) (i := 5) (g := 15) (n := 4008) rfl rfl rfl] at hx; cases hx; exact hP 9 _ rfl
    | 10, hk => cases hk; rw [show (18 : Nat) = gO LH + 6 from rfl, gW_a (L := LH) (i := 6) (Nat.le_of_ble_eq_true rfl), gc_i (L := LH) (i := 6) (g := 16) (n := 4008) rfl rfl rfl] at hx; cases hx; exact hP 10 _ rfl
    | 11, hk => cases hk; rw [show (19 : Nat) = gO LH + 7 from rfl, gW_a (L := LH) (i := 7) (Nat.le_of_ble_eq_true rfl), gc_i (L := LH) (i := 7) (g := 17) (n := 4008) rfl rfl rfl] at hx; cases hx; exact hP 11 _ rfl
    | 12, hk => cases hk; rw [show (20 : Nat) = gO LH + 8 from rfl, gW_a (L := LH) (i := 8) (Nat.le_of_ble_eq_true rfl), gc_i (L := LH) (i := 8) (g := 18) (n := 4008) rfl rfl rfl] at hx; cases hx; exact hP 12 _ rfl
    | 13, hk => cases hk; rw [show (12 : Nat) = gO LH + 0 from rfl, gW_a (L := LH) (i := 0) (Nat.le_of_ble_eq_true rfl), gc_i (L := LH) (i := 0) (g := 0) (n := 4000) rfl rfl rfl] at hx; cases hx; exact hP 13 _ rfl
