/-! the code that puts a value to a place -/
def LyW (nf : Nat) (X : Lx) (t : Tr) : Prop := ∀ (T : gSt) (d lo hi a b s n : Nat) (x ty tl : Int32) (js : List T5), AnE X T t lo hi x ty tl js → hi ≤ 8200 → Wf X t false a b → b ≤ xn X → amT X t → jGs T js → (tkd X t = 14 ∨ tkd X t = 15 ∨ tkd X t = 16) → LyP T s n → s + (hi - lo) ≤ 8200 → 6 * dpT t + 22 ≤ d → n + js.length ≤ 12000 → wp (RR nf d 101 T [x] []) (fun _ _ T' => ∃ m, LF T T' n m ∧ CpP T' js n m ∧ m ≤ n + js.length)
section LYW
variable {nf d : Nat} {T T' T1 Tf S : gSt} {X : Lx} {it n n' m k p q u lo hi a b c s i e : Nat} {x y z ty tl ys no : Int32} {j l : T5} {js ks l0 l2 : List T5} {t ta tb : Tr}
theorem rP_ly {p q r v : Int32} (e : (p, q, r, v) = rP T l) : rwC4 (ly T n p q r v) n = rP (ly T n p q r v) l := by
  rw [ly_row, e]
  unfold rP tf
  rw [ly_o (by omega), ly_o (by omega)]
theorem LyR.pl (h : LyR T T1 n (ksE l0)) (hl : l.1 = 6 ∨ l.1 = 8 ∨ l.1 = 10) {p q r v : Int32} (e : (p, q, r, v) = rP T1 l) : LF T (ly T1 (n + (ksE l0).length) p q r v) n (n + (ksE l0).length + 1) ∧ CpP (ly T1 (n + (ksE l0).length) p q r v) (l0 ++ [l]) n (n + (ksE l0).length + 1) := by
  have f2 : LF T1 (ly T1 (n + (ksE l0).length) p q r v) (n + (ksE l0).length) (n + (ksE l0).length + 1) := LF.l1
  exact ⟨h.1.tr f2, l0, l, rfl, hl, LyL.lf f2 _ _ (Nat.le_refl _) h.2, rP_ly e, rfl⟩
theorem lw_n (hX : xn X ≤ 4000) (hnf : 8300 ≤ nf) (hAA : LyW nf X ta) : LyW nf X (tD k i e ta tb) := by
  have hA := x_lyX hX hnf ta
  have hB := x_lyX hX hnf tb
  intro T d lo hi a b s n x ty tl js h hhi hw hbx ham hj htk hP hss hd hlen
  rw [AnE_n] at h
  rw [Wf_n] at hw
  rw [amT_n] at ham
  obtain ⟨am1, am2, am3⟩ := ham
  rw [tkd_n] at htk
  rw [dpT_n] at hd
  unfold AnN at h
  unfold WfN at hw
  rw [if_neg (by decide)] at hw
  by_cases c2 : k = 2
  · rw [if_neg (by omega), if_pos c2] at h hw
    rw [if_pos c2] at htk
    rw [if_pos (by omega)] at hd
    obtain ⟨c1, w1, w2, w3⟩ := hw
    exact hAA T d lo hi (a + 1) c1 s n x ty tl js h hhi w2 (by omega) (am1 (by omega)) hj htk hP hss (by omega) hlen
  rw [if_neg c2] at htk
  obtain ⟨d', rfl⟩ : ∃ g, d = g + 2 := ⟨d - 2, by omega⟩
  by_cases c3 : k = 3
  · rw [if_neg (by omega), if_neg c2, if_pos c3] at h hw
    rw [if_neg (by omega), if_pos c3] at htk
    rw [if_pos (by omega)] at hd
    obtain ⟨m, y, t0, l0, rfl, r2, r3, r4, r5, r6, r7⟩ := h
    have := Wf_le2 hw.1
    obtain ⟨q, rfl, q1, q2, q3⟩ := AnE_ty _ _ _ _ _ _ _ _ _ r4 hw.1
    have zm : inb (nI m) 8200 := nin (by omega) (by omega)
    have cm : (nI m).toNatClampNeg = m := nc (by omega)
    have zq : inb (nI q) 8200 := nin (by omega) (by omega)
    have cq : (nI q).toNatClampNeg = q := nc (by omega)
    have kl := ksE_len (js := l0)
    by_cases k49 : xK X i = 49
    · rw [if_pos k49] at r7
      obtain ⟨h50, rfl⟩ := r7
      rw [List.length_append, List.length_singleton] at hlen ⊢
      obtain ⟨r, v, T1, f1, w1⟩ := (hA T (d' + 1) lo m a i s n (nI q) tl t0 l0 r4 (by omega) hw.1 (by omega) (am1 (by omega)) hj.lft hP (by omega) (by omega) (by omega)).2
      obtain ⟨p, u, ep, p1, p2, p3, p4⟩ := hj.rgt.one.1 (Or.inl rfl)
      replace ep : tl = nI p := ep
      have hcn := hP.2.2.2.2
      have hin := hP.2.2.2.1
      have zp : inb (nI p) 6000 := nin (by omega) (by omega)
      have cp : (nI p).toNatClampNeg = p := nc (by omega)
      have zu : inb (nI u) 24 := nin (by omega) (by omega)
      rw [e_Model_layPlace nf (d' + 1)]
      unfold rb_Model_layPlace
      simp only [gd, if_pos zm, cm, h50]
      rw [if_neg (by decide), r5, f1, bis, w1.1.o (k := 50) (by omega), h50, if_neg (by decide), if_pos rfl, w1.1.o (k := 52) (by omega), r5, if_pos zq, cq, w1.1.o (k := 60) (by omega), q3, ep, if_pos zp, cp, w1.1.o (k := 69) (by omega), p3, if_pos zu, x_lay w1.1.2.1 (by omega), bis]
      refine wp_some ⟨n + (ksE l0).length + 1, ?_⟩
      have := w1.pl (l := j1 6 (T.1 61 m) (nI p) ty 0) (p := 6 + 17) (q := T1.1 61 m) (r := T1.1 12 (nI u).toNatClampNeg) (v := 0) (Or.inl rfl) (by
        show _ = (23, T.1 61 m, T1.1 12 (tf T1 69 (nI p)).toNatClampNeg, 0)
        unfold tf
        rw [cp, w1.1.o (k := 69) (by omega), p3, w1.1.o (k := 61) (by omega)]
        rfl)
      exact ⟨this.1, this.2, by omega⟩
    rw [if_neg k49] at r7 htk
    by_cases k61 : xK X i = 61
    · rw [if_pos k61] at r7
      obtain ⟨h50, rfl⟩ := r7
      rw [List.length_append, List.length_singleton] at hlen ⊢
      obtain ⟨r, v, T1, f1, w1⟩ := (hA T (d' + 1) lo m a i s n (nI q) tl t0 l0 r4 (by omega) hw.1 (by omega) (am1 (by omega)) hj.lft hP (by omega) (by omega) (by omega)).2
      rw [e_Model_layPlace nf (d' + 1)]
      unfold rb_Model_layPlace
      simp only [gd, if_pos zm, cm, h50]
      rw [if_neg (by decide), r5, f1, bis, w1.1.o (k := 50) (by omega), h50, if_neg (by decide), if_neg (by decide), x_lay w1.1.2.1 (by omega), bis]
      refine wp_some ⟨n + (ksE l0).length + 1, ?_⟩
      have := w1.pl (l := j1 10 0 tl ty 0) (p := 25) (q := 0) (r := 0) (v := 0) (Or.inr (Or.inr rfl)) rfl
      exact ⟨this.1, this.2, by omega⟩
    · rw [if_neg k61] at htk
      omega
  by_cases c4 : k = 4
  · rw [if_neg (by omega), if_neg c2, if_neg c3, if_pos c4] at h hw
    rw [if_neg (by omega), if_pos (by omega)] at hd
    obtain ⟨m, y, z, t0, l0, u1, u2, l2, rfl, r2, r3, r4, r5, r6, r7, h50, r9, rfl⟩ := h
    obtain ⟨w1, c1, w2, w3⟩ := hw
    have kB := (AnE_kg _ _ _ _ _ _ _ _ _ _ r5 w2 (am2 (by omega))).1
    rw [List.length_append, List.length_append, List.length_singleton] at hlen ⊢
    have zm : inb (nI m) 8200 := nin (by omega) (by omega)
    have cm : (nI m).toNatClampNeg = m := nc (by omega)
    have := Wf_le2 w1
    have := Wf_le2 w2
    have kl := ksE_len (js := l0)
    have kl2 := ksE_len (js := l2)
    obtain ⟨r, v, T1, f1, q1⟩ := (hA T (d' + 1) lo m a i s n y tl t0 l0 r4 (by omega) w1 (by omega) (am1 (by omega)) hj.lft.lft hP (by omega) (by omega) (by omega)).2
    obtain ⟨r', v', T2, f2, q2⟩ := (hB T1 (d' + 1) (m + 1) hi (i + 1) c1 s (n + (ksE l0).length) z u1 u2 l2 (r5.lf q1.1 w2 (by omega)) (by omega) w2 (by omega) (am2 (by omega)) (hj.lft.rgt.lf q1.1) (hP.lf q1.1) (by omega) (by omega) (by omega)).2
    have q3 := LyR.tr q1 q2
    rw [← ksE_ap kB] at q3
    have kl3 : (ksE (l0 ++ l2)).length = (ksE l0).length + (ksE l2).length := by rw [ksE_ap kB, List.length_append]
    rw [e_Model_layPlace nf (d' + 1)]
    unfold rb_Model_layPlace
    simp only [gd, if_pos zm, cm, h50]
    rw [if_neg (by decide), r6, f1, bis, q1.1.o (k := 50) (by omega), h50, if_pos rfl, q1.1.o (k := 53) (by omega), r7, f2, bis, x_lay q3.1.2.1 (by omega), bis]
    refine wp_some ⟨n + (ksE (l0 ++ l2)).length + 1, ?_⟩
    have := q3.pl (l := j1 8 tl ty 0 0) (p := 24) (q := 0) (r := 0) (v := 0) (Or.inr (Or.inl rfl)) rfl
    exact ⟨this.1, this.2, by omega⟩
  rw [if_neg c3, if_neg c4] at htk
  exfalso
  repeat' split at htk
  all_goals omega
theorem x_lw (hX : xn X ≤ 4000) (hnf : 8300 ≤ nf) (t : Tr) : LyW nf X t := by
  induction t using Tr_ind with
  | hz t hz =>
    intro T d lo hi a b s n x ty tl js h hhi hw
    exfalso
    unfold Wf at hw
    split at hw
    · rename_i k i e a b
      exact absurd rfl (hz k i e a b)
    · exact absurd hw.1 (by decide)
    · exact hw.elim
  | h k i e ta tb ihA ihB => exact lw_n hX hnf ihA
end LYW
