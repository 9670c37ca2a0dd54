/-! both machines: one step by its rule -/
/-- the handlers of a call: each may be come to */
-/
def HsG (M0 T0 Sf : gSt) (n1 K it : Nat) : List HD → Prop
  | [] => True
  | h :: tl => HdS T0 Sf n1 it h tl ∧ Gdk M0 T0 Sf n1 it K h.1 (h.2.1 + 1) h.2.2 [] tl ∧ HsG M0 T0 Sf n1 K it tl
/-- a call that waits, and the one that it made */
-/
def LkG (M0 T0 Sf : gSt) (n1 K : Nat) (F F' : FRM) : Prop := (Sf.1 25 (fit F') < 0 ∧ Gdk M0 T0 Sf n1 (fit F) K (fn F) (fm F) (fS F) (fst' F) (fhs F)) ∨ (0 ≤ Sf.1 25 (fit F') ∧ TyOf Sf (fun c => c ≤ 3) (Sf.1 26 (fit F')) ∧ ∃ x, tV Sf x ∧ gty Sf (fρ F) x = gty Sf (fρ F') (Sf.1 26 (fit F')) ∧ IvP Sf (fit F) (fS F) (x :: fst' F) (fhs F) ∧ Gdk M0 T0 Sf n1 (fit F) K (fn F) (fm F) (fS F) (x :: fst' F) (fhs F))
/-- all calls, for K steps; Z: what is known of the last call's place */
-/
def SiZ (M0 T0 Sf : gSt) (n1 K : Nat) (G : GH) (D : Nat → (Nat → AV) × Nat) (nb mk : Nat) (rg : Nat → Nat) (na ng P W : Nat) (Fr : Nat → FRM) (Dp : Nat) (M T : gSt) : Prop := Sim M0 T0 Sf G D nb mk rg na ng P W Fr Dp M T ∧ RnO M T ∧ (∀ e, e ≤ Dp → HsG M0 T0 Sf n1 K (fit (Fr e)) (fhs (Fr e))) ∧ (∀ e, e < Dp → LkG M0 T0 Sf n1 K (Fr e) (Fr (e + 1)))
def SiG (M0 T0 Sf : gSt) (n1 K : Nat) (G : GH) (D : Nat → (Nat → AV) × Nat) (nb mk : Nat) (rg : Nat → Nat) (na ng P W : Nat) (Fr : Nat → FRM) (Dp : Nat) (M T : gSt) : Prop := SiZ M0 T0 Sf n1 K G D nb mk rg na ng P W Fr Dp M T ∧ Gdk M0 T0 Sf n1 (fit (Fr Dp)) K (fn (Fr Dp)) (fm (Fr Dp)) (fS (Fr Dp)) (fst' (Fr Dp)) (fhs (Fr Dp))
/-- the funs */
-/
def PgG (M0 T0 Sf : gSt) (n1 : Nat) : Prop := ∀ t, t < inn Sf → Sf.1 12 t = 2 → ∃ S' n' m', FnB M0 T0 Sf t S' n' m' ∧ (((rwC4 M0 n').1 = 0 ∧ ∀ k, Gdk M0 T0 Sf n1 t k n' m' S' [] []) ∨ (∃ b c e y, rwC4 M0 n' = (28, b, c, e) ∧ cw3 T0 m' = (58, nI 0, y) ∧ Sf.1 25 t < 0 ∧ n' < 12000 ∧ m' < n1))
/-- rows left */
-/
def wRa (Fr : Nat → FRM) : Nat → Nat
  | 0 => 0
  | e + 1 => wRa Fr e + (12001 - fn (Fr e))
def wCa (Fr : Nat → FRM) : Nat → Nat
  | 0 => 0
  | e + 1 => wCa Fr e + (6033 - fm (Fr e))
def nuR (M0 : gSt) (Fr : Nat → FRM) (Dp : Nat) : Nat := wRa Fr Dp + (if (rwC4 M0 (fn (Fr Dp))).1 = 0 then 0 else 12001 - fn (Fr Dp))
def nuC (M0 : gSt) (Fr : Nat → FRM) (Dp : Nat) : Nat := wCa Fr Dp + (if (rwC4 M0 (fn (Fr Dp))).1 = 0 then 0 else 6033 - fm (Fr Dp))
def prN (M : gSt) : Nat := (M.1 104 0).toNatClampNeg
/-- nothing goes on */
-/
def EnO (M0 T0 : gSt) (P W : Nat) (M T : gSt) : Prop := ∃ G D nb mk rg na ng e, FniO M0 T0 G D nb mk rg na ng P W M T ∧ M.1 103 0 = nI e ∧ T.1 102 0 = nI e ∧ e ≤ 40 ∧ M.1 100 0 = T.1 106 0 ∧ ((M.1 100 0 = 2 ∧ e = 0) ∨ ((M.1 100 0 = 3 ∨ M.1 100 0 = 4 ∨ M.1 100 0 = 5) ∧ 1 ≤ e)) ∧ (M.1 100 0 = 3 → M.1 108 0 = T.1 107 0)
/-- one step: both are further on, or nothing goes on */
-/
def StpO (nf d d' : Nat) (M0 T0 Sf : gSt) (n1 K P W mk : Nat) (Fr : Nat → FRM) (Dp : Nat) (M T : gSt) : Prop :=
  (∃ jR jC M' T' G' D' nb' mk' rg' na' ng' Fr' Dp', MvR nf d jR M M' ∧ MvC nf d' jC T T' ∧ SiG M0 T0 Sf n1 K G' D' nb' mk' rg' na' ng' P W Fr' Dp' M' T' ∧ 1 ≤ jR ∧ 2 * nuR M0 Fr' Dp' + jR ≤ 2 * nuR M0 Fr Dp ∧ 2 * nuC M0 Fr' Dp' + jC ≤ 2 * nuC M0 Fr Dp ∧ mk' + prN M' + nuC M0 Fr' Dp' ≤ mk + prN M + nuC M0 Fr Dp) ∨ (∃ jR jC M' T', MvR nf d jR M M' ∧ MvC nf d' jC T T' ∧ EnO M0 T0 P W M' T' ∧ jR ≤ 2 * nuR M0 Fr Dp ∧ jC ≤ 2 * nuC M0 Fr Dp)
section STF
variable {M0 T0 Sf S Sh : gSt} {G G' : GH} {D D' : Nat → (Nat → AV) × Nat} {nf d d' nb nb' mk mk' na na' ng ng' e bs ph bt rb tb ie en hb k q u s i j c t h P W Dp n m it n1 : Nat} {rg rg' : Nat → Nat} {ρ : Nat → Nat} {va : Nat → AV} {M M' T T' : gSt} {v : AV} {x a b cc ee op y z w : Int32} {st s0 st' : List Int32} {ov o0 ov' : List AV} {hs : List HD} {F : FRM} {Fr : Nat → FRM} {f : Nat → Int32} {jj : T5} {r1 : Int32} {l1 : Int64} {tg : List Nat}
variable {K jR jC E : Nat} {F2 F3 : FRM} {hh : HD} {tl : List HD}
theorem ty_k (hty : tyJ Sf S jj st st') : jj.1 = 1 ∨ jj.1 = 2 ∨ jj.1 = 3 ∨ jj.1 = 4 ∨ jj.1 = 5 ∨ jj.1 = 6 ∨ jj.1 = 7 ∨ jj.1 = 8 ∨ jj.1 = 9 ∨ jj.1 = 10 ∨ jj.1 = 11 ∨ jj.1 = 12 ∨ jj.1 = 13 ∨ jj.1 = 14 ∨ jj.1 = 15 ∨ jj.1 = 16 ∨ jj.1 = 17 ∨ jj.1 = 18 ∨ jj.1 = 19 := by
  by_cases c1 : jj.1 = 1
  · exact Or.inl c1
  by_cases c2 : jj.1 = 2
  · exact Or.inr (Or.inl c2)
  by_cases c3 : jj.1 = 3
  · exact Or.inr (Or.inr (Or.inl c3))
  by_cases c4 : jj.1 = 4
  · exact Or.inr (Or.inr (Or.inr (Or.inl c4)))
  by_cases c5 : jj.1 = 5
  · exact Or.inr (Or.inr (Or.inr (Or.inr (Or.inl c5))))
  by_cases c6 : jj.1 = 6
  · exact Or.inr (Or.inr (Or.inr (Or.inr (Or.inr (Or.inl c6)))))
  by_cases c7 : jj.1 = 7
  · exact Or.inr (Or.inr (Or.inr (Or.inr (Or.inr (Or.inr (Or.inl c7))))))
  by_cases c8 : jj.1 = 8
  · exact Or.inr (Or.inr (Or.inr (Or.inr (Or.inr (Or.inr (Or.inr (Or.inl c8)))))))
  by_cases c9 : jj.1 = 9
  · exact Or.inr (Or.inr (Or.inr (Or.inr (Or.inr (Or.inr (Or.inr (Or.inr (Or.inl c9))))))))
  by_cases c10 : jj.1 = 10
  · exact Or.inr (Or.inr (Or.inr (Or.inr (Or.inr (Or.inr (Or.inr (Or.inr (Or.inr (Or.inl c10)))))))))
  by_cases c11 : jj.1 = 11
  · exact Or.inr (Or.inr (Or.inr (Or.inr (Or.inr (Or.inr (Or.inr (Or.inr (Or.inr (Or.inr (Or.inl c11))))))))))
  by_cases c12 : jj.1 = 12
  · exact Or.inr (Or.inr (Or.inr (Or.inr (Or.inr (Or.inr (Or.inr (Or.inr (Or.inr (Or.inr (Or.inr (Or.inl c12)))))))))))
  by_cases c13 : jj.1 = 13
  · exact Or.inr (Or.inr (Or.inr (Or.inr (Or.inr (Or.inr (Or.inr (Or.inr (Or.inr (Or.inr (Or.inr (Or.inr (Or.inl c13))))))))))))
  by_cases c14 : jj.1 = 14
  · exact Or.inr (Or.inr (Or.inr (Or.inr (Or.inr (Or.inr (Or.inr (Or.inr (Or.inr (Or.inr (Or.inr (Or.inr (Or.inr (Or.inl c14)))))))))))))
  by_cases c15 : jj.1 = 15
  · exact Or.inr (Or.inr (Or.inr (Or.inr (Or.inr (Or.inr (Or.inr (Or.inr (Or.inr (Or.inr (Or.inr (Or.inr (Or.inr (Or.inr (Or.inl c15))))))))))))))
  by_cases c16 : jj.1 = 16
  · exact Or.inr (Or.inr (Or.inr (Or.inr (Or.inr (Or.inr (Or.inr (Or.inr (Or.inr (Or.inr (Or.inr (Or.inr (Or.inr (Or.inr (Or.inr (Or.inl c16)))))))))))))))
  by_cases c17 : jj.1 = 17
  · exact Or.inr (Or.inr (Or.inr (Or.inr (Or.inr (Or.inr (Or.inr (Or.inr (Or.inr (Or.inr (Or.inr (Or.inr (Or.inr (Or.inr (Or.inr (Or.inr (Or.inl c17))))))))))))))))
  by_cases c18 : jj.1 = 18
  · exact Or.inr (Or.inr (Or.inr (Or.inr (Or.inr (Or.inr (Or.inr (Or.inr (Or.inr (Or.inr (Or.inr (Or.inr (Or.inr (Or.inr (Or.inr (Or.inr (Or.inr (Or.inl c18)))))))))))))))))
  unfold tyJ at hty
  rw [if_neg (fun w => w.elim c1 c3), if_neg c2, if_neg c4, if_neg c5, if_neg c6, if_neg c7, if_neg c8, if_neg c9, if_neg c10, if_neg c11, if_neg c12, if_neg c13, if_neg c14, if_neg c15, if_neg c16, if_neg c17, if_neg c18] at hty
  exact Or.inr (Or.inr (Or.inr (Or.inr (Or.inr (Or.inr (Or.inr (Or.inr (Or.inr (Or.inr (Or.inr (Or.inr (Or.inr (Or.inr (Or.inr (Or.inr (Or.inr (Or.inr hty.1)))))))))))))))))
theorem rB_1 : (rB T jj).1 = jj.1 ∨ (rB T jj).1 = 20 ∨ (rB T jj).1 = 21 := by
  unfold rB
  by_cases c1 : jj.1 = 6
  · rw [if_pos c1, c1]; exact Or.inl rfl
  rw [if_neg c1]
  by_cases c2 : jj.1 = 8 ∨ jj.1 = 12 ∨ jj.1 = 13
  · rw [if_pos c2]; exact Or.inl rfl
  rw [if_neg c2]
  by_cases c3 : jj.1 = 14 ∨ jj.1 = 15
  · rw [if_pos c3]; exact Or.inl rfl
  rw [if_neg c3]
  by_cases c4 : jj.1 = 16
  · rw [if_pos c4, c4]; exact Or.inl rfl
  rw [if_neg c4]
  by_cases c5 : jj.1 = 17
  · rw [if_pos c5, c5]; exact Or.inl rfl
  rw [if_neg c5]
  by_cases c6 : jj.1 = 19
  · rw [if_pos c6, c6]
    split
    · split
      · exact Or.inr (Or.inr rfl)
      · exact Or.inl rfl
    · exact Or.inr (Or.inl rfl)
  rw [if_neg c6]
  exact Or.inl rfl
theorem rO_op (hR : rOk M0 jj n) (hty : tyJ Sf S jj st st') : ¬ (rwC4 M0 n).1 = 29 ∧ ¬ (rwC4 M0 n).1 = 0 := by
  by_cases c : jj.1 = 18
  · unfold rOk at hR
    rw [if_pos c] at hR
    obtain ⟨u, e, _, _, _, h4, _⟩ := hR
    rw [h4]
    exact ⟨by show ¬ (18 : Int32) = 29; decide, by show ¬ (18 : Int32) = 0; decide⟩
  · rw [rO_n hR c]
    rcases rB_1 (T := M0) (jj := jj) with e | e | e
    · rw [e]
      rcases ty_k hty with w | w | w | w | w | w | w | w | w | w | w | w | w | w | w | w | w | w | w <;> rw [w] <;> exact ⟨by decide, by decide⟩
    · rw [e]; exact ⟨by decide, by decide⟩
    · rw [e]; exact ⟨by decide, by decide⟩
theorem xe_all (cx : CxP M0 T0 Sf) (h : Sim M0 T0 Sf G D nb mk rg na ng P W Fr Dp M T) (rn : RnO M T) (hn : fn (Fr Dp) = n) (hm : fm (Fr Dp) = m) (hn2 : n < 12000) (h51 : T0.1 51 0 = nI n1) (hm2 : m < n1) (h6 : n1 ≤ 6032) (hR : rOk M0 jj n) (hK : KrO (RgE (eN Sf (fit (Fr Dp))) (fS (Fr Dp))) (slF (fS (Fr Dp))) Sf T0 jj m) (hty : tyJ Sf (fS (Fr Dp)) jj (fst' (Fr Dp)) st') (hI : IvP Sf (fit (Fr Dp)) (fS (Fr Dp)) st' (fhs (Fr Dp))) (hnf : 16385 ≤ nf) (hd : 20 ≤ d) (hd' : 20 ≤ d') (hmk : mk + 1 < 2 ^ 31) (hfw : FwQ Sf T0) (hj : ¬ jj.1 = 18) : ExQ nf d d' M0 T0 Sf P W mk rg na ng Fr Dp M T st' (n + 1) (m + 1) := by
  rcases ty_k hty with w | w | w | w | w | w | w | w | w | w | w | w | w | w | w | w | w | w | w
  · exact xe_1 cx h rn hn hm hn2 h51 hm2 h6 hR hK hty hI hd hd' w
  · exact xe_2 cx h rn hn hm hn2 h51 hm2 h6 hR hK hty hI hnf hd hd' w
  · exact xe_3 cx h rn hn hm hn2 h51 hm2 h6 hR hK hty hI hnf hd hd' w
  · exact xe_4 cx h rn hn hm hn2 h51 hm2 h6 hR hK hty hI hnf hd hd' w
  · exact xe_5 cx h rn hn hm hn2 h51 hm2 h6 hR hK hty hI hnf hd hd' w
  · exact xe_6 cx h rn hn hm hn2 h51 hm2 h6 hR hK hty hI hnf hd hd' w
  · exact xe_7 cx h rn hn hm hn2 h51 hm2 h6 hR hK hty hI hnf hd hd' w
  · exact xe_8 cx h rn hn hm hn2 h51 hm2 h6 hR hK hty hI hnf hd hd' w
  · exact xe_9 cx h rn hn hm hn2 h51 hm2 h6 hR hK hty hI hnf hd hd' w
  · exact xe_10 cx h rn hn hm hn2 h51 hm2 h6 hR hK hty hI hnf hd hd' w
  · exact xe_11 cx h rn hn hm hn2 h51 hm2 h6 hR hK hty hI hnf hd hd' w
  · exact xe_12 cx h rn hn hm hn2 h51 hm2 h6 hR hK hty hI hnf hd hd' w
  · exact xe_13 cx h rn hn hm hn2 h51 hm2 h6 hR hK hty hI hnf hd hd' w
  · exact xe_14 cx h rn hn hm hn2 h51 hm2 h6 hR hK hty hI hnf hd hd' hmk w
  · exact xe_15 cx h rn hn hm hn2 h51 hm2 h6 hR hK hty hI hnf hd hd' hmk w
  · exact xe_16 cx h rn hn hm hn2 h51 hm2 h6 hR hK hty hI hnf hd hd' hmk w
  · exact xe_17 cx h rn hn hm hn2 h51 hm2 h6 hR hK hty hI hnf hd hd' hmk w hfw
  · exact absurd w hj
  · exact xe_19 cx h rn hn hm hn2 h51 hm2 h6 hR hK hty hI hnf hd hd' w
theorem HsG.dn : ∀ (hs : List HD), HsG M0 T0 Sf n1 (K + 1) it hs → HsG M0 T0 Sf n1 K it hs := by
  intro hs
  induction hs with
  | nil => intro _; trivial
  | cons h hs ih =>
    intro ⟨h1, h2, h3⟩
    exact ⟨h1, Gdk.dn _ _ _ _ _ _ h2, ih h3⟩
theorem HsG.me : ∀ (hs : List HD), HsG M0 T0 Sf n1 K it hs → ∀ h, h ∈ hs → VwS Sf h.2.2 := by
  intro hs
  induction hs with
  | nil => intro _ h hm; cases hm
  | cons a hs ih =>
    intro ⟨h1, h2, h3⟩ h hm
    cases hm with
    | head => exact h1.1.1
    | tail _ hm => exact ih h3 h hm
theorem LkG.dn (h : LkG M0 T0 Sf n1 (K + 1) F F2) : LkG M0 T0 Sf n1 K F F2 := by
  rcases h with ⟨a, b⟩ | ⟨a, b, x, c, d, e, f⟩
  · exact Or.inl ⟨a, Gdk.dn _ _ _ _ _ _ b⟩
  · exact Or.inr ⟨a, b, x, c, d, e, Gdk.dn _ _ _ _ _ _ f⟩
theorem LkG.cg (h : LkG M0 T0 Sf n1 K F F2) (e1 : fit F3 = fit F2) (e2 : ∀ c, c ≤ 3 → fρ F3 c = fρ F2 c) : LkG M0 T0 Sf n1 K F F3 := by
  rcases h with ⟨a, b⟩ | ⟨a, b, x, c, d, e, f⟩
  · exact Or.inl ⟨by rw [e1]; exact a, b⟩
  · refine Or.inr ⟨by rw [e1]; exact a, by rw [e1]; exact b, x, c, ?_, e, f⟩
    rw [d, e1]
    exact b _ _ (fun c hc => (e2 c hc).symm)
theorem upd_v : updF Fr Dp F Dp = F := if_pos rfl
theorem upd_n (h : ¬ e = Dp) : updF Fr Dp F e = Fr e := if_neg h
theorem upd_2 : updF (updF Fr Dp F2) Dp F = updF Fr Dp F := by
  funext e
  by_cases c : e = Dp
  · rw [c, upd_v, upd_v]
  · rw [upd_n c, upd_n c, upd_n c]
theorem wRa_eq {Fr' : Nat → FRM} : ∀ Dp, (∀ e, e < Dp → fn (Fr' e) = fn (Fr e)) → wRa Fr' Dp = wRa Fr Dp := by
  intro Dp
  induction Dp with
  | zero => intro _; rfl
  | succ Dp ih => intro h; rw [wRa, wRa, ih (fun e he => h e (by omega)), h Dp (by omega)]
theorem wCa_eq {Fr' : Nat → FRM} : ∀ Dp, (∀ e, e < Dp → fm (Fr' e) = fm (Fr e)) → wCa Fr' Dp = wCa Fr Dp := by
  intro Dp
  induction Dp with
  | zero => intro _; rfl
  | succ Dp ih => intro h; rw [wCa, wCa, ih (fun e he => h e (by omega)), h Dp (by omega)]
theorem wRa_le : ∀ d, wRa Fr E ≤ wRa Fr (E + d) := by
  intro d
  induction d with
  | zero => exact Nat.le_refl _
  | succ d ih => rw [show E + (d + 1) = E + d + 1 by omega, wRa]; omega
theorem wCa_le : ∀ d, wCa Fr E ≤ wCa Fr (E + d) := by
  intro d
  induction d with
  | zero => exact Nat.le_refl _
  | succ d ih => rw [show E + (d + 1) = E + d + 1 by omega, wCa]; omega
theorem upd_wR : wRa (updF Fr Dp F) Dp = wRa Fr Dp := wRa_eq Dp (fun e he => by rw [upd_n (by omega)])
theorem upd_wC : wCa (updF Fr Dp F) Dp = wCa Fr Dp := wCa_eq Dp (fun e he => by rw [upd_n (by omega)])
/-- the last call goes on */
-/
theorem SiZ.nx (h : SiZ M0 T0 Sf n1 (K + 1) G D nb mk rg na ng P W Fr Dp M T) (hs : Sim M0 T0 Sf G' D' nb' mk' rg' na' ng' P W (updF Fr Dp F) Dp M' T') (rn : RnO M' T') (e1 : fit F = fit (Fr Dp)) (e2 : ∀ c, c ≤ 3 → fρ F c = fρ (Fr Dp) c) (hH : HsG M0 T0 Sf n1 K (fit F) (fhs F)) (hg : Gdk M0 T0 Sf n1 (fit F) K (fn F) (fm F) (fS F) (fst' F) (fhs F)) : SiG M0 T0 Sf n1 K G' D' nb' mk' rg' na' ng' P W (updF Fr Dp F) Dp M' T' := by
  obtain ⟨_, _, h3, h4⟩ := h
  refine ⟨⟨hs, rn, fun e he => ?_, fun e he => ?_⟩, by rw [upd_v]; exact hg⟩
  · by_cases c : e = Dp
    · rw [c, upd_v]; exact hH
    · rw [upd_n c]; exact HsG.dn _ (h3 e he)
  · rw [upd_n (by omega)]
    have hl := (h4 e he).dn
    by_cases c : e + 1 = Dp
    · rw [c] at hl ⊢
      rw [upd_v]
      exact hl.cg e1 e2
    · rw [upd_n c]
      exact hl
theorem so_nx (h : SiZ M0 T0 Sf n1 (K + 1) G D nb mk rg na ng P W Fr Dp M T) (mR : MvR nf d jR M M') (mC : MvC nf d' jC T T') (hs : Sim M0 T0 Sf G' D' nb' mk' rg' na' ng' P W (updF Fr Dp F) Dp M' T') (rn : RnO M' T') (e1 : fit F = fit (Fr Dp)) (e2 : ∀ c, c ≤ 3 → fρ F c = fρ (Fr Dp) c) (hH : HsG M0 T0 Sf n1 K (fit F) (fhs F)) (hg : Gdk M0 T0 Sf n1 (fit F) K (fn F) (fm F) (fS F) (fst' F) (fhs F)) (hst : ¬ (rwC4 M0 (fn (Fr Dp))).1 = 0) (hn : fn (Fr Dp) < 12000) (hm : fm (Fr Dp) < 6032) (j1 : 1 ≤ jR) (hpos : (fn F ≤ 12001 ∧ fm F ≤ 6033 ∧ fm (Fr Dp) ≤ fm F ∧ jR + 2 * fn (Fr Dp) ≤ 2 * fn F ∧ jC + 2 * fm (Fr Dp) ≤ 2 * fm F ∧ mk' + prN M' + fm (Fr Dp) ≤ mk + prN M + fm F) ∨ ((rwC4 M0 (fn F)).1 = 0 ∧ jR ≤ 2 ∧ jC ≤ 2 ∧ mk' + prN M' ≤ mk + prN M)) : StpO nf d d' M0 T0 Sf n1 K P W mk Fr Dp M T := by
  refine Or.inl ⟨jR, jC, M', T', G', D', nb', mk', rg', na', ng', updF Fr Dp F, Dp, mR, mC, h.nx hs rn e1 e2 hH hg, j1, ?_, ?_, ?_⟩
  all_goals
    first | unfold nuR | unfold nuC
    rw [upd_v, if_neg hst]
    first | rw [upd_wR] | rw [upd_wC]
    rcases hpos with ⟨p1, p2, p3, p4, p5, p6⟩ | ⟨p1, p2, p3, p4⟩
    · split <;> omega
    · rw [if_pos p1]
      omega
theorem FniO.of (h : Sim M0 T0 Sf G D nb mk rg na ng P W Fr Dp M T) (hM : ∀ k, k ≠ 100 → k ≠ 102 → k ≠ 106 → k ≠ 108 → k ≠ 109 → M'.1 k = M.1 k) (hM2 : M'.2 = M.2) (hT : ∀ k, k ≠ 99 → k ≠ 100 → k ≠ 105 → k ≠ 106 → k ≠ 107 → k ≠ 109 → T'.1 k = T.1 k) (hT2 : T'.2 = T.2) (he : M'.1 106 0 = T'.1 109 0) : FniO M0 T0 G D nb mk rg na ng P W M' T' := by
  obtain ⟨a1, ⟨a2, a3, a4⟩, a5, a6, a7, a8, a9, a10⟩ := h
  refine ⟨a1.eq (fun k hk => hM k (by omega) (by omega) (by omega) (by omega) (by omega)) (fun k k1 k2 => hT k (by omega) (by omega) (by omega) (by omega) (by omega) (by omega)), a7.eq (fun k hk => hM k (by omega) (by omega) (by omega) (by omega) (by omega)) (fun k hk => hT k (by omega) (by omega) (by omega) (by omega) (by omega) (by omega)), ?_, a9.eq (fun k hk => hM k (by omega) (by omega) (by omega) (by omega) (by omega)) hM2 (fun k hk => hT k (by omega) (by omega) (by omega) (by omega) (by omega) (by omega)) hT2⟩
  obtain ⟨k1, ⟨p, k2, k3, k4, k5⟩, k6, k7, k8, k9⟩ := a8
  refine ⟨?_, ⟨p, ?_, ?_, k4, ?_⟩, he, ?_, ?_, fun q hq => ?_⟩
  · rw [hM 101 (by omega) (by omega) (by omega) (by omega) (by omega), hT 108 (by omega) (by omega) (by omega) (by omega) (by omega) (by omega)]; exact k1
  · rw [hM 104 (by omega) (by omega) (by omega) (by omega) (by omega)]; exact k2
  · rw [hT 113 (by omega) (by omega) (by omega) (by omega) (by omega) (by omega)]; exact k3
  · rw [hM 152 (by omega) (by omega) (by omega) (by omega) (by omega), hT 112 (by omega) (by omega) (by omega) (by omega) (by omega) (by omega)]; exact k5
  · rw [hM 107 (by omega) (by omega) (by omega) (by omega) (by omega)]; exact k7
  · rw [hT 121 (by omega) (by omega) (by omega) (by omega) (by omega) (by omega)]; exact k8
  · rw [hM 115 (by omega) (by omega) (by omega) (by omega) (by omega), hT 101 (by omega) (by omega) (by omega) (by omega) (by omega) (by omega)]; exact k9 q hq
theorem nuR_1 (hst : ¬ (rwC4 M0 (fn (Fr Dp))).1 = 0) (hn : fn (Fr Dp) < 12000) : 1 ≤ nuR M0 Fr Dp := by
  unfold nuR
  rw [if_neg hst]
  omega
theorem nuC_1 (hst : ¬ (rwC4 M0 (fn (Fr Dp))).1 = 0) (hm : fm (Fr Dp) < 6032) : 1 ≤ nuC M0 Fr Dp := by
  unfold nuC
  rw [if_neg hst]
  omega
theorem so_sp (h : SiZ M0 T0 Sf n1 (K + 1) G D nb mk rg na ng P W Fr Dp M T) (hz : SpO nf d d' x M T) (hx : x = 4 ∨ x = 5) (hst : ¬ (rwC4 M0 (fn (Fr Dp))).1 = 0) (hn : fn (Fr Dp) < 12000) (hm : fm (Fr Dp) < 6032) : StpO nf d d' M0 T0 Sf n1 K P W mk Fr Dp M T := by
  obtain ⟨M', T', s1, s2, hM, hM2, hT, hT2, z1, z2⟩ := hz
  obtain ⟨hs, rn, _, _⟩ := h
  have u1 := nuR_1 hst hn
  have u2 := nuC_1 hst hm
  have e6 := hs.2.2.2.2.2.1.2.2.1
  refine Or.inr ⟨1, 1, M', T', MvR.one rn.1 s1, MvC.one rn.2 s2, ⟨G, D, nb, mk, rg, na, ng, Dp + 1, FniO.of hs (fun k a b _ _ _ => hM k a b) hM2 (fun k a b c d _ _ => hT k c d a b) hT2 ?_, ?_, ?_, ?_, ?_, ?_, ?_⟩, by omega, by omega⟩
  · rw [hM 106 (by omega) (by omega), hT 109 (by omega) (by omega) (by omega) (by omega)]; exact e6
  · rw [hM 103 (by omega) (by omega)]; exact hs.2.1.2.1
  · rw [hT 102 (by omega) (by omega) (by omega) (by omega)]; exact hs.2.1.2.2
  · have := hs.2.1.1; omega
  · rw [z1, z2]
  · rw [z1]
    rcases hx with w | w
    · exact Or.inr ⟨Or.inr (Or.inl w), by omega⟩
    · exact Or.inr ⟨Or.inr (Or.inr w), by omega⟩
  · intro w
    rw [z1] at w
    rcases hx with v | v <;> rw [v] at w <;> exact absurd w (by decide)
theorem hd_of (h : SiZ M0 T0 Sf n1 K G D nb mk rg na ng P W Fr Dp M T) : HdO T0 Sf Fr Dp n1 := by
  intro e hh tl he hf
  have := h.2.2.1 e he
  rw [hf] at this
  obtain ⟨⟨a, c, b⟩, _⟩ := this
  exact ⟨a, c, b⟩
/-- where handlers lie */
-/
theorem pos_of (h : SiZ M0 T0 Sf n1 (K + 1) G D nb mk rg na ng P W Fr Dp M T) (he : E < Dp) (hf : fhs (Fr E) = hh :: tl) : fn (Fr E) < hh.1 ∧ fm (Fr E) < hh.2.1 := by
  have hmem : hh ∈ fhs (Fr E) := by rw [hf]; exact List.mem_cons_self
  rcases h.2.2.2 E he with ⟨_, S0, _, _, _, _, z, _⟩ | ⟨_, _, x, _, _, _, S0, _, _, _, _, z, _⟩
  · exact z hh hmem
  · exact z hh hmem
theorem pr_eq (h : M'.1 104 0 = M.1 104 0) : prN M' = prN M := by unfold prN; rw [h]
theorem so_rz (cx : CxP M0 T0 Sf) (h : SiZ M0 T0 Sf n1 (K + 1) G D nb mk rg na ng P W Fr Dp M T) (hz : RzO nf d d' M T) (h51 : T0.1 51 0 = nI n1) (h6 : n1 ≤ 6032) (hnf : 16385 ≤ nf) (hd : 20 ≤ d) (hd' : 20 ≤ d') (hst : ¬ (rwC4 M0 (fn (Fr Dp))).1 = 0) (hop : ¬ (rwC4 M0 (fn (Fr Dp))).1 = 29) (hn : fn (Fr Dp) < 12000) (hm : fm (Fr Dp) < 6032) (hps : ∀ h, h ∈ fhs (Fr Dp) → fn (Fr Dp) < h.1 ∧ fm (Fr Dp) < h.2.1) : StpO nf d d' M0 T0 Sf n1 K P W mk Fr Dp M T := by
  have hS := h
  obtain ⟨hs, rn, h3, h4⟩ := h
  have u1 := nuR_1 hst hn
  have u2 := nuC_1 hst hm
  obtain ⟨w1, w2, w3, w4, w5, w6, w7, w8, w9⟩ := hs.rw (n := fn (Fr Dp)) (m := fm (Fr Dp))
  rcases rz_sim cx hs rn hz (hd_of hS) h51 h6 hnf hd hd' with ⟨x, M', T', s1, s2, hM, hM2, hT, hT2, z1, z2, z3, z4, z5, z6⟩ | ⟨E, hh, tl, M', T1, T', hE, hf, s1, s2, t1, s3, rn', sim'⟩
  · have e6 := hs.2.2.2.2.2.1.2.2.1
    refine Or.inr ⟨1, 1, M', T', MvR.one rn.1 s1, MvC.one rn.2 s2, ⟨G, D, nb, mk, rg, na, ng, Dp + 1, FniO.of hs hM hM2 (fun k _ b c d e f => hT k b c d e f) hT2 (by rw [z5, z6, e6]), ?_, ?_, ?_, by rw [z1, z2], Or.inr ⟨Or.inl z1, by omega⟩, fun _ => by rw [z3, z4]⟩, by omega, by omega⟩
    · rw [hM 103 (by omega) (by omega) (by omega) (by omega) (by omega)]; exact hs.2.1.2.1
    · rw [hT 102 (by omega) (by omega) (by omega) (by omega) (by omega)]; exact hs.2.1.2.2
    · have := hs.2.1.1; omega
  · have hg := h3 E hE
    rw [hf] at hg
    obtain ⟨g1, g2, g3⟩ := hg
    have g2' := g2
    obtain ⟨_, _, _, gn, gm, _⟩ := g2
    have ps : fn (Fr E) < hh.1 ∧ fm (Fr E) < hh.2.1 := by
      by_cases c : E = Dp
      · rw [c]
        exact hps hh (by rw [← c, hf]; exact List.mem_cons_self)
      · exact pos_of hS (by omega) hf
    have pr : prN M' = prN M := pr_eq (s1.pr w4 hn (by rw [w1]) hop)
    refine Or.inl ⟨1, 2, M', T', G, D, nb, mk, rg, _, ng, _, E, MvR.one rn.1 s1, ⟨T1, rn.2, s2, MvC.one t1 s3⟩, ⟨⟨sim', rn', fun e he => ?_, fun e he => ?_⟩, ?_⟩, by omega, ?_, ?_, ?_⟩
    · by_cases c : e = E
      · rw [c, upd_v]; exact HsG.dn _ g3
      · rw [upd_n c]; exact HsG.dn _ (h3 e (by omega))
    · rw [upd_n (by omega)]
      have hl := (h4 e (by omega)).dn
      by_cases c : e + 1 = E
      · rw [c] at hl ⊢
        rw [upd_v]
        exact hl.cg rfl (fun _ _ => rfl)
      · rw [upd_n c]
        exact hl
    · rw [upd_v]
      exact Gdk.dn _ _ _ _ _ _ g2'
    all_goals
      have a1 : wRa Fr E + (12001 - fn (Fr E)) ≤ nuR M0 Fr Dp := by
        unfold nuR
        by_cases c : E = Dp
        · rw [c, if_neg hst]; omega
        · have := wRa_le (Fr := Fr) (E := E + 1) (Dp - (E + 1))
          rw [show E + 1 + (Dp - (E + 1)) = Dp by omega, wRa] at this
          omega
      have a2 : wCa Fr E + (6033 - fm (Fr E)) ≤ nuC M0 Fr Dp := by
        unfold nuC
        by_cases c : E = Dp
        · rw [c, if_neg hst]; omega
        · have := wCa_le (Fr := Fr) (E := E + 1) (Dp - (E + 1))
          rw [show E + 1 + (Dp - (E + 1)) = Dp by omega, wCa] at this
          omega
      have b1 : nuR M0 (updF Fr E (mkF hh.2.2 (fρ (Fr E)) (fva (Fr E)) [] [] tl (fit (Fr E)) hh.1 (hh.2.1 + 1) (fbs (Fr E)) (fph (Fr E)) (frb (Fr E)) (ftb (Fr E)) (fie (Fr E)))) E ≤ wRa Fr E + (12001 - hh.1) := by
        unfold nuR
        rw [upd_v, upd_wR, show fn (mkF hh.2.2 (fρ (Fr E)) (fva (Fr E)) [] [] tl (fit (Fr E)) hh.1 (hh.2.1 + 1) (fbs (Fr E)) (fph (Fr E)) (frb (Fr E)) (ftb (Fr E)) (fie (Fr E))) = hh.1 from rfl]
        split <;> omega
      have b2 : nuC M0 (updF Fr E (mkF hh.2.2 (fρ (Fr E)) (fva (Fr E)) [] [] tl (fit (Fr E)) hh.1 (hh.2.1 + 1) (fbs (Fr E)) (fph (Fr E)) (frb (Fr E)) (ftb (Fr E)) (fie (Fr E)))) E ≤ wCa Fr E + (6033 - (hh.2.1 + 1)) := by
        unfold nuC
        rw [upd_v, upd_wC, show fm (mkF hh.2.2 (fρ (Fr E)) (fva (Fr E)) [] [] tl (fit (Fr E)) hh.1 (hh.2.1 + 1) (fbs (Fr E)) (fph (Fr E)) (frb (Fr E)) (ftb (Fr E)) (fie (Fr E))) = hh.2.1 + 1 from rfl]
        split <;> omega
      omega
end STF
