/-! as a fun begins: all of it, both sides -/
section FBI
variable {S S' T T' T1 U : gSt} {X : Lx} {it e n m k a b c j w r s t i v g p : Nat} {x y z : Int32} {nm : Int64} {xi : It}
theorem HeT.eq (h : HeT X T p xi) (o : ∀ k, 27 ≤ k → k ≤ 47 → k ≠ 42 → T1.1 k = T.1 k) (o2 : ∀ j, T1.2 30 j = T.2 30 j) : HeT X T1 p xi := by
  obtain ⟨i, e, l, rt, dt, n, wt, w, bd⟩ := xi
  obtain ⟨a1, a2, a3, a4, a5, a6, a7, a8, a9, a10⟩ := h
  exact ⟨by rw [o _ (by omega) (by omega) (by omega)]; exact a1, by rw [o _ (by omega) (by omega) (by omega)]; exact a2, by rw [o2]; exact a3, by rw [o _ (by omega) (by omega) (by omega)]; exact a4, by rw [o _ (by omega) (by omega) (by omega)]; exact a5, a6, fun k hk => by rw [o _ (by omega) (by omega) (by omega)]; exact a7 k hk, by rw [o _ (by omega) (by omega) (by omega)]; exact a8, by rw [o _ (by omega) (by omega) (by omega)]; exact a9, by rw [o _ (by omega) (by omega) (by omega)]; exact a10⟩
theorem AiR.eq (h : AiR X S T) (hF : TyF S S' T T1) (s1 : ∀ k, k ≤ 47 → k ≠ 7 → k ≠ 8 → S'.1 k = S.1 k) (s2 : ∀ k, k < 72 → S'.2 k = S.2 k) (o : ∀ k, 27 ≤ k → k ≤ 47 → k ≠ 42 → T1.1 k = T.1 k) (o2 : ∀ j, T1.2 30 j = T.2 30 j) : AiR X S' T1 := fun t ht => by
  have ei : inn S' = inn S := by unfold inn; rw [s1 11 (by omega) (by omega) (by omega)]
  rw [ei] at ht
  obtain ⟨c, x, b1, b2, b3, b4, b5, b6, b7, b8, b9, b10, b11⟩ := h t ht
  refine ⟨c, x, b1.eq o o2, b2.st (s2 21 (by omega)) (fun k j hk => by rw [o _ (by omega) (by omega) (by omega)]), b3.st hF (s1 15 (by omega) (by omega) (by omega)) (s2 16 (by omega)) (s2 32 (by omega)) (fun q _ => by rw [s1 24 (by omega) (by omega) (by omega)]) (by rw [s1 26 (by omega) (by omega) (by omega)]) (by rw [s1 30 (by omega) (by omega) (by omega)]) b2.2.1 b10 (fun k j hk => by rw [o _ (by omega) (by omega) (by omega)]), by rw [s1 12 (by omega) (by omega) (by omega)]; exact b4, b5, by rw [s1 18 (by omega) (by omega) (by omega)]; exact b6, b7, by rw [s1 19 (by omega) (by omega) (by omega)]; exact b8, by rw [s1 31 (by omega) (by omega) (by omega)]; exact b9, b10, by rw [s1 25 (by omega) (by omega) (by omega), s1 12 (by omega) (by omega) (by omega), s1 26 (by omega) (by omega) (by omega)]; exact b11⟩
/-- as the params come in sight -/
theorem sr_fn (hs : HsR X S T) (hC : Ckf S) (hit : it < inn S) (h24 : it < 24) (h12 : S.1 12 it = 2) (he : e ≤ 3) (h15 : S.1 15 it = nI e) (hai : AiR X S T) (hct : CtR S T) (h71 : T.1 71 0 = 0) (hn : ∀ k, k < e → S.2 16 (3 * it + k) = xN X (i + (k + 1)) ∧ ¬ xN X (i + (k + 1)) = 0) (hu : ∀ a, a < e → ¬ S.2 16 (3 * it + a) = 72 ∧ ∀ p, p < a → ¬ S.2 16 (3 * it + p) = S.2 16 (3 * it + a)) (h30 : fi (S.1 30 it) 0 = false) (h39 : T.1 39 it = S.1 30 it) (h40 : T.1 40 it = wcT 3 1 (bwT S it w 0 0)) (hp : ∀ q, q < w → ∃ r s, 1 ≤ r ∧ r ≤ 3 ∧ 1 ≤ s ∧ s ≤ 3 ∧ roI S it (S.2 32 (6 * it + 2 * q)) = nI r ∧ roI S it (S.2 32 (6 * it + (2 * q + 1))) = nI s) (t67 : T1.1 67 0 = nI it) (t68 : T1.1 68 0 = 0) (t72 : T1.1 72 0 = 4) (t75 : T1.1 75 0 = 0) (t76 : T1.1 76 0 = 0) (tf : flw T1 = livW (T.1 39 it) e 1 4504699138998272) (to : ∀ g, g ≠ 67 → g ≠ 68 → g ≠ 72 → g ≠ 75 → g ≠ 76 → T1.1 g = T.1 g) (t2 : ∀ g j, ¬ (g = 73 ∧ 1 ≤ j ∧ j ≤ 3) → g ≠ 77 → T1.2 g j = T.2 g j) (t73 : ∀ j, 1 ≤ j → j ≤ 3 → T1.2 73 j = ehN X e i j) (c88 : ∀ k, 88 ≤ k → (fnB it w S).1 k = S.1 k) : SrR X it e 0 0 0 (fnB it w S) T1 ∧ TyF S (fnB it w S) T T1 ∧ lvC T1 16384 = lvC T 16384 := by
  obtain ⟨v1, v2, v3, v4, v5, v6, v7, v8, v9, v10⟩ := fnB_v (w := w) he h15
  have fq : FQ S (fnB it w S) := FQ.nB
  have o47 : ∀ k, k ≤ 47 → T1.1 k = T.1 k := fun k hk => to k (by omega) (by omega) (by omega) (by omega) (by omega)
  have o30 : ∀ j, T1.2 30 j = T.2 30 j := fun j => t2 30 j (by omega) (by omega)
  have s47 : ∀ k, k ≤ 70 → k ≠ 64 → (fnB it w S).1 k = S.1 k := fun k a b => fq.1 k b a
  have hF : TyF S (fnB it w S) T T1 := TyF.st (by rw [s47 65 (by omega) (by omega)]) (fun k _ _ => s47 k (by omega) (by omega)) (s47 15 (by omega) (by omega)) (by funext j; exact t2 62 j (by omega) (by omega)) (t2 63 0 (by omega) (by omega))
  have e0 : nI 0 = (0 : Int32) := rfl
  obtain ⟨a1, a2, a3, a4, a5, a6⟩ := hs
  have si : SI (fnB it w S) 0 0 0 := fn_si (c := 0) (m := 0) (w := w) hC hit (by omega) h15 he (fun f hf => absurd hf (Nat.not_lt_zero _))
  have wt := a6.ag2 (T' := T1) (by funext j; exact t2 62 j (by omega) (by omega)) (t2 63 0 (by omega) (by omega)) (by rw [o47 27 (by omega)])
  have evn : vn (fnB it w S) = 0 := by unfold vn; rw [v4]; rfl
  refine ⟨⟨⟨?_, a2.st (s47 11 (by omega) (by omega)) (s47 12 (by omega) (by omega)) (fq.2.1 13 (by omega)) (s47 15 (by omega) (by omega)) (fun k j hk => by rw [o47 k (by omega)]) o30, si, by rw [s47 7 (by omega) (by omega)]; exact a4, by rw [to 53 (by omega) (by omega) (by omega) (by omega) (by omega)]; exact a5, wt.1, rw_fn he h15 hn hu t72 t75 t73, os_fn (by rw [o47 40 (by omega)]; exact h40) hp, ?_, hai.eq hF (fun k a b c => s47 k (by omega) (by omega)) fq.2.1 (fun k _ hk _ => o47 k hk) o30, by rw [v10, t76], ?_, t67, h24, by rw [s47 12 (by omega) (by omega)]; exact h12⟩, fw_fn he h15 h30 (by rw [← h39]; exact tf)⟩, hF, lvC_62 (by funext j; exact t2 62 j (by omega) (by omega)) (by funext j; exact t2 63 j (by omega) (by omega)) 16384⟩
  · unfold TkC at a1 ⊢
    rw [o47 25 (by omega), o47 21 (by omega), o47 22 (by omega), o47 23 (by omega)]
    refine ⟨a1.1, a1.2.1, fun j hj => ?_⟩
    rw [t2 24 j (by omega) (by omega)]
    exact a1.2.2 j hj
  · refine ⟨0, by rw [v4]; rfl, by rw [t68]; rfl, by omega, fun u hu => absurd hu (Nat.not_lt_zero _), fun a b ha => absurd ha (Nat.not_lt_zero _), fun u hu => ?_, fun a b ha => absurd ha (Nat.not_lt_zero _), by omega⟩
    have : u = 0 := by omega
    subst this
    rw [to 71 (by omega) (by omega) (by omega) (by omega) (by omega), h71]
    rfl
  · exact hct.st (to 52 (by omega) (by omega) (by omega) (by omega) (by omega)) (fun k k1 k2 => by rw [c88 k k1])
/-- where a fun's code begins -/
theorem SrR.w42 (h : SrR X it e v g n S T) : SrR X it e v g n S (sI T 42 p x) ∧ TyF S S T (sI T 42 p x) ∧ lvC (sI T 42 p x) 16384 = lvC T 16384 := by
  have o : ∀ k, k ≠ 42 → (sI T 42 p x).1 k = T.1 k := fun k hk => sI_ne hk
  have hV := h.1.2.2.2.2.2.2.2.2.1
  have hF : TyF S S T (sI T 42 p x) := TyF.st rfl (fun _ _ _ => rfl) rfl rfl rfl
  obtain ⟨⟨a1, a2, a3, a4, a5, a6, a7, a9, a11, a12, a13, a14, a15, a16⟩, hfw⟩ := h
  refine ⟨⟨⟨?_, a2.st rfl rfl rfl rfl (fun k j hk => by rw [o k (by omega)]) (fun _ => rfl), a3, a4, by rw [o 53 (by omega)]; exact a5, (a6.ag2 (T' := sI T 42 p x) rfl rfl (by rw [o 27 (by omega)])).1, a7.st rfl rfl rfl rfl rfl rfl (fun _ => rfl) (by rw [o 72 (by omega)]) (fun j => by rw [o 74 (by omega)]) (by rw [o 75 (by omega)]) (fun _ => rfl), a9.st rfl (by rw [o 40 (by omega)]), a11.mo hF rfl (fun _ _ => rfl) rfl (fun _ => rfl) rfl rfl (by rw [o 68 (by omega)]) (fun _ => rfl) (fun u => by rw [o 70 (by omega)]) (fun u => by rw [o 71 (by omega)]), a12.eq hF (fun _ _ _ _ => rfl) (fun _ _ => rfl) (fun k _ _ hk => o k hk) (fun _ => rfl), by rw [o 76 (by omega)]; exact a13, a14.st (o 52 (by omega)) (fun _ _ _ => rfl), by rw [o 67 (by omega)]; exact a15, a16⟩, ?_⟩, hF, lvC_62 (T := T) (T' := sI T 42 p x) rfl rfl 16384⟩
  · unfold TkC at a1 ⊢
    rw [o 25 (by omega), o 21 (by omega), o 22 (by omega), o 23 (by omega)]
    exact a1
  · exact hfw.mo a11 hF rfl rfl rfl (fun u => by rw [o 70 (by omega)])
end FBI
