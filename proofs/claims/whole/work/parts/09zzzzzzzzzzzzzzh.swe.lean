/-! a run begins: no objects, main's call */
-/
/-- the reference's heap as a run begins */
-/
def HbR (P W : Nat) (M : gSt) : Prop := M.1 129 0 = 1 ∧ M.1 130 0 = nI P ∧ M.1 131 0 = nI W ∧ M.1 132 0 = nI P ∧ M.1 137 0 = 0 ∧ M.1 105 0 = 0 ∧ M.1 143 0 = 0 ∧ (∀ k, 133 ≤ k → k ≤ 136 → M.1 k 0 = 0) ∧ (∀ o, o < 4096 → M.1 138 o = 0) ∧ ∀ o, o < 4096 → M.1 149 o = if o + 1 = 4096 then -1 else nI (o + 1)
/-- the class's */
-/
def HbC (P W : Nat) (T : gSt) : Prop := T.1 117 0 = nI P ∧ T.1 118 0 = nI W ∧ T.1 119 0 = 0 ∧ T.1 120 0 = 0 ∧ T.1 121 0 = 0 ∧ T.1 122 0 = 1 ∧ (∀ p, p < 64 → T.1 116 p = -1) ∧ ∀ k, 123 ≤ k → k ≤ 127 → T.1 k 0 = 0
section SWE
variable {M0 T0 M T Sf S : gSt} {G : GH} {D : Nat → (Nat → AV) × Nat} {P W t n m n1 : Nat} {f : Nat → Nat}
theorem sm_z : ∀ n, (∀ o, o < n → f o = 0) → sm f n = 0 := by
  intro n
  induction n with
  | zero => intro _; rfl
  | succ n ih => intro h; rw [sm, ih (fun o ho => h o (by omega)), h n (by omega)]
theorem cR_zz {r : Nat} : ∀ n i, (∀ q, i ≤ q → q < i + n → M.1 138 q = 0) → cR M r n i = 0 := by
  intro n
  induction n with
  | zero => intro i _; rfl
  | succ n ih => intro i h; rw [cR, ih (i + 1) (fun q a b => h q (by omega) (by omega)), if_neg (fun w => w.1 (h i (by omega) (by omega)))]
theorem chn_z {L : Nat → Int32} (h : ∀ o, o < 4096 → L o = if o + 1 = 4096 then -1 else nI (o + 1)) : ∀ k i, i + (k + 1) = 4096 → chn L (nI i) (List.range' i (k + 1)) := by
  intro k
  induction k with
  | zero =>
    intro i hi
    refine ⟨rfl, by omega, ?_⟩
    show L i = -1
    rw [h i (by omega), if_pos (by omega)]
  | succ k ih =>
    intro i hi
    refine ⟨rfl, by omega, ?_⟩
    rw [h i (by omega), if_neg (by omega)]
    exact ih (i + 1) (by omega)
theorem hp_init (hM : HbR P W M) (hT : HbC P W T) (hP : P ≤ 64) (hW : 1 ≤ W) (hW2 : W ≤ 64) : HpI G D 0 0 (fun i => i) 1 1 P W M T := by
  obtain ⟨m1, m2, m3, m4, m5, m6, m7, m8, m9, m10⟩ := hM
  obtain ⟨t1, t2, t3, t4, t5, t6, t7, t8⟩ := hT
  have pu : pgU T P = 0 := by unfold pgU; exact sm_z _ (fun p hp => by rw [if_pos (t7 p (by omega))])
  refine ⟨⟨m1, t6, by omega, by omega, fun i j h1 h2 => by omega, fun i hi => hi, rfl⟩, ⟨m2, m3, ⟨t1, hP, t2, hW, hW2⟩, by rw [pu]; exact t3, by rw [pu]; exact m4, fun p hp => Or.inl (t7 p (by omega))⟩, ⟨m5, by omega, by omega, m6, t4, fun b h1 h2 => by omega⟩, ⟨fun _ => [], List.range' 0 4096, ⟨fun o ho w => absurd (m9 o ho) w, ?_, List.nodup_range', fun o p ho _ w => absurd (m9 o ho) w, fun o ho w => absurd (m9 o ho) w, ?_⟩, fun j hj => ?_, fun b i h1 h2 => by omega⟩, fun b i h1 h2 => by omega, fun b c h1 h2 => by omega⟩
  · rw [m7]
    exact chn_z m10 4095 0 rfl
  · rw [List.length_range', sm_z 4096 (fun o ho => by unfold usO; rw [if_pos (m9 o ho)])]
  · have e : j = 0 := by omega
    subst e
    refine ⟨0, 0, 0, 0, 0, m8 133 (by omega) (by omega), t8 123 (by omega) (by omega), m8 134 (by omega) (by omega), m8 135 (by omega) (by omega), t8 124 (by omega) (by omega), m8 136 (by omega) (by omega), t8 125 (by omega) (by omega), by omega, ?_, by omega, ?_, ?_, t8 126 (by omega) (by omega), by omega, ?_⟩
    · unfold pgN
      exact sm_z _ (fun p hp => by rw [t7 p (by omega), if_neg (nI_neg1 (by omega))])
    · rw [cR_zz 4096 0 (fun q _ hq => m9 q (by omega))]
      exact Nat.le_refl _
    · unfold usR
      rw [sm_z 4096 (fun o ho => by rw [if_neg (fun w => w.1 (m9 o ho))])]
      exact Nat.le_refl _
    · rw [if_pos rfl]
      exact ⟨rfl, rfl, t8 127 (by omega) (by omega)⟩
/-- what else is new */
-/
def NwO (t n m : Nat) (M T : gSt) : Prop := (M.1 103 0 = 1 ∧ T.1 102 0 = 1 ∧ M.1 109 0 = 0 ∧ T.1 100 0 = 80 ∧ M.1 123 0 = 0 ∧ T.1 104 0 = 0 ∧ M.1 102 0 = nI n ∧ T.1 105 0 = nI m) ∧ (T.1 101 18 = 0 ∧ T.1 101 20 = 1 ∧ T.1 101 21 = 0 ∧ T.1 101 22 = 0 ∧ M.1 116 0 = 1) ∧ (M.1 150 0 = 0 ∧ T.1 111 0 = 0) ∧ (M.1 101 0 = 0 ∧ T.1 108 0 = 0 ∧ M.1 104 0 = 0 ∧ T.1 113 0 = 0 ∧ M.1 106 0 = 0 ∧ T.1 109 0 = 0 ∧ M.1 107 0 = 0) ∧ ∀ q, q < 40 → M.1 115 q = T.1 101 (17 * (q + 1) + 2)
theorem sim_init (hM : HbR P W M) (hT : HbC P W T) (hP : P ≤ 64) (hW : 1 ≤ W) (hW2 : W ≤ 64) (nw : NwO t n m M T) (pg : PgO M0 T0 M T) (fb : FnB M0 T0 Sf t S n m) (e0 : eN Sf t = 0) (k0 : Sf.1 19 t = 0) : Sim M0 T0 Sf G D 0 0 (fun i => i) 1 1 P W (fun _ => mkF S (fun _ => 0) (fun _ => ((0 : Int32), 0, 0)) [] [] [] t n m 0 0 1 0 1) 0 M T := by
  obtain ⟨c, k, iq, f12, f36, f42, f84, f87, fv, fl, fw, fc, iv⟩ := fb
  have hp : HpI G D 0 0 (fun i => i) 1 1 P W M T := hp_init hM hT hP hW hW2
  have k00 : k = 0 := nI_inj (by have := iq.2.2.1; omega) (by omega) (by rw [← iq.2.1, k0]; rfl)
  have ar : arn S = 0 := by unfold arn; rw [f84]; rfl
  obtain ⟨⟨a1, a2, a3, a4, a5, a6, a7, a8⟩, ⟨b1, b2, b3, b4, b5⟩, ⟨c1, c2⟩, ⟨d1, d2, d3, d4, d5, d6, d7⟩, h115⟩ := nw
  have fr : FrO Sf G 0 (fun i => i) 1 1 M T 0 (mkF S (fun _ => 0) (fun _ => ((0 : Int32), 0, 0)) [] [] [] t n m 0 0 1 0 1) := by
    refine ⟨fun u s hu => ?_, trivial, ⟨⟨rfl, by show 1 ≤ 1; omega, by show 1 ≤ 1; omega, fun c _ => by show 0 < 1; omega, by show 1 ≤ 1; omega, b4⟩, fun q c hq => ?_, fun q q' c c' _ hq => ?_, fun c h1 h2 h3 => ?_, fun r s h1 h2 h3 h4 hf => ?_⟩, ⟨0, f87, by omega, fun k h1 h2 => by omega⟩, trivial, ⟨b1, b2, b3, b5⟩⟩
    · have := (fv u s hu).2.1
      omega
    · have hq : q < arn S := hq
      omega
    · have hq : q' < arn S := hq
      omega
    · have := (fl c h1 h2 h3).1
      omega
    · exact (fc r s h1 h2 h3 h4 hf (fun _ _ => False) (fun _ _ _ w _ => w) (fun k a b _ _ _ h5 h6 => by omega)).elim
  refine ⟨hp, ⟨by omega, a1, a2⟩, ⟨fun e he => ?_, fun e he => absurd he (Nat.not_lt_zero _), rfl, rfl, rfl, rfl⟩, ⟨a3, a4, ?_, a5, a6, a7, a8⟩, ⟨0, c1, c2, by omega, fun j hj => absurd hj (Nat.not_lt_zero _)⟩, ⟨by rw [d1, d2], ⟨0, d3, d4, by omega, fun j hj => absurd hj (Nat.not_lt_zero _)⟩, by rw [d5, d6], d7, hT.2.2.2.2.1, h115⟩, pg, fun b h1 h2 => by omega⟩
  · have e0 : e = 0 := by omega
    subst e0
    exact ⟨fr, iv⟩
  · show 1 = 1 + lvc S (arn S)
    rw [ar]
    rfl
end SWE
