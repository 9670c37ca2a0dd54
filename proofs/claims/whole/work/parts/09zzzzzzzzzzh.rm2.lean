/-! the reference's heap: what holds of it -/
def sm (f : Nat → Nat) : Nat → Nat
  | 0 => 0
  | n + 1 => sm f n + f n
/-- how many cells slot o has -/
def usO (T : gSt) (ch : Nat → List Nat) (o : Nat) : Nat := if T.1 138 o = 0 then 0 else (ch o).length
/-- a slot that is in use -/
def SlO (T : gSt) (A : Nat) (ch : Nat → List Nat) (o : Nat) : Prop := chn (T.1 149) (T.1 139 o) (ch o) ∧ T.1 140 o = nI (ch o).length ∧ 1 ≤ (ch o).length ∧ (ch o).Nodup ∧ ∃ r, T.1 141 o = nI r ∧ r < A
/-- slots in use, each with its own cells; the cells that are free -/
def Hr (T : gSt) (A : Nat) (ch : Nat → List Nat) (fr : List Nat) : Prop := (∀ o, o < 4096 → ¬ T.1 138 o = 0 → SlO T A ch o) ∧ chn (T.1 149) (T.1 143 0) fr ∧ fr.Nodup ∧ (∀ o p, o < 4096 → p < 4096 → ¬ T.1 138 o = 0 → ¬ T.1 138 p = 0 → o ≠ p → ∀ a, a ∈ ch o → a ∉ ch p) ∧ (∀ o, o < 4096 → ¬ T.1 138 o = 0 → ∀ a, a ∈ ch o → a ∉ fr) ∧ fr.length + sm (usO T ch) 4096 = 4096
def updL (ch : Nat → List Nat) (o : Nat) (l : List Nat) : Nat → List Nat := fun p => if p = o then l else ch p
section RM2
variable {T T' T1 : gSt} {nf d t a b c k n m i q s fl o h p e A A' r : Nat} {w x y z v bb x1 x2 : Int32} {l fr fr' : List Nat} {L L' : Nat → Int32} {ch : Nat → List Nat} {f g : Nat → Nat}
theorem nd_rev {l : List Nat} (h : l.Nodup) : l.reverse.Nodup := List.pairwise_reverse.mpr (List.Pairwise.imp (fun hab => Ne.symm hab) h)
theorem sm_eq : ∀ n, (∀ o, o < n → f o = g o) → sm f n = sm g n := by
  intro n
  induction n with
  | zero => intro _; rfl
  | succ n ih => intro h; rw [sm, sm, ih (fun o ho => h o (by omega)), h n (by omega)]
theorem sm_ge : ∀ n, (∀ o, o < n → 1 ≤ f o) → n ≤ sm f n := by
  intro n
  induction n with
  | zero => intro _; exact Nat.le_refl _
  | succ n ih =>
    intro h
    have := ih (fun o ho => h o (by omega))
    have := h n (by omega)
    rw [sm]
    omega
/-- one of the parts has changed -/
theorem sm_up (ho : o < n) (h : ∀ p, p < n → p ≠ o → f p = g p) : sm f n + g o = sm g n + f o := by
  induction n with
  | zero => omega
  | succ n ih =>
    rw [sm, sm]
    by_cases e : o = n
    · subst e
      have := sm_eq (f := f) (g := g) o (fun p hp => h p (by omega) (by omega))
      omega
    · have := ih (by omega) (fun p hp hn => h p (by omega) hn)
      have := h n (by omega) (fun w => e w.symm)
      omega
theorem ex_1st {P : Nat → Prop} [DecidablePred P] : ∀ n, (∃ o, o < n ∧ P o) → ∃ o, o < n ∧ P o ∧ ∀ q, q < o → ¬ P q := by
  intro n
  induction n with
  | zero => rintro ⟨o, h, _⟩; exact absurd h (Nat.not_lt_zero _)
  | succ n ih =>
    intro h
    by_cases e : ∃ o, o < n ∧ P o
    · obtain ⟨o, h1, h2, h3⟩ := ih e
      exact ⟨o, by omega, h2, h3⟩
    · obtain ⟨o, h1, h2⟩ := h
      have : o = n := Decidable.byContradiction fun w => e ⟨o, by omega, h2⟩
      subst this
      exact ⟨o, by omega, h2, fun q hq w => e ⟨q, hq, w⟩⟩
/-- a slot is free where a cell is -/
theorem Hr.slot (h : Hr T A ch fr) (hk : 1 ≤ fr.length) : ∃ o, o < 4096 ∧ T.1 138 o = 0 ∧ ∀ q, q < o → ¬ T.1 138 q = 0 := by
  refine ex_1st 4096 (Decidable.byContradiction fun w => ?_)
  have := sm_ge (f := usO T ch) 4096 (fun o ho => by
    have hb : ¬ T.1 138 o = 0 := fun e => w ⟨o, ho, e⟩
    unfold usO
    rw [if_neg hb]
    exact (h.1 o ho hb).2.2.1)
  have := h.2.2.2.2.2
  omega
/-- what isn't touched -/
theorem Hr.eq (h : Hr T A ch fr) (h1 : ∀ k, (138 ≤ k ∧ k ≤ 141) ∨ k = 143 ∨ k = 149 → T'.1 k = T.1 k) (hA : A ≤ A') : Hr T' A' ch fr := by
  obtain ⟨a1, a2, a3, a4, a5, a6⟩ := h
  have eu : usO T' ch = usO T ch := by
    funext o
    unfold usO
    rw [h1 138 (by omega)]
  refine ⟨fun o ho hb => ?_, by rw [h1 149 (by omega), h1 143 (by omega)]; exact a2, a3, by rw [h1 138 (by omega)]; exact a4, by rw [h1 138 (by omega)]; exact a5, by rw [eu]; exact a6⟩
  rw [h1 138 (by omega)] at hb
  obtain ⟨b1, b2, b3, b4, r, b5, b6⟩ := a1 o ho hb
  exact ⟨by rw [h1 149 (by omega), h1 139 (by omega)]; exact b1, by rw [h1 140 (by omega)]; exact b2, b3, b4, r, by rw [h1 141 (by omega)]; exact b5, by omega⟩
/-- an object's cells are given back -/
theorem Hr.free (h : Hr T A ch fr) (ho : o < 4096) (hb : ¬ T.1 138 o = 0) (h138 : ∀ q, T1.1 138 q = if q = o then 0 else T.1 138 q) (h1 : ∀ k, (139 ≤ k ∧ k ≤ 141) ∨ k = 143 ∨ k = 149 → T1.1 k = T.1 k) : Hr (frT (ch o) T1) A ch ((ch o).reverse ++ fr) := by
  obtain ⟨a1, a2, a3, a4, a5, a6⟩ := h
  obtain ⟨b1, b2, b3, b4, r, b5, b6⟩ := a1 o ho hb
  have lt : ∀ a, a ∈ ch o → a < 4096 := fun a ha => by
    obtain ⟨i, hi, e⟩ := List.getElem_of_mem ha
    have := chn_lt (ch o) _ _ i b1 hi
    rw [List.getD_eq_getElem?_getD, List.getElem?_eq_getElem hi] at this
    rw [← e]
    exact this
  have fo : ∀ k, k ≠ 149 → k ≠ 143 → (frT (ch o) T1).1 k = T1.1 k := fun k k1 k2 => frT_o k1 k2 (ch o) T1
  have e138 : ∀ q, (frT (ch o) T1).1 138 q = if q = o then 0 else T.1 138 q := fun q => by rw [fo 138 (by omega) (by omega)]; exact h138 q
  have live : ∀ q, ¬ (frT (ch o) T1).1 138 q = 0 → q ≠ o ∧ ¬ T.1 138 q = 0 := fun q hq => by
    rw [e138] at hq
    by_cases e : q = o
    · rw [if_pos e] at hq; exact absurd rfl hq
    · rw [if_neg e] at hq; exact ⟨e, hq⟩
  refine ⟨fun q hq hl => ?_, ?_, ?_, fun q p hq hp h2 h3 hne => ?_, fun q hq hl a ha w => ?_, ?_⟩
  · obtain ⟨e, hl⟩ := live q hl
    obtain ⟨c1, c2, c3, c4, r', c5, c6⟩ := a1 q hq hl
    refine ⟨?_, by rw [fo 140 (by omega) (by omega), h1 140 (by omega)]; exact c2, c3, c4, r', by rw [fo 141 (by omega) (by omega), h1 141 (by omega)]; exact c5, c6⟩
    rw [fo 139 (by omega) (by omega), h1 139 (by omega)]
    refine chn_eq (L := T.1 149) _ _ (fun a ha => ?_) c1
    rw [frT_l (ch o) T1 a (a4 q o hq ho hl hb e a ha), h1 149 (by omega)]
  · refine frT_c (ch o) fr T1 (fun a ha => ⟨lt a ha, a5 o ho hb a ha⟩) b4 ?_
    rw [h1 149 (by omega), h1 143 (by omega)]
    exact a2
  · refine List.nodup_append.mpr ⟨nd_rev b4, a3, fun a ha b hb' w => ?_⟩
    rw [List.mem_reverse] at ha
    rw [w] at ha
    exact a5 o ho hb b ha hb'
  · obtain ⟨_, h2⟩ := live q h2
    obtain ⟨_, h3⟩ := live p h3
    exact a4 q p hq hp h2 h3 hne
  · obtain ⟨e, hl⟩ := live q hl
    rcases List.mem_append.mp w with w | w
    · rw [List.mem_reverse] at w
      exact a4 q o hq ho hl hb e a ha w
    · exact a5 q hq hl a ha w
  · have u := sm_up (f := usO (frT (ch o) T1) ch) (g := usO T ch) (o := o) (n := 4096) ho (fun p _ hp => by
      unfold usO
      rw [e138, if_neg hp])
    have u1 : usO (frT (ch o) T1) ch o = 0 := by
      unfold usO
      rw [e138, if_pos rfl, if_pos rfl]
    have u2 : usO T ch o = (ch o).length := by
      unfold usO
      rw [if_neg hb]
    rw [List.length_append, List.length_reverse]
    omega
/-- cells for a new object -/
theorem Hr.take (h : Hr T A ch (l ++ fr')) (ho : o < 4096) (hb : T.1 138 o = 0) (hl : 1 ≤ l.length) (hbb : ¬ bb = 0) (hr : r < A) (h138 : ∀ q, T1.1 138 q = if q = o then bb else T.1 138 q) (h139 : ∀ q, T1.1 139 q = if q = o then -1 else T.1 139 q) (h140 : ∀ q, T1.1 140 q = if q = o then nI l.length else T.1 140 q) (h141 : ∀ q, T1.1 141 q = if q = o then nI r else T.1 141 q) (h1 : ∀ k, k = 143 ∨ k = 149 → T1.1 k = T.1 k) : Hr (tkT o l T1) A (updL ch o l.reverse) fr' := by
  obtain ⟨a1, a2, a3, a4, a5, a6⟩ := h
  have nd := List.nodup_append.mp a3
  have fo : ∀ k, k ≠ 149 → k ≠ 143 → k ≠ 139 → k ≠ 148 → (tkT o l T1).1 k = T1.1 k := fun k k1 k2 k3 k4 => tkT_o k1 k2 k3 k4 l T1
  have e138 : ∀ q, (tkT o l T1).1 138 q = if q = o then bb else T.1 138 q := fun q => by rw [fo 138 (by omega) (by omega) (by omega) (by omega)]; exact h138 q
  have uo : updL ch o l.reverse o = l.reverse := if_pos rfl
  have up : ∀ q, q ≠ o → updL ch o l.reverse q = ch q := fun q hq => if_neg hq
  obtain ⟨t1, t2⟩ := tkT_c (o := o) l fr' [] T1 a3 (fun a _ w => absurd w List.not_mem_nil) (fun a _ w => absurd w List.not_mem_nil) (by rw [h1 149 (by omega), h1 143 (by omega)]; exact a2) (by rw [h139, if_pos rfl]; rfl)
  rw [List.append_nil] at t2
  have live : ∀ q, q ≠ o → ¬ (tkT o l T1).1 138 q = 0 → ¬ T.1 138 q = 0 := fun q e hq => by
    rw [e138, if_neg e] at hq
    exact hq
  refine ⟨fun q hq hl' => ?_, t1, nd.2.1, fun q p hq hp h2 h3 hne a ha w => ?_, fun q hq hl' a ha w => ?_, ?_⟩
  · by_cases e : q = o
    · subst e
      unfold SlO
      rw [uo]
      exact ⟨t2, by rw [fo 140 (by omega) (by omega) (by omega) (by omega), h140, if_pos rfl, List.length_reverse], by rw [List.length_reverse]; exact hl, nd_rev nd.1, r, by rw [fo 141 (by omega) (by omega) (by omega) (by omega), h141, if_pos rfl], hr⟩
    · obtain ⟨c1, c2, c3, c4, r', c5, c6⟩ := a1 q hq (live q e hl')
      unfold SlO
      rw [up q e]
      refine ⟨?_, by rw [fo 140 (by omega) (by omega) (by omega) (by omega), h140, if_neg e]; exact c2, c3, c4, r', by rw [fo 141 (by omega) (by omega) (by omega) (by omega), h141, if_neg e]; exact c5, c6⟩
      rw [tkT_h l T1 q e, h139, if_neg e]
      refine chn_eq (L := T.1 149) _ _ (fun a ha => ?_) c1
      rw [(tkT_p l T1 a (fun w => a5 q hq (live q e hl') a ha (List.mem_append_left _ w))).1, h1 149 (by omega)]
  · by_cases e : q = o
    · rw [e, uo, List.mem_reverse] at ha
      have ep : p ≠ o := fun w => hne (by rw [e, w])
      rw [up p ep] at w
      exact a5 p hp (live p ep h3) a w (List.mem_append_left _ ha)
    · rw [up q e] at ha
      by_cases ep : p = o
      · rw [ep, uo, List.mem_reverse] at w
        exact a5 q hq (live q e h2) a ha (List.mem_append_left _ w)
      · rw [up p ep] at w
        exact a4 q p hq hp (live q e h2) (live p ep h3) hne a ha w
  · by_cases e : q = o
    · rw [e, uo, List.mem_reverse] at ha
      exact nd.2.2 a ha a w rfl
    · rw [up q e] at ha
      exact a5 q hq (live q e hl') a ha (List.mem_append_right _ w)
  · have u := sm_up (f := usO (tkT o l T1) (updL ch o l.reverse)) (g := usO T ch) (o := o) (n := 4096) ho (fun p _ hp => by
      unfold usO
      rw [e138, if_neg hp, up p hp])
    have u1 : usO (tkT o l T1) (updL ch o l.reverse) o = l.length := by
      unfold usO
      rw [e138, if_pos rfl, if_neg hbb, uo, List.length_reverse]
    have u2 : usO T ch o = 0 := by
      unfold usO
      rw [if_pos hb]
    rw [List.length_append] at a6
    omega
end RM2
