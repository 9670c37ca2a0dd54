/-! the reference's heap: cells given back, cells taken -/
/-- cells l given back -/
def frT : List Nat → gSt → gSt
  | [], T => T
  | a :: l, T => frT l (sI (sI T 149 a (T.1 143 0)) 143 0 (nI a))
/-- n cells taken for slot o -/
def tkT (o : Nat) : List Nat → gSt → gSt
  | [], T => T
  | a :: l, T => tkT o l (sI (sI (sI (sI T 143 0 (T.1 149 a)) 149 a (T.1 139 o)) 139 o (nI a)) 148 a 0)
section RM1
variable {T T' : gSt} {nf d t a b c k n m i q s fl o h p e : Nat} {w x y z v bb x1 x2 : Int32} {l fr : List Nat} {L L' : Nat → Int32}
theorem chn_eq : ∀ (l : List Nat) (c : Int32), (∀ a, a ∈ l → L' a = L a) → chn L c l → chn L' c l := by
  intro l
  induction l with
  | nil => intro c _ h; exact h
  | cons a l ih =>
    intro c he h
    refine ⟨h.1, h.2.1, ?_⟩
    rw [he a List.mem_cons_self]
    exact ih _ (fun b hb => he b (List.mem_cons_of_mem _ hb)) h.2.2
theorem frT_o (h1 : k ≠ 149) (h2 : k ≠ 143) : ∀ (l : List Nat) (T : gSt), (frT l T).1 k = T.1 k := by
  intro l
  induction l with
  | nil => intro T; rfl
  | cons a l ih =>
    intro T
    rw [frT, ih, sI_ne h2, sI_ne h1]
theorem frT_2 : ∀ (l : List Nat) (T : gSt), (frT l T).2 = T.2 := by
  intro l
  induction l with
  | nil => intro T; rfl
  | cons a l ih => intro T; rw [frT, ih]; rfl
theorem frT_l : ∀ (l : List Nat) (T : gSt) (q : Nat), q ∉ l → (frT l T).1 149 q = T.1 149 q := by
  intro l
  induction l with
  | nil => intro T q _; rfl
  | cons a l ih =>
    intro T q hq
    rw [frT, ih _ q (fun w => hq (List.mem_cons_of_mem _ w)), sI_ne (by omega), rdI, if_neg (fun w => hq (by rw [w.2]; exact List.mem_cons_self))]
theorem frT_c : ∀ (l fr : List Nat) (T : gSt), (∀ a, a ∈ l → a < 4096 ∧ a ∉ fr) → l.Nodup → chn (T.1 149) (T.1 143 0) fr → chn ((frT l T).1 149) ((frT l T).1 143 0) (l.reverse ++ fr) := by
  intro l
  induction l with
  | nil => intro fr T _ _ h; exact h
  | cons a l ih =>
    intro fr T hl hn h
    rw [frT]
    have ha := hl a List.mem_cons_self
    have nd := List.nodup_cons.mp hn
    have := ih (a :: fr) (sI (sI T 149 a (T.1 143 0)) 143 0 (nI a)) (fun b hb => ⟨(hl b (List.mem_cons_of_mem _ hb)).1, fun w => by
      rcases List.mem_cons.mp w with q | q
      · rw [q] at hb; exact nd.1 hb
      · exact (hl b (List.mem_cons_of_mem _ hb)).2 q⟩) nd.2 (by
      refine ⟨by rw [sI_v], ha.1, ?_⟩
      rw [sI_ne (by omega), sI_v]
      refine chn_eq (L := T.1 149) fr _ (fun b hb => ?_) h
      rw [rdI, if_neg (fun w => by rw [w.2] at hb; exact ha.2 hb)])
    rw [List.reverse_cons, List.append_assoc]
    exact this
theorem x_sh109 {rec0 : gSt → Int32 → gR} {rec38 : gSt → Int32 → Int32 → gR} : ∀ (l : List Nat) (T : gSt) (c : Int32) (fl : Nat), chn (T.1 149) c l → l.Nodup → l.length < fl → rl_Model_shrink_109 (RR nf d) nf rec0 rec38 fl T x1 x2 c = rec38 (frT l T) x1 (x2 + 1) := by
  intro l
  induction l with
  | nil =>
    intro T c fl h _ hf
    obtain ⟨fl, rfl⟩ : ∃ g, fl = g + 1 := ⟨fl - 1, by omega⟩
    have h' : c = -1 := h
    rw [rl_Model_shrink_109, h', if_pos (by decide), vK]
    rfl
  | cons a l ih =>
    intro T c fl h hn hf
    rw [List.length_cons] at hf
    obtain ⟨fl, rfl⟩ : ∃ g, fl = g + 1 := ⟨fl - 1, by omega⟩
    obtain ⟨h1, h2, h3⟩ := h
    have nd := List.nodup_cons.mp hn
    rw [rl_Model_shrink_109, h1, if_neg (nI_ge0 (by omega)), gd, if_pos (nin h2 (by omega)), nc (by omega), vK, gd, if_pos (nin h2 (by omega)), stK, stK, frT]
    have e : (sI (sI T 149 a (T.1 143 0)) 143 0 (nI a)).1 149 = (sI T 149 a (T.1 143 0)).1 149 := sI_ne (by omega)
    refine ih _ _ fl ?_ nd.2 (by omega)
    refine chn_eq (L := T.1 149) l _ (fun b hb => ?_) h3
    rw [e, rdI, if_neg (fun w => by rw [w.2] at hb; exact nd.1 hb)]
theorem tkT_o (h1 : k ≠ 149) (h2 : k ≠ 143) (h3 : k ≠ 139) (h4 : k ≠ 148) : ∀ (l : List Nat) (T : gSt), (tkT o l T).1 k = T.1 k := by
  intro l
  induction l with
  | nil => intro T; rfl
  | cons a l ih =>
    intro T
    rw [tkT, ih, sI_ne h4, sI_ne h3, sI_ne h1, sI_ne h2]
theorem tkT_2 : ∀ (l : List Nat) (T : gSt), (tkT o l T).2 = T.2 := by
  intro l
  induction l with
  | nil => intro T; rfl
  | cons a l ih => intro T; rw [tkT, ih]; rfl
theorem tkT_p : ∀ (l : List Nat) (T : gSt) (q : Nat), q ∉ l → (tkT o l T).1 149 q = T.1 149 q ∧ (tkT o l T).1 148 q = T.1 148 q := by
  intro l
  induction l with
  | nil => intro T q _; exact ⟨rfl, rfl⟩
  | cons a l ih =>
    intro T q hq
    have hne : ¬ q = a := fun w => hq (by rw [w]; exact List.mem_cons_self)
    obtain ⟨e1, e2⟩ := ih (sI (sI (sI (sI T 143 0 (T.1 149 a)) 149 a (T.1 139 o)) 139 o (nI a)) 148 a 0) q (fun w => hq (List.mem_cons_of_mem _ w))
    rw [tkT, e1, e2, sI_ne (by omega), sI_ne (by omega), rdI, if_neg (fun w => hne w.2), sI_ne (by omega), rdI, if_neg (fun w => hne w.2), sI_ne (by omega), sI_ne (by omega), sI_ne (by omega)]
    exact ⟨rfl, rfl⟩
theorem tkT_h : ∀ (l : List Nat) (T : gSt) (q : Nat), q ≠ o → (tkT o l T).1 139 q = T.1 139 q := by
  intro l
  induction l with
  | nil => intro T q _; rfl
  | cons a l ih =>
    intro T q hq
    rw [tkT, ih _ q hq, sI_ne (by omega), rdI, if_neg (fun w => hq w.2), sI_ne (by omega), sI_ne (by omega)]
/-- n cells from the free ones: those of the slot, those that are left -/
theorem tkT_c : ∀ (l fr mine : List Nat) (T : gSt), (l ++ fr).Nodup → (∀ a, a ∈ l → a ∉ mine) → (∀ a, a ∈ fr → a ∉ mine) → chn (T.1 149) (T.1 143 0) (l ++ fr) → chn (T.1 149) (T.1 139 o) mine → chn ((tkT o l T).1 149) ((tkT o l T).1 143 0) fr ∧ chn ((tkT o l T).1 149) ((tkT o l T).1 139 o) (l.reverse ++ mine) := by
  intro l
  induction l with
  | nil => intro fr mine T _ _ _ h1 h2; exact ⟨h1, h2⟩
  | cons a l ih =>
    intro fr mine T hn hm hf h1 h2
    rw [tkT]
    obtain ⟨g1, g2, g3⟩ := h1
    rw [List.cons_append] at hn
    have nd := List.nodup_cons.mp hn
    have eL : ∀ b, b ≠ a → (sI (sI (sI (sI T 143 0 (T.1 149 a)) 149 a (T.1 139 o)) 139 o (nI a)) 148 a 0).1 149 b = T.1 149 b := fun b hb => by
      rw [sI_ne (by omega), sI_ne (by omega), rdI, if_neg (fun w => hb w.2), sI_ne (by omega)]
    have ea : (sI (sI (sI (sI T 143 0 (T.1 149 a)) 149 a (T.1 139 o)) 139 o (nI a)) 148 a 0).1 149 a = T.1 139 o := by
      rw [sI_ne (by omega), sI_ne (by omega), sI_v]
    have e143 : (sI (sI (sI (sI T 143 0 (T.1 149 a)) 149 a (T.1 139 o)) 139 o (nI a)) 148 a 0).1 143 0 = T.1 149 a := by
      rw [sI_ne (by omega), sI_ne (by omega), sI_ne (by omega), sI_v]
    have := ih fr (a :: mine) (sI (sI (sI (sI T 143 0 (T.1 149 a)) 149 a (T.1 139 o)) 139 o (nI a)) 148 a 0) nd.2 (fun b hb w => by
      rcases List.mem_cons.mp w with q | q
      · rw [q] at hb; exact nd.1 (List.mem_append_left _ hb)
      · exact hm b (List.mem_cons_of_mem _ hb) q) (fun b hb w => by
      rcases List.mem_cons.mp w with q | q
      · rw [q] at hb; exact nd.1 (List.mem_append_right _ hb)
      · exact hf b hb q) (by
      rw [e143]
      exact chn_eq (L := T.1 149) _ _ (fun b hb => eL b (fun w => by rw [w] at hb; exact nd.1 hb)) g3) (by
      refine ⟨by rw [sI_ne (by omega), sI_v], g2, ?_⟩
      rw [ea]
      exact chn_eq (L := T.1 149) _ _ (fun b hb => eL b (fun w => by rw [w] at hb; exact hm a List.mem_cons_self hb)) h2)
    rw [List.reverse_cons, List.append_assoc]
    exact this
theorem x_mk235 (ho : o < 4096) : ∀ (l fr : List Nat) (T : gSt) (i fl : Nat), chn (T.1 149) (T.1 143 0) (l ++ fr) → (l ++ fr).Nodup → l.length + i = n → n < 100000 → l.length < fl → rl_Model_make_235 (RR nf d) nf fl T (nI n) (nI o) (nI i) = some (nI o, 0, tkT o l T) := by
  have zo : inb (nI o) 4096 := nin ho (by omega)
  intro l
  induction l with
  | nil =>
    intro fr T i fl _ _ h3 h4 h5
    obtain ⟨fl, rfl⟩ : ∃ g, fl = g + 1 := ⟨fl - 1, by omega⟩
    rw [List.length_nil] at h3
    rw [rl_Model_make_235, if_pos (show nI n ≤ nI i from (nI_leI (by omega) (by omega)).mpr (by omega))]
    rfl
  | cons a l ih =>
    intro fr T i fl h1 h2 h3 h4 h5
    rw [List.length_cons] at h3 h5
    obtain ⟨fl, rfl⟩ : ∃ g, fl = g + 1 := ⟨fl - 1, by omega⟩
    obtain ⟨g1, g2, g3⟩ := h1
    rw [List.cons_append] at h2
    have nd := List.nodup_cons.mp h2
    have za : inb (nI a) 4096 := nin g2 (by omega)
    rw [rl_Model_make_235, if_neg (fun q => by
      have := (nI_leI (a := n) (b := i) (by omega) (by omega)).mp q
      omega), g1, vK]
    simp only [gd, if_pos za, if_pos zo, stK, vK, nc (show a < 100000 by omega), nc (show o < 100000 by omega)]
    rw [sI_ne (g' := 139) (g := 143) (by omega), nI_1, tkT]
    have eL : ∀ b, b ≠ a → (sI (sI (sI (sI T 143 0 (T.1 149 a)) 149 a (T.1 139 o)) 139 o (nI a)) 148 a 0).1 149 b = T.1 149 b := fun b hb => by
      rw [sI_ne (by omega), sI_ne (by omega), rdI, if_neg (fun w => hb w.2), sI_ne (by omega)]
    have e143 : (sI (sI (sI (sI T 143 0 (T.1 149 a)) 149 a (T.1 139 o)) 139 o (nI a)) 148 a 0).1 143 0 = T.1 149 a := by
      rw [sI_ne (by omega), sI_ne (by omega), sI_ne (by omega), sI_v]
    refine ih fr _ (i + 1) fl ?_ nd.2 (by omega) h4 (by omega)
    rw [e143]
    exact chn_eq (L := T.1 149) _ _ (fun b hb => eL b (fun w => by rw [w] at hb; exact nd.1 hb)) g3
end RM1
