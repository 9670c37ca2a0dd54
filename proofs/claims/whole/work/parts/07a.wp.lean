/-! reading of written states; what a pure run comes to -/
theorem rdI {T : gSt} {g i g' i' : Nat} {v : Int32} : (sI T g i v).1 g' i' = if g' = g ∧ i' = i then v else T.1 g' i' := by
  unfold sI upd
  dsimp only
  by_cases h : g' = g
  · subst h
    by_cases h2 : i' = i <;> simp [h2]
  · simp [h]
theorem rdIJ {T : gSt} {g i g' i' : Nat} {v : Int32} : (sI T g i v).2 g' i' = T.2 g' i' := rfl
theorem rdJ {T : gSt} {g i g' i' : Nat} {v : Int64} : (sJ T g i v).2 g' i' = if g' = g ∧ i' = i then v else T.2 g' i' := by
  unfold sJ vp_updL
  dsimp only
  by_cases h : g' = g
  · subst h
    by_cases h2 : i' = i <;> simp [h2]
  · simp [h]
theorem rdJI {T : gSt} {g i g' i' : Nat} {v : Int64} : (sJ T g i v).1 g' i' = T.1 g' i' := rfl
def wp (o : gR) (Q : Int32 → Int64 → gSt → Prop) : Prop := ∃ (r : Int32) (l : Int64) (T : gSt), o = some (r, l, T) ∧ Q r l T
theorem wp_some {r : Int32} {l : Int64} {T : gSt} {Q : Int32 → Int64 → gSt → Prop} (h : Q r l T) : wp (some (r, l, T)) Q := ⟨r, l, T, rfl, h⟩
theorem wp_bi {o : gR} {K : Int32 → Int64 → gSt → gR} {Q R : Int32 → Int64 → gSt → Prop} (h : wp o R) (hk : ∀ (r : Int32) (l : Int64) (T : gSt), R r l T → wp (K r l T) Q) : wp (bi o K) Q := by
  obtain ⟨r, l, T, e, h⟩ := h
  rw [e]
  exact hk r l T h
theorem wp_be {o : gR} {K : Int32 → Int64 → gSt → gR} {Q : Int32 → Int64 → gSt → Prop} {r : Int32} {l : Int64} {T : gSt} (e : o = some (r, l, T)) (h : wp (K r l T) Q) : wp (bi o K) Q := by
  rw [e]
  exact h
theorem wp_gd {c : Prop} [Decidable c] {K : gR} {Q : Int32 → Int64 → gSt → Prop} (hc : c) (h : wp K Q) : wp (gd c K) Q := by
  unfold gd
  rw [if_pos hc]
  exact h
theorem wp_st {T : gSt} {K : gSt → gR} {Q : Int32 → Int64 → gSt → Prop} (h : wp (K T) Q) : wp (stK T K) Q := h
theorem wp_v {v : Int32} {K : Int32 → gR} {Q : Int32 → Int64 → gSt → Prop} (h : wp (K v) Q) : wp (vK v K) Q := h
theorem wp_l {v : Int64} {K : Int64 → gR} {Q : Int32 → Int64 → gSt → Prop} (h : wp (K v) Q) : wp (lK v K) Q := h
theorem wp_t {c : Prop} [Decidable c] {a b : gR} {Q : Int32 → Int64 → gSt → Prop} (hc : c) (h : wp a Q) : wp (if c then a else b) Q := by
  rw [if_pos hc]
  exact h
theorem wp_f {c : Prop} [Decidable c] {a b : gR} {Q : Int32 → Int64 → gSt → Prop} (hc : ¬ c) (h : wp b Q) : wp (if c then a else b) Q := by
  rw [if_neg hc]
  exact h
theorem wp_if {c : Prop} [Decidable c] {a b : gR} {Q : Int32 → Int64 → gSt → Prop} (h1 : c → wp a Q) (h2 : ¬ c → wp b Q) : wp (if c then a else b) Q := by
  by_cases hc : c
  · exact wp_t hc (h1 hc)
  · exact wp_f hc (h2 hc)
theorem wp_mono {o : gR} {Q R : Int32 → Int64 → gSt → Prop} (h : wp o R) (hk : ∀ (r : Int32) (l : Int64) (T : gSt), R r l T → Q r l T) : wp o Q := by
  obtain ⟨r, l, T, e, h⟩ := h
  exact ⟨r, l, T, e, hk r l T h⟩
theorem wp_eq {o : gR} {Q : Int32 → Int64 → gSt → Prop} {r : Int32} {l : Int64} {T : gSt} (e : o = some (r, l, T)) (h : Q r l T) : wp o Q := ⟨r, l, T, e, h⟩
theorem wp_cast {o o' : gR} {Q : Int32 → Int64 → gSt → Prop} (e : o = o') (h : wp o' Q) : wp o Q := e ▸ h
theorem nc {m : Nat} (h : m < 100000) : (nI m).toNatClampNeg = m := nI_clamp (by omega)
theorem nin {m k : Nat} (h : m < k) (hk : k ≤ 100000) : inb (nI m) k := by
  have e := nI_toInt (n := m) (by omega)
  refine ⟨?_, ?_⟩ <;> rw [e] <;> omega
theorem bis {r : Int32} {l : Int64} {T : gSt} {K : Int32 → Int64 → gSt → gR} : bi (some (r, l, T)) K = K r l T := rfl
theorem lKs {v : Int64} {K : Int64 → gR} : lK v K = K v := rfl
theorem vKs {v : Int32} {K : Int32 → gR} : vK v K = K v := rfl
theorem stKs {T : gSt} {K : gSt → gR} : stK T K = K T := rfl
