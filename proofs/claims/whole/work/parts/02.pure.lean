/-- a state: the numbers of a graph of objects by field (a scalar at 0), ints and longs -/
abbrev gSt : Type := (Nat → Nat → Int32) × (Nat → Nat → Int64)
def sI (T : gSt) (g i : Nat) (v : Int32) : gSt := (fun k => if k = g then upd (T.1 g) i v else T.1 k, T.2)
def sJ (T : gSt) (g i : Nat) (v : Int64) : gSt := (T.1, fun k => if k = g then vp_updL (T.2 g) i v else T.2 k)
theorem sI_at {T : gSt} {g i : Nat} {v : Int32} : (sI T g i v).1 g = upd (T.1 g) i v := by simp [sI]
theorem sJ_at {T : gSt} {g i : Nat} {v : Int64} : (sJ T g i v).2 g = vp_updL (T.2 g) i v := by simp [sJ]
theorem sI_v {T : gSt} {g i : Nat} {v : Int32} : (sI T g i v).1 g i = v := by simp [sI, upd]
theorem sJ_v {T : gSt} {g i : Nat} {v : Int64} : (sJ T g i v).2 g i = v := by simp [sJ, vp_updL]
theorem sI_ne {T : gSt} {g i g' : Nat} {v : Int32} (h : g' ≠ g) : (sI T g i v).1 g' = T.1 g' := by simp [sI, h]
theorem sJ_ne {T : gSt} {g i g' : Nat} {v : Int64} (h : g' ≠ g) : (sJ T g i v).2 g' = T.2 g' := by simp [sJ, h]
theorem sI_j {T : gSt} {g i : Nat} {v : Int32} : (sI T g i v).2 = T.2 := rfl
theorem sJ_i {T : gSt} {g i : Nat} {v : Int64} : (sJ T g i v).1 = T.1 := rfl
/-! pure steps -/
abbrev inb (i : Int32) (n : Nat) : Prop := 0 ≤ i.toInt ∧ i.toInt < (n : Int)
abbrev gF : Type := Nat → gSt → List Int32 → List Int64 → Option (Int32 × Int64 × gSt)
abbrev gR : Type := Option (Int32 × Int64 × gSt)
def gd (c : Prop) [Decidable c] (K : gR) : gR := if c then K else none
def bi (o : gR) (K : Int32 → Int64 → gSt → gR) : gR := match o with
  | none => none
  | some (r, rl, T) => K r rl T
def stK (T : gSt) (K : gSt → gR) : gR := K T
def vK (v : Int32) (K : Int32 → gR) : gR := K v
def lK (v : Int64) (K : Int64 → gR) : gR := K v
theorem gd_e {c : Prop} [Decidable c] {K : gR} {z : Int32 × Int64 × gSt} (h : gd c K = some z) : c ∧ K = some z := by
  unfold gd at h
  by_cases hc : c
  · rw [if_pos hc] at h
    exact ⟨hc, h⟩
  · rw [if_neg hc] at h
    cases h
theorem bi_e {o : gR} {K : Int32 → Int64 → gSt → gR} {z : Int32 × Int64 × gSt} (h : bi o K = some z) : ∃ (r : Int32) (rl : Int64) (T : gSt), o = some (r, rl, T) ∧ K r rl T = some z := by
  cases o with
  | none => cases h
  | some y =>
    obtain ⟨r, rl, T⟩ := y
    exact ⟨r, rl, T, rfl, h⟩
theorem stK_e {x T : gSt} {K : gSt → gR} {z : Int32 × Int64 × gSt} (h : T = x) (hR : stK x K = some z) : K T = some z := by
  subst h
  exact hR
theorem vK_e {x v : Int32} {K : Int32 → gR} {z : Int32 × Int64 × gSt} (h : x = v) (hR : vK v K = some z) : K x = some z := by
  subst h
  exact hR
theorem lK_e {x v : Int64} {K : Int64 → gR} {z : Int32 × Int64 × gSt} (h : x = v) (hR : lK v K = some z) : K x = some z := by
  subst h
  exact hR
theorem if_p {c : Prop} [Decidable c] {a b : gR} {z : Int32 × Int64 × gSt} (h : c) (hR : (if c then a else b) = some z) : a = some z := by
  rw [if_pos h] at hR
  exact hR
theorem if_n {c : Prop} [Decidable c] {a b : gR} {z : Int32 × Int64 × gSt} (h : ¬ c) (hR : (if c then a else b) = some z) : b = some z := by
  rw [if_neg h] at hR
  exact hR
theorem re_e {r x : Int32} {rl y : Int64} {T S : gSt} (hR : (some (x, y, S) : gR) = some (r, rl, T)) : x = r ∧ y = rl ∧ S = T := by
  cases hR
  exact ⟨rfl, rfl, rfl⟩
