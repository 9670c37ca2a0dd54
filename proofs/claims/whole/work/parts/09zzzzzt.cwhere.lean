/-! the class reads what where tells, whatever there is; the closure -/
def abN (r s : Nat) : Nat := (r - 1) * 3 + s - 1
def wcC (t r s : Nat) (x : Int32) : Int32 := if (((x >>> (nI (abN r t) &&& 31)) &&& (x >>> (nI (abN t s) &&& 31))) &&& 1) = 0 then x else x ||| ((1 : Int32) <<< (nI (abN r s) &&& 31))
def wcS (t r : Nat) : Nat → Nat → Int32 → Int32
  | 0, _, x => x
  | m + 1, s, x => wcS t r m (s + 1) (wcC t r s x)
def wcR (t : Nat) : Nat → Nat → Int32 → Int32
  | 0, _, x => x
  | m + 1, r, x => wcR t m (r + 1) (wcS t r 3 1 x)
def wcT : Nat → Nat → Int32 → Int32
  | 0, _, x => x
  | m + 1, t, x => wcT m (t + 1) (wcR t 3 1 x)
section CWH
variable {T T' T1 : gSt} {X : Lx} {nf d i k n m t r s cnt : Nat} {x : Int32}
theorem c_above (hr : 1 ≤ r) (hr2 : r < 100) (hs : 1 ≤ s) (hs2 : s < 100) (hd : 1 ≤ d) : PP nf d 110 T [nI r, nI s] [] = some (nI (abN r s), 0, T) := by
  obtain ⟨d, rfl⟩ : ∃ g, d = g + 1 := ⟨d - 1, by omega⟩
  rw [e_Scope_aboveBit]
  unfold rb_Scope_aboveBit abN
  have e1 : nI r - 1 = nI (r - 1) := by
    have := nI_sub (k := r - 1)
    rw [show r - 1 + 1 = r by omega] at this
    exact this
  have e2 : nI (r - 1) * 3 + nI s - 1 = nI ((r - 1) * 3 + s - 1) := by
    rw [show (3 : Int32) = nI 3 from rfl, nI_mul, show nI ((r - 1) * 3) + nI s = nI ((r - 1) * 3 + s) from (Int32.ofNat_add _ _).symm]
    have := nI_sub (k := (r - 1) * 3 + s - 1)
    rw [show (r - 1) * 3 + s - 1 + 1 = (r - 1) * 3 + s by omega] at this
    exact this
  rw [e1, e2]
theorem c_cl19 {rec4 : gSt → Int32 → Int32 → gR} {rec11 : gSt → Int32 → Int32 → Int32 → gR} (ht : 1 ≤ t) (ht2 : t ≤ 3) (hr : 1 ≤ r) (hr2 : r ≤ 3) (hd : 1 ≤ d) : ∀ (m s fl : Nat) (x : Int32), m + s = 4 → 1 ≤ s → m < fl → rl_Heads_closed_19 (PP nf d) nf rec4 rec11 fl T x (nI t) (nI r) (nI s) = rec11 T (wcS t r m s x) (nI t) (nI (r + 1)) := by
  intro m
  induction m with
  | zero =>
    intro s fl x h1 h2 h3
    obtain ⟨fl, rfl⟩ : ∃ g, fl = g + 1 := ⟨fl - 1, by omega⟩
    rw [rl_Heads_closed_19, if_pos (show (3 : Int32) < nI s by rw [show s = 4 by omega]; decide), vK, nI_1]
    rfl
  | succ m ih =>
    intro s fl x h1 h2 h3
    obtain ⟨fl, rfl⟩ : ∃ g, fl = g + 1 := ⟨fl - 1, by omega⟩
    rw [rl_Heads_closed_19, if_neg (fun w => by
      have := (nI_ltI (a := 3) (b := s) (by omega) (by omega)).mp w
      omega), c_above hr (by omega) ht (by omega) hd, bis, c_above ht (by omega) h2 (by omega) hd, bis, wcS]
    unfold rj_Heads_closed_51 wcC
    by_cases c : (((x >>> (nI (abN r t) &&& 31)) &&& (x >>> (nI (abN t s) &&& 31))) &&& 1) = 0
    · rw [if_pos c, if_pos c, if_pos rfl, vK, vK, nI_1, Int32.or_zero]
      exact ih (s + 1) fl x (by omega) (by omega) (by omega)
    · rw [if_neg c, if_neg c, if_neg (by decide), c_above hr (by omega) h2 (by omega) hd, bis, vK, vK, nI_1]
      exact ih (s + 1) fl _ (by omega) (by omega) (by omega)
theorem c_cl11 {rec4 : gSt → Int32 → Int32 → gR} (hnf : 10 ≤ nf) (ht : 1 ≤ t) (ht2 : t ≤ 3) (hd : 1 ≤ d) : ∀ (m r fl : Nat) (x : Int32), m + r = 4 → 1 ≤ r → m < fl → rl_Heads_closed_11 (PP nf d) nf rec4 fl T x (nI t) (nI r) = rec4 T (wcR t m r x) (nI (t + 1)) := by
  intro m
  induction m with
  | zero =>
    intro r fl x h1 h2 h3
    obtain ⟨fl, rfl⟩ : ∃ g, fl = g + 1 := ⟨fl - 1, by omega⟩
    rw [rl_Heads_closed_11, if_pos (show (3 : Int32) < nI r by rw [show r = 4 by omega]; decide), vK, nI_1]
    rfl
  | succ m ih =>
    intro r fl x h1 h2 h3
    obtain ⟨fl, rfl⟩ : ∃ g, fl = g + 1 := ⟨fl - 1, by omega⟩
    rw [rl_Heads_closed_11, if_neg (fun w => by
      have := (nI_ltI (a := 3) (b := r) (by omega) (by omega)).mp w
      omega), show (1 : Int32) = nI 1 from rfl, c_cl19 ht ht2 h2 (by omega) hd 3 1 nf x (by omega) (by omega) (by omega), ih (r + 1) fl _ (by omega) (by omega) (by omega), wcR]
theorem c_cl4 (hnf : 10 ≤ nf) (hd : 1 ≤ d) : ∀ (m t fl : Nat) (x : Int32), m + t = 4 → 1 ≤ t → m < fl → rl_Heads_closed_4 (PP nf d) nf fl T x (nI t) = some (wcT m t x, 0, T) := by
  intro m
  induction m with
  | zero =>
    intro t fl x h1 h2 h3
    obtain ⟨fl, rfl⟩ : ∃ g, fl = g + 1 := ⟨fl - 1, by omega⟩
    rw [rl_Heads_closed_4, if_pos (show (3 : Int32) < nI t by rw [show t = 4 by omega]; decide)]
    rfl
  | succ m ih =>
    intro t fl x h1 h2 h3
    obtain ⟨fl, rfl⟩ : ∃ g, fl = g + 1 := ⟨fl - 1, by omega⟩
    rw [rl_Heads_closed_4, if_neg (fun w => by
      have := (nI_ltI (a := 3) (b := t) (by omega) (by omega)).mp w
      omega), show (1 : Int32) = nI 1 from rfl, c_cl11 hnf h2 (by omega) hd 3 1 nf x (by omega) (by omega) (by omega), ih (t + 1) fl _ (by omega) (by omega) (by omega), wcT]
theorem c_closed (hnf : 10 ≤ nf) (hd : 2 ≤ d) : PP nf d 133 T [x] [] = some (wcT 3 1 x, 0, T) := by
  obtain ⟨d, rfl⟩ : ∃ g, d = g + 1 := ⟨d - 1, by omega⟩
  rw [e_Heads_closed]
  unfold rb_Heads_closed
  exact c_cl4 hnf (by omega) 3 1 nf x (by omega) (by omega) (by omega)
end CWH
