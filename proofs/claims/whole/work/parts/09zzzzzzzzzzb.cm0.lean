/-! the class's machine: its small methods -/
/-- the pages as they are: P of W words -/
def Pgs (T : gSt) (P W : Nat) : Prop := T.1 117 0 = nI P ∧ P ≤ 64 ∧ T.1 118 0 = nI W ∧ 1 ≤ W ∧ W ≤ 64
/-- a word that some region has -/
def Own (T : gSt) (P W a : Nat) : Prop := a < P * W ∧ ¬ T.1 116 (a / W) = -1
def psT (T : gSt) (t : Nat) (w : Int32) : gSt := sI (sI T 99 t w) 100 0 (nI (t + 1))
def puT (T : gSt) (a : Nat) (w : Int32) : gSt := sI (sI T 114 a w) 115 a 1
section CM0
variable {T T' : gSt} {nf d t a b c k P W n m i : Nat} {w x y v : Int32}
theorem nI_ge0 (h : n < 2 ^ 31) : ¬ nI n < 0 := nI_pos h
theorem nI_div (ha : a < 100000) (hb : b < 100000) : nI a / nI b = nI (a / b) := by
  apply Int32.toInt_inj.mp
  rw [Int32.toInt_div, nI_toInt (by omega), nI_toInt (by omega)]
  have hq : a / b ≤ a := Nat.div_le_self a b
  rw [nI_toInt (show a / b < 2 ^ 31 by omega)]
  have e : Int.tdiv (a : Int) (b : Int) = ((a / b : Nat) : Int) := by
    rw [Int.tdiv_eq_ediv_of_nonneg (by omega)]
    rfl
  rw [e]
  clear e
  generalize a / b = q at *
  exact Int.bmod_eq_of_le (by omega) (by omega)
theorem c_push (h : T.1 100 0 = nI t) (ht : t < 23200) (hd : 1 ≤ d) : PP nf d 197 T [w] [] = some (0, 0, psT T t w) := by
  obtain ⟨d, rfl⟩ : ∃ g, d = g + 1 := ⟨d - 1, by omega⟩
  rw [e_Machine_push]
  unfold rb_Machine_push psT
  rw [h, if_neg (nI_ge0 (by omega)), if_neg (fun q => by
    have := (nI_leI (a := 23200) (b := t) (by omega) (by omega)).mp q
    omega), gd, if_pos (nin ht (by omega)), nc (by omega), stK, stK, sI_ne (by omega), h, nI_1]
theorem c_pop (h : T.1 100 0 = nI (t + 1)) (ht : t < 23200) (hd : 1 ≤ d) : PP nf d 198 T [] [] = some (T.1 99 t, 0, sI T 100 0 (nI t)) := by
  obtain ⟨d, rfl⟩ : ∃ g, d = g + 1 := ⟨d - 1, by omega⟩
  rw [e_Machine_pop]
  unfold rb_Machine_pop
  rw [h, if_neg (fun q => by
    have := (nI_leI (a := t + 1) (b := 0) (by omega) (by omega)).mp q
    omega), if_pos (show nI (t + 1) ≤ 23200 from (nI_leI (b := 23200) (by omega) (by omega)).mpr (by omega)), stK, nI_sub, sI_v, gd, if_pos (nin ht (by omega)), nc (by omega), sI_ne (by omega)]
theorem c_wordAt (ht : t < 23200) (hd : 1 ≤ d) : PP nf d 199 T [nI t] [] = some (T.1 99 t, 0, T) := by
  obtain ⟨d, rfl⟩ : ∃ g, d = g + 1 := ⟨d - 1, by omega⟩
  rw [e_Machine_wordAt]
  unfold rb_Machine_wordAt
  rw [if_neg (nI_ge0 (by omega)), if_pos (show nI t < 23200 from (nI_ltI (b := 23200) (by omega) (by omega)).mpr ht), gd, if_pos (nin ht (by omega)), nc (by omega)]
theorem c_setWord (ht : t < 23200) (hd : 1 ≤ d) : PP nf d 200 T [nI t, w] [] = some (0, 0, sI T 99 t w) := by
  obtain ⟨d, rfl⟩ : ∃ g, d = g + 1 := ⟨d - 1, by omega⟩
  rw [e_Machine_setWord]
  unfold rb_Machine_setWord
  rw [if_neg (nI_ge0 (by omega)), if_neg (fun q => by
    have := (nI_leI (a := 23200) (b := t) (by omega) (by omega)).mp q
    omega), gd, if_pos (nin ht (by omega)), nc (by omega), stK]
theorem fr_at (hc : c ≤ 40) (hk : k < 17) : nI c * 17 + nI k = nI (17 * c + k) := by
  rw [show (17 : Int32) = nI 17 from rfl, nI_mul, show nI (c * 17) + nI k = nI (c * 17 + k) from (Int32.ofNat_add _ _).symm, Nat.mul_comm]
theorem c_frame (h : T.1 102 0 = nI c) (hc : c ≤ 40) (hk : k < 17) (hd : 1 ≤ d) : PP nf d 201 T [nI k] [] = some (T.1 101 (17 * c + k), 0, T) := by
  obtain ⟨d, rfl⟩ : ∃ g, d = g + 1 := ⟨d - 1, by omega⟩
  rw [e_Machine_frame]
  unfold rb_Machine_frame
  rw [h, vK, fr_at hc hk, if_neg (nI_ge0 (by omega)), if_pos (show nI (17 * c + k) < 697 from (nI_ltI (b := 697) (by omega) (by omega)).mpr (by omega)), gd, if_pos (nin (by omega) (by omega)), nc (by omega)]
theorem c_setFrame (h : T.1 102 0 = nI c) (hc : c ≤ 40) (hk : k < 17) (hd : 1 ≤ d) : PP nf d 202 T [nI k, v] [] = some (0, 0, sI T 101 (17 * c + k) v) := by
  obtain ⟨d, rfl⟩ : ∃ g, d = g + 1 := ⟨d - 1, by omega⟩
  rw [e_Machine_setFrame]
  unfold rb_Machine_setFrame
  rw [h, vK, fr_at hc hk, if_neg (nI_ge0 (by omega)), if_neg (fun q => by
    have := (nI_leI (a := 697) (b := 17 * c + k) (by omega) (by omega)).mp q
    omega), gd, if_pos (nin (by omega) (by omega)), nc (by omega), stK]
theorem c_row (h : T.1 51 0 = nI n) (hn : n ≤ 6032) (hi : i < n) (hd : 2 ≤ d) : PP nf d 54 T [nI i] [] = some (T.1 48 i, 0, T) ∧ PP nf d 55 T [nI i] [] = some (T.1 49 i, 0, T) ∧ PP nf d 56 T [nI i] [] = some (T.1 50 i, 0, T) := by
  obtain ⟨d, rfl⟩ : ∃ g, d = g + 2 := ⟨d - 2, by omega⟩
  have hh : PP nf (d + 1) 53 T [nI i] [] = some (1, 0, T) := by
    rw [e_Code_has]
    unfold rb_Code_has
    rw [if_neg (nI_ge0 (by omega)), h, if_neg (fun q => by
      have := (nI_leI (a := n) (b := i) (by omega) (by omega)).mp q
      omega)]
  refine ⟨?_, ?_, ?_⟩
  · rw [e_Code_opAt]
    unfold rb_Code_opAt
    rw [hh, bis, if_neg (by decide), gd, if_pos (nin (by omega) (by omega)), nc (by omega)]
  · rw [e_Code_firstAt]
    unfold rb_Code_firstAt
    rw [hh, bis, if_neg (by decide), gd, if_pos (nin (by omega) (by omega)), nc (by omega)]
  · rw [e_Code_secondAt]
    unfold rb_Code_secondAt
    rw [hh, bis, if_neg (by decide), gd, if_pos (nin (by omega) (by omega)), nc (by omega)]
theorem c_owned (hp : Pgs T P W) (ho : Own T P W a) (hd : 1 ≤ d) : PP nf d 235 T [nI a] [] = some (1, 0, T) := by
  obtain ⟨d, rfl⟩ : ∃ g, d = g + 1 := ⟨d - 1, by omega⟩
  obtain ⟨h1, h2, h3, h4, h5⟩ := hp
  have pw : P * W ≤ 64 * 64 := Nat.mul_le_mul h2 h5
  have al := ho.1
  have aw : a / W < P := (Nat.div_lt_iff_lt_mul (by omega)).mpr al
  rw [e_Memory_isOwned]
  unfold rb_Memory_isOwned
  rw [if_neg (nI_ge0 (by omega)), h3, if_neg (fun q => by
    have := (nI_leI (a := W) (b := 0) (by omega) (by omega)).mp q
    omega), h1, nI_mul, if_neg (fun q => by
    have := (nI_leI (a := P * W) (b := a) (by omega) (by omega)).mp q
    omega), gd, if_pos (fun q => by
    have := nI_inj (a := W) (b := 0) (by omega) (by omega) q
    omega), nI_div (by omega) (by omega), gd, if_pos (nin (by omega) (by omega)), nc (by omega), if_neg ho.2]
theorem c_get (hp : Pgs T P W) (ho : Own T P W a) (hg : ¬ T.1 115 a = 0) (hd : 2 ≤ d) : PP nf d 233 T [nI a] [] = some (T.1 114 a, 0, T) := by
  obtain ⟨d, rfl⟩ : ∃ g, d = g + 1 := ⟨d - 1, by omega⟩
  have pw : P * W ≤ 64 * 64 := Nat.mul_le_mul hp.2.1 hp.2.2.2.2
  have al := ho.1
  rw [e_Memory_get]
  unfold rb_Memory_get
  rw [c_owned hp ho (by omega), bis, if_neg (by decide), gd, if_pos (nin (by omega) (by omega)), nc (by omega), if_neg hg, gd, if_pos (nin (by omega) (by omega))]
theorem c_put (hp : Pgs T P W) (ho : Own T P W a) (hd : 2 ≤ d) : PP nf d 234 T [nI a, w] [] = some (0, 0, puT T a w) := by
  obtain ⟨d, rfl⟩ : ∃ g, d = g + 1 := ⟨d - 1, by omega⟩
  have pw : P * W ≤ 64 * 64 := Nat.mul_le_mul hp.2.1 hp.2.2.2.2
  have al := ho.1
  rw [e_Memory_put]
  unfold rb_Memory_put puT
  rw [c_owned hp ho (by omega), bis, if_neg (by decide), gd, if_pos (nin (by omega) (by omega)), nc (by omega), stK, gd, if_pos (nin (by omega) (by omega)), stK]
end CM0
