/-! the class's TYPES: each lies once -/
def hK (k : Nat) : Nat := hsN (Int64.ofNat k)
/-- a slot of this era -/
abbrev lvK (T : gSt) (s : Nat) : Prop := SW T s / KM = EW T
abbrev kyN (T : gSt) (k : Nat) : Nat := k + KM * EW T
/-- how many slots are taken -/
def lvC (T : gSt) : Nat → Nat
  | 0 => 0
  | n + 1 => lvC T n + (if SW T n / KM = EW T then 1 else 0)
/-- what holds of the slots: a key lies where the search from its own place comes to it -/
def TyI (T : gSt) : Prop := EW T < 2 ^ 40 ∧ (∀ s, s < 16384 → lvK T s → ∃ i, i < 16384 ∧ (hK (SW T s % KM) + i) % 16384 = s ∧ ∀ j, j < i → lvK T ((hK (SW T s % KM) + j) % 16384) ∧ SW T ((hK (SW T s % KM) + j) % 16384) ≠ SW T s) ∧ ∀ s, s < 16384 → SW T s / KM ≤ EW T
section CTU
variable {T T' : gSt} {x y e : Int64} {s h i m n nf d k q : Nat}
theorem hK_lt : hK k < 16384 := hs_lt
theorem kyN_lv (hk : k < KM) : kyN T k / KM = EW T ∧ kyN T k % KM = k := by
  unfold kyN
  have : KM = 16777216 := rfl
  constructor
  · rw [Nat.add_mul_div_left _ _ (by omega), Nat.div_eq_of_lt hk, Nat.zero_add]
  · rw [Nat.add_mul_mod_self_left, Nat.mod_eq_of_lt hk]
theorem wN_of (hx : wN x = k) : x = Int64.ofNat k := by
  rw [← wN_inj, hx]
  unfold wN
  show k = (BitVec.ofNat 64 k).toNat
  rw [BitVec.toNat_ofNat, Nat.mod_eq_of_lt]
  rw [← hx]
  exact wN_lt
theorem lvC_le : ∀ n, lvC T n ≤ n := by
  intro n
  induction n with
  | zero => exact Nat.le_refl _
  | succ n ih => rw [lvC]; split <;> omega
theorem lvC_all : ∀ n, (∀ s, s < n → lvK T s) → lvC T n = n := by
  intro n
  induction n with
  | zero => intro _; rfl
  | succ n ih =>
    intro h
    rw [lvC, ih (fun s hs => h s (by omega)), if_pos (h n (by omega))]
/-- the first place from its own on that a key may take -/
theorem kpF_v : kpF T k h = -1 ∨ ∃ i, i < 16384 ∧ kpB T k h i = true ∧ kpF T k h = nI i ∧ ∀ j, j < i → ¬ kpB T k h j = true := by
  unfold kpF
  rcases ff_val (p := kpB T k h) (k := 16384) (i := 0) with e | ⟨i, _, h2, h3, e⟩
  · exact Or.inl e
  · exact Or.inr ⟨i, by omega, h3, e, fun j hj => ff_min 16384 0 (by omega) e (by omega) j (by omega) hj⟩
theorem kpB_no (h1 : ¬ kpB T k h i = true) : lvK T ((h + i) % 16384) ∧ SW T ((h + i) % 16384) ≠ kyN T k := by
  have : ¬ (¬ SW T ((h + i) % 16384) / KM = EW T ∨ SW T ((h + i) % 16384) = k + KM * EW T) := fun w => h1 (decide_eq_true w)
  exact ⟨Decidable.byContradiction fun w => this (Or.inl w), fun w => this (Or.inr w)⟩
theorem kpB_ys (h1 : kpB T k h i = true) : ¬ lvK T ((h + i) % 16384) ∨ SW T ((h + i) % 16384) = kyN T k := of_decide_eq_true h1
/-- with a free slot the search ends well -/
theorem kpF_fr (hf : ∃ s, s < 16384 ∧ ¬ lvK T s) (hh : h < 16384) : ¬ kpF T k h = -1 := by
  obtain ⟨s, hs, hn⟩ := hf
  intro e
  unfold kpF at e
  have := (ff_all (p := kpB T k h) (k := 16384) (i := 0) (by omega)).mp e ((s + 16384 - h) % 16384) (by omega) (by omega)
  refine this (decide_eq_true (Or.inl ?_))
  rw [show (h + (s + 16384 - h) % 16384) % 16384 = s by omega]
  exact hn
theorem lvC_fr (h : lvC T 16384 < 16384) : ∃ s, s < 16384 ∧ ¬ lvK T s := Classical.byContradiction fun w => by
  have := lvC_all (T := T) 16384 (fun s hs => Classical.byContradiction fun c => w ⟨s, hs, c⟩)
  omega
/-- a key that lies somewhere is found there -/
theorem kp_old (hI : TyI T) (hk : k < KM) (hs : s < 16384) (he : SW T s = kyN T k) : ∃ i, kpF T k (hK k) = nI i ∧ i < 16384 ∧ (hK k + i) % 16384 = s := by
  have hl : lvK T s := by unfold lvK; rw [he]; exact (kyN_lv hk).1
  obtain ⟨i, hi, h1, h2⟩ := hI.2.1 s hs hl
  rw [he, (kyN_lv hk).2] at h1 h2
  have pi : kpB T k (hK k) i = true := decide_eq_true (Or.inr (by rw [h1]; exact he))
  have nj : ∀ j, j < i → ¬ kpB T k (hK k) j = true := fun j hj w => by
    rcases kpB_ys w with c | c
    · exact c (h2 j hj).1
    · exact (h2 j hj).2 c
  refine ⟨i, ?_, hi, h1⟩
  unfold kpF
  have := ff_fst (p := kpB T k (hK k)) i 0 16384 (fun q _ hq => nj q (by omega)) (by rw [Nat.zero_add]; exact pi) (by omega)
  rw [Nat.zero_add] at this
  exact this
/-- two slots hold two keys -/
theorem ky_one (hI : TyI T) (hs : s < 16384) (hq : q < 16384) (hl : lvK T s) (he : SW T s = SW T q) : s = q := by
  have hk : SW T s % KM < KM := Nat.mod_lt _ (by decide)
  have e1 : SW T s = kyN T (SW T s % KM) := by
    unfold kyN
    have := Nat.mod_add_div (SW T s) KM
    unfold lvK at hl
    rw [hl] at this
    exact this.symm
  obtain ⟨i, a1, a2, a3⟩ := kp_old hI hk hs e1
  obtain ⟨i', b1, b2, b3⟩ := kp_old hI hk hq (by rw [← he]; exact e1)
  rw [a1] at b1
  have := nI_inj (by omega) (by omega) b1
  rw [← a3, ← b3, this]
/-- what keep leaves as it was: all but one free slot -/
theorem c_kp (hnf : 16385 ≤ nf) (hI : TyI T) (hx : wN x = k) (hk : k < KM) (hf : lvC T 16384 < 16384) (hd : 1 ≤ d) : ∃ s T', PP nf d 87 T [] [x] = some (nI (s + 3), 0, T') ∧ s < 16384 ∧ SW T' s = kyN T' k ∧ EW T' = EW T ∧ TyI T' ∧ T'.1 = T.1 ∧ (∀ g j, ¬ (g = 62 ∧ j = s) → T'.2 g j = T.2 g j) ∧ (∀ q, q < 16384 → lvK T q → T'.2 62 q = T.2 62 q) ∧ lvC T' 16384 ≤ lvC T 16384 + 1 ∧ ((∃ q, q < 16384 ∧ SW T q = kyN T k) → T' = T) := by
  obtain ⟨d, rfl⟩ : ∃ g, d = g + 1 := ⟨d - 1, by omega⟩
  have exk := wN_of hx
  have he := hI.1
  have hh : hsN x = hK k := by unfold hK; rw [exk]
  have key := c_keep (d := d) (T := T) (k := x) hnf (by rw [hx]; exact hk) he
  rw [hx, hh] at key
  have nm := kpF_fr (T := T) (k := k) (lvC_fr hf) (hK_lt (k := k))
  rw [if_neg nm] at key
  rcases kpF_v (T := T) (k := k) (h := hK k) with e | ⟨i, hi, pi, ei, nj⟩
  · exact absurd e nm
  rw [ei, nc (by omega)] at key
  have hs : (hK k + i) % 16384 < 16384 := Nat.mod_lt _ (by omega)
  have hyw : wN (kyW (T.2 63 0) x) = kyN T k := by
    rw [wN_ky (by rw [hx]; exact hk) he, hx]
    rfl
  generalize hsd : (hK k + i) % 16384 = s at *
  by_cases c : lvK T s
  · -- the key lies there already
    have eq : kpT T s (kyW (T.2 63 0) x) = T := by unfold kpT; rw [if_pos c]
    rw [eq] at key
    refine ⟨s, T, key, hs, ?_, rfl, hI, rfl, fun _ _ _ => rfl, fun _ _ _ => rfl, by omega, fun _ => rfl⟩
    rcases kpB_ys pi with w | w
    · rw [hsd] at w; exact absurd c w
    · rw [hsd] at w; exact w
  · have eq : kpT T s (kyW (T.2 63 0) x) = sJ T 62 s (kyW (T.2 63 0) x) := by unfold kpT; rw [if_neg c]
    rw [eq] at key
    have r : ∀ g j, (sJ T 62 s (kyW (T.2 63 0) x)).2 g j = if g = 62 ∧ j = s then kyW (T.2 63 0) x else T.2 g j := fun g j => rdJ
    have r1 : (sJ T 62 s (kyW (T.2 63 0) x)).1 = T.1 := rfl
    generalize sJ T 62 s (kyW (T.2 63 0) x) = T' at *
    have eE : EW T' = EW T := by unfold EW; rw [r 63 0, if_neg (by omega)]
    have eS : SW T' s = kyN T k := by unfold SW; rw [r 62 s, if_pos ⟨rfl, rfl⟩]; exact hyw
    have eO : ∀ q, q ≠ s → SW T' q = SW T q := fun q hq => by unfold SW; rw [r 62 q, if_neg (fun w => hq w.2)]
    have eK : kyN T' k = kyN T k := by unfold kyN; rw [eE]
    have ls : lvK T' s := by unfold lvK; rw [eS, eE]; exact (kyN_lv hk).1
    have lo : ∀ q, q ≠ s → (lvK T' q ↔ lvK T q) := fun q hq => by unfold lvK; rw [eO q hq, eE]
    have none : ∀ q, q < 16384 → ¬ SW T q = kyN T k := fun q hq w => by
      obtain ⟨i', a1, a2, a3⟩ := kp_old hI hk hq w
      rw [ei] at a1
      have := nI_inj (by omega) (by omega) a1
      rw [← this, hsd] at a3
      refine c ?_
      unfold lvK
      rw [a3, w]
      exact (kyN_lv hk).1
    refine ⟨s, T', key, hs, by rw [eK]; exact eS, eE, ⟨by rw [eE]; exact he, fun q hq lq => ?_, fun q hq => by
      by_cases cq : q = s
      · rw [cq, eS, eE, (kyN_lv hk).1]; exact Nat.le_refl _
      · rw [eO q cq, eE]; exact hI.2.2 q hq⟩, r1, fun g j w => by rw [r g j, if_neg w], fun q hq lq => ?_, ?_, fun ⟨q, hq, w⟩ => absurd w (none q hq)⟩
    · by_cases cq : q = s
      · rw [cq, eS, (kyN_lv hk).2]
        refine ⟨i, hi, hsd, fun j hj => ?_⟩
        have b := kpB_no (nj j hj)
        have ne : (hK k + j) % 16384 ≠ s := fun w => by
          rw [w] at b
          exact c b.1
        rw [lo _ ne, eO _ ne]
        exact b
      · obtain ⟨i', a1, a2, a3⟩ := hI.2.1 q hq ((lo q cq).mp lq)
        rw [eO q cq]
        refine ⟨i', a1, a2, fun j hj => ?_⟩
        have b := a3 j hj
        have ne : (hK (SW T q % KM) + j) % 16384 ≠ s := fun w => by
          rw [w] at b
          exact c b.1
        rw [lo _ ne, eO _ ne]
        exact b
    · rw [r 62 q, if_neg (fun w => by rw [w.2] at lq; exact c lq)]
    · have cnt : ∀ n, lvC T' n ≤ lvC T n + (if s < n then 1 else 0) := by
        intro n
        induction n with
        | zero => simp [lvC]
        | succ n ih =>
          rw [lvC, lvC]
          by_cases cn : n = s
          · rw [cn] at ih ⊢
            rw [if_neg (by omega)] at ih
            rw [if_pos (show s < s + 1 by omega)]
            have : (if SW T' s / KM = EW T' then 1 else 0) ≤ 1 := by split <;> omega
            omega
          · rw [eO n cn, eE]
            by_cases c3 : s < n
            · rw [if_pos c3] at ih
              rw [if_pos (show s < n + 1 by omega)]
              omega
            · rw [if_neg c3] at ih
              rw [if_neg (show ¬ s < n + 1 by omega)]
              omega
      have := cnt 16384
      rw [if_pos hs] at this
      exact this
end CTU
