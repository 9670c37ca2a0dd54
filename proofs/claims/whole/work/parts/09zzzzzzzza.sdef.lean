/-! STEPS on both sides: what goes together at a place of a fun -/
/-- which REGION goes with which, at a place of a fun with e RS -/
def RgE (e : Nat) (S : gSt) : RgR := fun c m => (c = m ∧ c ≤ 3) ∨ ∃ j, e + j < rn S ∧ j < 8 ∧ S.1 73 (e + j) = nI c ∧ 4 ≤ c ∧ c < 12 ∧ m = 4 + j
/-- how many words the VARS ahead of the v-th have -/
def wS (S : gSt) (x : Int32) : Nat := if isRo S x = 0 then 1 else 3
def slW (S : gSt) : Nat → Nat
  | 0 => 0
  | v + 1 => slW S v + wS S (S.1 80 v)
def isSl (S : gSt) (s : Int32) (v : Nat) : Bool := decide (S.1 79 v = s)
/-- the class's slot of a VAR, by the reference's -/
def slF (S : gSt) (s : Int32) : Int32 := nI (slW S (ff (isSl S s) 0 (vn S)).toNatClampNeg)
/-- how many tries lie around, up to place q -/
def trc (S : gSt) : Nat → Nat
  | 0 => 0
  | q + 1 => trc S q + (if S.1 85 q = -1 then 1 else 0)
def rIn (e m a : Nat) : Prop := (1 ≤ a ∧ a ≤ e) ∨ (4 ≤ a ∧ a < 4 + m)
/-- the REGIONS in sight; cd: the codes of those of region STEPS, g: how many there were in the fun -/
def RwA (e m g : Nat) (cd : Nat → Nat) (S T : gSt) : Prop := e ≤ 3 ∧ m ≤ 8 ∧ rn S = e + m ∧ S.1 71 0 = nI (e + m) ∧ T.1 72 0 = nI (4 + m) ∧ (∀ k, k < e → S.2 72 k = T.2 73 (k + 1) ∧ S.1 73 k = nI (k + 1)) ∧ (∀ k, e ≤ k → k < 3 → T.2 73 (k + 1) = 0) ∧ (∀ j, j < m → S.2 72 (e + j) = T.2 73 (4 + j) ∧ S.1 73 (e + j) = nI (cd j) ∧ 4 ≤ cd j ∧ cd j < 4 + g ∧ S.1 74 (cd j) = (if j = 0 then 0 else nI (cd (j - 1)))) ∧ (∀ i j, i < j → j < m → cd i < cd j) ∧ (∀ a b, rIn e m a → rIn e m b → T.2 73 a = T.2 73 b → a = b) ∧ (∀ a, rIn e m a → ¬ T.2 73 a = 72 ∧ ¬ T.2 73 a = 0) ∧ S.1 86 0 = nI g ∧ g ≤ 8
/-- regions and tries around -/
def RwB (m n : Nat) (cd po : Nat → Nat) (S T : gSt) : Prop := S.1 84 0 = nI n ∧ n ≤ 40 ∧ (∀ j, j < m → po j < n ∧ S.1 85 (po j) = nI (cd j)) ∧ (∀ i j, i < j → j < m → po i < po j) ∧ (∀ q, q < n → S.1 85 q = -1 ∨ ∃ j, j < m ∧ q = po j) ∧ T.1 75 0 = nI (trc S n) ∧ ∀ j, j < m → T.1 74 (4 + j) = nI (trc S (po j))
def RwR (e : Nat) (S T : gSt) : Prop := ∃ m g n cd po, RwA e m g cd S T ∧ RwB m n cd po S T
/-- what outlives what, of the RS -/
def OsR (it : Nat) (S T : gSt) : Prop := ∀ r s, 1 ≤ r → r ≤ 3 → 1 ≤ s → s ≤ 3 → (fi (S.1 76 0) (4 * r + s) = fi (T.1 40 it) ((r - 1) * 3 + s - 1))
/-- the VARS in sight; v: how many the fun had so far -/
def VaS (e v : Nat) (S T : gSt) : Prop := ∃ n, S.1 77 0 = nI n ∧ T.1 68 0 = nI n ∧ n ≤ 20 ∧ (∀ u, u < n → S.2 78 u = T.2 69 u ∧ (∃ s, S.1 79 u = nI s ∧ s < v) ∧ (∃ y, T.1 70 u = nI y ∧ y < 16387 ∧ TyR (RgE e S) S T 5 (S.1 80 u) y)) ∧ (∀ a b, a < n → b < n → S.2 78 a = S.2 78 b → a = b) ∧ (∀ u, u ≤ n → T.1 71 u = nI (slW S u)) ∧ (∀ a b, a < n → b < n → S.1 79 a = S.1 79 b → a = b) ∧ v ≤ 20
/-- what is known there: LIVE, REACHED, SET, KNOWN -/
def FwR (e : Nat) (S T : gSt) (st kw lv rc : Int32) (w : Int64) : Prop := (∀ c, c < 32 → fi lv c = true → ∃ m, RgE e S c m) ∧ (∀ m, m < 12 → fb w (40 + m) = true → ∃ c, RgE e S c m) ∧ (∀ c m, RgE e S c m → fi lv c = fb w (40 + m)) ∧ ((rc = 0 ↔ fb w 52 = false) ∧ (rc = 0 → st = -1 ∧ kw = -1)) ∧ ∀ u s, u < vn S → S.1 79 u = nI s → s < 20 → (fi st s = false ↔ (fb w 52 = true ∧ fb w u = false)) ∧ ∀ y, T.1 70 u = nI y → y < 16387 → kdC T y = 4 → (fi kw s = true ↔ ¬ (fb w 52 = true ∧ fb w (20 + u) = false))
/-- what goes together at a place of fun it, with e RS, apart from what is known there -/
def SsR (X : Lx) (it e v g n : Nat) (S T : gSt) : Prop := TkC X T ∧ ItH S T ∧ SI S v g n ∧ S.1 7 0 = 0 ∧ T.1 53 0 = 0 ∧ WT T ∧ RwR e S T ∧ OsR it S T ∧ VaS e v S T ∧ AiR X S T ∧ S.1 87 0 = T.1 76 0 ∧ CtR S T ∧ T.1 67 0 = nI it ∧ it < 24 ∧ S.1 12 it = 2
def SrR (X : Lx) (it e v g n : Nat) (S T : gSt) : Prop := SsR X it e v g n S T ∧ FwR e S T (S.1 81 0) (S.1 82 0) (S.1 75 0) (S.1 83 0) (flw T)
section SDF
variable {S S' T T' : gSt} {X : Lx} {it e m g n c k v q a b i j : Nat} {cd po : Nat → Nat} {x s : Int32}
theorem and1 (z : Int32) : z &&& 1 = 0 ∨ z &&& 1 = 1 := by
  have e : (z &&& (1 : Int32)).toBitVec = z.toBitVec &&& 1#32 := rfl
  rw [BitVec.and_one_eq_setWidth_ofBool_getLsbD] at e
  cases hb : z.toBitVec.getLsbD 0 with
  | true =>
    right
    apply Int32.toBitVec_inj.mp
    rw [e, hb]
    rfl
  | false =>
    left
    apply Int32.toBitVec_inj.mp
    rw [e, hb]
    rfl
theorem RwA.rg (h : RwA e m g cd S T) : RgE e S c k ↔ (c = k ∧ c ≤ 3) ∨ ∃ j, j < m ∧ c = cd j ∧ k = 4 + j := by
  obtain ⟨h1, h2, h3, h4, h5, h6, h7, h8, h9, h10, h11, h12, h13⟩ := h
  constructor
  · rintro (w | ⟨j, w1, w2, w3, w4, w5, w6⟩)
    · exact Or.inl w
    · obtain ⟨a1, a2, a3, a4, a5⟩ := h8 j (by omega)
      exact Or.inr ⟨j, by omega, nI_inj (by omega) (by omega) (by rw [← w3, ← a2]), w6⟩
  · rintro (w | ⟨j, w1, w2, w3⟩)
    · exact Or.inl w
    · obtain ⟨a1, a2, a3, a4, a5⟩ := h8 j w1
      exact Or.inr ⟨j, by omega, by omega, by rw [w2]; exact a2, by omega, by omega, w3⟩
theorem RwA.b12 (h : RwA e m g cd S T) (hr : RgE e S c k) : c < 12 ∧ k < 12 := by
  have h' := h
  rcases h.rg.mp hr with w | ⟨j, w1, w2, w3⟩
  · omega
  · obtain ⟨h1, h2, h3, h4, h5, h6, h7, h8, h9, h10, h11, h12, h13⟩ := h'
    obtain ⟨a1, a2, a3, a4, a5⟩ := h8 j w1
    omega
theorem RwA.r11 (h : RwA e m g cd S T) : R11 (RgE e S) := by
  have h' := h
  obtain ⟨h1, h2, h3, h4, h5, h6, h7, h8, h9, h10, h11, h12, h13⟩ := h
  have inj : ∀ i j, i < m → j < m → cd i = cd j → i = j := fun i j hi hj w => by
    rcases Nat.lt_trichotomy i j with q | q | q
    · have := h9 i j q hj; omega
    · exact q
    · have := h9 j i q hi; omega
  constructor
  · intro c a b r1 r2
    rcases h'.rg.mp r1 with w | ⟨j, w1, w2, w3⟩ <;> rcases h'.rg.mp r2 with u | ⟨i, u1, u2, u3⟩
    · omega
    · have := (h8 i u1).2.2.1; omega
    · have := (h8 j w1).2.2.1; omega
    · have := inj i j u1 w1 (by omega); omega
  · intro c a b r1 r2
    rcases h'.rg.mp r1 with w | ⟨j, w1, w2, w3⟩ <;> rcases h'.rg.mp r2 with u | ⟨i, u1, u2, u3⟩
    · omega
    · omega
    · omega
    · have : i = j := by omega
      subst this
      omega
/-- the name of a row of REGIONS: both sides find the same -/
theorem rgV_hit {nm : Int64} (hq : q < n) (hN : S.2 72 q = nm) (hu : ∀ a, a < n → S.2 72 a = nm → a = q) : ∀ m, q < m → m ≤ n → rgV S nm m = S.1 73 q := by
  intro m
  induction m with
  | zero => intro h; omega
  | succ m ih =>
    intro h1 h2
    rw [rgV]
    by_cases c : m = q
    · subst c
      rw [if_pos (show isRg S nm m = true from decide_eq_true hN)]
    · rw [if_neg (show ¬ isRg S nm m = true from fun w => c (hu m (by omega) (of_decide_eq_true w)))]
      exact ih (by omega) (by omega)
theorem rgV_mis {nm : Int64} (hn : ∀ a, a < n → ¬ S.2 72 a = nm) : ∀ m, m ≤ n → rgV S nm m = -1 := by
  intro m
  induction m with
  | zero => intro _; rfl
  | succ m ih =>
    intro h
    rw [rgV, if_neg (show ¬ isRg S nm m = true from fun w => hn m (by omega) (of_decide_eq_true w))]
    exact ih (by omega)
theorem RwA.nm (h : RwA e m g cd S T) : NmR (RgE e S) S T := by
  have h' := h
  obtain ⟨h1, h2, h3, h4, h5, h6, h7, h8, h9, h10, h11, h12, h13⟩ := h
  refine ⟨4 + m, h5, by omega, by omega, fun nm n0 n72 => ?_⟩
  rw [h3, show 4 + m - 1 = 3 + m by omega]
  -- row k of the one is number f k of the other
  have cls : ∀ a, 1 ≤ a → a < 4 + m → T.2 73 a = nm → rIn e m a := fun a a1 a2 w => by
    by_cases c : a ≤ 3
    · by_cases c2 : a ≤ e
      · exact Or.inl ⟨a1, c2⟩
      · have := h7 (a - 1) (by omega) (by omega)
        rw [show a - 1 + 1 = a by omega, w] at this
        exact absurd this n0
    · exact Or.inr ⟨by omega, a2⟩
  have fnd : ∀ a, rIn e m a → T.2 73 a = nm → ff (isRk T nm) 1 (3 + m) = nI a := fun a ha w => by
    have l : 1 ≤ a ∧ a < 4 + m := by rcases ha with u | u <;> omega
    have := ff_fst (p := isRk T nm) (a - 1) 1 (3 + m) (fun q q1 q2 w2 => by
      have w3 : T.2 73 q = nm := of_decide_eq_true w2
      have := h10 q a (cls q q1 (by omega) w3) ha (by rw [w3, w])
      omega) (show isRk T nm (1 + (a - 1)) = true from decide_eq_true (by rw [show 1 + (a - 1) = a by omega]; exact w)) (by omega)
    rw [show 1 + (a - 1) = a by omega] at this
    exact this
  by_cases c : ∃ a, rIn e m a ∧ T.2 73 a = nm
  · right
    obtain ⟨a, a1, a2⟩ := c
    have sp : ∀ q, q < e + m → S.2 72 q = nm → (q < e ∧ a = q + 1) ∨ (e ≤ q ∧ a = 4 + (q - e)) := fun q hq w => by
      by_cases c : q < e
      · left
        exact ⟨c, h10 a (q + 1) a1 (Or.inl ⟨by omega, by omega⟩) (by rw [a2, ← (h6 q c).1, w])⟩
      · right
        obtain ⟨j, rfl⟩ : ∃ j, q = e + j := ⟨q - e, by omega⟩
        rw [show e + j - e = j by omega]
        exact ⟨by omega, h10 a (4 + j) a1 (Or.inr ⟨by omega, by omega⟩) (by rw [a2, ← (h8 j (by omega)).1, w])⟩
    rcases a1 with w | w
    · have hS : S.2 72 (a - 1) = nm := by rw [(h6 (a - 1) (by omega)).1, show a - 1 + 1 = a by omega]; exact a2
      refine ⟨a, a, ?_, fnd a (Or.inl w) a2, Or.inl ⟨rfl, by omega⟩, by omega, by omega⟩
      rw [rgV_hit (n := e + m) (q := a - 1) (by omega) hS (fun q hq w2 => by have := sp q hq w2; omega) (e + m) (by omega) (Nat.le_refl _), (h6 (a - 1) (by omega)).2, show a - 1 + 1 = a by omega]
    · obtain ⟨j, rfl⟩ : ∃ j, a = 4 + j := ⟨a - 4, by omega⟩
      obtain ⟨b1, b2, b3, b4, b5⟩ := h8 j (by omega)
      have hS : S.2 72 (e + j) = nm := by rw [b1]; exact a2
      refine ⟨cd j, 4 + j, ?_, fnd (4 + j) (Or.inr w) a2, h'.rg.mpr (Or.inr ⟨j, by omega, rfl, rfl⟩), by omega, by omega⟩
      rw [rgV_hit (n := e + m) (q := e + j) (by omega) hS (fun q hq w2 => by have := sp q hq w2; omega) (e + m) (by omega) (Nat.le_refl _)]
      exact b2
  · left
    constructor
    · refine rgV_mis (n := e + m) (fun q hq w => c ?_) (e + m) (Nat.le_refl _)
      by_cases ce : q < e
      · exact ⟨q + 1, Or.inl ⟨by omega, by omega⟩, by rw [← (h6 q ce).1]; exact w⟩
      · obtain ⟨j, rfl⟩ : ∃ j, q = e + j := ⟨q - e, by omega⟩
        exact ⟨4 + j, Or.inr ⟨by omega, by omega⟩, by rw [← (h8 j (by omega)).1]; exact w⟩
    · refine (ff_all (by omega)).mpr (fun a a1 a2 w => c ⟨a, cls a a1 (by omega) (of_decide_eq_true w), of_decide_eq_true w⟩)
theorem isLv_fi (hc : c < 32) : isLv S (nI c) = 0 ↔ fi (S.1 75 0) c = false := by
  unfold isLv
  simp only [fi_sr hc]
  cases fi (S.1 75 0) c with
  | true => rw [if_pos rfl]; exact ⟨fun w => absurd w (by decide), fun w => by cases w⟩
  | false => rw [if_neg (by decide)]; exact ⟨fun _ => rfl, fun _ => rfl⟩
theorem FwR.lv {st kw rc : Int32} (h : FwR e S T st kw (S.1 75 0) rc (flw T)) (hA : RwA e m g cd S T) : LvR (RgE e S) S T := fun c k hr => by
  rw [isLv_fi (by have := hA.b12 hr; omega), h.2.2.1 c k hr]
/-- regions around lie one in another as they are in sight -/
theorem RwA.ich (h : RwA e m g cd S T) (hi : i < m) : ∀ (f j : Nat), j < m → j < f → (inC S (nI (cd i)) f (nI (cd j)) = 0 ↔ ¬ i ≤ j) := by
  have h' := h
  obtain ⟨h1, h2, h3, h4, h5, h6, h7, h8, h9, h10, h11, h12, h13⟩ := h
  intro f
  induction f with
  | zero => intro j _ w; omega
  | succ f ih =>
    intro j hj hf
    obtain ⟨a1, a2, a3, a4, a5⟩ := h8 i hi
    obtain ⟨b1, b2, b3, b4, b5⟩ := h8 j hj
    rw [inC, if_neg (nIle0 (by omega) (by omega)), nc (by omega)]
    by_cases c : i = j
    · subst c
      rw [if_pos rfl]
      exact ⟨fun w => absurd w (by decide), fun w => absurd (Nat.le_refl _) w⟩
    · have ne : ¬ nI (cd j) = nI (cd i) := fun w => by
        have := nI_inj (a := cd j) (b := cd i) (by omega) (by omega) w
        rcases Nat.lt_trichotomy i j with q | q | q
        · have := h9 i j q hj; omega
        · exact c q
        · have := h9 j i q hi; omega
      rw [if_neg ne, b5]
      by_cases c0 : j = 0
      · rw [if_pos c0]
        have : inC S (nI (cd i)) f 0 = 0 := by
          cases f with
          | zero => rfl
          | succ f =>
            rw [inC, if_pos (by decide), if_neg (fun w => by
              have := nI_inj (a := cd i) (b := 0) (by omega) (by omega) w.symm
              omega)]
        rw [this]
        exact ⟨fun _ => by omega, fun _ => rfl⟩
      · rw [if_neg c0, ih (j - 1) (by omega) (by omega)]
        omega
theorem ov_ok {st kw rc : Int32} (hA : RwA e m g cd S T) (hL : FwR e S T st kw (S.1 75 0) rc (flw T)) (hO : OsR it S T) (h67 : T.1 67 0 = nI it) (hit : it < 24) : OvR (RgE e S) S T := by
  intro c k c' k' r1 r2
  have b1 := hA.b12 r1
  have b2 := hA.b12 r2
  have r11 := hA.r11
  have h' := hA
  obtain ⟨h1, h2, h3, h4, h5, h6, h7, h8, h9, h10, h11, h12, h13⟩ := hA
  have lt : ∀ a b : Nat, a < 100 → b < 100 → ((nI a < nI b) ↔ a < b) := fun a b x y => nI_ltI (by omega) (by omega)
  have le : ∀ a b : Nat, a < 100 → b < 100 → ((nI a ≤ nI b) ↔ a ≤ b) := fun a b x y => nI_leI (by omega) (by omega)
  have eq : (nI c = nI c') ↔ k = k' := ⟨fun w => by
    have := nI_inj (by omega) (by omega) w
    subst this
    exact r11.1 _ _ _ r1 r2, fun w => by
    subst w
    rw [r11.2 _ _ _ r1 r2]⟩
  have e0 : (nI c = 0) ↔ k = 0 := ⟨fun w => by
    have := nI_inj (b := 0) (by omega) (by omega) w
    rcases h'.rg.mp r1 with w | ⟨j, w1, w2, w3⟩
    · omega
    · have := (h8 j w1).2.2.1; omega, fun w => by
    rcases h'.rg.mp r1 with u | ⟨j, w1, w2, w3⟩
    · rw [show c = 0 by omega]; rfl
    · omega⟩
  have f4 : ∀ c k, RgE e S c k → ((c < 4 ↔ k < 4) ∧ (c < 4 → c = k)) := fun c k r => by
    rcases h'.rg.mp r with u | ⟨j, w1, w2, w3⟩
    · omega
    · have := (h8 j w1).2.2.1; omega
  have f1 := f4 c k r1
  have f2 := f4 c' k' r2
  unfold dOv ouC
  rw [show (4 : Int32) = nI 4 from rfl]
  simp only [show (0 : Int32) < nI c' ↔ 0 < c' from lt 0 c' (by omega) (by omega), lt c 4 (by omega) (by omega), lt c' 4 (by omega) (by omega), le 4 c (by omega) (by omega)]
  by_cases q1 : nI c = nI c'
  · rw [if_pos q1]
    exact ⟨fun w => absurd w (by decide), fun w => absurd (Or.inl (eq.mp q1)) w⟩
  rw [if_neg q1]
  have nk : ¬ k = k' := fun w => q1 (eq.mpr w)
  by_cases q2 : nI c = 0
  · rw [if_pos q2]
    exact ⟨fun w => absurd w (by decide), fun w => absurd (Or.inr (Or.inl (e0.mp q2))) w⟩
  rw [if_neg q2]
  have nk0 : ¬ k = 0 := fun w => q2 (e0.mpr w)
  have c0 : ¬ c = 0 := fun w => q2 (by rw [w]; rfl)
  by_cases q3 : c < 4 ∧ 0 < c' ∧ c' < 4
  · rw [if_pos q3]
    obtain ⟨u1, u2⟩ := f1
    obtain ⟨u3, u4⟩ := f2
    have ek := u2 q3.1
    have ek' := u4 q3.2.2
    subst ek ek'
    have os := hO c c' (by omega) (by omega) (by omega) (by omega)
    have e1 : nI 4 * nI c + nI c' = nI (4 * c + c') := by rw [nI_mul]; exact (Int32.ofNat_add _ _).symm
    simp only [e1, fi_sr (show 4 * c + c' < 32 by omega), os, if_neg (show ¬ 4 ≤ c' by omega), h67, nc (show it < 100000 by omega)]
    have b : (((T.1 40 it >>> (nI ((c - 1) * 3 + c' - 1) &&& 31)) &&& 1) ≠ 0) ↔ fi (T.1 40 it) ((c - 1) * 3 + c' - 1) = true := by
      have := fi_sr (x := T.1 40 it) (n := (c - 1) * 3 + c' - 1) (by omega)
      rw [← this]
      rcases and1 (T.1 40 it >>> (nI ((c - 1) * 3 + c' - 1) &&& 31)) with w | w
      · rw [w]; exact ⟨fun w => absurd rfl w, fun w => absurd w (by decide)⟩
      · rw [w]; exact ⟨fun _ => rfl, fun _ => by decide⟩
    cases hf : fi (T.1 40 it) ((c - 1) * 3 + c' - 1) with
    | true =>
      rw [if_pos rfl]
      exact ⟨fun w => absurd w (by decide), fun w => absurd (Or.inr (Or.inr ⟨q3.1, by omega, b.mpr hf⟩)) w⟩
    | false =>
      rw [if_neg (by decide)]
      refine ⟨fun _ w => ?_, fun _ => rfl⟩
      rcases w with w | w | w
      · exact nk w
      · exact nk0 w
      · have := b.mp w.2.2
        rw [hf] at this
        cases this
  rw [if_neg q3]
  by_cases q4 : c' < 4
  · rw [if_pos q4]
    refine ⟨fun _ w => ?_, fun _ => rfl⟩
    rcases w with w | w | w
    · exact nk w
    · exact nk0 w
    · rw [if_neg (by omega)] at w
      have := w.2.1
      omega
  rw [if_neg q4, if_pos (show 4 ≤ k' by omega)]
  simp only [isLv_fi (S := S) (c := c) (by omega), hL.2.2.1 c k r1]
  by_cases q5 : fb (flw T) (40 + k) = false
  · rw [if_pos q5]
    refine ⟨fun _ w => ?_, fun _ => rfl⟩
    rcases w with w | w | w
    · exact nk w
    · exact nk0 w
    · rw [q5] at w
      exact absurd w.1 (by decide)
  rw [if_neg q5]
  have q5' : fb (flw T) (40 + k) = true := by simpa using q5
  by_cases q6 : 4 ≤ c
  · rw [if_pos q6]
    rcases h'.rg.mp r1 with w | ⟨i, i1, i2, i3⟩
    · omega
    rcases h'.rg.mp r2 with w | ⟨j, j1, j2, j3⟩
    · omega
    obtain ⟨b1, b2, b3, b4, b5⟩ := h8 j j1
    rw [nc (by omega), i2, j2, b5]
    by_cases cj : j = 0
    · rw [if_pos cj]
      have : inC S (nI (cd i)) 13 0 = 0 := by
        have := (h8 i i1).2.2.1
        rw [inC, if_pos (by decide), if_neg (fun w => by
          have := nI_inj (a := cd i) (b := 0) (by omega) (by omega) w.symm
          omega)]
      rw [this]
      refine ⟨fun _ w => ?_, fun _ => rfl⟩
      rcases w with w | w | w <;> omega
    · rw [if_neg cj, h'.ich i1 13 (j - 1) (by omega) (by omega)]
      constructor
      · intro w u
        rcases u with u | u | u <;> omega
      · intro w u
        exact w (Or.inr (Or.inr ⟨q5', Or.inr (by omega)⟩))
  · rw [if_neg q6]
    exact ⟨fun w => absurd w (by decide), fun w => absurd (Or.inr (Or.inr ⟨q5', Or.inl (by omega)⟩)) w⟩
theorem VaS.va (h : VaS e v S T) (hf : FwR e S T (S.1 81 0) (S.1 82 0) (S.1 75 0) (S.1 83 0) (flw T)) (hs : ∀ u, u < vn S → slF S (S.1 79 u) = nI (slW S u)) : VaR (RgE e S) (slF S) S T := by
  obtain ⟨n, h1, h2, h3, h4, h5, h6, h7, h8⟩ := h
  have ev : vn S = n := by unfold vn; rw [h1, nc (by omega)]
  refine ⟨n, h1, h2, h3, fun u hu => ?_, h5⟩
  obtain ⟨a1, ⟨s, a2, a3⟩, y, a4, a5, a6⟩ := h4 u hu
  obtain ⟨b1, b2⟩ := hf.2.2.2.2 u s (by omega) a2 (by omega)
  refine ⟨a1, ⟨s, a2, by omega⟩, by rw [h6 u (by omega), hs u (by omega)], ⟨y, a4, a5, a6, fun k4 => ?_⟩, ?_⟩
  · have := b2 y a4 a5 k4
    rw [a2]
    simp only [fi_sr (x := S.1 82 0) (n := s) (by omega)]
    exact this
  · rw [a2]
    have e0 : (((S.1 81 0 >>> (nI s &&& 31)) &&& 1) = 0) ↔ fi (S.1 81 0) s = false := by
      have := fi_sr (x := S.1 81 0) (n := s) (by omega)
      rcases and1 (S.1 81 0 >>> (nI s &&& 31)) with w | w
      · have nf : ¬ fi (S.1 81 0) s = true := fun q => by rw [← this, w] at q; exact absurd q (by decide)
        exact ⟨fun _ => by simpa using nf, fun _ => w⟩
      · have nf : fi (S.1 81 0) s = true := by rw [← this]; exact w
        rw [w, nf]
        exact ⟨fun q => absurd q (by decide), fun q => by cases q⟩
    rw [e0]
    exact b1
end SDF
