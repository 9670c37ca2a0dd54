/-! EXPRS on both sides: what stays, what goes together -/
/-- the class's code row -/
def cw3 (T : gSt) (n : Nat) : Int32 × Int32 × Int32 := (T.1 48 n, T.1 49 n, T.1 50 n)
/-- what EXPRS leave as it was, whatever there is -/
def FX (T T' : gSt) : Prop := (∀ k, ¬ (48 ≤ k ∧ k ≤ 54) → T'.1 k = T.1 k) ∧ (∀ q j, q ≠ 62 → T'.2 q j = T.2 q j) ∧ WT T' ∧ (∀ y, tyY T y → tyY T' y) ∧ (¬ T.1 53 0 = 0 → T'.1 53 0 = T.1 53 0 ∧ T'.1 54 0 = T.1 54 0) ∧ (∀ c, T.1 51 0 = nI c → c ≤ 6032 → ∃ c', T'.1 51 0 = nI c' ∧ c ≤ c' ∧ c' ≤ 6032 ∧ ∀ g j, 48 ≤ g → g ≤ 50 → j < c → T'.1 g j = T.1 g j) ∧ ∀ v, v < 2 → T'.1 52 v = T.1 52 v
/-- an item as the class holds it, whatever there is -/
def WJ (X : Lx) (T : gSt) (t : Nat) : Prop := ∃ n, WP X T t n ∧ (∀ q, q < n → ∃ y, T.1 44 (8 * t + q) = nI y ∧ tyY T y) ∧ (∃ y, T.1 38 t = nI y ∧ tyY T y) ∧ (∃ r, T.1 31 t = nI r ∧ r ≤ 3) ∧ ∃ w, T.1 46 t = nI w ∧ w ≤ 3 ∧ ∀ q, q < w → ∃ r s, 1 ≤ r ∧ r ≤ 3 ∧ 1 ≤ s ∧ s ≤ 3 ∧ T.1 47 (3 * t + q) = ((nI r <<< ((2 : Int32) &&& 31)) ||| nI s)
/-- the VARS in sight -/
def WV (T : gSt) : Prop := ∃ v, T.1 68 0 = nI v ∧ v ≤ 20 ∧ ∀ j, j < v → ∃ y, T.1 70 j = nI y ∧ tyY T y
def WX (X : Lx) (T : gSt) : Prop := TkC X T ∧ WT T ∧ WI T ∧ WR T ∧ WV T ∧ (∃ c, T.1 51 0 = nI c ∧ c ≤ 6032) ∧ (∃ t, T.1 67 0 = nI t ∧ t < 24 ∧ T.1 11 0 = 0 ∧ T.1 12 0 = 0 ∧ T.1 13 0 = 0) ∧ (∃ c, T.1 76 0 = nI c ∧ c ≤ 20) ∧ ∀ t, t < itN T → WJ X T t
/-- how many words a type has, as its instruction tells -/
def wdR (R : RgR) (S T : gSt) (x c : Int32) : Prop := ∃ f y, TyR R S T f x y ∧ c = nI (wdC T y)
/-- a pointer to item t -/
def itR (R : RgR) (S T : gSt) (x : Int32) (t : Nat) : Prop := ∃ f y, TyR R S T f x y ∧ 0 < x ∧ S.1 69 x.toNatClampNeg = nI t ∧ t < 24
def rmR (R : RgR) (x b : Int32) : Prop := ∃ r m, x = nI r ∧ b = nI m ∧ R r m
def opK (sg : Int32) : Int32 := if sg = 60 then 16 else if sg = 43 then 10 else if sg = 45 then 11 else if sg = 42 then 12 else if sg = 47 then 13 else if sg = 37 then 14 else 15
/-- the class's row tells instruction j -/
def KrO (R : RgR) (sl : Int32 → Int32) (S T : gSt) (j : T5) (n : Nat) : Prop :=
  if j.1 = 1 then cw3 T n = (2, j.2.1, 0)
  else if j.1 = 2 then cw3 T n = (2, 0, 0)
  else if j.1 = 3 then cw3 T n = (6, 0, 0)
  else if j.1 = 4 then cw3 T n = (3, 60 + j.2.1 - 1, 1)
  else if j.1 = 5 then ∃ c, wdR R S T j.2.2.1 c ∧ cw3 T n = (3, sl j.2.1, c)
  else if j.1 = 6 then ∃ t c, itR R S T j.2.2.1 t ∧ wdR R S T j.2.2.2.1 c ∧ cw3 T n = (if S.1 12 t = 1 then (21, j.2.1 + 1, c) else (20, T.1 45 (8 * t + j.2.1.toNatClampNeg), c))
  else if j.1 = 7 then ∃ t c, itR R S T j.2.2.1 t ∧ wdR R S T j.2.2.2.1 c ∧ cw3 T n = (24, T.1 45 (8 * t + j.2.1.toNatClampNeg), c)
  else if j.1 = 8 then ∃ c, wdR R S T j.2.2.1 c ∧ cw3 T n = (30, 0, c)
  else if j.1 = 9 then ∃ c, wdR R S T j.2.2.2.1 c ∧ cw3 T n = (31, 0, c)
  else if j.1 = 10 then ∃ c, wdR R S T j.2.2.2.1 c ∧ cw3 T n = (20, 0, c)
  else if j.1 = 11 then cw3 T n = (22, j.2.1 + 1, 0)
  else if j.1 = 12 then cw3 T n = (23, 0, 0)
  else if j.1 = 13 then cw3 T n = (8, 0, 0)
  else if j.1 = 14 ∨ j.1 = 15 then ∃ b c, rmR R j.2.1 b ∧ wdR R S T j.2.2.1 c ∧ cw3 T n = ((if j.1 = 14 then 40 else 42), b, c)
  else if j.1 = 16 then ∃ b t, rmR R j.2.1 b ∧ itR R S T j.2.2.1 t ∧ cw3 T n = (40, b, T.1 41 t)
  else if j.1 = 17 then ∃ b t y, rmR R j.2.1 b ∧ itR R S T j.2.2.1 t ∧ T.1 44 (8 * t + j.2.2.2.1.toNatClampNeg) = nI y ∧ y < 16387 ∧ (∃ f x, TyR R0 S T f x y) ∧ cw3 T n = (41, b ||| ((j.2.2.2.1 + 1) <<< ((4 : Int32) &&& 31)), nI (wdC T y) ||| (T.1 41 t <<< ((8 : Int32) &&& 31)))
  else if j.1 = 18 then ∃ W g e, j.2.2.1 = nI W ∧ j.2.2.2.2 = nI e ∧ e ≤ 3 ∧ W < 1024 ^ e ∧ g < 16 ^ e ∧ (∀ k, k < e → R (W / 1024 ^ k % 1024) (g / 16 ^ k % 16)) ∧ cw3 T n = (57, j.2.1, nI g)
  else j.1 = 19 ∧ ∃ f y, TyR R S T f j.2.2.2.2 y ∧ cw3 T n = ((if kdC T y = 5 then 9 else opK j.2.1), 0, 0)
def KrL (R : RgR) (sl : Int32 → Int32) (S T : gSt) : List T5 → Nat → Prop
  | [], _ => True
  | j :: ks, n => KrO R sl S T j n ∧ KrL R sl S T ks (n + 1)
/-- LIVE -/
def LvR (R : RgR) (S T : gSt) : Prop := ∀ c m, R c m → (isLv S (nI c) = 0 ↔ fb (flw T) (40 + m) = false)
/-- what outlives what -/
def OvR (R : RgR) (S T : gSt) : Prop := ∀ c m e n, R c m → R e n → (dOv S (nI c) (nI e) = 0 ↔ ¬ ouC T m n)
/-- VARS -/
def VaR (R : RgR) (sl : Int32 → Int32) (S T : gSt) : Prop := ∃ n, S.1 77 0 = nI n ∧ T.1 68 0 = nI n ∧ n ≤ 20 ∧ (∀ v, v < n → S.2 78 v = T.2 69 v ∧ (∃ s, S.1 79 v = nI s ∧ s < 20) ∧ T.1 71 v = sl (S.1 79 v) ∧ (∃ y, T.1 70 v = nI y ∧ y < 16387 ∧ TyR R S T 5 (S.1 80 v) y ∧ (kdC T y = 4 → (((S.1 82 0 >>> (S.1 79 v &&& 31)) &&& 1) = 1 ↔ ¬ (fb (flw T) 52 = true ∧ fb (flw T) (20 + v) = false)))) ∧ (((S.1 81 0 >>> (S.1 79 v &&& 31)) &&& 1) = 0 ↔ (fb (flw T) 52 = true ∧ fb (flw T) v = false))) ∧ ∀ a b, a < n → b < n → S.2 78 a = S.2 78 b → a = b
/-- items, their heads checked -/
def AiO (X : Lx) (S T : gSt) (t : Nat) : Prop := ∃ c x, HeT X T t x ∧ PrR X S T t c x.2.2.1 ∧ HcR X S T t c x ∧ S.1 12 t = (if xK X x.1 = 10 then 0 else if xK X x.1 = 11 then 1 else 2) ∧ (xK X x.1 = 10 ∨ xK X x.1 = 11 ∨ xK X x.1 = 12) ∧ S.1 18 t = nI c ∧ c < 220 ∧ S.1 19 t = nI x.2.2.1.length ∧ S.1 31 t = nI x.2.2.2.2.2.2.2.1 ∧ x.2.2.2.2.2.2.2.1 ≤ 3 ∧ (S.1 25 t < 0 → S.1 12 t = 2 → S.1 26 t = -1)
def AiR (X : Lx) (S T : gSt) : Prop := ∀ t, t < inn S → AiO X S T t
/-- counts -/
def CtR (S T : gSt) : Prop := T.1 52 2 = S.1 92 0 ∧ T.1 52 3 = S.1 88 0 ∧ T.1 52 4 = S.1 89 0 ∧ T.1 52 5 = S.1 90 0 ∧ T.1 52 6 = S.1 91 0
/-- what goes together at a place of a fun -/
def XR (R : RgR) (sl : Int32 → Int32) (X : Lx) (S T : gSt) : Prop := HrR R X S T ∧ Ck S ∧ R11 R ∧ R 0 0 ∧ (∀ c m, R c m → c < 12 ∧ m < 12) ∧ LvR R S T ∧ OvR R S T ∧ VaR R sl S T ∧ AiR X S T ∧ S.1 87 0 = T.1 76 0 ∧ CtR S T
/-- how many rows, how many types a tree may ask for -/
def kwT : Tr → Nat
  | .add (.add (.var k) (.add (.var _) (.var _))) (.add a b) => if k = 1 then 1 else if k = 2 ∨ k = 9 then kwT a else if k = 10 then kwT a + kwT b else if k = 4 ∨ k = 5 ∨ k = 8 then kwT a + kwT b + 1 else kwT a + 1
  | _ => 0
def tw (X : Lx) (i : Nat) : Nat := if xK X i = 61 then 0 else 6
def lvT (X : Lx) : Tr → Nat
  | .add (.add (.var k) (.add (.var i) (.var _))) (.add a b) => if k = 1 then 1 else if k = 2 then lvT X a else if k = 3 then lvT X a + tw X i else if k = 6 then lvT X a + 6 else if k = 4 ∨ k = 5 then lvT X a + lvT X b else if k = 7 then lvT X a + 8 else if k = 8 ∨ k = 9 then lvT X a + lvT X b + 1 else lvT X a + lvT X b + 6
  | _ => 0
/-- what the grammar tells of a tree; modes 0 a TERM, 1 an EXPR, 2 arguments; m: how deep it may go -/
def xgN (X : Lx) (Ga Gb : Nat → Nat → Prop) (za : Bool) (k i e : Nat) (m mo : Nat) : Prop :=
  if mo = 2 then k = 10 ∧ Ga m 1 ∧ Gb m 2
  else if k = 1 then xK X i = 5 ∨ xK X i = 27 ∨ xK X i = 34 ∨ xK X i = 35 ∨ xK X i = 2
  else if k = 2 then xK X i = 42 ∧ 1 ≤ m ∧ Ga (m - 1) 1
  else if k = 3 then Ga m 0 ∧ (xK X i = 61 ∨ (xK X i = 49 ∨ xK X i = 33) ∧ xK X (i + 1) = 2)
  else if k = 4 then xK X i = 44 ∧ Ga m 0 ∧ 1 ≤ m ∧ Gb (m - 1) 1
  else if k = 5 then mo = 1 ∧ Ga m 1 ∧ Gb m 0 ∧ (e = 51 ∨ (53 ≤ e ∧ e ≤ 57) ∨ e = 62)
  else if k = 6 then xK X i = 2 ∧ (za = true ∨ 1 ≤ m) ∧ Ga (m - 1) 2 ∧ e ≤ 3 ∧ ∀ q, q < e → xK X (i + 1 + q) = 4
  else if k = 7 then xK X i = 28 ∧ (za = true ∨ 1 ≤ m) ∧ e = rgs (xK X) 3 (i + 3) ∧ xK X (i + 1) = 4 ∧ xK X (i + 2) = 3 ∧ (if xK X (i + 3 + e) = 49 then xK X (i + 3 + e + 1) = 2 ∧ Ga (m - 1) 1 else xK X (i + 3 + e) = 40 ∧ Ga (m - 1) 2)
  else if k = 8 then 1 ≤ m ∧ Ga (m - 1) 1 ∧ ((xK X i = 29 ∨ xK X i = 30) ∧ xK X (i + 1) = 4 ∨ xK X i = 31 ∨ xK X i = 32) ∧ (xK X i = 30 → Gb (m - 1) 1)
  else k = 9 ∧ xK X i = 58 ∧ 1 ≤ m ∧ Ga (m - 1) 0
def XG (X : Lx) : Tr → Nat → Nat → Prop
  | .add (.add (.var k) (.add (.var i) (.var e))) (.add a b), m, mo => xgN X (XG X a) (XG X b) (isZ a) k i e m mo
  | .num _, _, mo => mo = 2
  | _, _, _ => False
/-- what a check comes to where nothing is wrong ahead of it: C what the spec says, kw rows and lv types at most -/
def XOk (R : RgR) (sl : Int32 → Int32) (X : Lx) (S T : gSt) (C : ChR) (kw lv n y : Nat) (T' : gSt) : Prop := (XR R sl X C.2.2.2 T' ∧ TyF S C.2.2.2 T T' ∧ (∃ h, TyR R C.2.2.2 T' h C.1 y) ∧ T'.1 51 0 = nI (n + (ksE C.2.2.1).length) ∧ KrL R sl C.2.2.2 T' (ksE C.2.2.1) n ∧ (ksE C.2.2.1).length ≤ kw ∧ kGo C.2.2.1 ∧ lvC T' 16384 ≤ lvC T 16384 + lv) ∨ BfR C.2.2.2 T'
def XQ (R : RgR) (sl : Int32 → Int32) (X : Lx) (S T : gSt) (t : Tr) (f : Nat) (w : Int32) (n y : Nat) (T' : gSt) : Prop := XOk R sl X S T (chk X t f w S) (kwT t) (lvT X t) n y T'
/-- what it comes to, whatever there is -/
def XA (T : gSt) (r : Int32) (T' : gSt) : Prop := ∃ y, r = nI y ∧ tyY T' y ∧ FX T T'
/-- the room that an EXPR has -/
def Rm (X : Lx) (S' T : gSt) (t : Tr) (n : Nat) : Prop := T.1 51 0 = nI n ∧ n + kwT t ≤ 6032 ∧ lvC T 16384 + lvT X t + 30 < 16384 ∧ cn S' < 6000
/-- an EXPR, checked -/
def Cx1 (nf : Nat) (X : Lx) (t : Tr) : Prop := ∀ (T : gSt) (lo hi z a b m dd d : Nat), RcG X T t 1 lo hi z → T.1 13 z = 0 → 1 ≤ lo → hi ≤ 4008 → Wf X t false a b → b ≤ xn X → XG X t m 1 → dd + m = 20 → 8 * m + 120 ≤ d → WX X T → wp (PP nf d 139 T [nI lo, nI dd] []) (fun r _ T' => XA T r T' ∧ ∀ R sl S n y, r = nI y → y < 16387 → XR R sl X S T → Rm X (chk X t 0 0 S).2.2.2 T t n → XQ R sl X S T t 0 0 n y T')
section CXD
variable {R : RgR} {S S' S1 T T' T1 : gSt} {X : Lx} {nf d i k n m t e w c a b q g : Nat} {x y z v : Int32} {sl : Int32 → Int32} {j : T5} {ks l2 : List T5}
theorem FX.rf (hW : WT T) : FX T T := ⟨fun _ _ => rfl, fun _ _ _ => rfl, hW, fun _ h => h, fun _ => ⟨rfl, rfl⟩, fun c h h2 => ⟨c, h, Nat.le_refl _, h2, fun _ _ _ _ _ => rfl⟩, fun _ _ => rfl⟩
theorem FX.tr (h : FX T T1) (h2 : FX T1 T') : FX T T' := ⟨fun k a => (h2.1 k a).trans (h.1 k a), fun q j a => (h2.2.1 q j a).trans (h.2.1 q j a), h2.2.2.1, fun y a => h2.2.2.2.1 y (h.2.2.2.1 y a), fun w => by
  have a := h.2.2.2.2.1 w
  have b := h2.2.2.2.2.1 (by rw [a.1]; exact w)
  exact ⟨b.1.trans a.1, b.2.trans a.2⟩, fun c hc hc2 => by
  obtain ⟨c1, a1, a2, a3, a4⟩ := h.2.2.2.2.2.1 c hc hc2
  obtain ⟨c2, b1, b2, b3, b4⟩ := h2.2.2.2.2.2.1 c1 a1 a3
  exact ⟨c2, b1, by omega, b3, fun g j h1 h2 h3 => (b4 g j h1 h2 (by omega)).trans (a4 g j h1 h2 h3)⟩, fun v hv => (h2.2.2.2.2.2.2 v hv).trans (h.2.2.2.2.2.2 v hv)⟩
theorem FwH.fx (h : FwH T T') : FX T T' := ⟨fun k a => h.1 k (by omega) (by omega), h.2.1, h.2.2.1, h.2.2.2.1, h.2.2.2.2, fun c hc hc2 => ⟨c, by rw [h.1 51 (by omega) (by omega)]; exact hc, Nat.le_refl _, hc2, fun g j a b _ => by rw [h.1 g (by omega) (by omega)]⟩, fun v _ => by rw [h.1 52 (by omega) (by omega)]⟩
theorem FX.nt (hW : WT T) : FX T (ntS T x y) := (FwH.nt hW).fx
theorem FX.ta (hW : WT T) (hk2 : 2 ≤ k) : FX T (sI T 52 k x) := by
  have w := hW.ag (T' := sI T 52 k x) rfl (by rw [sI_ne (by omega)])
  exact ⟨fun g a => by rw [sI_ne (by omega)], fun _ _ _ => rfl, w.1, w.2, fun _ => ⟨by rw [sI_ne (by omega)], by rw [sI_ne (by omega)]⟩, fun c hc hc2 => ⟨c, by rw [sI_ne (by omega)]; exact hc, Nat.le_refl _, hc2, fun g j a b _ => by rw [sI_ne (by omega)]⟩, fun v hv => by rw [rdI, if_neg (fun w => by have := w.2; omega)]⟩
theorem em_o (h : ¬ (48 ≤ k ∧ k ≤ 51)) : (emS T n x y z).1 k = T.1 k := by
  unfold emS
  rw [sI_ne (by omega), sI_ne (by omega), sI_ne (by omega), sI_ne (by omega)]
theorem em_51 : (emS T n x y z).1 51 0 = nI (n + 1) := by
  unfold emS
  exact sI_v
theorem em_row : cw3 (emS T n x y z) n = (x, y, z) := by
  unfold cw3 emS
  rw [sI_ne (g' := 48) (by omega), sI_ne (g' := 48) (by omega), sI_ne (g' := 48) (by omega), sI_v, sI_ne (g' := 49) (by omega), sI_ne (g' := 49) (by omega), sI_v, sI_ne (g' := 50) (by omega), sI_v]
theorem em_old (hg : 48 ≤ g) (hg2 : g ≤ 50) (h : q < n) : (emS T n x y z).1 g q = T.1 g q := by
  unfold emS
  rw [sI_ne (by omega), rdI, if_neg (by omega), rdI, if_neg (by omega), rdI, if_neg (by omega)]
theorem FX.em (hW : WT T) (h : T.1 51 0 = nI n) (hn : n < 6032) : FX T (emS T n x y z) := by
  have w := hW.ag (T' := emS T n x y z) rfl (by rw [em_o (by omega)])
  refine ⟨fun g a => em_o (by omega), fun _ _ _ => rfl, w.1, w.2, fun _ => ⟨by rw [em_o (by omega)], by rw [em_o (by omega)]⟩, fun c hc hc2 => ?_, fun v _ => by rw [em_o (by omega)]⟩
  have : c = n := nI_inj (by omega) (by omega) (by rw [← hc, ← h])
  subst this
  exact ⟨c + 1, em_51, by omega, by omega, fun g j a b e => em_old a b e⟩
/-- emit, whatever there is -/
theorem a_emit (hW : WT T) (h : ∃ c, T.1 51 0 = nI c ∧ c ≤ 6032) (hd : 1 ≤ d) : ∃ r T', PP nf d 51 T [x, y, z] [] = some (r, 0, T') ∧ FX T T' ∧ ∀ n, T.1 51 0 = nI n → n < 6032 → T' = emS T n x y z := by
  obtain ⟨c, c1, c2⟩ := h
  by_cases cc : c < 6032
  · refine ⟨_, _, c_emit c1 cc hd, FX.em hW c1 cc, fun n hn hn2 => ?_⟩
    have : n = c := nI_inj (by omega) (by omega) (by rw [← hn, ← c1])
    rw [this]
  · obtain ⟨r, hr⟩ := c_emit0 (nf := nf) (d := d) (a := x) (b := y) (w := z) c1 (by omega) (by omega) hd
    refine ⟨r, T, hr, FX.rf hW, fun n hn hn2 => ?_⟩
    have : n = c := nI_inj (by omega) (by omega) (by rw [← hn, ← c1])
    omega
theorem FX.o (h : FX T T') (hk : ¬ (48 ≤ k ∧ k ≤ 54)) : T'.1 k = T.1 k := h.1 k hk
theorem WP.fx (h : WP X T t n) (hF : FX T T') : WP X T' t n := by
  obtain ⟨a, b, c⟩ := h
  exact ⟨by rw [hF.o (by omega)]; exact a, b, fun k hk => by rw [hF.o (by omega)]; exact c k hk⟩
theorem WJ.fx (h : WJ X T t) (hF : FX T T') : WJ X T' t := by
  obtain ⟨n, a, b, ⟨y, c1, c2⟩, d, w, e1, e2, e3⟩ := h
  refine ⟨n, a.fx hF, fun q hq => ?_, ⟨y, by rw [hF.o (by omega)]; exact c1, hF.2.2.2.1 y c2⟩, by rw [hF.o (by omega)]; exact d, w, by rw [hF.o (by omega)]; exact e1, e2, fun q hq => by rw [hF.o (by omega)]; exact e3 q hq⟩
  obtain ⟨u, u1, u2⟩ := b q hq
  exact ⟨u, by rw [hF.o (by omega)]; exact u1, hF.2.2.2.1 u u2⟩
theorem TkC.fx (h : TkC X T) (hF : FX T T') : TkC X T' := by
  unfold TkC at h ⊢
  rw [hF.o (k := 25) (by omega), hF.o (k := 21) (by omega), hF.o (k := 22) (by omega), hF.o (k := 23) (by omega)]
  refine ⟨h.1, h.2.1, fun j hj => ?_⟩
  rw [hF.2.1 24 j (by omega)]
  exact h.2.2 j hj
theorem WX.fx (h : WX X T) (hF : FX T T') : WX X T' := by
  obtain ⟨a1, a2, ⟨n, a3, a3'⟩, ⟨r, a4, a4', a4''⟩, ⟨v, a5, a5', a5''⟩, ⟨c, a6, a6'⟩, a7, a8, a9⟩ := h
  refine ⟨a1.fx hF, hF.2.2.1, ⟨n, by rw [hF.o (by omega)]; exact a3, a3'⟩, ⟨r, by rw [hF.o (by omega)]; exact a4, a4', a4''⟩, ⟨v, by rw [hF.o (by omega)]; exact a5, a5', fun j hj => ?_⟩, ?_, by rw [hF.o (k := 67) (by omega), hF.o (k := 11) (by omega), hF.o (k := 12) (by omega), hF.o (k := 13) (by omega)]; exact a7, by rw [hF.o (by omega)]; exact a8, fun t ht => (a9 t (by unfold itN at ht ⊢; rw [hF.o (by omega)] at ht; exact ht)).fx hF⟩
  · obtain ⟨y, y1, y2⟩ := a5'' j hj
    exact ⟨y, by rw [hF.o (by omega)]; exact y1, hF.2.2.2.1 y y2⟩
  · obtain ⟨c', b1, b2, b3, _⟩ := hF.2.2.2.2.2.1 c a6 a6'
    exact ⟨c', b1, b3⟩
theorem BfR.fx (h : BfR S T) (hF : FX T T') : BfR S T' := by
  have := hF.2.2.2.2.1 (by rw [h.2.1]; exact h.1)
  exact ⟨h.1, this.1.trans h.2.1, this.2.trans h.2.2⟩
/-- nodes stay -/
theorem RcG_eq (h : ∀ g, 11 ≤ g → g ≤ 18 → T'.1 g = T.1 g) (tr : Tr) : RcG X T' tr = RcG X T tr := by
  have h11 := h 11 (by omega) (by omega)
  have h12 := h 12 (by omega) (by omega)
  have h13 := h 13 (by omega) (by omega)
  have h14 := h 14 (by omega) (by omega)
  have h15 := h 15 (by omega) (by omega)
  have h16 := h 16 (by omega) (by omega)
  have h17 := h 17 (by omega) (by omega)
  have h18 := h 18 (by omega) (by omega)
  induction tr using Tr_ind with
  | hz t hz =>
    unfold RcG
    split
    · exact absurd rfl (hz _ _ _ _ _)
    · rfl
    · rfl
  | h k i e ta tb ihA ihB =>
    rw [RcG_n, RcG_n, ihA, ihB]
    funext mo lo hi z
    unfold RcN Rc0 cRX cRT fnT lkT
    simp only [h11, h12, h13, h14, h15, h16, h17, h18]
theorem RcG.fx {tr : Tr} {mo lo hi z : Nat} (h : RcG X T tr mo lo hi z) (hF : FX T T') : RcG X T' tr mo lo hi z := by
  rw [RcG_eq (fun g a b => hF.o (by omega))]
  exact h
end CXD
