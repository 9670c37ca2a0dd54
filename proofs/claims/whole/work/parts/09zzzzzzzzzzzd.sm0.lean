/-! both machines in step: what goes together -/
/-- a type that speaks of the REGIONS of Q alone -/
def TyOf (Sf : gSt) (Q : Nat → Prop) (x : Int32) : Prop := ∀ ρ ρ' : Nat → Nat, (∀ c, Q c → ρ c = ρ' c) → gty Sf ρ x = gty Sf ρ' x
/-- a type whose REGIONS are all in sight -/
def TyIn (Sf S : gSt) (x : Int32) : Prop := TyOf Sf (sght S) x
/-- how many RS an item has -/
def eN (Sf : gSt) (it : Nat) : Nat := (Sf.1 15 it).toNatClampNeg
/-- the words of the first f parts from c on -/
def ofs (Sf : gSt) (c : Nat) : Nat → Nat
  | 0 => 0
  | f + 1 => ofs Sf c f + wS Sf (Sf.1 24 (c + f))
/-- the most words that one of them has -/
def mxs (Sf : gSt) (c : Nat) : Nat → Nat
  | 0 => 0
  | f + 1 => max (mxs Sf c f) (wS Sf (Sf.1 24 (c + f)))
/-- an item as both machines hold it: m parts from c on -/
def ItQ (Sf T0 : gSt) (t c m : Nat) : Prop := Sf.1 18 t = nI c ∧ Sf.1 19 t = nI m ∧ m ≤ 8 ∧ c + m ≤ 220 ∧ (Sf.1 12 t = 0 ∨ Sf.1 12 t = 1 ∨ Sf.1 12 t = 2) ∧ (Sf.1 12 t = 0 → ∀ f, f < m → T0.1 45 (8 * t + f) = nI (ofs Sf c f)) ∧ T0.1 41 t = (if Sf.1 12 t = 1 then nI (1 + mxs Sf c m) else nI (ofs Sf c m)) ∧ (∀ f, f < m → tV Sf (Sf.1 24 (c + f)) ∧ TyOf Sf (fun c => c ≤ eN Sf t) (Sf.1 24 (c + f))) ∧ (0 ≤ Sf.1 25 t → Sf.1 12 t = 2 → tV Sf (Sf.1 26 t) ∧ TyOf Sf (fun c => c ≤ eN Sf t) (Sf.1 26 t)) ∧ (Sf.1 12 t < 2 → 1 ≤ m) ∧ eN Sf t ≤ 3
/-- an item's REGIONS by what is told for them -/
def idρ (ids : Nat → Nat) (c : Nat) : Nat := if c = 0 then 0 else ids (c - 1)
/-- an object's title tells what it is -/
def titO (Sf T0 : gSt) (G : GH) (b : Nat) : Prop := (gTi G b = [] ∧ gUn G b = 0 ∧ ∃ g0, ∀ p, p < gPl G b → gTy G b p = g0 ∧ gWo G b p = p * wg g0) ∨ ∃ (t c m : Nat) (ids : Nat → Nat), t < inn Sf ∧ ItQ Sf T0 t c m ∧ gTi G b = 1 :: t :: (List.range (eN Sf t)).map ids ∧ (if Sf.1 12 t = 1 then ¬ gUn G b = 0 ∧ gPl G b = 1 ∧ gWo G b 0 = 1 ∧ (∀ f, f < m → gTy G b f = gty Sf (idρ ids) (Sf.1 24 (c + f))) else Sf.1 12 t = 0 ∧ gUn G b = 0 ∧ gPl G b = m ∧ ∀ f, f < m → gTy G b f = gty Sf (idρ ids) (Sf.1 24 (c + f)) ∧ gWo G b f = ofs Sf c f)
def TiO (Sf T0 : gSt) (G : GH) (nb : Nat) : Prop := ∀ b, 1 ≤ b → b ≤ nb → titO Sf T0 G b ∧ gOb G b < 4096 ∧ gAd G b < 4097 ∧ 1 ≤ gPl G b ∧ gPl G b ≤ 64 ∧ ∀ p, p < gPl G b → gWo G b p < 64
/-- the words of the VARS ahead of the u-th -/
def slV (Sf S : gSt) : Nat → Nat
  | 0 => 0
  | u + 1 => slV Sf S u + wS Sf (S.1 80 u)
/-- how many REGIONS of region STEPS are LIVE, of the first q around -/
def lvc (S : gSt) : Nat → Nat
  | 0 => 0
  | q + 1 => lvc S q + (if ¬ S.1 85 q < 0 ∧ ¬ isLv S (S.1 85 q) = 0 then 1 else 0)
/-- a handler: the reference's row, the class's, what is known there -/
abbrev HD : Type := Nat × Nat × gSt
/-- a call at work: what is known, REGIONS, VARS; types and values on its stack; handlers; item, rows; the class's base, the reference's height, first region, first try, first id of its own -/
abbrev FRM : Type := gSt × (Nat → Nat) × (Nat → AV) × List Int32 × List AV × List HD × (Nat × Nat × Nat) × (Nat × Nat × Nat × Nat × Nat)
def fS (F : FRM) : gSt := F.1
def fρ (F : FRM) : Nat → Nat := F.2.1
def fva (F : FRM) : Nat → AV := F.2.2.1
def fst' (F : FRM) : List Int32 := F.2.2.2.1
def fov (F : FRM) : List AV := F.2.2.2.2.1
def fhs (F : FRM) : List HD := F.2.2.2.2.2.1
def fit (F : FRM) : Nat := F.2.2.2.2.2.2.1.1
def fn (F : FRM) : Nat := F.2.2.2.2.2.2.1.2.1
def fm (F : FRM) : Nat := F.2.2.2.2.2.2.1.2.2
def fbs (F : FRM) : Nat := F.2.2.2.2.2.2.2.1
def fph (F : FRM) : Nat := F.2.2.2.2.2.2.2.2.1
def frb (F : FRM) : Nat := F.2.2.2.2.2.2.2.2.2.1
def ftb (F : FRM) : Nat := F.2.2.2.2.2.2.2.2.2.2.1
def fie (F : FRM) : Nat := F.2.2.2.2.2.2.2.2.2.2.2
def mkF (S : gSt) (ρ : Nat → Nat) (va : Nat → AV) (st : List Int32) (ov : List AV) (hs : List HD) (it n m bs ph rb tb ie : Nat) : FRM := (S, ρ, va, st, ov, hs, (it, n, m), (bs, ph, rb, tb, ie))
/-- a value has a type, null's too -/
def VTs (Sf : gSt) (G : GH) (nb : Nat) (rg : Nat → Nat) (na ng : Nat) (ρ : Nat → Nat) (v : AV) (x : Int32) : Prop := if x = -2 then v = ((0 : Int32), (0 : Nat), (0 : Nat)) else VT G nb rg na ng v (gty Sf ρ x)
/-- values on the stack, the last one first -/
def OpV (Sf : gSt) (G : GH) (nb : Nat) (rg : Nat → Nat) (na ng : Nat) (ρ : Nat → Nat) (M T : gSt) (ph bt : Nat) : List Int32 → List AV → Prop
  | [], [] => True
  | x :: st, v :: ov => VTs Sf G nb rg na ng ρ v x ∧ RV G v (M.1 110 (ph + st.length)) (M.1 111 (ph + st.length)) (M.1 112 (ph + st.length)) (M.1 113 (ph + st.length)) ∧ (∀ i, i < wv v → T.1 99 (bt + wsl Sf st + i) = CW G v i) ∧ OpV Sf G nb rg na ng ρ M T ph bt st ov
  | _, _ => False
/-- VARS -/
def VaO (Sf : gSt) (G : GH) (nb : Nat) (rg : Nat → Nat) (na ng : Nat) (ρ : Nat → Nat) (va : Nat → AV) (M T : gSt) (e bs : Nat) (S : gSt) : Prop := ∀ u s, vaP S u s → VT G nb rg na ng (va s) (gty Sf ρ (S.1 80 u)) ∧ RV G (va s) (M.1 117 (20 * e + s)) (M.1 118 (20 * e + s)) (M.1 119 (20 * e + s)) (M.1 120 (20 * e + s)) ∧ (∀ i, i < wv (va s) → T.1 99 (bs + slV Sf S u + i) = CW G (va s) i) ∧ (fi (S.1 82 0) s = true → (∃ p, rowP Sf (S.1 80 u) p ∧ Sf.1 66 p = 2) → 1 ≤ (va s).2.1)
/-- a REGION of a region STEP, q-th around -/
def RgQx (rg : Nat → Nat) (en : Nat) (ρ : Nat → Nat) (M T : gSt) (e : Nat) (S : gSt) (rb q c : Nat) : Prop := if isLv S (nI c) = 0 then M.1 121 (12 * e + c) = -1 else M.1 121 (12 * e + c) = nI (rb + lvc S q) ∧ rg (rb + lvc S q) = ρ c ∧ ∀ w, RgE en S c w → T.1 101 (17 * (e + 1) + (5 + w)) = nI (rb + lvc S q)
/-- REGIONS of a call -/
def RgO (rg : Nat → Nat) (na ng en : Nat) (ρ : Nat → Nat) (M T : gSt) (e : Nat) (S : gSt) (rb ie : Nat) : Prop :=
  (ρ 0 = 0 ∧ 1 ≤ ie ∧ ie ≤ ng ∧ (∀ c, c ≤ 3 → ρ c < ie) ∧ 1 ≤ rb ∧ T.1 101 (17 * (e + 1) + 5) = 0) ∧
  (∀ q c, q < arn S → S.1 85 q = nI c → 4 ≤ c → c < 12 → ie ≤ ρ c ∧ ρ c < ng ∧ RgQx rg en ρ M T e S rb q c) ∧
  (∀ q q' c c', q < q' → q' < arn S → S.1 85 q = nI c → S.1 85 q' = nI c' → 4 ≤ c → c < 12 → 4 ≤ c' → c' < 12 → ρ c < ρ c') ∧
  (∀ c, 1 ≤ c → c ≤ 3 → ¬ isLv S (nI c) = 0 → ∃ i, i < rb ∧ M.1 121 (12 * e + c) = nI i ∧ T.1 101 (17 * (e + 1) + (5 + c)) = nI i ∧ rg i = ρ c) ∧
  (∀ r s, 1 ≤ r → r ≤ 3 → 1 ≤ s → s ≤ 3 → fi (S.1 76 0) (4 * r + s) = true → ot rg na ng (ρ r) (ρ s))
/-- numbers caught -/
def CaO (M T : gSt) (e bs : Nat) (S : gSt) : Prop := ∃ c, S.1 87 0 = nI c ∧ c ≤ 20 ∧ ∀ k, 1 ≤ k → k ≤ c → T.1 99 (bs + 60 + (k - 1)) = M.1 122 (40 * e + k)
/-- the tries of a call, the last one first -/
def HsO (Sf : gSt) (G : GH) (nb : Nat) (rg : Nat → Nat) (na ng : Nat) (ρ : Nat → Nat) (va : Nat → AV) (M T : gSt) (e bs ph rb tb : Nat) : List HD → Prop
  | [] => True
  | h :: hs => (M.1 124 (tb + hs.length) = nI h.1 ∧ M.1 125 (tb + hs.length) = nI (e + 1) ∧ M.1 126 (tb + hs.length) = nI ph ∧ M.1 127 (tb + hs.length) = nI (rb + lvc h.2.2 (arn h.2.2)) ∧ M.1 128 (tb + hs.length) = h.2.2.1 87 0 ∧ T.1 103 (4 * (tb + hs.length)) = nI h.2.1 ∧ T.1 103 (4 * (tb + hs.length) + 1) = nI (e + 1) ∧ T.1 103 (4 * (tb + hs.length) + 2) = nI (bs + 80) ∧ T.1 103 (4 * (tb + hs.length) + 3) = nI (rb + lvc h.2.2 (arn h.2.2))) ∧ VaO Sf G nb rg na ng ρ va M T e bs h.2.2 ∧ HsO Sf G nb rg na ng ρ va M T e bs ph rb tb hs
/-- a call at work -/
def FrO (Sf : gSt) (G : GH) (nb : Nat) (rg : Nat → Nat) (na ng : Nat) (M T : gSt) (e : Nat) (F : FRM) : Prop :=
  VaO Sf G nb rg na ng (fρ F) (fva F) M T e (fbs F) (fS F) ∧ OpV Sf G nb rg na ng (fρ F) M T (fph F) (fbs F + 80) (fst' F) (fov F) ∧ RgO rg na ng (eN Sf (fit F)) (fρ F) M T e (fS F) (frb F) (fie F) ∧ CaO M T e (fbs F) (fS F) ∧ HsO Sf G nb rg na ng (fρ F) (fva F) M T e (fbs F) (fph F) (frb F) (ftb F) (fhs F) ∧ (T.1 101 (17 * (e + 1) + 1) = nI (fbs F) ∧ T.1 101 (17 * (e + 1) + 3) = nI (frb F) ∧ T.1 101 (17 * (e + 1) + 4) = nI (ftb F) ∧ M.1 116 e = nI (frb F))
/-- REGIONS known alike -/
def SmR (S S' : gSt) : Prop := rn S' = rn S ∧ (∀ k, k < rn S → S'.1 73 k = S.1 73 k) ∧ S'.1 84 0 = S.1 84 0 ∧ (∀ q, q < arn S → S'.1 85 q = S.1 85 q) ∧ S'.1 75 0 = S.1 75 0 ∧ S'.1 76 0 = S.1 76 0 ∧ S'.1 87 0 = S.1 87 0
/-- S tells no less than S' -/
def WkS (Sf S S' : gSt) : Prop := SmR S S' ∧ ∀ u s, vaP S' u s → vaP S u s ∧ S.1 80 u = S'.1 80 u ∧ slV Sf S u = slV Sf S' u ∧ (fi (S'.1 82 0) s = true → fi (S.1 82 0) s = true)
/-- .. but that the VAR of slot s is known in S' -/
def KnS (Sf S S' : gSt) (s0 : Nat) : Prop := SmR S S' ∧ ∀ u s, vaP S' u s → vaP S u s ∧ S.1 80 u = S'.1 80 u ∧ slV Sf S u = slV Sf S' u ∧ (fi (S'.1 82 0) s = true → fi (S.1 82 0) s = true ∨ s = s0)
/-- words a to a + c and those of the VAR in row u lie apart -/
def apW (Sf S : gSt) (u a c : Nat) : Prop := slV Sf S u + wS Sf (S.1 80 u) ≤ a ∨ a + c ≤ slV Sf S u
/-- a value of type t to slot s, word a: type x, row u -/
def AsS (Sf S S' : gSt) (hs : List HD) (u s a : Nat) (x t : Int32) : Prop := SmR S S' ∧ tV Sf x ∧ fitT Sf S t x ∧ s < 20 ∧ a + wS Sf x ≤ 60 ∧ (∀ v s', vaP S' v s' → (s' = s ∧ S'.1 80 v = x ∧ slV Sf S' v = a ∧ (fi (S'.1 82 0) s = true → (∃ p, rowP Sf x p ∧ Sf.1 66 p = 2) → ∃ q, rowP Sf t q ∧ Sf.1 66 q = 1)) ∨ (¬ s' = s ∧ vaP S v s' ∧ S.1 80 v = S'.1 80 v ∧ slV Sf S v = slV Sf S' v ∧ apW Sf S' v a (wS Sf x) ∧ (fi (S'.1 82 0) s' = true → fi (S.1 82 0) s' = true))) ∧ ∀ h, h ∈ hs → ∀ v s', vaP h.2.2 v s' → (s' = s ∧ h.2.2.1 80 v = x ∧ slV Sf h.2.2 v = a ∧ fi (h.2.2.1 82 0) s = false) ∨ (¬ s' = s ∧ apW Sf h.2.2 v a (wS Sf x))
/-- a handler's REGIONS are those ahead of what lies around now -/
def PfS (Sh S : gSt) : Prop := rn Sh ≤ rn S ∧ (∀ k, k < rn Sh → Sh.1 73 k = S.1 73 k) ∧ arn Sh ≤ arn S ∧ (∀ q, q < arn Sh → Sh.1 85 q = S.1 85 q ∧ (isLv Sh (S.1 85 q) = 0 ↔ isLv S (S.1 85 q) = 0)) ∧ (∀ c, c ≤ 3 → isLv Sh (nI c) = isLv S (nI c)) ∧ Sh.1 76 0 = S.1 76 0 ∧ ∃ a b, Sh.1 87 0 = nI a ∧ S.1 87 0 = nI b ∧ 1 ≤ a ∧ a ≤ b + 1 ∧ a ≤ 20 ∧ b ≤ 20
/-- REGIONS in sight, what lies around: en RS -/
def RwS (en : Nat) (S : gSt) : Prop := ∃ (m g n : Nat) (cd po : Nat → Nat), (en ≤ 3 ∧ m ≤ 8 ∧ rn S = en + m ∧ S.1 71 0 = nI (en + m) ∧ S.1 86 0 = nI g ∧ g ≤ 8 ∧ S.1 84 0 = nI n ∧ n ≤ 40) ∧ (∀ k, k < en → S.1 73 k = nI (k + 1)) ∧ (∀ j, j < m → S.1 73 (en + j) = nI (cd j) ∧ 4 ≤ cd j ∧ cd j < 4 + g ∧ S.1 74 (cd j) = (if j = 0 then 0 else nI (cd (j - 1)))) ∧ (∀ i j, i < j → j < m → cd i < cd j) ∧ (∀ j, j < m → po j < n ∧ S.1 85 (po j) = nI (cd j)) ∧ (∀ i j, i < j → j < m → po i < po j) ∧ (∀ q, q < n → S.1 85 q = -1 ∨ ∃ j, j < m ∧ q = po j) ∧ (∀ c, c < 32 → fi (S.1 75 0) c = true → c ≤ en ∨ ∃ j, j < m ∧ c = cd j) ∧ fi (S.1 75 0) 0 = true
/-- what holds of the VARS in sight -/
def VwS (Sf S : gSt) : Prop := SlD S ∧ vn S ≤ 20 ∧ (∀ a b, a < vn S → b < vn S → S.1 79 a = S.1 79 b → a = b) ∧ (∀ u, u < vn S → tV Sf (S.1 80 u) ∧ TyIn Sf S (S.1 80 u)) ∧ ∀ u, u ≤ vn S → slW S u = slV Sf S u
/-- what holds at a place of the code -/
def IvP (Sf : gSt) (it : Nat) (S : gSt) (st : List Int32) (hs : List HD) : Prop := VwS Sf S ∧ RwS (eN Sf it) S ∧ (∃ c, S.1 87 0 = nI c ∧ c ≤ 20) ∧ (∀ x, x ∈ st → x = -2 ∨ (tV Sf x ∧ TyIn Sf S x)) ∧ wsl Sf st ≤ 450 ∧ st.length ≤ 150 ∧ hs.length = trc S (arn S) ∧ hs.length ≤ 20 ∧ ∀ h, h ∈ hs → PfS h.2.2 S
