/-! what may stand at a place of the code: rules, in steps -/
/-- less is told, also of catches */
-/
def WkT (Sf S S' : gSt) : Prop := (rn S' = rn S ∧ (∀ k, k < rn S → S'.1 73 k = S.1 73 k) ∧ S'.1 84 0 = S.1 84 0 ∧ (∀ q, q < arn S → S'.1 85 q = S.1 85 q) ∧ S'.1 75 0 = S.1 75 0 ∧ S'.1 76 0 = S.1 76 0 ∧ (S'.1 87 0 = S.1 87 0 ∨ ∃ a b, S'.1 87 0 = nI a ∧ S.1 87 0 = nI b ∧ a ≤ b ∧ b ≤ 20)) ∧ ∀ u s, vaP S' u s → vaP S u s ∧ S.1 80 u = S'.1 80 u ∧ slV Sf S u = slV Sf S' u ∧ (fi (S'.1 82 0) s = true → fi (S.1 82 0) s = true)
/-- what a handler wants */
-/
def HdS (T0 Sf : gSt) (n1 it : Nat) (h : HD) (tl : List HD) : Prop := IvP Sf it h.2.2 [] tl ∧ ∃ c, h.2.2.1 87 0 = nI c ∧ 1 ≤ c ∧ c ≤ 20 ∧ cw3 T0 h.2.1 = (4, nI (60 + c - 1), 1) ∧ h.2.1 < n1
def gSTEP (M0 T0 Sf : gSt) (n1 it : Nat) (Q : Nat → Nat → gSt → List Int32 → List HD → Prop) (n m : Nat) (S : gSt) (st : List Int32) (hs : List HD) : Prop := ∃ p, rwC4 M0 n = (0, nI p, 0, 0) ∧ cw3 T0 m = (1, nI p, 0) ∧ st = [] ∧ Q (n + 1) (m + 1) S [] hs
def gEX (M0 T0 Sf : gSt) (n1 it : Nat) (Q : Nat → Nat → gSt → List Int32 → List HD → Prop) (n m : Nat) (S : gSt) (st : List Int32) (hs : List HD) : Prop := ∃ (jj : T5) (st' : List Int32), ¬ jj.1 = 18 ∧ rOk M0 jj n ∧ KrO (RgE (eN Sf it) S) (slF S) Sf T0 jj m ∧ tyJ Sf S jj st st' ∧ IvP Sf it S st' hs ∧ Q (n + 1) (m + 1) S st' hs
def gCALL (M0 T0 Sf : gSt) (n1 it : Nat) (Q : Nat → Nat → gSt → List Int32 → List HD → Prop) (n m : Nat) (S : gSt) (st : List Int32) (hs : List HD) : Prop := ∃ (jj : T5) (st' : List Int32), jj.1 = 18 ∧ rOk M0 jj n ∧ KrO (RgE (eN Sf it) S) (slF S) Sf T0 jj m ∧ tyJ Sf S jj st st' ∧ (∀ ts s0 : List Int32, st = ts ++ s0 → IvP Sf it S s0 hs) ∧ IvP Sf it S st' hs ∧ Q (n + 1) (m + 1) S st' hs
def gGOR (M0 T0 Sf : gSt) (n1 it : Nat) (Q : Nat → Nat → gSt → List Int32 → List HD → Prop) (n m : Nat) (S : gSt) (st : List Int32) (hs : List HD) : Prop := ∃ nx c e, rwC4 M0 n = (27, nI nx, c, e) ∧ n < nx ∧ nx < 12000 ∧ Q nx m S st hs
def gGO (M0 T0 Sf : gSt) (n1 it : Nat) (Q : Nat → Nat → gSt → List Int32 → List HD → Prop) (n m : Nat) (S : gSt) (st : List Int32) (hs : List HD) : Prop := ∃ nx mx c e y, rwC4 M0 n = (27, nI nx, c, e) ∧ cw3 T0 m = (50, nI mx, y) ∧ ((n < nx ∧ m < mx) ∨ ((rwC4 M0 nx).1 = 0)) ∧ nx < 12000 ∧ mx < n1 ∧ Q nx mx S st hs
def gIF (M0 T0 Sf : gSt) (n1 it : Nat) (Q : Nat → Nat → gSt → List Int32 → List HD → Prop) (n m : Nat) (S : gSt) (st : List Int32) (hs : List HD) : Prop := ∃ nx mx e y s0, rwC4 M0 n = (26, nI nx, 0, e) ∧ cw3 T0 m = (51, nI mx, y) ∧ st = 0 :: s0 ∧ n < nx ∧ m < mx ∧ nx < 12000 ∧ mx < n1 ∧ IvP Sf it S s0 hs ∧ Q (n + 1) (m + 1) S s0 hs ∧ Q nx mx S s0 hs
def gIFN (M0 T0 Sf : gSt) (n1 it : Nat) (Q : Nat → Nat → gSt → List Int32 → List HD → Prop) (n m : Nat) (S : gSt) (st : List Int32) (hs : List HD) : Prop := ∃ nx mx e y x p s0, rwC4 M0 n = (26, nI nx, 1, e) ∧ cw3 T0 m = (51, nI mx, y) ∧ st = x :: s0 ∧ (rowP Sf x p ∧ (Sf.1 66 p = 1 ∨ Sf.1 66 p = 2)) ∧ n < nx ∧ m < mx ∧ nx < 12000 ∧ mx < n1 ∧ IvP Sf it S s0 hs ∧ Q (n + 1) (m + 1) S s0 hs ∧ Q nx mx S s0 hs
def gLIF (M0 T0 Sf : gSt) (n1 it : Nat) (Q : Nat → Nat → gSt → List Int32 → List HD → Prop) (n m : Nat) (S : gSt) (st : List Int32) (hs : List HD) : Prop := ∃ u s p nx mx c e z y S', vaP S u s ∧ rowP Sf (S.1 80 u) p ∧ (Sf.1 66 p = 1 ∨ Sf.1 66 p = 2) ∧ rwC4 M0 n = (5, nI s, c, e) ∧ cw3 T0 m = (3, nI (slV Sf S u), 1) ∧ n + 1 < 12000 ∧ m + 1 < n1 ∧ rwC4 M0 (n + 1) = (26, nI nx, 1, z) ∧ cw3 T0 (m + 1) = (51, nI mx, y) ∧ st = [] ∧ n + 1 < nx ∧ m + 1 < mx ∧ nx < 12000 ∧ mx < n1 ∧ KnS Sf S S' s ∧ IvP Sf it S' [] hs ∧ Q (n + 2) (m + 2) S' [] hs ∧ Q nx mx S [] hs
def gLNS (M0 T0 Sf : gSt) (n1 it : Nat) (Q : Nat → Nat → gSt → List Int32 → List HD → Prop) (n m : Nat) (S : gSt) (st : List Int32) (hs : List HD) : Prop := ∃ u s p nx mx c e z y z1 z2 z3 z4 z5 z6 z7 z8 z9 S', vaP S u s ∧ rowP Sf (S.1 80 u) p ∧ (Sf.1 66 p = 1 ∨ Sf.1 66 p = 2) ∧ rwC4 M0 n = (5, nI s, c, e) ∧ cw3 T0 m = (3, nI (slV Sf S u), 1) ∧ n + 3 < 12000 ∧ m + 3 < n1 ∧ rwC4 M0 (n + 1) = (2, z1, z2, z3) ∧ cw3 T0 (m + 1) = (2, 0, z4) ∧ rwC4 M0 (n + 2) = (21, z5, z6, z7) ∧ cw3 T0 (m + 2) = (15, z8, z9) ∧ rwC4 M0 (n + 3) = (26, nI nx, 0, z) ∧ cw3 T0 (m + 3) = (51, nI mx, y) ∧ st = [] ∧ n + 3 < nx ∧ m + 3 < mx ∧ nx < 12000 ∧ mx < n1 ∧ KnS Sf S S' s ∧ IvP Sf it S' [] hs ∧ Q (n + 4) (m + 4) S [] hs ∧ Q nx mx S' [] hs
def gSTO (M0 T0 Sf : gSt) (n1 it : Nat) (Q : Nat → Nat → gSt → List Int32 → List HD → Prop) (n m : Nat) (S : gSt) (st : List Int32) (hs : List HD) : Prop := ∃ u s a0 x t1 c e S', rwC4 M0 n = (22, nI s, c, e) ∧ cw3 T0 m = (4, nI a0, nI (wS Sf x)) ∧ st = [t1] ∧ AsS Sf S S' hs u s a0 x t1 ∧ TyIn Sf S x ∧ IvP Sf it S' [] hs ∧ Q (n + 1) (m + 1) S' [] hs
def gPUT (M0 T0 Sf : gSt) (n1 it : Nat) (Q : Nat → Nat → gSt → List Int32 → List HD → Prop) (n m : Nat) (S : gSt) (st : List Int32) (hs : List HD) : Prop := ∃ (jj : T5) (un : Bool) (x t1 : Int32), (jj.1 = 6 ∨ jj.1 = 8 ∨ jj.1 = 10) ∧ rwC4 M0 n = rP M0 jj ∧ PlW (RgE (eN Sf it) S) Sf T0 2 un jj m ∧ tyJ Sf S jj st [x, t1] ∧ fitT Sf S t1 x ∧ TyIn Sf S x ∧ IvP Sf it S [] hs ∧ Q (n + 1) (m + 1) S [] hs
def gOUT (M0 T0 Sf : gSt) (n1 it : Nat) (Q : Nat → Nat → gSt → List Int32 → List HD → Prop) (n m : Nat) (S : gSt) (st : List Int32) (hs : List HD) : Prop := ∃ b c e x y, rwC4 M0 n = (29, b, c, e) ∧ cw3 T0 m = (7, x, y) ∧ st = [0] ∧ IvP Sf it S [] hs ∧ Q (n + 1) (m + 1) S [] hs
def gRZ (M0 T0 Sf : gSt) (n1 it : Nat) (Q : Nat → Nat → gSt → List Int32 → List HD → Prop) (n m : Nat) (S : gSt) (st : List Int32) (hs : List HD) : Prop := ∃ b c e x y s0, rwC4 M0 n = (30, b, c, e) ∧ cw3 T0 m = (56, x, y) ∧ st = 0 :: s0
def gDR (M0 T0 Sf : gSt) (n1 it : Nat) (Q : Nat → Nat → gSt → List Int32 → List HD → Prop) (n m : Nat) (S : gSt) (st : List Int32) (hs : List HD) : Prop := ∃ c e x y, rwC4 M0 n = (36, 1, c, e) ∧ cw3 T0 m = (5, nI (wS Sf x), y) ∧ st = [x] ∧ IvP Sf it S [] hs ∧ Q (n + 1) (m + 1) S [] hs
def gDR0 (M0 T0 Sf : gSt) (n1 it : Nat) (Q : Nat → Nat → gSt → List Int32 → List HD → Prop) (n m : Nat) (S : gSt) (st : List Int32) (hs : List HD) : Prop := ∃ c e y, rwC4 M0 n = (36, 0, c, e) ∧ cw3 T0 m = (5, 0, y) ∧ Q (n + 1) (m + 1) S st hs
def gENT (M0 T0 Sf : gSt) (n1 it : Nat) (Q : Nat → Nat → gSt → List Int32 → List HD → Prop) (n m : Nat) (S : gSt) (st : List Int32) (hs : List HD) : Prop := ∃ c i b e y S', rwC4 M0 n = (31, nI c, b, e) ∧ cw3 T0 m = (52, nI i, y) ∧ st = [] ∧ EntS Sf S S' (eN Sf it) c i ∧ IvP Sf it S' [] hs ∧ Q (n + 1) (m + 1) S' [] hs
def gSHT (M0 T0 Sf : gSt) (n1 it : Nat) (Q : Nat → Nat → gSt → List Int32 → List HD → Prop) (n m : Nat) (S : gSt) (st : List Int32) (hs : List HD) : Prop := ∃ c i q0 b e y S', rwC4 M0 n = (33, nI c, b, e) ∧ cw3 T0 m = (53, nI i, y) ∧ st = [] ∧ ShtS Sf S S' c q0 ∧ RgE (eN Sf it) S c i ∧ IvP Sf it S' [] hs ∧ Q (n + 1) (m + 1) S' [] hs
def gLVL (M0 T0 Sf : gSt) (n1 it : Nat) (Q : Nat → Nat → gSt → List Int32 → List HD → Prop) (n m : Nat) (S : gSt) (st : List Int32) (hs : List HD) : Prop := ∃ c i q0 b e y S1 S', rwC4 M0 n = (32, nI c, b, e) ∧ cw3 T0 m = (53, nI i, y) ∧ st = [] ∧ ShtS Sf S S1 c q0 ∧ RgE (eN Sf it) S c i ∧ IvP Sf it S1 [] hs ∧ LvsS Sf S1 S' c ∧ IvP Sf it S' [] hs ∧ Q (n + 1) (m + 1) S' [] hs
def gLVD (M0 T0 Sf : gSt) (n1 it : Nat) (Q : Nat → Nat → gSt → List Int32 → List HD → Prop) (n m : Nat) (S : gSt) (st : List Int32) (hs : List HD) : Prop := ∃ c b e S', rwC4 M0 n = (32, nI c, b, e) ∧ LvsS Sf S S' c ∧ st = [] ∧ IvP Sf it S' [] hs ∧ Q (n + 1) m S' [] hs
def gTRS (M0 T0 Sf : gSt) (n1 it : Nat) (Q : Nat → Nat → gSt → List Int32 → List HD → Prop) (n m : Nat) (S : gSt) (st : List Int32) (hs : List HD) : Prop := ∃ hx hy e y S' Sh, rwC4 M0 n = (34, nI hx, Sh.1 87 0, e) ∧ cw3 T0 m = (54, nI hy, y) ∧ st = [] ∧ TrsS Sf S S' Sh ∧ IvP Sf it S' [] ((hx, hy, Sh) :: hs) ∧ HdS T0 Sf n1 it (hx, hy, Sh) hs ∧ n < hx ∧ m < hy ∧ Q hx (hy + 1) Sh [] hs ∧ Q (n + 1) (m + 1) S' [] ((hx, hy, Sh) :: hs)
def gTRD (M0 T0 Sf : gSt) (n1 it : Nat) (Q : Nat → Nat → gSt → List Int32 → List HD → Prop) (n m : Nat) (S : gSt) (st : List Int32) (hs : List HD) : Prop := ∃ b c e x y hh tl S', rwC4 M0 n = (35, b, c, e) ∧ cw3 T0 m = (55, x, y) ∧ hs = hh :: tl ∧ TrdS Sf S S' ∧ IvP Sf it S' st tl ∧ Q (n + 1) (m + 1) S' st tl
def gBK (M0 T0 Sf : gSt) (n1 it : Nat) (Q : Nat → Nat → gSt → List Int32 → List HD → Prop) (n m : Nat) (S : gSt) (st : List Int32) (hs : List HD) : Prop := ∃ b c e nw y, rwC4 M0 n = (28, b, c, e) ∧ cw3 T0 m = (58, nI nw, y) ∧ ((Sf.1 25 it < 0 ∧ st = [] ∧ nw = 0) ∨ (0 ≤ Sf.1 25 it ∧ ∃ t1, st = [t1] ∧ nw = wS Sf t1 ∧ nw ≤ 3 ∧ fitT Sf S t1 (Sf.1 26 it) ∧ TyIn Sf S (Sf.1 26 it)))
/-- the rules -/
def GRu (M0 T0 Sf : gSt) (n1 it : Nat) (Q : Nat → Nat → gSt → List Int32 → List HD → Prop) (n m : Nat) (S : gSt) (st : List Int32) (hs : List HD) : Prop :=
  gSTEP M0 T0 Sf n1 it Q n m S st hs ∨ gEX M0 T0 Sf n1 it Q n m S st hs ∨ gCALL M0 T0 Sf n1 it Q n m S st hs ∨ gGOR M0 T0 Sf n1 it Q n m S st hs ∨ gGO M0 T0 Sf n1 it Q n m S st hs ∨ gIF M0 T0 Sf n1 it Q n m S st hs ∨ gIFN M0 T0 Sf n1 it Q n m S st hs ∨ gLIF M0 T0 Sf n1 it Q n m S st hs ∨ gLNS M0 T0 Sf n1 it Q n m S st hs ∨ gSTO M0 T0 Sf n1 it Q n m S st hs ∨ gPUT M0 T0 Sf n1 it Q n m S st hs ∨ gOUT M0 T0 Sf n1 it Q n m S st hs ∨ gRZ M0 T0 Sf n1 it Q n m S st hs ∨ gDR M0 T0 Sf n1 it Q n m S st hs ∨ gDR0 M0 T0 Sf n1 it Q n m S st hs ∨ gENT M0 T0 Sf n1 it Q n m S st hs ∨ gSHT M0 T0 Sf n1 it Q n m S st hs ∨ gLVL M0 T0 Sf n1 it Q n m S st hs ∨ gLVD M0 T0 Sf n1 it Q n m S st hs ∨ gTRS M0 T0 Sf n1 it Q n m S st hs ∨ gTRD M0 T0 Sf n1 it Q n m S st hs ∨ gBK M0 T0 Sf n1 it Q n m S st hs
/-- at place n, m: for k steps -/
def Gdk (M0 T0 Sf : gSt) (n1 it : Nat) : Nat → Nat → Nat → gSt → List Int32 → List HD → Prop
  | 0, _, _, _, _, _ => True
  | k + 1, n, m, S, st, hs => ∃ S0, WkT Sf S S0 ∧ IvP Sf it S0 st hs ∧ n < 12000 ∧ m < n1 ∧ (∀ h, h ∈ hs → n < h.1 ∧ m < h.2.1) ∧ GRu M0 T0 Sf n1 it (Gdk M0 T0 Sf n1 it k) n m S0 st hs
section STE
variable {M0 T0 Sf S : gSt} {n1 it n m k : Nat} {st : List Int32} {hs : List HD} {Q Q' : Nat → Nat → gSt → List Int32 → List HD → Prop}
theorem GRu.mo (hQ : ∀ n m S st hs, Q n m S st hs → Q' n m S st hs) (h : GRu M0 T0 Sf n1 it Q n m S st hs) : GRu M0 T0 Sf n1 it Q' n m S st hs := by
  unfold GRu at h ⊢
  rcases h with h | h | h | h | h | h | h | h | h | h | h | h | h | h | h | h | h | h | h | h | h | h
  · obtain ⟨x0, y0, y1, y2, y3⟩ := h
    exact Or.inl ⟨x0, y0, y1, y2, hQ _ _ _ _ _ y3⟩
  · obtain ⟨x0, x1, y0, y1, y2, y3, y4, y5⟩ := h
    exact Or.inr (Or.inl ⟨x0, x1, y0, y1, y2, y3, y4, hQ _ _ _ _ _ y5⟩)
  · obtain ⟨x0, x1, y0, y1, y2, y3, y4, y5, y6⟩ := h
    exact Or.inr (Or.inr (Or.inl ⟨x0, x1, y0, y1, y2, y3, y4, y5, hQ _ _ _ _ _ y6⟩))
  · obtain ⟨x0, x1, x2, y0, y1, y2, y3⟩ := h
    exact Or.inr (Or.inr (Or.inr (Or.inl ⟨x0, x1, x2, y0, y1, y2, hQ _ _ _ _ _ y3⟩)))
  · obtain ⟨x0, x1, x2, x3, x4, y0, y1, y2, y3, y4, y5⟩ := h
    exact Or.inr (Or.inr (Or.inr (Or.inr (Or.inl ⟨x0, x1, x2, x3, x4, y0, y1, y2, y3, y4, hQ _ _ _ _ _ y5⟩))))
  · obtain ⟨x0, x1, x2, x3, x4, y0, y1, y2, y3, y4, y5, y6, y7, y8, y9⟩ := h
    exact Or.inr (Or.inr (Or.inr (Or.inr (Or.inr (Or.inl ⟨x0, x1, x2, x3, x4, y0, y1, y2, y3, y4, y5, y6, y7, hQ _ _ _ _ _ y8, hQ _ _ _ _ _ y9⟩)))))
  · obtain ⟨x0, x1, x2, x3, x4, x5, x6, y0, y1, y2, y3, y4, y5, y6, y7, y8, y9, y10⟩ := h
    exact Or.inr (Or.inr (Or.inr (Or.inr (Or.inr (Or.inr (Or.inl ⟨x0, x1, x2, x3, x4, x5, x6, y0, y1, y2, y3, y4, y5, y6, y7, y8, hQ _ _ _ _ _ y9, hQ _ _ _ _ _ y10⟩))))))
  · obtain ⟨x0, x1, x2, x3, x4, x5, x6, x7, x8, x9, y0, y1, y2, y3, y4, y5, y6, y7, y8, y9, y10, y11, y12, y13, y14, y15, y16, y17⟩ := h
    exact Or.inr (Or.inr (Or.inr (Or.inr (Or.inr (Or.inr (Or.inr (Or.inl ⟨x0, x1, x2, x3, x4, x5, x6, x7, x8, x9, y0, y1, y2, y3, y4, y5, y6, y7, y8, y9, y10, y11, y12, y13, y14, y15, hQ _ _ _ _ _ y16, hQ _ _ _ _ _ y17⟩)))))))
  · obtain ⟨x0, x1, x2, x3, x4, x5, x6, x7, x8, x9, x10, x11, x12, x13, x14, x15, x16, x17, x18, y0, y1, y2, y3, y4, y5, y6, y7, y8, y9, y10, y11, y12, y13, y14, y15, y16, y17, y18, y19, y20, y21⟩ := h
    exact Or.inr (Or.inr (Or.inr (Or.inr (Or.inr (Or.inr (Or.inr (Or.inr (Or.inl ⟨x0, x1, x2, x3, x4, x5, x6, x7, x8, x9, x10, x11, x12, x13, x14, x15, x16, x17, x18, y0, y1, y2, y3, y4, y5, y6, y7, y8, y9, y10, y11, y12, y13, y14, y15, y16, y17, y18, y19, hQ _ _ _ _ _ y20, hQ _ _ _ _ _ y21⟩))))))))
  · obtain ⟨x0, x1, x2, x3, x4, x5, x6, x7, y0, y1, y2, y3, y4, y5, y6⟩ := h
    exact Or.inr (Or.inr (Or.inr (Or.inr (Or.inr (Or.inr (Or.inr (Or.inr (Or.inr (Or.inl ⟨x0, x1, x2, x3, x4, x5, x6, x7, y0, y1, y2, y3, y4, y5, hQ _ _ _ _ _ y6⟩)))))))))
  · obtain ⟨x0, x1, x2, x3, y0, y1, y2, y3, y4, y5, y6, y7⟩ := h
    exact Or.inr (Or.inr (Or.inr (Or.inr (Or.inr (Or.inr (Or.inr (Or.inr (Or.inr (Or.inr (Or.inl ⟨x0, x1, x2, x3, y0, y1, y2, y3, y4, y5, y6, hQ _ _ _ _ _ y7⟩))))))))))
  · obtain ⟨x0, x1, x2, x3, x4, y0, y1, y2, y3, y4⟩ := h
    exact Or.inr (Or.inr (Or.inr (Or.inr (Or.inr (Or.inr (Or.inr (Or.inr (Or.inr (Or.inr (Or.inr (Or.inl ⟨x0, x1, x2, x3, x4, y0, y1, y2, y3, hQ _ _ _ _ _ y4⟩)))))))))))
  · obtain ⟨x0, x1, x2, x3, x4, x5, y0, y1, y2⟩ := h
    exact Or.inr (Or.inr (Or.inr (Or.inr (Or.inr (Or.inr (Or.inr (Or.inr (Or.inr (Or.inr (Or.inr (Or.inr (Or.inl ⟨x0, x1, x2, x3, x4, x5, y0, y1, y2⟩))))))))))))
  · obtain ⟨x0, x1, x2, x3, y0, y1, y2, y3, y4⟩ := h
    exact Or.inr (Or.inr (Or.inr (Or.inr (Or.inr (Or.inr (Or.inr (Or.inr (Or.inr (Or.inr (Or.inr (Or.inr (Or.inr (Or.inl ⟨x0, x1, x2, x3, y0, y1, y2, y3, hQ _ _ _ _ _ y4⟩)))))))))))))
  · obtain ⟨x0, x1, x2, y0, y1, y2⟩ := h
    exact Or.inr (Or.inr (Or.inr (Or.inr (Or.inr (Or.inr (Or.inr (Or.inr (Or.inr (Or.inr (Or.inr (Or.inr (Or.inr (Or.inr (Or.inl ⟨x0, x1, x2, y0, y1, hQ _ _ _ _ _ y2⟩))))))))))))))
  · obtain ⟨x0, x1, x2, x3, x4, x5, y0, y1, y2, y3, y4, y5⟩ := h
    exact Or.inr (Or.inr (Or.inr (Or.inr (Or.inr (Or.inr (Or.inr (Or.inr (Or.inr (Or.inr (Or.inr (Or.inr (Or.inr (Or.inr (Or.inr (Or.inl ⟨x0, x1, x2, x3, x4, x5, y0, y1, y2, y3, y4, hQ _ _ _ _ _ y5⟩)))))))))))))))
  · obtain ⟨x0, x1, x2, x3, x4, x5, x6, y0, y1, y2, y3, y4, y5, y6⟩ := h
    exact Or.inr (Or.inr (Or.inr (Or.inr (Or.inr (Or.inr (Or.inr (Or.inr (Or.inr (Or.inr (Or.inr (Or.inr (Or.inr (Or.inr (Or.inr (Or.inr (Or.inl ⟨x0, x1, x2, x3, x4, x5, x6, y0, y1, y2, y3, y4, y5, hQ _ _ _ _ _ y6⟩))))))))))))))))
  · obtain ⟨x0, x1, x2, x3, x4, x5, x6, x7, y0, y1, y2, y3, y4, y5, y6, y7, y8⟩ := h
    exact Or.inr (Or.inr (Or.inr (Or.inr (Or.inr (Or.inr (Or.inr (Or.inr (Or.inr (Or.inr (Or.inr (Or.inr (Or.inr (Or.inr (Or.inr (Or.inr (Or.inr (Or.inl ⟨x0, x1, x2, x3, x4, x5, x6, x7, y0, y1, y2, y3, y4, y5, y6, y7, hQ _ _ _ _ _ y8⟩)))))))))))))))))
  · obtain ⟨x0, x1, x2, x3, y0, y1, y2, y3, y4⟩ := h
    exact Or.inr (Or.inr (Or.inr (Or.inr (Or.inr (Or.inr (Or.inr (Or.inr (Or.inr (Or.inr (Or.inr (Or.inr (Or.inr (Or.inr (Or.inr (Or.inr (Or.inr (Or.inr (Or.inl ⟨x0, x1, x2, x3, y0, y1, y2, y3, hQ _ _ _ _ _ y4⟩))))))))))))))))))
  · obtain ⟨x0, x1, x2, x3, x4, x5, y0, y1, y2, y3, y4, y5, y6, y7, y8, y9⟩ := h
    exact Or.inr (Or.inr (Or.inr (Or.inr (Or.inr (Or.inr (Or.inr (Or.inr (Or.inr (Or.inr (Or.inr (Or.inr (Or.inr (Or.inr (Or.inr (Or.inr (Or.inr (Or.inr (Or.inr (Or.inl ⟨x0, x1, x2, x3, x4, x5, y0, y1, y2, y3, y4, y5, y6, y7, hQ _ _ _ _ _ y8, hQ _ _ _ _ _ y9⟩)))))))))))))))))))
  · obtain ⟨x0, x1, x2, x3, x4, x5, x6, x7, y0, y1, y2, y3, y4, y5⟩ := h
    exact Or.inr (Or.inr (Or.inr (Or.inr (Or.inr (Or.inr (Or.inr (Or.inr (Or.inr (Or.inr (Or.inr (Or.inr (Or.inr (Or.inr (Or.inr (Or.inr (Or.inr (Or.inr (Or.inr (Or.inr (Or.inl ⟨x0, x1, x2, x3, x4, x5, x6, x7, y0, y1, y2, y3, y4, hQ _ _ _ _ _ y5⟩))))))))))))))))))))
  · obtain ⟨x0, x1, x2, x3, x4, y0, y1, y2⟩ := h
    exact Or.inr (Or.inr (Or.inr (Or.inr (Or.inr (Or.inr (Or.inr (Or.inr (Or.inr (Or.inr (Or.inr (Or.inr (Or.inr (Or.inr (Or.inr (Or.inr (Or.inr (Or.inr (Or.inr (Or.inr (Or.inr (⟨x0, x1, x2, x3, x4, y0, y1, y2⟩)))))))))))))))))))))
theorem Gdk.dn : ∀ (k n m : Nat) (S : gSt) (st : List Int32) (hs : List HD), Gdk M0 T0 Sf n1 it (k + 1) n m S st hs → Gdk M0 T0 Sf n1 it k n m S st hs := by
  intro k
  induction k with
  | zero => intro n m S st hs _; trivial
  | succ k ih =>
    intro n m S st hs h
    obtain ⟨S0, h1, h2, h3, h4, h5, h6⟩ := h
    exact ⟨S0, h1, h2, h3, h4, h5, GRu.mo ih h6⟩
theorem Gdk.le {j : Nat} (h : Gdk M0 T0 Sf n1 it k n m S st hs) (hj : j ≤ k) : Gdk M0 T0 Sf n1 it j n m S st hs := by
  obtain ⟨d, e⟩ := Nat.exists_eq_add_of_le hj
  subst e
  induction d with
  | zero => exact h
  | succ d ih => exact ih (Gdk.dn _ _ _ _ _ _ h) (by omega)
theorem WkS.tr {S1 S2 S3 : gSt} (h : WkS Sf S1 S2) (h2 : WkS Sf S2 S3) : WkS Sf S1 S3 := by
  obtain ⟨⟨a1, a2, a3, a4, a5, a6, a7⟩, a8⟩ := h
  obtain ⟨⟨b1, b2, b3, b4, b5, b6, b7⟩, b8⟩ := h2
  have ea : arn S2 = arn S1 := by unfold arn; rw [a3]
  refine ⟨⟨b1.trans a1, fun k hk => (b2 k (by omega)).trans (a2 k hk), b3.trans a3, fun q hq => (b4 q (by omega)).trans (a4 q hq), b5.trans a5, b6.trans a6, b7.trans a7⟩, fun u s hu => ?_⟩
  obtain ⟨c1, c2, c3, c4⟩ := b8 u s hu
  obtain ⟨d1, d2, d3, d4⟩ := a8 u s c1
  exact ⟨d1, d2.trans c2, d3.trans c3, fun w => d4 (c4 w)⟩
theorem WkS.rf : WkS Sf S S := ⟨⟨rfl, fun _ _ => rfl, rfl, fun _ _ => rfl, rfl, rfl, rfl⟩, fun _ _ h => ⟨h, rfl, rfl, fun w => w⟩⟩
theorem WkS.t {S1 S2 : gSt} (h : WkS Sf S1 S2) : WkT Sf S1 S2 := by
  obtain ⟨⟨a1, a2, a3, a4, a5, a6, a7⟩, a8⟩ := h
  exact ⟨⟨a1, a2, a3, a4, a5, a6, Or.inl a7⟩, a8⟩
theorem WkT.tr {S1 S2 S3 : gSt} (h : WkT Sf S1 S2) (h2 : WkT Sf S2 S3) : WkT Sf S1 S3 := by
  obtain ⟨⟨a1, a2, a3, a4, a5, a6, a7⟩, a8⟩ := h
  obtain ⟨⟨b1, b2, b3, b4, b5, b6, b7⟩, b8⟩ := h2
  have ea : arn S2 = arn S1 := by unfold arn; rw [a3]
  refine ⟨⟨b1.trans a1, fun k hk => (b2 k (by omega)).trans (a2 k hk), b3.trans a3, fun q hq => (b4 q (by omega)).trans (a4 q hq), b5.trans a5, b6.trans a6, ?_⟩, fun u s hu => ?_⟩
  · rcases a7 with a7 | ⟨a, b, a7, c1, c2, c3⟩
    · rw [a7] at b7; exact b7
    · rcases b7 with b7 | ⟨a', b', b7, d1, d2, d3⟩
      · exact Or.inr ⟨a, b, b7.trans a7, c1, c2, c3⟩
      · have e : a = b' := nI_inj (by omega) (by omega) (a7.symm.trans d1)
        exact Or.inr ⟨a', b, b7, c1, by omega, c3⟩
  · obtain ⟨c1, c2, c3, c4⟩ := b8 u s hu
    obtain ⟨d1, d2, d3, d4⟩ := a8 u s c1
    exact ⟨d1, d2.trans c2, d3.trans c3, fun w => d4 (c4 w)⟩
theorem WkT.rf : WkT Sf S S := WkS.rf.t
theorem Gdk.wt {S' : gSt} (h : Gdk M0 T0 Sf n1 it k n m S' st hs) (hw : WkT Sf S S') : Gdk M0 T0 Sf n1 it k n m S st hs := by
  cases k with
  | zero => trivial
  | succ k =>
    obtain ⟨S0, h1, h2⟩ := h
    exact ⟨S0, hw.tr h1, h2⟩
theorem Gdk.wk {S' : gSt} (h : Gdk M0 T0 Sf n1 it k n m S' st hs) (hw : WkS Sf S S') : Gdk M0 T0 Sf n1 it k n m S st hs := h.wt hw.t
end STE
section STE2
variable {M0 T0 Sf S' : gSt} {G : GH} {D : Nat → (Nat → AV) × Nat} {nb mk na ng P W Dp : Nat} {rg : Nat → Nat} {M T : gSt} {Fr : Nat → FRM}
theorem Sim.wt (hR : Rws Sf) (hc : cn Sf ≤ 6000) (h : Sim M0 T0 Sf G D nb mk rg na ng P W Fr Dp M T) (hw : WkT Sf (fS (Fr Dp)) S') (hI : IvP Sf (fit (Fr Dp)) S' (fst' (Fr Dp)) (fhs (Fr Dp))) : Sim M0 T0 Sf G D nb mk rg na ng P W (updF Fr Dp (mkF S' (fρ (Fr Dp)) (fva (Fr Dp)) (fst' (Fr Dp)) (fov (Fr Dp)) (fhs (Fr Dp)) (fit (Fr Dp)) (fn (Fr Dp)) (fm (Fr Dp)) (fbs (Fr Dp)) (fph (Fr Dp)) (frb (Fr Dp)) (ftb (Fr Dp)) (fie (Fr Dp)))) Dp M T := by
  obtain ⟨fr, iv⟩ := h.fr
  obtain ⟨⟨q1, q2, q3, q4, q5, q6, q7⟩, hv⟩ := hw
  have rr : PfR S' (fS (Fr Dp)) := by
    have ar : arn S' = arn (fS (Fr Dp)) := by unfold arn; rw [q3]
    exact ⟨by omega, fun k hk => q2 k (by omega), by omega, fun q hq => ⟨q4 q (by omega), by unfold isLv; rw [q5]⟩, fun c _ => by unfold isLv; rw [q5], q6⟩
  have ar : arn S' = arn (fS (Fr Dp)) := by unfold arn; rw [q3]
  have lve : lvc S' (arn S') = lvc (fS (Fr Dp)) (arn (fS (Fr Dp))) := by rw [lvc_pf rr _ (Nat.le_refl _), ar]
  have hS := h
  obtain ⟨a1, ⟨a2, a3, a4⟩, a5, a6, a7, a8, a9, a10⟩ := h
  obtain ⟨y1, y2, y3, y4, y5, y6, y7⟩ := a6
  obtain ⟨f1, f2, f3, f4, f5, f6⟩ := fr
  refine Sim.set hR hc hS a1 (fun _ _ w => w) (fun _ _ => rfl) (Nat.le_refl _) ⟨fun u j hu => ?_, f2, RgO.pf f3 rr (fun _ _ w => w) (fun _ _ => rfl) (fun _ _ => rfl), ?_, f5, f6⟩ hI rfl rfl rfl rfl ⟨y1, y2, ?_, y4, y5, y6, y7⟩ rfl rfl rfl (fun _ _ _ => rfl) (fun _ _ => rfl) (fun _ _ => rfl) (fun _ _ => rfl) a7 a8 a9
  · obtain ⟨v1, v2, v3, v4⟩ := hv u j hu
    obtain ⟨z1, z2, z3, z4⟩ := f1 u j v1
    show VT G nb rg na ng (fva (Fr Dp) j) (gty Sf (fρ (Fr Dp)) (S'.1 80 u)) ∧ _ ∧ (∀ i, i < wv (fva (Fr Dp) j) → T.1 99 (fbs (Fr Dp) + slV Sf S' u + i) = CW G (fva (Fr Dp) j) i) ∧ (fi (S'.1 82 0) j = true → (∃ p, rowP Sf (S'.1 80 u) p ∧ Sf.1 66 p = 2) → 1 ≤ (fva (Fr Dp) j).2.1)
    rw [← v2, ← v3]
    exact ⟨z1, z2, z3, fun hf hp => z4 (v4 hf) hp⟩
  · obtain ⟨c, k1, k2, k3⟩ := f4
    rcases q7 with q7 | ⟨a, b, q7, w1, w2, w3⟩
    · exact ⟨c, q7.trans k1, k2, k3⟩
    · have e : c = b := nI_inj (by omega) (by omega) (k1.symm.trans w1)
      exact ⟨a, q7, by omega, fun k h1 h2 => k3 k h1 (by omega)⟩
  · show na = frb (Fr Dp) + lvc S' (arn S')
    rw [lve]
    exact y3
end STE2
