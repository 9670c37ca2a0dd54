/-! what an EXPR is found to be: its type, that of its left part, notes for its code, the state behind it -/
abbrev ChR : Type := Int32 × Int32 × List T5 × gSt
def vn (T : gSt) : Nat := (T.1 77 0).toNatClampNeg
def inn (T : gSt) : Nat := (T.1 11 0).toNatClampNeg
def tf (T : gSt) (g : Nat) (t : Int32) : Int32 := T.1 g t.toNatClampNeg
def j1 (a b c d e : Int32) : T5 := (a, b, c, d, e)
def plT (X : Lx) (t : Tr) : Int32 := nI (xP X (bgT t))
/-- a name: its type, its slot -/
def nmC (T : gSt) (nm : Int64) (pl : Int32) : Int32 × Int32 × gSt :=
  if 0 ≤ fd (isVa T nm) (vn T) then
    (if ((T.1 81 0 >>> (tf T 79 (fd (isVa T nm) (vn T)) &&& 31)) &&& 1) = 0 then (0, 0, flT T 6 pl)
    else if 0 < tf T 80 (fd (isVa T nm) (vn T)) ∧ tf T 66 (tf T 80 (fd (isVa T nm) (vn T))) = 2 ∧ ((T.1 82 0 >>> (tf T 79 (fd (isVa T nm) (vn T)) &&& 31)) &&& 1) = 1 then
      (knR T (1, tf T 67 (tf T 80 (fd (isVa T nm) (vn T))), tf T 68 (tf T 80 (fd (isVa T nm) (vn T))), tf T 69 (tf T 80 (fd (isVa T nm) (vn T))), tf T 70 (tf T 80 (fd (isVa T nm) (vn T)))), tf T 79 (fd (isVa T nm) (vn T)), knS T (1, tf T 67 (tf T 80 (fd (isVa T nm) (vn T))), tf T 68 (tf T 80 (fd (isVa T nm) (vn T))), tf T 69 (tf T 80 (fd (isVa T nm) (vn T))), tf T 70 (tf T 80 (fd (isVa T nm) (vn T)))))
    else (tf T 80 (fd (isVa T nm) (vn T)), tf T 79 (fd (isVa T nm) (vn T)), T))
  else (0, 0, flT T 3 pl)
/-- through a pointer (kd 14 . 16 ^ 17 is): what is there, which field -/
def thOk (T : gSt) (kd t : Int32) : Bool := if kd = 16 then decide (¬ isPt T t = 0 ∧ ¬ 0 ≤ tf T 69 t) else decide (¬ isTd T t = 0 ∧ (kd = 17 → T.1 12 (tf T 69 t).toNatClampNeg = 1))
def fnF (T : gSt) (i : Int32) (nm : Int64) : Int32 := ff (isFi T (T.1 18 i.toNatClampNeg).toNatClampNeg nm) 0 (T.1 19 i.toNatClampNeg).toNatClampNeg
def fty (T : gSt) (i f : Int32) : Int32 := T.1 24 (T.1 18 i.toNatClampNeg + f).toNatClampNeg
def nuS (T : gSt) (t : Int32) : gSt := sI T 88 0 (T.1 88 0 + (if tf T 66 t = 2 then 1 else 0))
def tgS (T : gSt) (i : Int32) : gSt := sI T 90 0 (T.1 90 0 + (if T.1 12 i.toNatClampNeg = 1 then 1 else 0))
def thC (T : gSt) (kd t : Int32) (nm : Int64) (pl pn : Int32) : Int32 × Int32 × gSt :=
  if thOk T kd t = true then (if isLv T (tf T 67 t) = 0 then (0, 0, flT T 5 pl)
    else if kd = 16 then (tf T 68 t, 0, nuS T t)
    else if 0 ≤ fnF T (tf T 69 t) nm then (if kd = 17 then (0, fnF T (tf T 69 t) nm, nuS T t)
      else ((chT 7 (tgS (nuS T t) (tf T 69 t)) (fty T (tf T 69 t) (fnF T (tf T 69 t) nm)) (tf T 70 t)).1, fnF T (tf T 69 t) nm, (chT 7 (tgS (nuS T t) (tf T 69 t)) (fty T (tf T 69 t) (fnF T (tf T 69 t) nm)) (tf T 70 t)).2))
    else (0, 0, flT (nuS T t) 3 pn))
  else (0, 0, flT T 4 pl)
/-- an element of a row -/
def ixC (T : gSt) (t u pl pr : Int32) : Int32 × gSt := if isRo T t = 0 then (0, flT T 4 pl) else if isLv T (tf T 67 t) = 0 then (0, flT T 5 pl) else if u = 0 then (tf T 68 t, sI T 89 0 (T.1 89 0 + 1)) else (0, flT T 4 pr)
def opC (T : gSt) (sg l r pl pr : Int32) : Int32 × gSt :=
  if sg = 43 ∧ ¬ isRo T l = 0 ∧ r = 0 then (l, T)
  else if sg = 256 ∧ (l = -2 ∨ ¬ isPt T l = 0) ∧ (r = -2 ∨ ¬ isPt T r = 0) then
    (if l = -2 ∨ r = -2 then (0, T) else if ¬ sameC T l r = 0 ∧ (¬ dOv T (tf T 67 l) (tf T 67 r) = 0 ∨ ¬ dOv T (tf T 67 r) (tf T 67 l) = 0) then (if isLv T (tf T 67 l) = 0 then (0, flT T 5 pl) else if isLv T (tf T 67 r) = 0 then (0, flT T 5 pr) else (0, T)) else (0, flT T 4 pr))
  else if l = 0 then (if r = 0 then (0, T) else (0, flT T 4 pr)) else (0, flT T 4 pl)
/-- kinds of nodes -/
def tkd (X : Lx) : Tr → Nat
  | .add (.add (.var k) (.add (.var i) (.var e))) (.add a _) => if k = 2 then tkd X a else if k = 1 then (if xK X i = 5 then 0 else if xK X i = 27 then 1 else if xK X i = 34 then 2 else if xK X i = 35 then 3 else 4) else if k = 3 then (if xK X i = 49 then 14 else if xK X i = 61 then 16 else 17) else if k = 4 then 15 else if k = 5 then 13 else if k = 6 then 5 else if k = 7 then (if xK X (i + 3 + e) = 49 then 7 else 6) else if k = 8 then (if xK X i = 29 then 8 else if xK X i = 30 then 9 else if xK X i = 31 then 11 else 12) else if k = 9 then 10 else 30
  | _ => 30
def mkS (T : gSt) : gSt := sI T 91 0 (T.1 91 0 + 1)
/-- the dead and the where of a call -/
def cddS (X : Lx) (fi all : Int32) (q : Nat) : Nat → Nat → gSt → gSt
  | 0, _, T => T
  | m + 1, k, T => if T.1 7 0 = 0 then cddS X fi all q m (k + 1) (if ((T.1 30 fi.toNatClampNeg >>> ((nI k + 1) &&& 31)) &&& 1) = 0 ∧ isLv T (ptOf all (nI k)) = 0 then flT T 5 (nI (xP X (q + k))) else T) else T
def isRi (T : gSt) (i : Nat) (nm : Int64) (k : Nat) : Bool := decide (T.2 16 (3 * i + k) = nm)
def roI (T : gSt) (i : Nat) (nm : Int64) : Int32 := if ff (isRi T i nm) 0 (T.1 15 i).toNatClampNeg = -1 then -1 else ff (isRi T i nm) 0 (T.1 15 i).toNatClampNeg + 1
def cwhS (X : Lx) (fi all : Int32) (q : Nat) : Nat → Nat → gSt → gSt
  | 0, _, T => T
  | m + 1, k, T => if T.1 7 0 = 0 then cwhS X fi all q m (k + 1) (if dOv T (ptOf all (roI T fi.toNatClampNeg (T.2 32 (6 * fi.toNatClampNeg + 2 * k)) - 1)) (ptOf all (roI T fi.toNatClampNeg (T.2 32 (6 * fi.toNatClampNeg + 2 * k + 1)) - 1)) = 0 then flT T 5 (nI (xP X (q + (roI T fi.toNatClampNeg (T.2 32 (6 * fi.toNatClampNeg + 2 * k))).toNatClampNeg - 1))) else T) else T
abbrev ChF : Type := Nat → Int32 → gSt → ChR
/-- one argument and those behind it -/
def agC (X : Lx) (A B : ChF) (a : Tr) (f : Nat) (w : Int32) (T : gSt) : ChR :=
  if (A 0 0 T).2.2.2.1 7 0 = 0 then
    (0, 0, (A 0 0 T).2.2.1 ++ (B (f + 1) w (ftS (chT 7 (A 0 0 T).2.2.2 ((A 0 0 T).2.2.2.1 24 f) w).2 (A 0 0 T).1 (chT 7 (A 0 0 T).2.2.2 ((A 0 0 T).2.2.2.1 24 f) w).1 (plT X a))).2.2.1, (B (f + 1) w (ftS (chT 7 (A 0 0 T).2.2.2 ((A 0 0 T).2.2.2.1 24 f) w).2 (A 0 0 T).1 (chT 7 (A 0 0 T).2.2.2 ((A 0 0 T).2.2.2.1 24 f) w).1 (plT X a))).2.2.2)
  else (0, 0, [], (A 0 0 T).2.2.2)
def erR (T : gSt) : ChR := (0, 0, [], T)
/-- a call, from its state with the regions read -/
def clD (X : Lx) (A : ChF) (a : Tr) (i e : Nat) (fi all : Int32) (T : gSt) : ChR × gSt :=
  let T1 := if nI (lenT a) = T.1 19 fi.toNatClampNeg then T else flT T 7 (nI (xP X i))
  let R := if T1.1 7 0 = 0 then A (T1.1 18 fi.toNatClampNeg).toNatClampNeg all T1 else erR T1
  (R, cwhS X fi all (i + 1) (R.2.2.2.1 31 fi.toNatClampNeg).toNatClampNeg 0 (cddS X fi all (i + 1) e 0 R.2.2.2))
def clC (X : Lx) (A : ChF) (a : Tr) (i e : Nat) (T : gSt) : ChR :=
  let fi := ff (isFu T (xN X i)) 0 (inn T)
  let T1 := if 0 ≤ fi then (if T.1 15 fi.toNatClampNeg = nI e then T else flT T 7 (nI (xP X i))) else flT T 3 (nI (xP X i))
  let W := waX X (if T1.1 7 0 = 0 then e else 0) T1 (i + 1) 0 0
  if W.2.1 7 0 = 0 then
    let D := clD X A a i e fi W.1 W.2
    if D.2.1 7 0 = 0 then (if 0 ≤ D.2.1 25 fi.toNatClampNeg then ((chT 7 D.2 (D.2.1 26 fi.toNatClampNeg) W.1).1, 0, D.1.2.2.1 ++ [j1 18 fi W.1 (chT 7 D.2 (D.2.1 26 fi.toNatClampNeg) W.1).1 (nI e)], (chT 7 D.2 (D.2.1 26 fi.toNatClampNeg) W.1).2)
      else (-1, 0, D.1.2.2.1 ++ [j1 18 fi W.1 (-1) (nI e)], D.2))
    else erR D.2
  else erR W.2
/-- new, from its state with the regions read -/
def nwD (X : Lx) (A : ChF) (a : Tr) (i e : Nat) (r ti all : Int32) (T : gSt) : ChR :=
  let un : Int32 := if xK X (i + 3 + e) = 49 then 1 else 0
  let T1 := if T.1 12 ti.toNatClampNeg = un then (if un = 0 then (if nI (lenT a) = T.1 19 ti.toNatClampNeg then T else flT T 7 (nI (xP X (i + 2)))) else T) else flT T 7 (nI (xP X (i + 3 + e)))
  if T1.1 7 0 = 0 then
    (if un = 0 then
      let R := A (T1.1 18 ti.toNatClampNeg).toNatClampNeg all T1
      if R.2.2.2.1 7 0 = 0 then (knR (mkS R.2.2.2) (1, r, -1, ti, all), 0, R.2.2.1 ++ [j1 16 r (knR (mkS R.2.2.2) (1, r, -1, ti, all)) 0 0], knS (mkS R.2.2.2) (1, r, -1, ti, all)) else erR R.2.2.2
    else
      let f := fnF T1 ti (xN X (i + 3 + e + 1))
      if 0 ≤ f then
        let R := A 0 0 T1
        let C := chT 7 R.2.2.2 (fty R.2.2.2 ti f) all
        let T2 := ftS C.2 R.1 C.1 (plT X a)
        if T2.1 7 0 = 0 then (knR (mkS T2) (1, r, -1, ti, all), 0, R.2.2.1 ++ [j1 17 r (knR (mkS T2) (1, r, -1, ti, all)) f 0], knS (mkS T2) (1, r, -1, ti, all)) else erR T2
      else erR (flT T1 3 (nI (xP X (i + 3 + e + 1)))))
  else erR T1
def nwC (X : Lx) (A : ChF) (a : Tr) (i e : Nat) (T : gSt) : ChR :=
  let T0 := slS X T (i + 1)
  if T0.1 7 0 = 0 then
    let ti := ff (isTi T0 (xN X (i + 2))) 0 (inn T0)
    let T1 := if 0 ≤ ti then (if T0.1 15 ti.toNatClampNeg = nI e then T0 else flT T0 7 (nI (xP X (i + 2)))) else flT T0 3 (nI (xP X (i + 2)))
    let W := waX X e T1 (i + 3) 0 0
    if W.2.1 7 0 = 0 then nwD X A a i e (srR X T (i + 1)) ti W.1 W.2 else erR W.2
  else erR T0
/-- cell, row -/
def mdC (X : Lx) (A : ChF) (a : Tr) (kd r : Int32) (js : List T5) (T : gSt) : ChR :=
  let R := A 0 0 T
  let T1 := if R.2.2.2.1 7 0 = 0 ∧ ¬ 0 ≤ R.1 then flT R.2.2.2 4 (plT X a) else R.2.2.2
  if T1.1 7 0 = 0 then (knR (mkS T1) (kd, r, R.1, -1, 0), 0, js ++ R.2.2.1 ++ [j1 (if kd = 3 then 15 else 14) r R.1 (knR (mkS T1) (kd, r, R.1, -1, 0)) 0], knS (mkS T1) (kd, r, R.1, -1, 0)) else erR T1
def rwC (X : Lx) (A B : ChF) (a b : Tr) (i : Nat) (T : gSt) : ChR :=
  let T0 := slS X T (i + 1)
  if T0.1 7 0 = 0 then
    let R := A 0 0 T0
    mdC X B b 3 (srR X T (i + 1)) R.2.2.1 (if R.2.2.2.1 7 0 = 0 ∧ ¬ R.1 = 0 then flT R.2.2.2 4 (plT X a) else R.2.2.2)
  else erR T0
def anC (X : Lx) (A : ChF) (a : Tr) (T : gSt) : ChR :=
  if tkd X a = 14 ∨ tkd X a = 15 then
    let R := A 0 0 T
    if R.2.2.2.1 7 0 = 0 then
      (if tkd X a = 14 ∧ R.2.2.2.1 12 (tf R.2.2.2 69 R.2.1).toNatClampNeg = 1 then erR (flT R.2.2.2 4 (plT X a))
      else (knR R.2.2.2 (1, tf R.2.2.2 67 R.2.1, R.1, -1, 0), 0, R.2.2.1 ++ [j1 7 R.2.1 R.1 (knR R.2.2.2 (1, tf R.2.2.2 67 R.2.1, R.1, -1, 0)) 0], knS R.2.2.2 (1, tf R.2.2.2 67 R.2.1, R.1, -1, 0)))
    else erR R.2.2.2
  else erR (flT T 4 (plT X a))
def nnC (X : Lx) (A : ChF) (a : Tr) (T : gSt) : ChR :=
  let R := A 0 0 T
  if R.2.2.2.1 7 0 = 0 then
    (if isPt R.2.2.2 R.1 = 0 then erR (flT R.2.2.2 4 (plT X a))
    else (knR (nuS R.2.2.2 R.1) (1, tf R.2.2.2 67 R.1, tf R.2.2.2 68 R.1, tf R.2.2.2 69 R.1, tf R.2.2.2 70 R.1), 0, R.2.2.1 ++ [j1 12 R.1 (knR (nuS R.2.2.2 R.1) (1, tf R.2.2.2 67 R.1, tf R.2.2.2 68 R.1, tf R.2.2.2 69 R.1, tf R.2.2.2 70 R.1)) 0 0], knS (nuS R.2.2.2 R.1) (1, tf R.2.2.2 67 R.1, tf R.2.2.2 68 R.1, tf R.2.2.2 69 R.1, tf R.2.2.2 70 R.1)))
  else erR R.2.2.2
def szC (X : Lx) (A : ChF) (a : Tr) (T : gSt) : ChR :=
  let R := A 0 0 T
  if R.2.2.2.1 7 0 = 0 then (if isRo R.2.2.2 R.1 = 0 then erR (flT R.2.2.2 4 (plT X a)) else (0, 0, R.2.2.1 ++ [j1 13 R.1 0 0 0], R.2.2.2)) else erR R.2.2.2
def lfC (X : Lx) (i : Nat) (T : gSt) : ChR :=
  if xK X i = 5 then (0, 0, [j1 1 (xN X i).toInt32 0 0 0], T) else if xK X i = 27 then (-2, 0, [j1 2 0 0 0 0], T) else if xK X i = 34 then (0, 0, [j1 3 0 0 0 0], T)
  else if xK X i = 35 then (if T.1 87 0 = 0 then erR (flT T 8 (nI (xP X i))) else (0, 0, [j1 4 (T.1 87 0) 0 0 0], T))
  else ((nmC T (xN X i) (nI (xP X i))).1, 0, [j1 5 (nmC T (xN X i) (nI (xP X i))).2.1 (nmC T (xN X i) (nI (xP X i))).1 0 0], (nmC T (xN X i) (nI (xP X i))).2.2)
def tlK (X : Lx) (i : Nat) : Int32 := if xK X i = 49 then 14 else if xK X i = 61 then 16 else 17
def tlC (X : Lx) (A : ChF) (a : Tr) (i : Nat) (T : gSt) : ChR :=
  let R := A 0 0 T
  if R.2.2.2.1 7 0 = 0 then
    let C := thC R.2.2.2 (tlK X i) R.1 (xN X (i + 1)) (plT X a) (nI (xP X (i + 1)))
    (C.1, R.1, R.2.2.1 ++ [j1 (if xK X i = 49 then 6 else if xK X i = 61 then 10 else 11) C.2.1 R.1 C.1 0], C.2.2)
  else erR R.2.2.2
def exC (X : Lx) (A B : ChF) (a b : Tr) (T : gSt) : ChR :=
  let R := A 0 0 T
  if R.2.2.2.1 7 0 = 0 then
    let Q := B 0 0 R.2.2.2
    if Q.2.2.2.1 7 0 = 0 then
      let C := ixC Q.2.2.2 R.1 Q.1 (plT X a) (plT X b)
      (C.1, R.1, R.2.2.1 ++ Q.2.2.1 ++ [j1 8 R.1 C.1 0 0], C.2)
    else erR Q.2.2.2
  else erR R.2.2.2
def bnC (X : Lx) (A B : ChF) (a b : Tr) (sg : Int32) (T : gSt) : ChR :=
  let R := A 0 0 T
  if R.2.2.2.1 7 0 = 0 then
    let Q := B 0 0 R.2.2.2
    if Q.2.2.2.1 7 0 = 0 then
      let C := opC Q.2.2.2 sg R.1 Q.1 (plT X a) (plT X b)
      (C.1, R.1, R.2.2.1 ++ Q.2.2.1 ++ [j1 19 sg R.1 Q.1 C.1], C.2)
    else erR Q.2.2.2
  else erR R.2.2.2
def clLv (X : Lx) (A : ChF) (a : Tr) (i : Nat) (T : gSt) : ChR :=
  let T0 := slS X T (i + 1)
  mdC X A a 1 (srR X T (i + 1)) [] T0
def chN (X : Lx) (A B : ChF) (a b : Tr) (k i e f : Nat) (w : Int32) (T : gSt) : ChR :=
  if k = 1 then lfC X i T else if k = 2 then A 0 0 T else if k = 3 then tlC X A a i T else if k = 4 then exC X A B a b T else if k = 5 then bnC X A B a b (chK e) T
  else if k = 6 then clC X A a i e T else if k = 7 then nwC X A a i e T
  else if k = 8 then (if xK X i = 29 then clLv X A a i T else if xK X i = 30 then rwC X A B a b i T else if xK X i = 31 then nnC X A a T else szC X A a T)
  else if k = 9 then anC X A a T else agC X A B a f w T
def chk (X : Lx) : Tr → ChF
  | .add (.add (.var k) (.add (.var i) (.var e))) (.add a b), f, w, T => if T.1 7 0 = 0 then chN X (chk X a) (chk X b) a b k i e f w T else erR T
  | _, _, _, T => erR T
theorem chk_n {X : Lx} {k i e f : Nat} {a b : Tr} {w : Int32} {T : gSt} : chk X (tD k i e a b) f w T = if T.1 7 0 = 0 then chN X (chk X a) (chk X b) a b k i e f w T else erR T := rfl
theorem chk_z {X : Lx} {f : Nat} {w : Int32} {T : gSt} : chk X tZ f w T = erR T := rfl
theorem chk_bad {X : Lx} {t : Tr} {f : Nat} {w : Int32} {T : gSt} (h : ¬ T.1 7 0 = 0) : chk X t f w T = erR T := by
  unfold chk
  split
  · rw [if_neg h]
  · rfl
