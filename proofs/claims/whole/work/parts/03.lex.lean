def s_len : List Nat := [133, 0, 0, 22, 133, 22, 6, 5, 3, 3, 4, 5, 3, 4, 4, 6, 3, 3, 4, 2, 4, 2, 5, 2, 4, 6, 6, 5, 3, 5, 5, 5, 4]
def s_byt : List (List Int32) := [[115, 116, 114, 117, 99, 116, 32, 117, 110, 105, 111, 110, 32, 102, 117, 110, 32, 100, 101, 97, 100, 32, 119, 104, 101, 114, 101, 32, 118, 97, 114, 32, 105, 102, 32, 101, 108, 115, 101, 32, 119, 104, 105, 108, 101, 32, 114, 101, 116, 117, 114, 110, 32, 112, 114, 105, 110, 116, 32, 114, 101, 103, 105, 111, 110, 32, 99, 108, 111, 115, 101, 32, 116, 114, 121, 32, 99, 97, 116, 99, 104, 32, 116, 104, 114, 111, 119, 32, 105, 110, 116, 32, 110, 117, 108, 108, 32, 110, 101, 119, 32, 99, 101, 108, 108, 32, 114, 111, 119, 32, 110, 110, 32, 115, 105, 122, 101, 32, 105, 115, 32, 114, 101, 97, 100, 32, 99, 97, 117, 103, 104, 116, 32], [], [], [123, 125, 40, 41, 91, 93, 59, 44, 58, 46, 61, 60, 62, 43, 45, 42, 47, 37, 38, 64, 63, 94], [115, 116, 114, 117, 99, 116, 32, 117, 110, 105, 111, 110, 32, 102, 117, 110, 32, 100, 101, 97, 100, 32, 119, 104, 101, 114, 101, 32, 118, 97, 114, 32, 105, 102, 32, 101, 108, 115, 101, 32, 119, 104, 105, 108, 101, 32, 114, 101, 116, 117, 114, 110, 32, 112, 114, 105, 110, 116, 32, 114, 101, 103, 105, 111, 110, 32, 99, 108, 111, 115, 101, 32, 116, 114, 121, 32, 99, 97, 116, 99, 104, 32, 116, 104, 114, 111, 119, 32, 105, 110, 116, 32, 110, 117, 108, 108, 32, 110, 101, 119, 32, 99, 101, 108, 108, 32, 114, 111, 119, 32, 110, 110, 32, 115, 105, 122, 101, 32, 105, 115, 32, 114, 101, 97, 100, 32, 99, 97, 117, 103, 104, 116, 32], [123, 125, 40, 41, 91, 93, 59, 44, 58, 46, 61, 60, 62, 43, 45, 42, 47, 37, 38, 64, 63, 94], [115, 116, 114, 117, 99, 116], [117, 110, 105, 111, 110], [102, 117, 110], [105, 110, 116], [100, 101, 97, 100], [119, 104, 101, 114, 101], [118, 97, 114], [110, 117, 108, 108], [114, 101, 97, 100], [99, 97, 117, 103, 104, 116], [110, 101, 119], [114, 111, 119], [99, 101, 108, 108], [110, 110], [115, 105, 122, 101], [105, 115], [119, 104, 105, 108, 101], [105, 102], [101, 108, 115, 101], [114, 101, 116, 117, 114, 110], [114, 101, 103, 105, 111, 110], [99, 108, 111, 115, 101], [116, 114, 121], [99, 97, 116, 99, 104], [112, 114, 105, 110, 116], [116, 104, 114, 111, 119], [109, 97, 105, 110]]
/-- the k-th character of the i-th literal -/
def s_ch (i k : Nat) : Int32 := (s_byt.getD i []).getD k 0 &&& 255
/-- characters as one number -/
def pkd (f : Nat → Int32) (a : Nat) : Nat → Int64
  | 0 => 0
  | n + 1 => (pkd f a n <<< ((8 : Int32).toInt64 &&& 63)) ||| (f (a + n)).toInt64
def fillF (f : Nat → Int32) (v : Int32) (k : Nat) : Nat → Int32 := fun j => if j < k then v else f j
/-- bytes as characters, one after the other -/
def infF (g f : Nat → Int32) : Nat → Nat → Int32
  | 0 => f
  | k + 1 => upd (infF g f k) k (vp_nar .char (((g k &&& 255).toUInt32 % 65536).toInt32))
/-- the first place from i on, of k places, at which p holds; -1 if there is none -/
def ff (p : Nat → Bool) : Nat → Nat → Int32
  | _, 0 => -1
  | i, k + 1 => if p i = true then nI i else ff p (i + 1) k
/-- the last of k places at which p holds; -1 if there is none -/
def fd (p : Nat → Bool) : Nat → Int32
  | 0 => -1
  | k + 1 => if p k = true then nI k else fd p k
/-- the characters of a literal as one number -/
def pks (i : Nat) : Nat → Int64
  | 0 => 0
  | n + 1 => (pks i n <<< ((8 : Int32).toInt64 &&& 63)) ||| (s_ch i n).toInt64
/-- the word that is being read of the kept ones -/
def kcur : Nat → Int64
  | 0 => 0
  | k + 1 => if s_ch 4 k = 32 then 0 else (kcur k <<< ((8 : Int32).toInt64 &&& 63)) ||| (s_ch 4 k).toInt64
def khit (w : Int64) (k : Nat) : Bool := decide (s_ch 4 k = 32) && decide (kcur k = w)
def rq_up (x : Int32) : Int32 := if x = -1 then -1 else x + 1
abbrev cS (x : Int32) : Prop := 97 ≤ x ∧ x ≤ 122
abbrev cG (x : Int32) : Prop := 65 ≤ x ∧ x ≤ 90
abbrev cD (x : Int32) : Prop := 48 ≤ x ∧ x ≤ 57
abbrev cL (x : Int32) : Prop := (97 ≤ x ∧ x ≤ 122) ∨ (65 ≤ x ∧ x ≤ 90) ∨ (48 ≤ x ∧ x ≤ 57)
def dgs (f : Nat → Int32) (a : Nat) : Nat → Int32
  | 0 => 1
  | k + 1 => if dgs f a k = 0 then 0 else if cD (f (a + k)) then 1 else 0
def sml (f : Nat → Int32) (a : Nat) : Nat → Int32
  | 0 => 1
  | k + 1 => if sml f a k = 0 then 0 else if cG (f (a + k)) then 0 else 1
def nmb (f : Nat → Int32) (a : Nat) : Nat → Int32
  | 0 => 0
  | k + 1 => 10 * nmb f a k + f (a + k) - 48
/-- how many letters and digits stand from a on, of m characters -/
def rl (f : Nat → Int32) : Nat → Nat → Nat
  | _, 0 => 0
  | a, m + 1 => if cL (f a) then rl f (a + 1) m + 1 else 0
/-- the kind of a row of letters and digits: q with a ' ahead, n long, c first, all digits, none great, a kept word -/
def srt (q n c d s kept : Int32) : Int32 := if q = 0 then (if d = 0 then (if 8 < n then 0 else if cD c then 0 else if cG c then 3 else if s = 0 then 0 else if kept = 0 then 1 else 2) else if 10 ≤ n then 0 else 5)
  else if n = 1 then (if c = 72 then 4 else if n ≤ 0 then 0 else if 9 ≤ n then 0 else if s = 0 then 0 else if cS c then 4 else 0)
  else if n ≤ 0 then 0 else if 9 ≤ n then 0 else if s = 0 then 0 else if cS c then 4 else 0
/-- 6 if c is among the first signs, else 0 -/
def sgs (c : Int32) : Nat → Int32
  | 0 => 0
  | k + 1 => if s_ch 5 k = c then 6 else sgs c k
/-- how many blanks stand from a on, of m characters -/
def bs (f : Nat → Int32) : Nat → Nat → Nat
  | _, 0 => 0
  | a, m + 1 => if f a = 32 then bs f (a + 1) m + 1 else 0
/-- the token at q: where a row of letters begins, how long it is, its kind, where the next is looked for, its word and number -/
def tFR (f : Nat → Int32) (q : Nat) : Nat := if f q = 39 then q + 1 else q
def tN (f : Nat → Int32) (tz q : Nat) : Nat := rl f (tFR f q) (tz - tFR f q)
def tSort (f : Nat → Int32) (tz q : Nat) : Int32 := if tz ≤ q then 7 else if cL (f q) ∨ f q = 39 then srt (if f q = 39 then 1 else 0) (nI (tN f tz q)) (if nI (tFR f q) < nI tz then f (tFR f q) else -1) (dgs f (tFR f q) (tN f tz q)) (sml f (tFR f q) (tN f tz q)) (if ff (khit (pkd f (tFR f q) (tN f tz q))) 0 133 = -1 then 0 else 1) else sgs (f q) 22
def tAft (f : Nat → Int32) (tz q : Nat) : Nat := if tz ≤ q then q else if cL (f q) ∨ f q = 39 then tFR f q + tN f tz q else if f q = 61 ∧ (if nI (q + 1) < nI tz then f (q + 1) else -1) = 61 then q + 2 else q + 1
def tWord (f : Nat → Int32) (tz q : Nat) (o : Int64) : Int64 := if tz ≤ q then o else if cL (f q) ∨ f q = 39 then pkd f (tFR f q) (tN f tz q) else o
def tNum (f : Nat → Int32) (tz q : Nat) (o : Int32) : Int32 := if tz ≤ q then o else if cL (f q) ∨ f q = 39 then nmb f (tFR f q) (tN f tz q) else if f q = 61 ∧ (if nI (q + 1) < nI tz then f (q + 1) else -1) = 61 then 256 else f q
def vlo (f : Nat → Int32) (a : Nat) : Nat → Int64
  | 0 => 0
  | k + 1 => vlo f a k * 10 + (f (a + k) - 48).toInt64
/-- a character that is neither a digit nor, where small ones may stand, a small letter -/
def bad1 (f : Nat → Int32) (a : Nat) (sm : Int32) (j : Nat) : Bool := decide (¬ cD (f (a + j)) ∧ (sm = 0 ∨ ¬ cS (f (a + j))))
abbrev isW (fw : Nat → Int64) (w : Int64) (j : Nat) : Bool := decide (fw j = w)
/-- the kind of a name of n characters at a, and that of a REGION's -/
def kName (f : Nat → Int32) (fw : Nat → Int64) (a n : Nat) (w : Int64) : Int32 := if 8 < n then 1 else if ¬ cS (f a) then 3 else if ff (isW fw w) 0 26 = -1 then (if ff (bad1 f a 1) 0 n = -1 then 2 else 1) else 10 + ff (isW fw w) 0 26
def kReg (f : Nat → Int32) (a n : Nat) : Int32 := if n = 1 ∧ f a = 72 then 4 else if 0 < n ∧ n ≤ 8 ∧ cS (f a) ∧ ff (bad1 f a 1) 0 n = -1 then 4 else 1
/-- the token of a row of letters and digits (perhaps with a ' ahead) at a: how many follow the first, its kind, its name or value -/
def sN (f : Nat → Int32) (tz a : Nat) : Nat := rl f (a + 1) (tz - (a + 1))
/-- 1 if the digits at a, m of them behind the first, make a number -/
def m9 (f : Nat → Int32) (a m : Nat) : Int32 := if 9 < m + 1 then 0 else if ff (bad1 f a 0) 0 (m + 1) = -1 then 1 else 0
def sK (f : Nat → Int32) (fw : Nat → Int64) (tz a : Nat) : Int32 := if f a = 39 then kReg f (a + 1) (sN f tz a) else if cD (f a) then (if m9 f a (sN f tz a) = 0 then 1 else 5) else kName f fw a (sN f tz a + 1) (pkd f a (sN f tz a + 1))
def sV (f : Nat → Int32) (tz a : Nat) : Int64 := if f a = 39 then pkd f (a + 1) (sN f tz a) else if cD (f a) then (if m9 f a (sN f tz a) = 0 then 0 else vlo f a (sN f tz a + 1)) else pkd f a (sN f tz a + 1)
/-- whether the j-th character of the i-th literal is the character c, as bytes -/
abbrev isC (i : Nat) (c : Int32) (j : Nat) : Bool := decide ((s_byt.getD i []).getD j 0 = c.toInt8.toInt32)
/-- the token at a: its kind, its name or value, and where the next begins -/
def tokK (f : Nat → Int32) (fw : Nat → Int64) (tz a : Nat) : Int32 := if f a = 39 ∨ cL (f a) then sK f fw tz a else if f a = 61 ∧ a + 1 < tz ∧ f (a + 1) = 61 then 62 else if 0 ≤ ff (isC 3 (f a)) 0 22 then 40 + ff (isC 3 (f a)) 0 22 else 1
def tokV (f : Nat → Int32) (tz a : Nat) : Int64 := if f a = 39 ∨ cL (f a) then sV f tz a else 0
def sNext (f : Nat → Int32) (tz a : Nat) : Nat := if f a = 32 then a + 1 else if f a = 39 ∨ cL (f a) then a + 1 + sN f tz a else if f a = 61 ∧ a + 1 < tz ∧ f (a + 1) = 61 then a + 2 else a + 1
/-- all tokens from a on: how many there are then, and their rows -/
def scn (f : Nat → Int32) (fw : Nat → Int64) (tz : Nat) : Nat → Nat → Nat → (Nat → Int32) → (Nat → Int32) → (Nat → Int64) → Nat × (Nat → Int32) × (Nat → Int32) × (Nat → Int64)
  | 0, _, tn, gk, gs, gn => (tn, gk, gs, gn)
  | m + 1, a, tn, gk, gs, gn => if tz ≤ a then (tn, gk, gs, gn) else scn f fw tz m (sNext f tz a) (if f a = 32 then tn else tn + 1) (if f a = 32 then gk else upd gk tn (tokK f fw tz a)) (if f a = 32 then gs else upd gs tn (nI a)) (if f a = 32 then gn else vp_updL gn tn (tokV f tz a))
/-- where the next token stands, behind the one at q -/
def nq (f : Nat → Int32) (tz q : Nat) : Nat := tAft f tz q + bs f (tAft f tz q) (tz - tAft f tz q)
/-- where the words of the language end, and their numbers -/
def hpos : List Nat := [6, 12, 16, 21, 27, 31, 34, 39, 45, 52, 58, 65, 71, 75, 81, 87, 91, 96, 100, 105, 109, 112, 117, 120, 125, 132]
def WL : List Int64 := [126943973696372, 504363577198, 6714734, 1684365668, 512852587109, 7758194, 26982, 1701606245, 512852847717, 125780071117422, 482955849332, 125779852226414, 427021005669, 7631481, 426836779880, 499968536439, 6909556, 1853189228, 7234935, 1667591276, 7499639, 28270, 1936292453, 26995, 1919246692, 109270232688756]
/-- the characters of a name as one natural number -/
def pn (f : Nat → Int32) (a : Nat) : Nat → Nat
  | 0 => 0
  | k + 1 => pn f a k * 256 + (f (a + k)).toBitVec.toNat
def smallB : Nat → Nat → Bool
  | 0, _ => true
  | k + 1, w => decide (w = 0) || (decide (97 ≤ w % 256) && decide (w % 256 ≤ 122) && smallB k (w / 256))
/-- the reference's kind of a name for the class's -/
def nmK (k : Int32) : Int32 := if k = 1 then 0 else if k = 3 then 3 else if k = 2 then 1 else 2
/-- the first place from a on that is no blank; the i-th token behind the one at q -/
def sk (f : Nat → Int32) (tz a : Nat) : Nat := a + bs f a (tz - a)
def tkAt (f : Nat → Int32) (tz : Nat) : Nat → Nat → Nat
  | q, 0 => q
  | q, i + 1 => tkAt f tz (nq f tz q) i
def adA (T : gSt) : Nat := (T.1 4 0).toNatClampNeg
def adZ (T : gSt) : Nat := (T.1 1 0).toNatClampNeg
def adQ (T : gSt) : Nat := adA T + bs (T.1 0) (adA T) (adZ T - adA T)
def advS (T : gSt) : gSt := sI (sJ (sI (sI (sI T 3 0 (nI (adQ T))) 2 0 (tSort (T.1 0) (adZ T) (adQ T))) 4 0 (nI (tAft (T.1 0) (adZ T) (adQ T)))) 6 0 (tWord (T.1 0) (adZ T) (adQ T) (T.2 6 0))) 5 0 (tNum (T.1 0) (adZ T) (adQ T) (T.1 5 0))
abbrev advOk (T : gSt) : Prop := 0 ≤ (T.1 4 0).toInt ∧ (T.1 4 0).toInt ≤ (T.1 1 0).toInt ∧ (T.1 1 0).toInt ≤ 4000
def isWd (T : gSt) (i : Nat) : Int32 := if (T.1 2 0 = 2 ∧ T.2 6 0 = pks i (s_len.getD i 0) ∧ T.1 7 0 = 0) then 1 else 0
def sA (T : gSt) (g : Nat) (f : Nat → Int32) : gSt := (fun k => if k = g then f else T.1 k, T.2)
def scnT (T : gSt) (z : Nat) : Nat × (Nat → Int32) × (Nat → Int32) × (Nat → Int64) := scn (T.1 0) (T.2 26) z (z + 1) 0 0 (T.1 22) (T.1 23) (T.2 24)
def scanS (T : gSt) (z : Nat) : gSt := (fun k => if k = 20 then upd (T.1 k) 0 1 else if k = 21 then upd (T.1 k) 0 (nI z) else if k = 25 then upd (T.1 k) 0 (nI (scnT T z).1) else if k = 19 then upd (T.1 k) 0 (nI (0 + 1)) else if k = 22 then upd (scnT T z).2.1 (scnT T z).1 0 else if k = 23 then upd (scnT T z).2.2.1 (scnT T z).1 (nI z) else if k = 11 then upd (T.1 k) 0 0 else if k = 12 then upd (T.1 k) 0 0 else if k = 13 then upd (T.1 k) 0 0 else if k = 14 then upd (T.1 k) 0 0 else if k = 15 then upd (T.1 k) 0 0 else if k = 16 then upd (T.1 k) 0 0 else if k = 17 then upd (T.1 k) 0 0 else if k = 18 then upd (T.1 k) 0 0 else T.1 k, fun k => if k = 24 then (scnT T z).2.2.2 else T.2 k)
abbrev scanOk (T : gSt) (z : Int32) : Prop := (0 ≤ z.toInt ∧ z.toInt ≤ 4000) ∧ ∀ j, j < 4000 → 0 ≤ T.1 0 j ∧ T.1 0 j ≤ 255
