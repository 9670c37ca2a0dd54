/-! if: checkIf 77 -/
abbrev Nw (T T' : gSt) : Prop := SPw T T' ∧ ∀ k, anF k = true → T'.1 k = T.1 k
abbrev Kid (nf : Nat) (X : Lx) (it : Nat) (t : Tr) : Prop := ∀ k i e a b, t = tD k i e a b → CkB nf X it a ∧ CkB nf X it b
section XI
variable {nf d fl : Nat} {T T' T1 S : gSt} {X : Lx} {k i e it lo hi a b v g v' g' n s p m c u : Nat} {x ys no x2 : Int32} {ta tb t : Tr}
theorem Nw.fo (h : FO T T') : Nw T T' := ⟨⟨fun k k1 k2 _ => h.1 k (by omega), fun k _ => by rw [h.2]⟩, fun k hk => h.1 k (by
  unfold anF at hk
  simp only [Bool.or_eq_true, beq_iff_eq] at hk
  omega)⟩
theorem Nw.fm (h : Nw T T') : Fm X T T' lo hi a b := Fm.nt h.2
theorem Nw.kp (h : Nw T T') : Kp X T T' lo hi a b := Kp.nw h.1 h.2
theorem er_kw : er (kwS T x) = kwS (er T) x := by
  unfold kwS
  split
  · rfl
  · rw [er_w rfl]; rfl
theorem er_rs {st kw lv rc : Int32} : er (rsS T st kw lv rc) = rsS (er T) st kw lv rc := by
  unfold rsS
  rw [er_w rfl, er_w rfl, er_w rfl, er_w rfl]
theorem er_mt {st kw lv rc q : Int32} : er (mtS T st kw lv rc q) = mtS (er T) st kw lv rc q := by
  unfold mtS
  have e83 : (er T).1 83 0 = T.1 83 0 := rfl
  have e75 : (er T).1 75 0 = T.1 75 0 := rfl
  have e81 : (er T).1 81 0 = T.1 81 0 := rfl
  have e82 : (er T).1 82 0 = T.1 82 0 := rfl
  rw [e83, e75, e81, e82]
  by_cases c1 : ¬ T.1 83 0 = 0 ∧ ¬ rc = 0
  · rw [if_pos c1, if_pos c1]
    by_cases c2 : T.1 75 0 = lv
    · rw [if_pos c2, if_pos c2, er_w rfl, er_w rfl]
    · rw [if_neg c2, if_neg c2, er_w rfl, er_w rfl, er_fl]
  · rw [if_neg c1, if_neg c1]
    by_cases c3 : ¬ rc = 0 ∨ T.1 83 0 = 0
    · rw [if_pos c3, if_pos c3, er_rs]
    · rw [if_neg c3, if_neg c3]
theorem er_akY : akY X t (er T) = akY X t T := rfl
theorem er_akN : ∀ t : Tr, akN X t (er T) = akN X t T := by
  intro t
  induction t using Tr_ind with
  | hz t hz =>
    unfold akN
    split
    · exact absurd rfl (hz _ _ _ _ _)
    · rfl
  | h k i e ta tb ihA _ =>
    show (if k = 2 then akN X ta (er T) else _) = (if k = 2 then akN X ta T else _)
    rw [ihA]
    rfl
/-- the end of an if: the two ways meet -/
theorem if_end {st kw lv rc : Int32} (hm : m < 8200) (h51 : T.1 51 m = nI (xP X i)) (hr : rc = 0 ∨ rc = 1) : rj_Model_checkIf_161 (RR nf (d + 2)) nf T (nI m) st kw lv rc = some (0, 0, if T.1 7 0 = 0 then mtS T st kw lv rc (nI (xP X i)) else T) := by
  have zm : inb (nI m) 8200 := nin (by omega) (by omega)
  have cm : (nI m).toNatClampNeg = m := nc (by omega)
  unfold rj_Model_checkIf_161
  by_cases c : T.1 7 0 = 0
  · rw [x_bd0 c, bis, if_pos rfl, gd, if_pos zm, cm, h51, x_meet hr, bis, if_pos c]
  · rw [x_bd1 c, bis, if_neg (by decide), if_neg c]
def prT (nf d : Nat) (m : Nat) (ys no : Int32) (T : gSt) : gR := bi (RR nf d 75 T [ys] []) fun _ _ T13 => gd (inb (nI m) 8200) <| bi (RR nf d 68 T13 [T13.1 53 (nI m).toNatClampNeg] []) fun _ _ T15 => bi (RR nf d 14 T15 [] []) fun r16 _ T16 => if r16 = (0 : Int32) then (gd (T.1 83 0 = 0 ∨ T.1 83 0 = 1) <| bi (RR nf d 75 (sI (sI (sI (sI T16 81 0 (T.1 81 0)) 82 0 (T.1 82 0)) 75 0 (T.1 75 0)) 83 0 (T.1 83 0)) [no] []) fun _ _ T26 => gd (inb (nI m) 8200) <| if (T26.1 54 (nI m).toNatClampNeg) < (0 : Int32) then (rj_Model_checkIf_161 (RR nf d) nf T26 (nI m) (T16.1 81 0) (T16.1 82 0) (T16.1 75 0) (T16.1 83 0)) else (gd (inb (nI m) 8200) <| bi (RR nf d 68 T26 [T26.1 54 (nI m).toNatClampNeg] []) fun _ _ T30 => rj_Model_checkIf_161 (RR nf d) nf T30 (nI m) (T16.1 81 0) (T16.1 82 0) (T16.1 75 0) (T16.1 83 0))) else some (0, 0, T16)
theorem if_pr : rb_Model_checkIf (RR nf d) nf T (nI m) = gd (inb (nI m) 8200) (bi (RR nf d 76 T [T.1 52 (nI m).toNatClampNeg] []) fun _ _ T2 => bi (RR nf d 14 T2 [] []) fun r3 _ T3 => if r3 = (0 : Int32) then (gd (inb (nI m) 8200) <| bi (RR nf d 74 T3 [T3.1 52 (nI m).toNatClampNeg, 0] []) fun r6 _ T6 => gd (inb (nI m) 8200) <| bi (RR nf d 74 T6 [T6.1 52 (nI m).toNatClampNeg, 1] []) fun r8 _ T8 => prT nf d m r6 r8 T8) else some (0, 0, T3)) := rfl
end XI
