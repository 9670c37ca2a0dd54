/-! places of the code: lists, BLOCKS, the two ways of an if */
-/
def GdQ (M0 T0 Sf : gSt) (X : Lx) (it n1 : Nat) (t : Tr) : Prop := ∀ (mo a b v g v' g' dd : Nat) (ys no : Int32) (j : Nat) (S : gSt) (n n' m m' k : Nat) (hs : List HD), Ws X t mo a b v g v' g' → SG X t dd mo → Gk X it Sf t ys no j S → CdS X it M0 t ys no S n n' → KdS X it (eN Sf it) Sf T0 t ys no S m m' → PlH T0 Sf it n1 dd v S hs n' m' → KvP X t hs → ((stS X it t ys no j S).1 83 0 = 1 → Gdk M0 T0 Sf n1 it k n' m' (stS X it t ys no j S) [] hs) → (¬ mo = 3 → Gdk M0 T0 Sf n1 it k n m S [] hs) ∧ (mo = 3 → ∃ nx mx, M0.1 97 n = nI nx ∧ T0.1 49 m = nI mx ∧ n < nx ∧ m < mx ∧ nx < 12000 ∧ mx < n1 ∧ Gdk M0 T0 Sf n1 it k (n + 1) (m + 1) (kwS S ys) [] hs ∧ Gdk M0 T0 Sf n1 it k nx mx (kwS S no) [] hs)
section SUO
variable {v0 n0 : Nat} {M0 T0 S S' S1 S2 Sf : gSt} {X : Lx} {it e v g n n' n2 m m' m2 k i q c en j a b v' g' dd dd' u s n1 B L p mo : Nat} {t ta tb : Tr} {x y r w ys no b0 t1 : Int32} {st st' s0 : List Int32} {hs : List HD} {jj : T5} {ks js : List T5}
theorem gk_ck (hcf : cn Sf < 6000) (hf0 : Sf.1 7 0 = 0) (h : Gk X it Sf (tD k i e ta tb) ys no j S) : Ck S ∧ FW S Sf ∧ Ck (stS X it (tD k i e ta tb) ys no j S) ∧ FW (stS X it (tD k i e ta tb) ys no j S) Sf ∧ (stS X it (tD k i e ta tb) ys no j S).1 7 0 = 0 ∧ S.1 7 0 = 0 ∧ (∃ v g n, SI S v g n) ∧ ((stS X it (tD k i e ta tb) ys no j S).1 83 0 = 0 ∨ (stS X it (tD k i e ta tb) ys no j S).1 83 0 = 1) := by
  rw [Gk_n] at h
  obtain ⟨⟨m, a, b, v, g, v', g', n, N, hw, hb, hN, hn, hS⟩, h0, hF, gk⟩ := h
  have h1 := hF.ok hf0
  have fs := st_fs (X := X) (it := it) (tD k i e ta tb) ys no j S
  have g1 := fs.tg hS.1.1
  have sk := st_inv (tD k i e ta tb) m a b v g v' g' N hw hb hN ys no j n S hn hS (hF.lt g1 hcf) h1
  exact ⟨hS.1, fs.fw.tr hF, sk.1.1, hF, h1, h0, ⟨v, g, n, hS⟩, sk.1.2.2.1⟩
theorem PlH.le (h : PlH T0 Sf it n1 dd v S hs n' m') (h1 : n ≤ n') (h2 : m ≤ m') : PlH T0 Sf it n1 dd v S hs n m := by
  obtain ⟨a1, a2, a3, a4, a5, a6, a7, a8⟩ := h
  exact ⟨a1, a2, a3, a4, a5, by omega, by omega, a8.le h1 h2⟩
theorem KvP.sub (h : KvP X t hs) (h2 : ∀ S u, AsR X ta S u → AsR X t S u) : KvP X ta hs := fun hd hh u s hu ha => h hd hh u s hu (h2 _ u ha)
/-- REACHED is 0 or 1 */
-/
theorem jl_st (cx : CxP M0 T0 Sf) (hf0 : Sf.1 7 0 = 0) (hw : Ws X ta 0 a b v g v' g') (gk : Gk X it Sf ta ys no j S) (js : JS Sf it dd S hs) (sl : SlB S v) : JS Sf it dd (stS X it ta ys no j S) hs := by
  obtain ⟨fr, f7⟩ := fr_all (it := it) (en := eN Sf it) hf0 ta ys no j S gk js.1
  by_cases c : lsVA ta = false
  · exact js.fr fr (f7 c)
  · unfold lsVA at c
    split at c
    · next k i e a' b' =>
      have hw2 := hw
      have ek : Ws X (tD k i e a' b') 0 a b v g v' g' := hw
      rw [Ws_n] at ek
      unfold WsN at ek
      rw [if_neg (by omega), if_neg (by omega), if_neg (by omega)] at ek
      have k20 : k = 20 := by
        refine Decidable.byContradiction fun w => ?_
        rw [if_neg w] at ek
        have k11 : k = 11 := by
          refine Decidable.byContradiction fun w2 => c ?_
          rw [decide_eq_false w2, decide_eq_false w]
          rfl
        subst k11
        simp at ek
      subst k20
      rw [if_pos rfl] at ek
      obtain ⟨_, e1, v20, _, _, ht, _⟩ := ek
      subst e1
      obtain ⟨q1, q2, q3, q4, q5, _⟩ := gk_ck cx.2.1 hf0 gk
      exact va_js cx q1 ht sl v20 q5 q4 js
    · exact absurd rfl c
theorem gd_11 (cx : CxP M0 T0 Sf) (hf0 : Sf.1 7 0 = 0) (ihA : GdQ M0 T0 Sf X it n1 ta) (ihB : GdQ M0 T0 Sf X it n1 tb) (hw : Ws X (tD 11 i e ta tb) 1 a b v g v' g') (hg : SG X (tD 11 i e ta tb) dd 1) (gk : Gk X it Sf (tD 11 i e ta tb) ys no j S) (hR : CdS X it M0 (tD 11 i e ta tb) ys no S n n') (hT : KdS X it (eN Sf it) Sf T0 (tD 11 i e ta tb) ys no S m m') (pl : PlH T0 Sf it n1 dd v S hs n' m') (kv : KvP X (tD 11 i e ta tb) hs) (cont : (stS X it (tD 11 i e ta tb) ys no j S).1 83 0 = 1 → Gdk M0 T0 Sf n1 it k n' m' (stS X it (tD 11 i e ta tb) ys no j S) [] hs) : Gdk M0 T0 Sf n1 it k n m S [] hs := by
  obtain ⟨_, _, _, _, _, h0, _⟩ := gk_ck cx.2.1 hf0 gk
  rw [Gk_n] at gk
  obtain ⟨_, _, hF, gk⟩ := gk
  unfold GkN at gk
  rw [if_neg (by decide), if_neg (by decide), if_neg (by decide), if_neg (by decide), if_neg (by decide), if_neg (by decide), if_neg (by decide), if_neg (by decide), if_neg (by decide), if_neg (by decide), if_pos (by decide)] at gk
  obtain ⟨ga, gb⟩ := gk
  rw [Ws_n] at hw
  unfold WsN at hw
  rw [if_neg (by omega), if_pos rfl] at hw
  obtain ⟨_, c, v1, g1, hwa, hwb⟩ := hw
  obtain ⟨_, sa, sb⟩ : 11 = 11 ∧ SG X ta dd 0 ∧ SG X tb dd 1 := hg
  obtain ⟨q, q1, q2, ca, cb⟩ : ∃ q, n ≤ q ∧ q ≤ n' ∧ CdS X it M0 ta 0 0 S n q ∧ CdS X it M0 tb 0 0 (stS X it ta 0 0 0 S) q n' := hR
  obtain ⟨r, r1, r2, ka, kb⟩ : ∃ r, m ≤ r ∧ r ≤ m' ∧ KdS X it (eN Sf it) Sf T0 ta 0 0 S m r ∧ KdS X it (eN Sf it) Sf T0 tb 0 0 (stS X it ta 0 0 0 S) r m' := hT
  have e0 : stS X it (tD 11 i e ta tb) ys no j S = if S.1 7 0 = 0 then stS X it tb 0 0 0 (stS X it ta 0 0 0 S) else S := rfl
  rw [e0, if_pos h0] at cont
  obtain ⟨js, sl, hdd, r83, hj, ln, lm, ps⟩ := pl
  have fs := st_fs (X := X) (it := it) ta 0 0 0 S
  refine (ihA 0 a c v g v1 g1 dd 0 0 0 S n q m r k hs hwa sa ga ca ka ⟨js, sl, hdd, r83, hj, by omega, by omega, ps.le q2 r2⟩ (kv.sub (fun S u h => as_a (by omega) h)) (fun h83 => ?_)).1 (by omega)
  refine (ihB 1 c b v1 g1 v' g' dd 0 0 0 (stS X it ta 0 0 0 S) q n' r m' k hs hwb sb gb cb kb ⟨jl_st cx hf0 hwa ga js sl, (kn_all (en := eN Sf it) hf0 ta 0 _ _ _ _ _ _ 0 0 0 S hwa ga js.1 sl).1, hdd, h83, ?_, ln, lm, ps⟩ (kv.sub (fun S u h => as_b (by omega) h)) cont).1 (by omega)
  rw [fs.2.1 16 (by omega), fs.2.1 32 (by omega)]
  exact hj
theorem wk_bl (fv : FV S S1) : WkS Sf S1 (sI S1 77 0 (S.1 77 0)) := by
  have o : ∀ k, k ≠ 77 → (sI S1 77 0 (S.1 77 0)).1 k = S1.1 k := fun k hk => sI_ne hk
  have ev : vn (sI S1 77 0 (S.1 77 0)) = vn S := by unfold vn; rw [sI_v]
  have sv : ∀ w, slV Sf (sI S1 77 0 (S.1 77 0)) w = slV Sf S1 w := by
    intro w
    induction w with
    | zero => rfl
    | succ w ih => rw [slV, slV, ih, o 80 (by omega)]
  refine ⟨⟨by unfold rn; rw [o 71 (by omega)], fun k _ => by rw [o 73 (by omega)], by rw [o 84 (by omega)], fun q _ => by rw [o 85 (by omega)], by rw [o 75 (by omega)], by rw [o 76 (by omega)], by rw [o 87 (by omega)]⟩, fun u s ⟨a1, a2, a3, a4, a5⟩ => ?_⟩
  rw [o 79 (by omega)] at a2
  rw [o 81 (by omega)] at a4
  exact ⟨⟨by have := fv.2.2.2.2.1; omega, a2, a3, a4, a5⟩, by rw [o 80 (by omega)], (sv u).symm, fun w => by rw [o 82 (by omega)] at w; exact w⟩
theorem gd_31 (cx : CxP M0 T0 Sf) (hf0 : Sf.1 7 0 = 0) (ihA : GdQ M0 T0 Sf X it n1 ta) (hw : Ws X (tD 31 i e ta tb) 2 a b v g v' g') (hg : SG X (tD 31 i e ta tb) dd 2) (gk : Gk X it Sf (tD 31 i e ta tb) ys no j S) (hR : CdS X it M0 (tD 31 i e ta tb) ys no S n n') (hT : KdS X it (eN Sf it) Sf T0 (tD 31 i e ta tb) ys no S m m') (pl : PlH T0 Sf it n1 dd v S hs n' m') (kv : KvP X (tD 31 i e ta tb) hs) (cont : (stS X it (tD 31 i e ta tb) ys no j S).1 83 0 = 1 → Gdk M0 T0 Sf n1 it k n' m' (stS X it (tD 31 i e ta tb) ys no j S) [] hs) : Gdk M0 T0 Sf n1 it k n m S [] hs := by
  rw [Gk_n] at gk
  obtain ⟨_, _, hF, gk⟩ := gk
  unfold GkN at gk
  rw [if_neg (by decide), if_neg (by decide), if_neg (by decide), if_neg (by decide), if_neg (by decide), if_neg (by decide), if_neg (by decide), if_neg (by decide), if_neg (by decide), if_pos (by decide)] at gk
  rw [Ws_n] at hw
  unfold WsN at hw
  rw [if_pos rfl] at hw
  obtain ⟨_, hwa, _⟩ := hw
  obtain ⟨_, sa, _⟩ : 31 = 31 ∧ SG X ta dd 1 ∧ 1 ≤ dd ∧ dd ≤ 20 := hg
  have ca : CdS X it M0 ta 0 0 S n n' := hR
  have ka : KdS X it (eN Sf it) Sf T0 ta 0 0 S m m' := hT
  have e0 : stS X it (tD 31 i e ta tb) ys no j S = sI (stS X it ta 0 0 0 S) 77 0 (S.1 77 0) := rfl
  rw [e0] at cont
  obtain ⟨fr, _⟩ := fr_all (it := it) (en := eN Sf it) hf0 ta 0 0 0 S gk pl.1.1
  exact (ihA 1 _ _ v g v' g' dd 0 0 0 S n n' m m' k hs hwa sa gk ca ka pl (kv.sub (fun S u h => as_a (by omega) h)) (fun h83 => (cont (by rw [sI_ne (by omega)]; exact h83)).wk (wk_bl fr.1))).1 (by omega)
end SUO
