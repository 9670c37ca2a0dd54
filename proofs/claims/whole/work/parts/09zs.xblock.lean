/-! BLOCKS and lists of STEPS: checkBlock 68 -/
def Pre (it : Nat) (T : gSt) (n v g s : Nat) : Prop := SI (er T) v g n ∧ T.1 94 0 = nI s ∧ nU T ≤ 4000 ∧ nW T ≤ 4000 ∧ T.1 64 0 = nI it ∧ it < inn T ∧ T.1 7 0 = 0
def StQ (X : Lx) (it : Nat) (t : Tr) (T T' : gSt) (p lo hi a b : Nat) (x ys no : Int32) (j : Nat) : Prop := er T' = stS X it t ys no j (er T) ∧ Fm X T T' lo hi a b ∧ (T'.1 7 0 = 0 → AnS X it T' t p lo hi x ys no (er T))
def CkB (nf : Nat) (X : Lx) (it : Nat) (t : Tr) : Prop := ∀ (T : gSt) (d lo hi a b v g v' g' n s : Nat) (x : Int32), RepS X T t lo lo hi x → hi ≤ 8200 → Ws X t 2 a b v g v' g' → b ≤ xn X → Pre it T n v g s → n + bdT t ≤ 41 → s + (hi - lo) ≤ 8200 → 3 * bdT t + 300 ≤ d → cn (stS X it t 0 0 0 (er T)) < 6000 → wp (RR nf d 68 T [x] []) (fun _ _ T' => StQ X it t T T' lo lo hi a b x 0 0 0)
def CkT (nf : Nat) (X : Lx) (it : Nat) (t : Tr) : Prop := ∀ (T : gSt) (d lo hi a b v g v' g' n s : Nat) (x : Int32), RepS X T t lo lo hi x → hi ≤ 8200 → Ws X t 0 a b v g v' g' → b ≤ xn X → Pre it T n v g s → n + bdT t ≤ 40 → s + (hi - lo) ≤ 8200 → 3 * bdT t + 302 ≤ d → cn (stS X it t 0 0 0 (er T)) < 6000 → wp (RR nf d 70 T [x] []) (fun _ _ T' => StQ X it t T T' lo lo hi a b x 0 0 0)
def CkG (nf : Nat) (X : Lx) (it : Nat) (t : Tr) : Prop := ∀ (T : gSt) (d fl lo hi a b v g v' g' n s : Nat) (x x2 : Int32), RepS X T t lo lo hi x → hi ≤ 8200 → Ws X t 1 a b v g v' g' → b ≤ xn X → Pre it T n v g s → n + bdT t ≤ 40 → s + (hi - lo) ≤ 8200 → 3 * bdT t + 302 ≤ d → hi - lo < fl → cn (stS X it t 0 0 0 (er T)) < 6000 → wp (rl_Model_checkBlock_12 (RR nf d) nf fl T x2 x) (fun _ _ T' => ∃ T1, T' = sI T1 77 0 x2 ∧ StQ X it t T T1 lo lo hi a b x 0 0 0)
section XB
variable {nf d fl : Nat} {T T' T1 S : gSt} {X : Lx} {k i e it lo hi a b v g v' g' n s p : Nat} {x ys no x2 : Int32} {ta tb t : Tr}
theorem Pre.st {lo hi a b : Nat} (h : Pre it T n v g s) (hm : Fm X T T' lo hi a b) (hs : SPw T T') (hi2 : SI (er T') v' g' p) (h0 : T'.1 7 0 = 0) : Pre it T' p v' g' s := by
  obtain ⟨_, h2, h3, h4, h5, h6, _⟩ := h
  refine ⟨hi2, ?_, ?_, ?_, ?_, ?_, h0⟩
  · rw [hm.2.2.2]; exact h2
  · unfold nU; rw [hs.1 45 (by omega) (by omega) rfl]; exact h3
  · unfold nW; rw [hs.1 37 (by omega) (by omega) rfl]; exact h4
  · rw [hs.1 64 (by omega) (by omega) rfl]; exact h5
  · unfold inn; rw [hs.1 11 (by omega) (by omega) rfl]; exact h6
theorem stS_bad (t : Tr) {m : Nat} (hw : Ws X t m a b v g v' g') (hm : m = 1) (hb : ¬ T.1 7 0 = 0) {j : Nat} : stS X it t ys no j T = T := by
  subst hm
  induction t using Tr_ind with
  | hz t hz => exact stS_z hz
  | h k i e ta tb _ _ =>
    rw [Ws_n] at hw
    unfold WsN at hw
    rw [if_neg (by omega), if_pos rfl] at hw
    obtain ⟨rfl, _⟩ := hw
    rw [stS_n]
    show (if T.1 7 0 = 0 then _ else T) = T
    rw [if_neg hb]
theorem StQ.sw (h : StQ X it t T T' p lo hi a b x ys no k) : SPw T T' := SPw.of (by rw [h.1]; exact st_fs t _ _ _ _)
theorem StQ.h0 (h : StQ X it t T T' p lo hi a b x ys no k) : T'.1 7 0 = (stS X it t ys no k (er T)).1 7 0 := by
  rw [← h.1]
  rfl
/-- the list is at its end, or behind a fault -/
theorem g_end (hb : x < 0 ∨ ¬ T.1 7 0 = 0) : rl_Model_checkBlock_12 (RR nf (d + 1)) nf (fl + 1) T x2 x = some (0, 0, sI T 77 0 x2) := by
  rw [rl_Model_checkBlock_12]
  by_cases c : x < 0
  · rw [if_pos c]; rfl
  · rw [if_neg c, x_bd1 (hb.resolve_left c), bis, if_neg (by decide)]; rfl
theorem g_z (hz : ∀ k i e a b, t ≠ tD k i e a b) : CkG nf X it t := by
  intro T d fl lo hi a b v g v' g' n s x x2 hR _ hw _ _ _ _ hd hf _
  obtain ⟨fl', rfl⟩ : ∃ z, fl = z + 1 := ⟨fl - 1, by omega⟩
  obtain ⟨d', rfl⟩ : ∃ z, d = z + 1 := ⟨d - 1, by omega⟩
  unfold RepS at hR
  split at hR
  · exact absurd rfl (hz _ _ _ _ _)
  · rw [g_end (Or.inl (by rw [hR.1]; decide))]
    exact wp_some ⟨T, rfl, by rw [stS_z hz], Fm.rf, fun _ => hR.1⟩
  · exact hR.elim
theorem g_n (hx : PI X) (hX : xn X ≤ 4000) (hA : CkT nf X it ta) (hB : CkG nf X it tb) : CkG nf X it (tD k i e ta tb) := by
  intro T d fl lo hi a b v g v' g' n s x x2 hR hhi hw hbx hP hN hs hd hf hc
  obtain ⟨fl', rfl⟩ : ∃ z, fl = z + 1 := ⟨fl - 1, by omega⟩
  obtain ⟨d', rfl⟩ : ∃ z, d = z + 1 := ⟨d - 1, by omega⟩
  have hw0 := hw
  rw [Ws_n] at hw
  unfold WsN at hw
  rw [if_neg (by omega), if_pos rfl] at hw
  obtain ⟨rfl, c, v1, g1, wa, wb⟩ := hw
  rw [bdT_n, if_neg (by omega), if_pos (Or.inl rfl)] at hN hd
  rw [RepS_n] at hR
  obtain ⟨q, cc, r1, r2, r3, r4, r5, r6⟩ : ∃ q c, x = nI q ∧ lo ≤ q ∧ q < c ∧ c ≤ hi ∧ RepS X T ta lo lo c x ∧ RepS X T tb c c hi (T.1 55 q) := hR
  subst r1
  have mo1 := Ws_mo _ _ _ _ _ _ _ _ wa
  have mo2 := Ws_mo _ _ _ _ _ _ _ _ wb
  have h0 := hP.2.2.2.2.2.2
  have h0' : (er T).1 7 0 = 0 := h0
  have e0 : stS X it (tD 11 i e ta tb) 0 0 0 (er T) = stS X it tb 0 0 0 (stS X it ta 0 0 0 (er T)) := by
    rw [stS_n]
    show (if (er T).1 7 0 = 0 then _ else _) = _
    rw [if_pos h0']
  rw [e0] at hc
  have fA := st_fs (X := X) (it := it) ta 0 0 0 (er T)
  have fB := st_fs (X := X) (it := it) tb 0 0 0 (stS X it ta 0 0 0 (er T))
  have cA := fB.lt (fA.tg hP.1.1.1) hc
  have zq : inb (nI q) 8200 := nin (by omega) (by omega)
  have cq : (nI q).toNatClampNeg = q := nc (by omega)
  rw [rl_Model_checkBlock_12, if_neg (nI_pos (by omega))]
  refine wp_be (x_bd0 h0) (wp_t rfl ?_)
  refine wp_bi (hA T (d' + 1) lo cc a c v g v1 g1 n s (nI q) r5 (by omega) wa (by omega) hP (by omega) (by omega) (by omega) cA) ?_
  intro r l T1 hQ
  have hsw := hQ.sw
  refine wp_gd zq (wp_v ?_)
  rw [cq]
  have e55 : T1.1 55 q = T.1 55 q := by rw [hsw.1 55 (by omega) (by omega) rfl]
  rw [e55]
  by_cases c0 : T1.1 7 0 = 0
  · have c0' : (stS X it ta 0 0 0 (er T)).1 7 0 = 0 := by rw [← hQ.h0]; exact c0
    have sk := st_inv (X := X) (it := it) ta 0 _ _ _ _ _ _ (40 - bdT ta) wa (by omega) (by show _ ≤ 40; omega) 0 0 0 n (er T) (by omega) hP.1 cA c0'
    rw [← hQ.1] at sk
    have hP1 := hP.st hQ.2.1 hsw sk.1 c0
    have hr1 : RepS X T1 tb cc cc hi (T.1 55 q) := r6.sw hsw (fun j h1 h2 => (hQ.2.1.1 j (by omega)).2)
    refine wp_mono (hB T1 (d' + 1) fl' cc hi c b v1 g1 v' g' n s (T.1 55 q) x2 hr1 hhi wb hbx hP1 (by omega) (by omega) (by omega) (by omega) (by rw [hQ.1]; exact hc)) ?_
    intro r l T2 hE
    obtain ⟨T3, rfl, hQ2⟩ := hE
    refine ⟨T3, rfl, ?_, ?_, fun z => ?_⟩
    · rw [hQ2.1, hQ.1, e0]
    · exact (hQ.2.1.up (by omega) (by omega) (by omega) (by omega)).trw (hQ2.2.1.up (by omega) (by omega) (by omega) (by omega)) hsw
    · rw [AnS_n]
      show ∃ q' c, nI q = nI q' ∧ lo ≤ q' ∧ q' < c ∧ c ≤ hi ∧ AnS X it T3 ta lo lo c (nI q) 0 0 (er T) ∧ AnS X it T3 tb c c hi (T3.1 55 q') 0 0 (stS X it ta 0 0 0 (er T))
      have a3 := hQ2.2.2 z
      rw [hQ.1] at a3
      refine ⟨q, cc, rfl, r2, r3, r4, AnS.kp ta _ _ _ _ _ _ _ _ _ _ _ _ _ _ wa (by omega) (Kp.fmw hx hQ2.sw hQ2.2.1 (by omega) (by omega) (by omega) (by omega)) (hQ.2.2 c0), ?_⟩
      rw [hQ2.sw.1 55 (by omega) (by omega) rfl, e55]
      exact a3
  · obtain ⟨fl2, rfl⟩ : ∃ z, fl' = z + 1 := ⟨fl' - 1, by omega⟩
    rw [g_end (Or.inr c0)]
    refine wp_some ⟨T1, rfl, ?_, hQ.2.1.up (by omega) (by omega) (by omega) (by omega), fun z => absurd z c0⟩
    rw [e0, ← hQ.1]
    exact (stS_bad tb wb rfl (T := er T1) c0).symm
theorem b_n (hnf : 8300 ≤ nf) (hA : CkG nf X it ta) : CkB nf X it (tD k i e ta tb) := by
  intro T d lo hi a b v g v' g' n s x hR hhi hw hbx hP hN hs hd hc
  obtain ⟨d', rfl⟩ : ∃ z, d = z + 1 := ⟨d - 1, by omega⟩
  rw [Ws_n] at hw
  unfold WsN at hw
  rw [if_pos rfl] at hw
  obtain ⟨rfl, wa, hib⟩ := hw
  rw [bdT_n, if_pos rfl] at hN hd
  rw [RepS_n] at hR
  obtain ⟨r1, r2, r3, r4, r5⟩ : x = nI lo ∧ lo < hi ∧ T.1 50 lo = 31 ∧ T.1 57 lo = nI (xP X i) ∧ RepS X T ta (lo + 1) (lo + 1) hi (T.1 52 lo) := hR
  have mo := Ws_mo _ _ _ _ _ _ _ _ wa
  have zq : inb (nI lo) 8200 := nin (by omega) (by omega)
  have cq : (nI lo).toNatClampNeg = lo := nc (by omega)
  have e0 : stS X it (tD 31 i e ta tb) 0 0 0 (er T) = sI (stS X it ta 0 0 0 (er T)) 77 0 ((er T).1 77 0) := rfl
  rw [e0] at hc
  have hc1 : cn (stS X it ta 0 0 0 (er T)) < 6000 := hc
  rw [e_Model_checkBlock nf d']
  unfold rb_Model_checkBlock
  refine wp_v ?_
  rw [r1]
  refine wp_gd zq (wp_v ?_)
  rw [cq]
  refine wp_mono (hA T d' nf (lo + 1) hi (a + 1) i v g v' g' n s (T.1 52 lo) (T.1 77 0) r5 hhi wa (by omega) hP (by omega) (by omega) (by omega) (by omega) hc1) ?_
  intro r l T2 hE
  obtain ⟨T3, rfl, hQ⟩ := hE
  have k0 : ∀ k, anF k = true → (sI T3 77 0 (T.1 77 0)).1 k = T3.1 k := fun k hk => sI_ne (by
    unfold anF at hk
    simp only [Bool.or_eq_true, beq_iff_eq] at hk
    omega)
  refine ⟨?_, ?_, fun z => ?_⟩
  · rw [er_w rfl, hQ.1, e0]
    rfl
  · exact (hQ.2.1.up (by omega) (by omega) (by omega) (by omega)).trw (Fm.nt k0) hQ.sw
  · rw [AnS_n]
    have sw3 : SPw T3 (sI T3 77 0 (T.1 77 0)) := ⟨fun k k1 _ _ => sI_ne (by omega), fun k _ => rfl⟩
    show nI lo = nI lo ∧ lo < hi ∧ AnS X it (sI T3 77 0 (T.1 77 0)) ta (lo + 1) (lo + 1) hi ((sI T3 77 0 (T.1 77 0)).1 52 lo) 0 0 (er T)
    refine ⟨rfl, r2, ?_⟩
    rw [sw3.1 52 (by omega) (by omega) rfl, hQ.sw.1 52 (by omega) (by omega) rfl]
    exact AnS.kp ta _ _ _ _ _ _ _ _ _ _ _ _ _ _ wa (by omega) (Kp.nw sw3 k0) (hQ.2.2 z)
end XB
