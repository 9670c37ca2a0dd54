/-! what the checks have noted on the nodes of a tree -/
def AnN (X : Lx) (T : gSt) (Ra Rb : Nat → Nat → Int32 → Int32 → Int32 → List T5 → Prop) (k i e lo hi : Nat) (x ty tl : Int32) (js : List T5) : Prop :=
  if k = 1 then x = nI lo ∧ lo < hi ∧ ty = T.1 60 lo ∧ tl = 0 ∧ (if xK X i = 5 then T.1 50 lo = 0 ∧ T.1 52 lo = (xN X i).toInt32 ∧ js = [j1 1 (xN X i).toInt32 0 0 0] else if xK X i = 27 then T.1 50 lo = 1 ∧ js = [j1 2 0 0 0 0] else if xK X i = 34 then T.1 50 lo = 2 ∧ js = [j1 3 0 0 0 0] else if xK X i = 35 then T.1 50 lo = 3 ∧ js = [j1 4 (T.1 61 lo) 0 0 0] else T.1 50 lo = 4 ∧ js = [j1 5 (T.1 61 lo) ty 0 0])
  else if k = 2 then Ra lo hi x ty tl js
  else if k = 3 then ∃ m y t0 l0, x = nI m ∧ lo ≤ m ∧ hi = m + 1 ∧ Ra lo m y tl t0 l0 ∧ T.1 52 m = y ∧ ty = T.1 60 m ∧ (if xK X i = 49 then T.1 50 m = 14 ∧ js = l0 ++ [j1 6 (T.1 61 m) tl ty 0] else if xK X i = 61 then T.1 50 m = 16 ∧ js = l0 ++ [j1 10 0 tl ty 0] else T.1 50 m = 17 ∧ js = l0 ++ [j1 11 (T.1 61 m) tl ty 0])
  else if k = 4 then ∃ m y z t0 l0 u1 u2 l2, x = nI m ∧ lo ≤ m ∧ m < hi ∧ Ra lo m y tl t0 l0 ∧ Rb (m + 1) hi z u1 u2 l2 ∧ T.1 52 m = y ∧ T.1 53 m = z ∧ T.1 50 m = 15 ∧ ty = T.1 60 m ∧ js = l0 ++ l2 ++ [j1 8 tl ty 0 0]
  else if k = 5 then ∃ m y z t0 l0 u1 u2 l2, x = nI m ∧ lo ≤ m ∧ m < hi ∧ Ra lo m y tl t0 l0 ∧ Rb (m + 1) hi z u1 u2 l2 ∧ T.1 52 m = y ∧ T.1 53 m = z ∧ T.1 50 m = 13 ∧ T.1 54 m = chK e ∧ ty = T.1 60 m ∧ js = l0 ++ l2 ++ [j1 19 (chK e) tl u1 ty]
  else if k = 6 then ∃ u z l0 w, x = nI lo ∧ lo < hi ∧ Ra (lo + 1) hi z 0 0 l0 ∧ T.1 50 lo = 5 ∧ T.1 58 lo = nI u ∧ T.1 52 lo = z ∧ RepU X T u (i + 1) e ∧ (∀ j, j < e → T.1 48 (u + j) = ptOf w (nI j)) ∧ ty = T.1 60 lo ∧ tl = 0 ∧ js = l0 ++ [j1 18 (T.1 61 lo) w ty (nI e)]
  else if k = 7 then ∃ v z t0 u0 l0, x = nI lo ∧ lo < hi ∧ T.1 54 lo = nI v ∧ RepU X T v (i + 1) 1 ∧ ty = T.1 60 lo ∧ tl = 0 ∧ (if xK X (i + 3 + e) = 49 then T.1 50 lo = 7 ∧ T.1 52 lo = nI (lo + 1) ∧ lo + 1 < hi ∧ T.1 52 (lo + 1) = z ∧ Ra (lo + 2) hi z t0 u0 l0 ∧ js = l0 ++ [j1 17 (T.1 48 v) ty (T.1 61 (lo + 1)) 0] else T.1 50 lo = 6 ∧ T.1 52 lo = z ∧ Ra (lo + 1) hi z 0 0 l0 ∧ js = l0 ++ [j1 16 (T.1 48 v) ty 0 0])
  else if k = 8 then ∃ z t0 u0 l0, x = nI lo ∧ lo < hi ∧ T.1 52 lo = z ∧ ty = T.1 60 lo ∧ tl = 0 ∧ (if xK X i = 29 then T.1 50 lo = 8 ∧ Ra (lo + 1) hi z t0 u0 l0 ∧ ∃ u, T.1 58 lo = nI u ∧ RepU X T u (i + 1) 1 ∧ js = l0 ++ [j1 14 (T.1 48 u) t0 ty 0]
    else if xK X i = 30 then T.1 50 lo = 9 ∧ ∃ u c y t2 u2 l2, T.1 58 lo = nI u ∧ RepU X T u (i + 1) 1 ∧ lo < c ∧ c ≤ hi ∧ Ra (lo + 1) c z t0 u0 l0 ∧ Rb c hi y t2 u2 l2 ∧ T.1 53 lo = y ∧ js = l0 ++ l2 ++ [j1 15 (T.1 48 u) t2 ty 0]
    else Ra (lo + 1) hi z t0 u0 l0 ∧ (if xK X i = 31 then T.1 50 lo = 11 ∧ js = l0 ++ [j1 12 t0 ty 0 0] else T.1 50 lo = 12 ∧ js = l0 ++ [j1 13 t0 0 0 0]))
  else if k = 9 then ∃ z t0 u0 l0, x = nI lo ∧ lo < hi ∧ T.1 52 lo = z ∧ T.1 50 lo = 10 ∧ ty = T.1 60 lo ∧ tl = 0 ∧ Ra (lo + 1) hi z t0 u0 l0 ∧ js = l0 ++ [j1 7 u0 t0 ty 0]
  else if k = 10 then ∃ m y z t0 u0 l0 l2, x = nI m ∧ lo ≤ m ∧ m < hi ∧ Ra lo m y t0 u0 l0 ∧ T.1 52 m = y ∧ T.1 55 m = z ∧ Rb (m + 1) hi z 0 0 l2 ∧ ty = 0 ∧ tl = 0 ∧ js = l0 ++ l2
  else False
def AnE (X : Lx) (T : gSt) : Tr → Nat → Nat → Int32 → Int32 → Int32 → List T5 → Prop
  | .add (.add (.var k) (.add (.var i) (.var e))) (.add a b), lo, hi, x, ty, tl, js => AnN X T (AnE X T a) (AnE X T b) k i e lo hi x ty tl js
  | .num _, _, _, x, ty, tl, js => x = -1 ∧ ty = 0 ∧ tl = 0 ∧ js = []
  | _, _, _, _, _, _, _ => False
/-- what the check of a tree may have changed of the notes -/
def Fm (X : Lx) (T T' : gSt) (lo hi a b : Nat) : Prop := (∀ j, (j < lo ∨ hi ≤ j) → T'.1 60 j = T.1 60 j ∧ T'.1 61 j = T.1 61 j) ∧ (∀ u, T'.1 48 u = T.1 48 u ∨ ∃ q, a ≤ q ∧ q < b ∧ T.1 47 u = nI (xP X q)) ∧ (∀ j, j < (T.1 94 0).toNatClampNeg → T'.1 93 j = T.1 93 j) ∧ T'.1 94 0 = T.1 94 0
def PI (X : Lx) : Prop := ∀ q q', q < xn X → q' < xn X → nI (xP X q) = nI (xP X q') → q = q'
/-- the notes on a stretch stay -/
abbrev SPw (T T' : gSt) : Prop := (∀ k, k < 65 → ¬ fE k → anF k = false → T'.1 k = T.1 k) ∧ ∀ k, k < 72 → T'.2 k = T.2 k
abbrev SPx (T T' : gSt) : Prop := (∀ k, k < 64 → ¬ fE k → anF k = false → T'.1 k = T.1 k) ∧ ∀ k, k < 72 → T'.2 k = T.2 k
def Kp (X : Lx) (T T' : gSt) (lo hi a b : Nat) : Prop := SPx T T' ∧ (∀ j, lo ≤ j → j < hi → T'.1 60 j = T.1 60 j ∧ T'.1 61 j = T.1 61 j) ∧ (∀ u q, a ≤ q → q < b → T.1 47 u = nI (xP X q) → T'.1 48 u = T.1 48 u)
section AN
variable {T T' T'' : gSt} {X : Lx} {lo hi a b lo2 hi2 a2 b2 m n u i e k : Nat} {x ty tl : Int32} {js : List T5} {t : Tr}
theorem Fm.rf : Fm X T T lo hi a b := ⟨fun _ _ => ⟨rfl, rfl⟩, fun _ => Or.inl rfl, fun _ _ => rfl, rfl⟩
theorem Fm.up (h : Fm X T T' lo hi a b) (h1 : lo2 ≤ lo) (h2 : hi ≤ hi2) (h3 : a2 ≤ a) (h4 : b ≤ b2) : Fm X T T' lo2 hi2 a2 b2 := ⟨fun j q => h.1 j (by omega), fun u => (h.2.1 u).elim Or.inl (fun ⟨q, q1, q2, q3⟩ => Or.inr ⟨q, by omega, by omega, q3⟩), h.2.2⟩
theorem Fm.tr (h : Fm X T T' lo hi a b) (h2 : Fm X T' T'' lo hi a b) (hs : SP T T') : Fm X T T'' lo hi a b := ⟨fun j q => ⟨(h2.1 j q).1.trans (h.1 j q).1, (h2.1 j q).2.trans (h.1 j q).2⟩, fun u => by
  rcases h2.2.1 u with c | ⟨q, q1, q2, q3⟩
  · rw [c]; exact h.2.1 u
  · refine Or.inr ⟨q, q1, q2, ?_⟩
    rw [hs.1 47 (by omega) rfl] at q3
    exact q3, fun j q => (h2.2.2.1 j (by rw [h.2.2.2]; exact q)).trans (h.2.2.1 j q), h2.2.2.2.trans h.2.2.2⟩
theorem Fm.nt (h : ∀ k, anF k = true → T'.1 k = T.1 k) : Fm X T T' lo hi a b := ⟨fun j _ => by rw [h 60 rfl, h 61 rfl]; exact ⟨rfl, rfl⟩, fun u => Or.inl (by rw [h 48 rfl]), fun j _ => by rw [h 93 rfl], by rw [h 94 rfl]⟩
theorem Fm.a1 (h : A1 T T' m) (h1 : lo ≤ m) (h2 : m < hi) : Fm X T T' lo hi a b := ⟨fun j q => ⟨by rw [h.2.1], h.2.2.2.2 j (by omega)⟩, fun u => Or.inl (by rw [h.1]), fun j _ => by rw [h.2.2.1], by rw [h.2.2.2.1]⟩
theorem Fm.t60 (h1 : lo ≤ m) (h2 : m < hi) : Fm X T (sI T 60 m x) lo hi a b := ⟨fun j q => ⟨by rw [rdI, if_neg (fun w => by omega)], by rw [sI_ne (by omega)]⟩, fun u => Or.inl (by rw [sI_ne (by omega)]), fun j _ => by rw [sI_ne (by omega)], by rw [sI_ne (by omega)]⟩
theorem Fm.fd (h1 : lo ≤ m) (h2 : m < hi) : Fm X T (sI T 61 m x) lo hi a b := ⟨fun j q => ⟨by rw [sI_ne (by omega)], by rw [rdI, if_neg (fun w => by omega)]⟩, fun u => Or.inl (by rw [sI_ne (by omega)]), fun j _ => by rw [sI_ne (by omega)], by rw [sI_ne (by omega)]⟩
theorem an_k {k : Nat} (h : anF k = true) : k ≠ 7 ∧ k ≠ 8 ∧ (k < 65 ∨ 70 < k) ∧ (k < 88 ∨ 92 < k) := by
  unfold anF at h
  simp only [Bool.or_eq_true, beq_iff_eq] at h
  omega
theorem nt_fl {y : Int32} : ∀ k, anF k = true → (flT T x y).1 k = T.1 k := fun k h => flT_o (an_k h).1 (an_k h).2.1
theorem nt_kn {z : T5} : ∀ k, anF k = true → (knS T z).1 k = T.1 k := fun k h => knS_o (an_k h).2.2.1
theorem nt_ch {f : Nat} {w : Int32} : ∀ k, anF k = true → (chT f T x w).2.1 k = T.1 k := fun k h => chT_o (an_k h).2.2.1 _ _ _
theorem nt_wr {g j : Nat} (hg : 88 ≤ g ∧ g ≤ 92) : ∀ k, anF k = true → (sI T g j x).1 k = T.1 k := fun k h => sI_ne (by have := (an_k h).2.2.2; omega)
theorem nt_ft {y v : Int32} : ∀ k, anF k = true → (ftS T x y v).1 k = T.1 k := fun k h => by
  unfold ftS failS
  split
  · rw [sI_ne (an_k h).2.1, sI_ne (an_k h).1]
  · rfl
theorem SP.rf : SP T T := ⟨fun _ _ _ => rfl, rfl⟩
theorem SP.tr (h : SP T T') (h2 : SP T' T'') : SP T T'' := ⟨fun k a b => (h2.1 k a b).trans (h.1 k a b), h2.2.trans h.2⟩
theorem SP.an {g j : Nat} (h : anF g = true) : SP T (sI T g j x) := ⟨fun k a b => sI_ne (fun e => by rw [e, h] at b; exact absurd b (by decide)), rfl⟩
theorem SP.fe (h : FE T T') : SP T T' := ⟨fun k a _ => h.1 k a, h.2.1⟩
theorem SP.toW (h : SP T T') : SPw T T' := ⟨fun k _ a b => h.1 k a b, fun k _ => by rw [h.2]⟩
theorem SPw.toX (h : SPw T T') : SPx T T' := ⟨fun k a b c => h.1 k (by omega) b c, h.2⟩
theorem SPx.tr (h : SPx T T') (h2 : SPx T' T'') : SPx T T'' := ⟨fun k a b c => (h2.1 k a b c).trans (h.1 k a b c), fun k a => (h2.2 k a).trans (h.2 k a)⟩
theorem SPw.tr (h : SPw T T') (h2 : SPw T' T'') : SPw T T'' := ⟨fun k a b c => (h2.1 k a b c).trans (h.1 k a b c), fun k a => (h2.2 k a).trans (h.2 k a)⟩
theorem Kp.rf : Kp X T T lo hi a b := ⟨SP.rf.toW.toX, fun _ _ _ => ⟨rfl, rfl⟩, fun _ _ _ _ _ => rfl⟩
theorem Kp.tr (h : Kp X T T' lo hi a b) (h2 : Kp X T' T'' lo hi a b) : Kp X T T'' lo hi a b := ⟨h.1.tr h2.1, fun j q1 q2 => ⟨(h2.2.1 j q1 q2).1.trans (h.2.1 j q1 q2).1, (h2.2.1 j q1 q2).2.trans (h.2.1 j q1 q2).2⟩, fun u q q1 q2 q3 => (h2.2.2 u q q1 q2 (by rw [h.1.1 47 (by omega) (by omega) rfl]; exact q3)).trans (h.2.2 u q q1 q2 q3)⟩
theorem Kp.sub (h : Kp X T T' lo hi a b) (h1 : lo ≤ lo2) (h2 : hi2 ≤ hi) (h3 : a ≤ a2) (h4 : b2 ≤ b) : Kp X T T' lo2 hi2 a2 b2 := ⟨h.1, fun j q1 q2 => h.2.1 j (by omega) (by omega), fun u q q1 q2 q3 => h.2.2 u q (by omega) (by omega) q3⟩
theorem Kp.fm (hx : PI X) (hs : SP T T') (h : Fm X T T' lo hi a b) (hn : hi2 ≤ lo ∨ hi ≤ lo2) (ht : b2 ≤ a ∨ b ≤ a2) (h1 : b2 ≤ xn X) (h2 : b ≤ xn X) : Kp X T T' lo2 hi2 a2 b2 := ⟨hs.toW.toX, fun j q1 q2 => h.1 j (by omega), fun u q q1 q2 q3 => by
  rcases h.2.1 u with c | ⟨q', e1, e2, e3⟩
  · exact c
  · have := hx q q' (by omega) (by omega) (q3.symm.trans e3)
    omega⟩
theorem Kp.nw (hs : SPw T T') (h : ∀ k, anF k = true → T'.1 k = T.1 k) : Kp X T T' lo hi a b := ⟨hs.toX, fun j _ _ => by rw [h 60 rfl, h 61 rfl]; exact ⟨rfl, rfl⟩, fun u _ _ _ _ => by rw [h 48 rfl]⟩
theorem Kp.nt (hs : SP T T') (h : ∀ k, anF k = true → T'.1 k = T.1 k) : Kp X T T' lo hi a b := ⟨hs.toW.toX, fun j _ _ => by rw [h 60 rfl, h 61 rfl]; exact ⟨rfl, rfl⟩, fun u _ _ _ _ => by rw [h 48 rfl]⟩
theorem Kp.t60 (h : m < lo ∨ hi ≤ m) : Kp X T (sI T 60 m x) lo hi a b := ⟨(SP.an rfl).toW.toX, fun j _ _ => ⟨by rw [rdI, if_neg (fun w => by omega)], by rw [sI_ne (by omega)]⟩, fun u _ _ _ _ => by rw [sI_ne (by omega)]⟩
theorem Kp.a1 (hs : SP T T') (h : A1 T T' m) (hm : m < lo ∨ hi ≤ m) : Kp X T T' lo hi a b := ⟨hs.toW.toX, fun j _ _ => ⟨by rw [h.2.1], h.2.2.2.2 j (by omega)⟩, fun u _ _ _ _ => by rw [h.1]⟩
theorem RepU.sp (hs : SP T T') (h : RepU X T u i e) : RepU X T' u i e := by
  unfold RepU nU at *
  rw [hs.2, hs.1 47 (by omega) rfl, hs.1 45 (by omega) rfl]
  exact h
theorem RepU.sx (hs : SPx T T') (h : RepU X T u i e) : RepU X T' u i e := by
  unfold RepU nU at *
  rw [hs.2 46 (by omega), hs.1 47 (by omega) (by omega) rfl, hs.1 45 (by omega) (by omega) rfl]
  exact h
theorem RepU.sw (hs : SPw T T') (h : RepU X T u i e) : RepU X T' u i e := RepU.sx hs.toX h
theorem RepM.kp (h : RepM X T t lo hi x) (hs : SP T T') (h61 : ∀ j, lo ≤ j → j < hi → T'.1 61 j = T.1 61 j) : RepM X T' t lo hi x := by
  refine RepM.ag ⟨fun g j a b c d e => ?_, fun j _ _ => by rw [hs.2], ?_, fun j _ => ⟨by rw [hs.2], by rw [hs.1 47 (by omega) rfl]⟩⟩ h
  · by_cases q : g = 61
    · subst q; exact h61 j d e
    · rw [hs.1 g (by omega) (by unfold anF; simp; omega)]
  · unfold nU
    rw [hs.1 45 (by omega) rfl]
    exact Nat.le_refl _
theorem AnN.kp {Ra Rb Ra' Rb' : Nat → Nat → Int32 → Int32 → Int32 → List T5 → Prop} {Wa Wc : Bool → Nat → Nat → Prop} {mo : Bool} (hx : b ≤ xn X) (hw : WfN X Wa Wc k i e mo a b) (hwa : ∀ mo a b, Wa mo a b → a ≤ b) (hwb : ∀ mo a b, Wc mo a b → a ≤ b) (h : Kp X T T' lo hi a b) (ha : ∀ mo a' b' lo' hi' x ty tl js, a ≤ a' → b' ≤ b → Wa mo a' b' → lo ≤ lo' → hi' ≤ hi → Ra lo' hi' x ty tl js → Ra' lo' hi' x ty tl js) (hb : ∀ mo a' b' lo' hi' x ty tl js, a ≤ a' → b' ≤ b → Wc mo a' b' → lo ≤ lo' → hi' ≤ hi → Rb lo' hi' x ty tl js → Rb' lo' hi' x ty tl js) (hr : AnN X T Ra Rb k i e lo hi x ty tl js) : AnN X T' Ra' Rb' k i e lo hi x ty tl js := by
  have w : ∀ g m, 50 ≤ g → g ≤ 59 → T'.1 g m = T.1 g m := fun g m p q => by rw [h.1.1 g (by omega) (by omega) (by unfold anF; simp; omega)]
  have w0 : ∀ m, lo ≤ m → m < hi → T'.1 60 m = T.1 60 m := fun m p q => (h.2.1 m p q).1
  have w1 : ∀ m, lo ≤ m → m < hi → T'.1 61 m = T.1 61 m := fun m p q => (h.2.1 m p q).2
  have us : ∀ u q n j, RepU X T u q n → a ≤ q → q + n ≤ b → j < n → T'.1 48 (u + j) = T.1 48 (u + j) := fun u q n j hu h1 h2 hj => h.2.2 (u + j) (q + j) (by omega) (by omega) (hu.2 j hj).2
  unfold WfN at hw
  unfold AnN at hr ⊢
  cases mo with
  | true =>
    rw [if_pos rfl] at hw
    obtain ⟨rfl, b1, c1, e1, e2, e3⟩ := hw
    simp only [if_neg (show ¬ (10 = 1) by omega), if_neg (show ¬ (10 = 2) by omega), if_neg (show ¬ (10 = 3) by omega), if_neg (show ¬ (10 = 4) by omega), if_neg (show ¬ (10 = 5) by omega), if_neg (show ¬ (10 = 6) by omega), if_neg (show ¬ (10 = 7) by omega), if_neg (show ¬ (10 = 8) by omega), if_neg (show ¬ (10 = 9) by omega), if_pos (rfl : 10 = 10)] at hr ⊢
    obtain ⟨m, y, z, t0, u0, l0, l2, r1, r2, r3, r4, r5, r6, r7, r8, r9, r10⟩ := hr
    have := hwa _ _ _ e2
    have := hwb _ _ _ e3
    exact ⟨m, y, z, t0, u0, l0, l2, r1, r2, r3, ha false b1 c1 _ _ _ _ _ _ e1 (by omega) e2 (by omega) (by omega) r4, by rw [w 52 m (by omega) (by omega)]; exact r5, by rw [w 55 m (by omega) (by omega)]; exact r6, hb true c1 b _ _ _ _ _ _ (by omega) (Nat.le_refl _) e3 (by omega) (by omega) r7, r8, r9, r10⟩
  | false =>
    rw [if_neg (by decide)] at hw
    by_cases c : k = 1
    · simp only [if_pos c] at hr ⊢
      obtain ⟨r1, r2, r3, r4, r5⟩ := hr
      rw [w0 lo (by omega) (by omega), w1 lo (by omega) (by omega), w 50 lo (by omega) (by omega), w 52 lo (by omega) (by omega)]
      exact ⟨r1, r2, r3, r4, r5⟩
    simp only [if_neg c] at hw hr ⊢
    clear c
    by_cases c : k = 2
    · simp only [if_pos c] at hw hr ⊢
      obtain ⟨c1, e1, e2, e3⟩ := hw
      exact ha false (a + 1) c1 _ _ _ _ _ _ (by omega) (by omega) e2 (by omega) (by omega) hr
    simp only [if_neg c] at hw hr ⊢
    clear c
    by_cases c : k = 3
    · simp only [if_pos c] at hw hr ⊢
      obtain ⟨m, y, t0, l0, r1, r2, r3, r4, r5, r6, r7⟩ := hr
      rw [← w0 m (by omega) (by omega)] at r6
      rw [← w1 m (by omega) (by omega), ← w 50 m (by omega) (by omega)] at r7
      exact ⟨m, y, t0, l0, r1, r2, r3, ha false a i _ _ _ _ _ _ (by omega) (by omega) hw.1 (by omega) (by omega) r4, by rw [w 52 m (by omega) (by omega)]; exact r5, r6, r7⟩
    simp only [if_neg c] at hw hr ⊢
    clear c
    by_cases c : k = 4
    · simp only [if_pos c] at hw hr ⊢
      obtain ⟨m, y, z, t0, l0, u1, u2, l2, r1, r2, r3, r4, r5, r6, r7, r8, r9, r10⟩ := hr
      obtain ⟨e1, c1, e2, e3⟩ := hw
      have := hwa _ _ _ e1
      have := hwb _ _ _ e2
      exact ⟨m, y, z, t0, l0, u1, u2, l2, r1, r2, r3, ha false a i _ _ _ _ _ _ (by omega) (by omega) e1 (by omega) (by omega) r4, hb false (i + 1) c1 _ _ _ _ _ _ (by omega) (by omega) e2 (by omega) (by omega) r5, by rw [w 52 m (by omega) (by omega)]; exact r6, by rw [w 53 m (by omega) (by omega)]; exact r7, by rw [w 50 m (by omega) (by omega)]; exact r8, by rw [w0 m (by omega) (by omega)]; exact r9, r10⟩
    simp only [if_neg c] at hw hr ⊢
    clear c
    by_cases c : k = 5
    · simp only [if_pos c] at hw hr ⊢
      obtain ⟨m, y, z, t0, l0, u1, u2, l2, r1, r2, r3, r4, r5, r6, r7, r8, r9, r10, r11⟩ := hr
      have := hwa _ _ _ hw.1
      have := hwb _ _ _ hw.2
      exact ⟨m, y, z, t0, l0, u1, u2, l2, r1, r2, r3, ha false a i _ _ _ _ _ _ (by omega) (by omega) hw.1 (by omega) (by omega) r4, hb false (i + 1) b _ _ _ _ _ _ (by omega) (by omega) hw.2 (by omega) (by omega) r5, by rw [w 52 m (by omega) (by omega)]; exact r6, by rw [w 53 m (by omega) (by omega)]; exact r7, by rw [w 50 m (by omega) (by omega)]; exact r8, by rw [w 54 m (by omega) (by omega)]; exact r9, by rw [w0 m (by omega) (by omega)]; exact r10, r11⟩
    simp only [if_neg c] at hw hr ⊢
    clear c
    by_cases c : k = 6
    · simp only [if_pos c] at hw hr ⊢
      obtain ⟨u, z, l0, w', r1, r2, r3, r4, r5, r6, r7, r8, r9, r10, r11⟩ := hr
      obtain ⟨e1, e2, c1, e3, e4⟩ := hw
      have := hwa _ _ _ e3
      exact ⟨u, z, l0, w', r1, r2, ha true _ c1 _ _ _ _ _ _ (by omega) (by omega) e3 (by omega) (by omega) r3, by rw [w 50 lo (by omega) (by omega)]; exact r4, by rw [w 58 lo (by omega) (by omega)]; exact r5, by rw [w 52 lo (by omega) (by omega)]; exact r6, RepU.sx h.1 r7, fun j hj => by rw [us u (i + 1) e j r7 (by omega) (by omega) hj]; exact r8 j hj, by rw [w0 lo (by omega) (by omega)]; exact r9, r10, by rw [w1 lo (by omega) (by omega)]; exact r11⟩
    simp only [if_neg c] at hw hr ⊢
    clear c
    by_cases c : k = 7
    · simp only [if_pos c] at hw hr ⊢
      obtain ⟨v, z, t0, u0, l0, r1, r2, r3, r4, r5, r6, r7⟩ := hr
      obtain ⟨e1, e2, c1, e3, e4⟩ := hw
      by_cases c : xK X (i + 3 + e) = 49
      · rw [if_pos c] at e3 r7
        have := hwa _ _ _ e3
        obtain ⟨s1, s2, s3, s4, s5, s6⟩ := r7
        refine ⟨v, z, t0, u0, l0, r1, r2, by rw [w 54 lo (by omega) (by omega)]; exact r3, RepU.sx h.1 r4, by rw [w0 lo (by omega) (by omega)]; exact r5, r6, ?_⟩
        rw [if_pos c]
        have u1 := us v (i + 1) 1 0 r4 (by omega) (by omega) (by omega)
        rw [Nat.add_zero] at u1
        exact ⟨by rw [w 50 lo (by omega) (by omega)]; exact s1, by rw [w 52 lo (by omega) (by omega)]; exact s2, s3, by rw [w 52 (lo + 1) (by omega) (by omega)]; exact s4, ha false _ c1 _ _ _ _ _ _ (by omega) (by omega) e3 (by omega) (by omega) s5, by rw [u1, w1 (lo + 1) (by omega) (by omega)]; exact s6⟩
      · rw [if_neg c] at e3 r7
        have := hwa _ _ _ e3
        obtain ⟨s1, s2, s3, s4⟩ := r7
        refine ⟨v, z, t0, u0, l0, r1, r2, by rw [w 54 lo (by omega) (by omega)]; exact r3, RepU.sx h.1 r4, by rw [w0 lo (by omega) (by omega)]; exact r5, r6, ?_⟩
        rw [if_neg c]
        have u1 := us v (i + 1) 1 0 r4 (by omega) (by omega) (by omega)
        rw [Nat.add_zero] at u1
        exact ⟨by rw [w 50 lo (by omega) (by omega)]; exact s1, by rw [w 52 lo (by omega) (by omega)]; exact s2, ha true _ c1 _ _ _ _ _ _ (by omega) (by omega) e3 (by omega) (by omega) s3, by rw [u1]; exact s4⟩
    simp only [if_neg c] at hw hr ⊢
    clear c
    by_cases c : k = 8
    · simp only [if_pos c] at hw hr ⊢
      obtain ⟨z, t0, u0, l0, r1, r2, r3, r4, r5, r6⟩ := hr
      obtain ⟨e1, e2⟩ := hw
      refine ⟨z, t0, u0, l0, r1, r2, by rw [w 52 lo (by omega) (by omega)]; exact r3, by rw [w0 lo (by omega) (by omega)]; exact r4, r5, ?_⟩
      by_cases c : xK X i = 29
      · rw [if_pos c] at e2 r6 ⊢
        obtain ⟨c1, e3, e4⟩ := e2
        have := hwa _ _ _ e3
        obtain ⟨s1, s2, u, s3, s4, s5⟩ := r6
        have u1 := us u (i + 1) 1 0 s4 (by omega) (by omega) (by omega)
        rw [Nat.add_zero] at u1
        exact ⟨by rw [w 50 lo (by omega) (by omega)]; exact s1, ha false _ c1 _ _ _ _ _ _ (by omega) (by omega) e3 (by omega) (by omega) s2, u, by rw [w 58 lo (by omega) (by omega)]; exact s3, RepU.sx h.1 s4, by rw [u1]; exact s5⟩
      rw [if_neg c] at e2 r6 ⊢
      clear c
      by_cases c : xK X i = 30
      · rw [if_pos c] at e2 r6 ⊢
        obtain ⟨c1, d1, e3, e4, e5⟩ := e2
        have := hwa _ _ _ e3
        have := hwb _ _ _ e4
        obtain ⟨s1, u, cc, y, t2, u2, l2, s2, s3, s4, s5, s6, s7, s8, s9⟩ := r6
        have u1 := us u (i + 1) 1 0 s3 (by omega) (by omega) (by omega)
        rw [Nat.add_zero] at u1
        exact ⟨by rw [w 50 lo (by omega) (by omega)]; exact s1, u, cc, y, t2, u2, l2, by rw [w 58 lo (by omega) (by omega)]; exact s2, RepU.sx h.1 s3, s4, s5, ha false _ c1 _ _ _ _ _ _ (by omega) (by omega) e3 (by omega) (by omega) s6, hb false _ d1 _ _ _ _ _ _ (by omega) (by omega) e4 (by omega) (by omega) s7, by rw [w 53 lo (by omega) (by omega)]; exact s8, by rw [u1]; exact s9⟩
      rw [if_neg c] at e2 r6 ⊢
      obtain ⟨c1, e3, e4⟩ := e2
      refine ⟨ha false _ c1 _ _ _ _ _ _ (by omega) (by omega) e3 (by omega) (by omega) r6.1, ?_⟩
      rw [w 50 lo (by omega) (by omega)]
      exact r6.2
    simp only [if_neg c] at hw hr ⊢
    clear c
    by_cases c : k = 9
    · simp only [if_pos c] at hw hr ⊢
      obtain ⟨z, t0, u0, l0, r1, r2, r3, r4, r5, r6, r7, r8⟩ := hr
      exact ⟨z, t0, u0, l0, r1, r2, by rw [w 52 lo (by omega) (by omega)]; exact r3, by rw [w 50 lo (by omega) (by omega)]; exact r4, by rw [w0 lo (by omega) (by omega)]; exact r5, r6, ha false _ b _ _ _ _ _ _ (by omega) (by omega) hw.2 (by omega) (by omega) r7, r8⟩
    simp only [if_neg c] at hw
theorem Wf_le2 {mo : Bool} (h : Wf X t mo a b) : a ≤ b := by
  cases mo with
  | true => have := (Wf_le t true a b h).2 rfl; omega
  | false => have := (Wf_le t false a b h).1 rfl; omega
theorem AnE.kp (hx : b ≤ xn X) (t : Tr) : ∀ (mo : Bool) (a' b' lo hi : Nat) (x ty tl : Int32) (js : List T5), b' ≤ b → Wf X t mo a' b' → Kp X T T' lo hi a' b' → AnE X T t lo hi x ty tl js → AnE X T' t lo hi x ty tl js := by
  induction t using Tr_ind with
  | h k i e ta tb ihA ihB =>
    intro mo a' b' lo hi x ty tl js hb hw hk h
    exact AnN.kp (by omega) hw (fun _ _ _ q => Wf_le2 q) (fun _ _ _ q => Wf_le2 q) hk (fun mo a2 b2 lo2 hi2 x ty tl js q1 q2 q3 q4 q5 q6 => ihA mo a2 b2 lo2 hi2 x ty tl js (by omega) q3 (hk.sub q4 q5 q1 q2) q6) (fun mo a2 b2 lo2 hi2 x ty tl js q1 q2 q3 q4 q5 q6 => ihB mo a2 b2 lo2 hi2 x ty tl js (by omega) q3 (hk.sub q4 q5 q1 q2) q6) h
  | hz t hz =>
    intro mo a' b' lo hi x ty tl js hb hw hk h
    unfold AnE at h ⊢
    split at h
    · rename_i k i e a b
      exact absurd rfl (hz k i e a b)
    · exact h
    · exact h.elim
end AN
