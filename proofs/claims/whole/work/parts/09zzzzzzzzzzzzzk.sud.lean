/-! instructions keep to the REGIONS in sight */
-/
def okT (Sf S : gSt) (x : Int32) : Prop := x = -2 ∨ (tV Sf x ∧ TyIn Sf S x)
section SUD
variable {M0 T0 S S' Sf : gSt} {X : Lx} {p q c en m n t u f : Nat} {x y r w : Int32} {st st' s0 : List Int32} {jj z : T5} {ρ ρ' : Nat → Nat}
theorem gty_u (hR : Rws Sf) (hc : cn Sf ≤ 6000) (hp : rowP Sf x p) : gty Sf ρ x = (Sf.1 66 p).toNatClampNeg :: ρ (Sf.1 67 p).toNatClampNeg :: tgt Sf ρ p := by
  rw [hp.1, gty_p hR hp.2.1 hp.2.2 hc]
  rfl
theorem okT_0 : okT Sf S 0 := Or.inr ⟨Or.inl rfl, fun ρ ρ' _ => by rw [gty_0 (by decide), gty_0 (by decide)]⟩
theorem rowP.tv (hp : rowP Sf x p) : tV Sf x := Or.inr ⟨p, hp.1, hp.2.1, hp.2.2⟩
/-- a pointer's REGION and what it points to */
-/
theorem okT.pt (hR : Rws Sf) (hc : cn Sf ≤ 6000) (hp : rowP Sf x p) (h : okT Sf S x) (he : ∀ c, sght S c → ρ c = ρ' c) : ρ (Sf.1 67 p).toNatClampNeg = ρ' (Sf.1 67 p).toNatClampNeg ∧ tgt Sf ρ p = tgt Sf ρ' p := by
  rcases h with h | ⟨_, h⟩
  · exact absurd h (hp.n2 hc)
  · have := h ρ ρ' he
    rw [gty_u hR hc hp, gty_u hR hc hp] at this
    injection this with _ this
    injection this with h1 h2
    exact ⟨h1, h2⟩
theorem okT.mk (hR : Rws Sf) (hc : cn Sf ≤ 6000) (hp : rowP Sf x p) (h : ∀ ρ ρ' : Nat → Nat, (∀ c, sght S c → ρ c = ρ' c) → ρ (Sf.1 67 p).toNatClampNeg = ρ' (Sf.1 67 p).toNatClampNeg ∧ tgt Sf ρ p = tgt Sf ρ' p) : okT Sf S x := Or.inr ⟨hp.tv, fun ρ ρ' he => by
  rw [gty_u hR hc hp, gty_u hR hc hp, (h ρ ρ' he).1, (h ρ ρ' he).2]⟩
theorem lv_sg (h : RwS en S) (hl : lvR S r) : ∃ c, r = nI c ∧ c < 12 ∧ sght S c := by
  obtain ⟨⟨c, e1, c12⟩, e2⟩ := hl
  subst e1
  obtain ⟨m, g, n, cd, po, ⟨a1, a2, a3, a4, a5, a6, a7, a8⟩, b1, b2, b3, b4, b5, b6, b7, b8⟩ := h
  have hl : fi (S.1 75 0) c = true := by
    cases e : fi (S.1 75 0) c with
    | true => rfl
    | false => exact absurd ((isLv_fi (by omega)).mpr e) e2
  refine ⟨c, rfl, c12, ?_⟩
  rcases b7 c (by omega) hl with z | ⟨j, j1, j2⟩
  · by_cases c0 : c = 0
    · exact Or.inl c0
    · exact Or.inr ⟨c12, c - 1, by omega, by rw [b1 (c - 1) (by omega)]; congr 1; omega⟩
  · exact Or.inr ⟨c12, en + j, by omega, by rw [(b2 j j1).1, j2]⟩
theorem lv_ρ (h : RwS en S) (hl : lvR S r) (he : ∀ c, sght S c → ρ c = ρ' c) : ρ r.toNatClampNeg = ρ' r.toNatClampNeg := by
  obtain ⟨c, e1, c12, sg⟩ := lv_sg h hl
  rw [e1, nc (by omega)]
  exact he c sg
/-- a title's REGIONS */
-/
theorem ch_eq (he : ∀ c, sght S c → ρ c = ρ' c) (hk : ∀ k, k < n → ρ (ptOf w (nI k)).toNatClampNeg = ρ' (ptOf w (nI k)).toNatClampNeg) (n3 : n ≤ 3) : ∀ c, c ≤ n → chρ ρ w c = chρ ρ' w c := by
  intro c hc
  cases c with
  | zero =>
    unfold chρ chP
    rw [if_pos (show nI 0 < 1 by decide)]
    exact he _ (Or.inl rfl)
  | succ c => rw [chρ_s (by omega), chρ_s (by omega)]; exact hk c (by omega)
theorem map_eq {f g : Nat → Nat} : ∀ {n : Nat}, (List.range n).map f = (List.range n).map g → ∀ k, k < n → f k = g k := by
  intro n h k hk
  have := congrArg (fun l => l.getD k 0) h
  simpa [List.getD, hk] using this
theorem sg_ρ (hs : sgW S w n) (he : ∀ c, sght S c → ρ c = ρ' c) : ∀ k, k < n → ρ (ptOf w (nI k)).toNatClampNeg = ρ' (ptOf w (nI k)).toNatClampNeg := by
  intro k hk
  obtain ⟨c, e1, sg⟩ := hs k hk
  have c12 : c < 100000 := by
    rcases sg with z | z
    · omega
    · omega
  rw [e1, nc c12]
  exact he c sg
theorem fld_in (cx : CxP M0 T0 Sf) (hth : thrP Sf S x p t) (ho : okT Sf S x) (hf : fldP Sf t f c) (hv : tV Sf y) (hg : ∀ ρ, gty Sf ρ y = gty Sf (chρ ρ (Sf.1 70 p)) (Sf.1 24 (c + f))) : TyIn Sf S y := by
  have hc6 : cn Sf ≤ 6000 := by have := cx.2.1; omega
  obtain ⟨hp, hk, h69, ht, hlv⟩ := hth
  obtain ⟨c2, m2, iq⟩ := cx.2.2.2.2.2 t ht
  obtain ⟨ec, fm⟩ := iq.un (m' := 0) hf
  subst ec
  have ty := (iq.2.2.2.2.2.2.2.1 f fm).2
  have e3 := iq.2.2.2.2.2.2.2.2.2.2
  intro ρ ρ' he
  rw [hg, hg]
  refine ty _ _ (ch_eq he ?_ e3)
  have i24 := cx.2.2.2.2.1
  have := (ho.pt cx.1 hc6 hp he).2
  rw [tgt_t h69 (by omega), tgt_t h69 (by omega)] at this
  injection this with _ this
  injection this with _ this
  exact map_eq this
theorem ty_in (cx : CxP M0 T0 Sf) (hV : VwS Sf S) (hR : RwS en S) (hty : tyJ Sf S jj st st') (hs : ∀ x, x ∈ st → okT Sf S x) : ∀ x, x ∈ st' → okT Sf S x := by
  have hc6 : cn Sf ≤ 6000 := by have := cx.2.1; omega
  have i24 := cx.2.2.2.2.1
  have R := cx.1
  have cons : ∀ (x : Int32) (s0 : List Int32), okT Sf S x → (∀ y, y ∈ s0 → okT Sf S y) → ∀ y, y ∈ x :: s0 → okT Sf S y := fun x s0 h1 h2 y hy => by
    rcases List.mem_cons.mp hy with e | e
    · rw [e]; exact h1
    · exact h2 y e
  have tl : ∀ (x : Int32) (s0 : List Int32), (∀ y, y ∈ x :: s0 → okT Sf S y) → okT Sf S x ∧ ∀ y, y ∈ s0 → okT Sf S y := fun x s0 h => ⟨h x List.mem_cons_self, fun y hy => h y (List.mem_cons_of_mem _ hy)⟩
  have dr : ∀ (a b : List Int32), (∀ y, y ∈ a ++ b → okT Sf S y) → ∀ y, y ∈ b → okT Sf S y := fun a b h y hy => h y (List.mem_append.mpr (Or.inr hy))
  -- a new pointer with the REGION and target of an old one
  have same : ∀ (x y : Int32) (p : Nat) (k : Int32), rowP Sf x p → okT Sf S x → newP Sf y (k, Sf.1 67 p, Sf.1 68 p, Sf.1 69 p, Sf.1 70 p) → okT Sf S y := fun x y p k hp ho ⟨q, hq, hz⟩ => by
    obtain ⟨z1, z2, z3, z4, z5⟩ := rwT_g hz
    refine okT.mk R hc6 hq (fun ρ ρ' he => ?_)
    obtain ⟨a, b⟩ := ho.pt R hc6 hp he
    rw [z2, tgt_eq (p := q) (q := p) z3 z4 z5, tgt_eq (p := q) (q := p) z3 z4 z5]
    exact ⟨a, b⟩
  -- a new pointer to a cell
  have cell : ∀ (x y r : Int32) (k : Int32), (∀ ρ ρ' : Nat → Nat, (∀ c, sght S c → ρ c = ρ' c) → ρ r.toNatClampNeg = ρ' r.toNatClampNeg) → TyIn Sf S x → newP Sf y (k, r, x, -1, 0) → okT Sf S y := fun x y r k hr hx ⟨q, hq, hz⟩ => by
    obtain ⟨z1, z2, z3, z4, z5⟩ := rwT_g hz
    refine okT.mk R hc6 hq (fun ρ ρ' he => ?_)
    rw [z2, tgt_c (by rw [z4]; show (-1 : Int32) < 0; decide), tgt_c (by rw [z4]; show (-1 : Int32) < 0; decide), z3]
    exact ⟨hr ρ ρ' he, by rw [hx ρ ρ' he]⟩
  have tit : ∀ (y r w : Int32) (t e : Nat), lvR S r → t < inn Sf → Sf.1 15 t = nI e → e ≤ 3 → sgW S w e → newP Sf y (1, r, -1, nI t, w) → okT Sf S y := fun y r w t e hl ht h15 he3 hsg ⟨q, hq, hz⟩ => by
    obtain ⟨z1, z2, z3, z4, z5⟩ := rwT_g hz
    refine okT.mk R hc6 hq (fun ρ ρ' he => ?_)
    rw [z2, tgt_t (t := t) z4 (by omega), tgt_t (t := t) z4 (by omega), z5]
    refine ⟨lv_ρ hR hl he, ?_⟩
    have ee : eN Sf t = e := by unfold eN; rw [h15, nc (by omega)]
    have : (List.range (eN Sf t)).map (fun k => ρ (ptOf w (nI k)).toNatClampNeg) = (List.range (eN Sf t)).map (fun k => ρ' (ptOf w (nI k)).toNatClampNeg) := List.map_congr_left (fun k hk => sg_ρ hsg he k (by rw [← ee]; exact List.mem_range.mp hk))
    rw [this]
  have c68 : ∀ (x : Int32) (p : Nat), rowP Sf x p → okT Sf S x → Sf.1 69 p < 0 → TyIn Sf S (Sf.1 68 p) := fun x p hp ho h69 ρ ρ' he => by
    have := (ho.pt R hc6 hp he).2
    rw [tgt_c h69, tgt_c h69] at this
    injection this
  rcases ty_k hty with j | j | j | j | j | j | j | j | j | j | j | j | j | j | j | j | j | j | j
  · rw [tyJ_1 (Or.inl j)] at hty; subst hty; exact cons _ _ okT_0 hs
  · rw [tyJ_2 j] at hty; subst hty; exact cons _ _ (Or.inl rfl) hs
  · rw [tyJ_1 (Or.inr j)] at hty; subst hty; exact cons _ _ okT_0 hs
  · rw [tyJ_4 j] at hty; obtain ⟨e, _⟩ := hty; subst e; exact cons _ _ okT_0 hs
  · rw [tyJ_5 j] at hty
    obtain ⟨e, u, s, hva, _, h5⟩ := hty
    subst e
    have hu : okT Sf S (S.1 80 u) := Or.inr (hV.2.2.2.1 u hva.1)
    rcases h5 with h5 | ⟨_, p, hp, _, hn⟩
    · exact cons _ _ (by rw [h5]; exact hu) hs
    · exact cons _ _ (same _ _ p _ hp hu hn) hs
  · rw [tyJ_6 j] at hty
    obtain ⟨s0, p, t, f, c, e1, e2, hth, _, hf, hv, hg⟩ := hty
    subst e1 e2
    obtain ⟨a, b⟩ := tl _ _ hs
    exact cons _ _ (Or.inr ⟨hv, fld_in cx hth a hf hv hg⟩) b
  · rw [tyJ_7 j] at hty
    obtain ⟨s0, p, t, f, c, e1, e2, hth, _, _, hf, hv, hg, hn⟩ := hty
    subst e1 e2
    obtain ⟨a, b⟩ := tl _ _ hs
    exact cons _ _ (cell _ _ _ _ (fun ρ ρ' he => (a.pt R hc6 hth.1 he).1) (fld_in cx hth a hf hv hg) hn) b
  · rw [tyJ_8 j] at hty
    obtain ⟨s0, p, e1, e2, ⟨hp, hk, h69, hlv⟩, e68⟩ := hty
    subst e1 e2
    obtain ⟨_, b⟩ := tl _ _ hs
    obtain ⟨a, b⟩ := tl _ _ b
    exact cons _ _ (by rw [e68]; exact Or.inr ⟨tV_68 R hp h69, c68 _ p hp a h69⟩) b
  · rw [tyJ_9 j] at hty
    obtain ⟨s0, p, e1, e2, ⟨hp, hk, h69, hlv⟩, e68, hn⟩ := hty
    subst e1 e2
    obtain ⟨_, b⟩ := tl _ _ hs
    obtain ⟨a, b⟩ := tl _ _ b
    exact cons _ _ (cell _ _ _ _ (fun ρ ρ' he => (a.pt R hc6 hp he).1) (c68 _ p hp a h69) hn) b
  · rw [tyJ_10 j] at hty
    obtain ⟨s0, p, e1, e2, ⟨hp, hk, h69, hlv⟩, e68⟩ := hty
    subst e1 e2
    obtain ⟨a, b⟩ := tl _ _ hs
    exact cons _ _ (by rw [e68]; exact Or.inr ⟨tV_68 R hp h69, c68 _ p hp a h69⟩) b
  · rw [tyJ_11 j] at hty
    obtain ⟨s0, p, t, f, c, e1, e2, _⟩ := hty
    subst e1 e2
    exact cons _ _ okT_0 (tl _ _ hs).2
  · rw [tyJ_12 j] at hty
    obtain ⟨s0, p, e1, e2, hp, _, hn⟩ := hty
    subst e1 e2
    obtain ⟨a, b⟩ := tl _ _ hs
    exact cons _ _ (same _ _ p _ hp a hn) b
  · rw [tyJ_13 j] at hty
    obtain ⟨s0, p, e1, e2, _⟩ := hty
    subst e1 e2
    exact cons _ _ okT_0 (tl _ _ hs).2
  · rw [tyJ_14 j] at hty
    obtain ⟨s0, e1, e2, hv, hl, hn⟩ := hty
    subst e1 e2
    obtain ⟨a, b⟩ := tl _ _ hs
    rcases a with a | ⟨_, a⟩
    · exact absurd a (by rcases hv.row with e | ⟨p, hp⟩; rw [e]; decide; exact hp.n2 hc6)
    · exact cons _ _ (cell _ _ _ _ (fun ρ ρ' he => lv_ρ hR hl he) a hn) b
  · rw [tyJ_15 j] at hty
    obtain ⟨s0, e1, e2, hv, hl, hn⟩ := hty
    subst e1 e2
    obtain ⟨a, b⟩ := tl _ _ hs
    rcases a with a | ⟨_, a⟩
    · exact absurd a (by rcases hv.row with e | ⟨p, hp⟩; rw [e]; decide; exact hp.n2 hc6)
    · exact cons _ _ (cell _ _ _ _ (fun ρ ρ' he => lv_ρ hR hl he) a hn) (tl _ _ b).2
  · rw [tyJ_16 j] at hty
    obtain ⟨s0, ts, t, w, c, e, e1, e2, hl, hn, ht, _, ⟨h15, he3, hsg⟩, _⟩ := hty
    subst e1 e2
    exact cons _ _ (tit _ _ _ t e hl ht h15 he3 hsg hn) (dr _ _ hs)
  · rw [tyJ_17 j] at hty
    obtain ⟨s0, x, t, w, f, c, e, e1, e2, hl, hn, ht, _, ⟨h15, he3, hsg⟩, _⟩ := hty
    subst e1 e2
    exact cons _ _ (tit _ _ _ t e hl ht h15 he3 hsg hn) (tl _ _ hs).2
  · rw [tyJ_18 j] at hty
    obtain ⟨s0, ts, t, c, e, e1, e2, _, ht, h12, _, hsg, _, he3, h15, _, _, _, _, _, _, hres⟩ := hty
    have b := dr _ _ (by rw [e1] at hs; exact hs)
    by_cases z : jj.2.2.2.1 = -1
    · rw [if_pos z] at e2
      rw [e2]
      exact b
    · rw [if_neg z] at e2
      rw [e2]
      by_cases r0 : 0 ≤ Sf.1 25 t
      · rw [if_pos r0] at hres
        obtain ⟨tv, tg⟩ := hres
        obtain ⟨c2, m2, iq⟩ := cx.2.2.2.2.2 t ht
        have ty := (iq.2.2.2.2.2.2.2.2.1 r0 h12).2
        have ee : eN Sf t = e := by unfold eN; rw [h15, nc (by omega)]
        refine cons _ _ (Or.inr ⟨tv, fun ρ ρ' he => ?_⟩) b
        rw [tg, tg]
        exact ty _ _ (ch_eq he (fun k hk => sg_ρ hsg he k (by omega)) (by omega))
      · rw [if_neg r0] at hres
        exact absurd hres z
  · rw [tyJ_19 j] at hty
    obtain ⟨s0, e1, e2, hc⟩ := hty
    subst e1 e2
    obtain ⟨a, b⟩ := tl _ _ hs
    obtain ⟨a2, b2⟩ := tl _ _ b
    rcases hc with ⟨er, _⟩ | ⟨_, ez, _⟩ | ⟨ez, _⟩
    · exact cons _ _ (by rw [er]; exact a2) b2
    · exact cons _ _ (by rw [ez]; exact okT_0) b2
    · exact cons _ _ (by rw [ez]; exact okT_0) b2
end SUD
