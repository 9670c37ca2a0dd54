/-! places of the code: what is known there */
-/
/-- VARS that handlers have */
-/
def HvP (S : gSt) (hs : List HD) : Prop := ∀ h : HD, h ∈ hs → vn h.2.2 ≤ vn S ∧ ∀ u, u < vn h.2.2 → h.2.2.1 79 u = S.1 79 u ∧ h.2.2.1 80 u = S.1 80 u ∧ h.2.2.2 78 u = S.2 78 u
def TiV (Sf S : gSt) : Prop := ∀ u, u < vn S → TyIn Sf S (S.1 80 u)
/-- what is known at a place of a BLOCK dd deep */
-/
def JS (Sf : gSt) (it dd : Nat) (S : gSt) (hs : List HD) : Prop := RwS (eN Sf it) S ∧ TiV Sf S ∧ (∃ c, S.1 87 0 = nI c ∧ c + 1 ≤ dd) ∧ dd ≤ 20 ∧ hs.length = trc S (arn S) ∧ hs.length + 1 ≤ dd ∧ HsP S hs ∧ HvP S hs ∧ ∀ h : HD, h ∈ hs → VwS Sf h.2.2
/-- handlers don't know what STEPS give something to */
-/
def KvP (X : Lx) (t : Tr) (hs : List HD) : Prop := ∀ h : HD, h ∈ hs → ∀ u s, u < vn h.2.2 → AsR X t h.2.2 u → h.2.2.1 79 u = nI s → fi (h.2.2.1 82 0) s = false
/-- handlers lie behind */
-/
def PsH (n m : Nat) (hs : List HD) : Prop := ∀ h : HD, h ∈ hs → n < h.1 ∧ m < h.2.1
section SUI
variable {M0 T0 S S' S1 S2 Sf : gSt} {X : Lx} {it e v g n n' m m' k i q c en j a b v' g' dd dd' u s n1 B L : Nat} {t ta tb : Tr} {x y r w : Int32} {st st' s0 : List Int32} {hs : List HD} {jj : T5} {ks js : List T5}
theorem ws_fw (hC : Ck S) (hF : FW S Sf) (hc : cn Sf < 6000) (hx : tV S x) : wS S x = wS Sf x := by
  have c6 := hF.lt hC.1 hc
  unfold wS isRo
  rcases hx with e | ⟨p, e, p1, p2⟩
  · rw [e]; rfl
  · have r := hF.row hC.1 hc p2
    have r66 : Sf.1 66 p = S.1 66 p := (rwT_g (T := Sf) (p := p) (z := rwT S p) r).1
    rw [e, if_neg (nI_np (by omega) p1), if_neg (nI_np (by omega) p1), nc (by omega), r66]
theorem sl_fw (hC : Ck S) (hF : FW S Sf) (hc : cn Sf < 6000) : ∀ u, u ≤ vn S → slW S u = slV Sf S u := by
  intro u
  induction u with
  | zero => intro _; rfl
  | succ u ih =>
    intro hu
    rw [slW, slV, ih (by omega), ws_fw hC hF hc (hC.2.2.2.2.2.2.2 u (by omega))]
theorem vw_of (hj : TiV Sf S) (hl : SlB S v) (hC : Ck S) (hF : FW S Sf) (hc : cn Sf < 6000) : VwS Sf S := by
  obtain ⟨a1, a2, a3, a4⟩ := hl
  exact ⟨fun u hu => by obtain ⟨s, s1, s2⟩ := a3 u hu; exact ⟨s, s1, by omega⟩, a2, a4, fun u hu => ⟨hF.tv hC.1 (hC.2.2.2.2.2.2.2 u hu), hj u hu⟩, sl_fw hC hF hc⟩
theorem JS.iv (h : JS Sf it dd S hs) (hl : SlB S v) (hC : Ck S) (hF : FW S Sf) (hc : cn Sf < 6000) : IvP Sf it S [] hs := by
  obtain ⟨j1, j2, ⟨c, j3, j4⟩, j5, j6, j7, j8, j9, j10⟩ := h
  exact ⟨vw_of j2 hl hC hF hc, j1, ⟨c, j3, by omega⟩, fun x hx => absurd hx List.not_mem_nil, by show 0 ≤ 450; omega, by show 0 ≤ 150; omega, j6, by omega, fun h hh => (j8 h hh).1⟩
theorem IvP.stk (h : IvP Sf it S [] hs) (h1 : ∀ x, x ∈ st → okT Sf S x) (h2 : wsl Sf st ≤ 450) (h3 : st.length ≤ 150) : IvP Sf it S st hs := ⟨h.1, h.2.1, h.2.2.1, h1, h2, h3, h.2.2.2.2.2.2⟩
theorem IvP.nl (h : IvP Sf it S st hs) : IvP Sf it S [] hs := ⟨h.1, h.2.1, h.2.2.1, fun x hx => absurd hx List.not_mem_nil, by show 0 ≤ 450; omega, by show 0 ≤ 150; omega, h.2.2.2.2.2.2⟩
theorem sght_fv (h : FV S S') : sght S' c ↔ sght S c := by
  have er : rn S' = rn S := by unfold rn; rw [h.1]
  unfold sght
  rw [er]
  constructor
  · rintro (w | ⟨c12, k, k1, k2⟩)
    · exact Or.inl w
    · exact Or.inr ⟨c12, k, k1, by rw [← h.2.1 k k1]; exact k2⟩
  · rintro (w | ⟨c12, k, k1, k2⟩)
    · exact Or.inl w
    · exact Or.inr ⟨c12, k, k1, by rw [h.2.1 k k1]; exact k2⟩
theorem TyIn.fv (hx : TyIn Sf S x) (h : FV S S') : TyIn Sf S' x := fun ρ ρ' he => hx ρ ρ' (fun c hc => he c ((sght_fv h).mpr hc))
theorem TiV.fv (hx : TiV Sf S) (h : FV S S') (h7 : S'.1 77 0 = S.1 77 0) : TiV Sf S' := fun u hu => by
  have ev : vn S' = vn S := by unfold vn; rw [h7]
  rw [(h.2.2.2.2.2.1 u (by omega)).2.1]
  exact (hx u (by omega)).fv h
theorem trc_ee (h : ∀ q, q < n → S'.1 85 q = S.1 85 q) : ∀ q, q ≤ n → trc S' q = trc S q := by
  intro q
  induction q with
  | zero => intro _; rfl
  | succ q ih => intro hq; rw [trc, trc, ih (by omega), h q (by omega)]
theorem JS.fr (h : JS Sf it dd S hs) (hf : FR S S') (h7 : S'.1 77 0 = S.1 77 0) : JS Sf it dd S' hs := by
  obtain ⟨j1, j2, ⟨c, j3, j4⟩, j5, j6, j7, j8, j9, j10⟩ := h
  have ea : arn S' = arn S := by unfold arn; rw [hf.1.2.2.1]
  have ev : vn S' = vn S := by unfold vn; rw [h7]
  refine ⟨j1.fr hf, j2.fv hf.1 h7, ⟨c, by rw [hf.2.2.1]; exact j3, j4⟩, j5, ?_, j7, j8.fr hf, fun h hh => ?_, j10⟩
  · rw [ea, trc_ee hf.1.2.2.2.1 _ (Nat.le_refl _)]; exact j6
  · obtain ⟨a1, a2⟩ := j9 h hh
    refine ⟨by omega, fun u hu => ?_⟩
    obtain ⟨b1, b2, b3⟩ := a2 u hu
    obtain ⟨c1, c2, c3⟩ := hf.1.2.2.2.2.2.1 u (by omega)
    exact ⟨b1.trans c1.symm, b2.trans c2.symm, b3.trans c3.symm⟩
theorem JS.deep (h : JS Sf it dd S hs) (h1 : dd ≤ dd') (h2 : dd' ≤ 20) : JS Sf it dd' S hs := by
  obtain ⟨j1, j2, ⟨c, j3, j4⟩, j5, j6, j7, j8⟩ := h
  exact ⟨j1, j2, ⟨c, j3, by omega⟩, h2, j6, by omega, j8⟩
theorem gd_ru (iv : IvP Sf it S st hs) (n12 : n < 12000) (mn : m < n1) (hp : PsH n m hs) (h : ∀ j, k = j + 1 → GRu M0 T0 Sf n1 it (Gdk M0 T0 Sf n1 it j) n m S st hs) : Gdk M0 T0 Sf n1 it k n m S st hs := by
  cases k with
  | zero => trivial
  | succ k => exact ⟨S, WkT.rf, iv, n12, mn, hp, h k rfl⟩
theorem PsH.le (h : PsH n' m' hs) (h1 : n ≤ n') (h2 : m ≤ m') : PsH n m hs := fun x hx => by
  obtain ⟨a, b⟩ := h x hx
  exact ⟨by omega, by omega⟩
theorem IvP.dr {ts : List Int32} (h : IvP Sf it S (ts ++ s0) hs) : IvP Sf it S s0 hs := by
  have e := wsl_ap (Sf := Sf) ts s0
  have l : (ts ++ s0).length = ts.length + s0.length := List.length_append
  exact ⟨h.1, h.2.1, h.2.2.1, fun x hx => h.2.2.2.1 x (List.mem_append.mpr (Or.inr hx)), by have := h.2.2.2.2.1; omega, by have := h.2.2.2.2.2.1; omega, h.2.2.2.2.2.2⟩
/-- the instructions of an EXPR */
-/
theorem gd_ex (cx : CxP M0 T0 Sf) : ∀ (ks : List T5) (k n m : Nat) (st st' : List Int32), LyL M0 ks n → KrL (RgE (eN Sf it) S) (slF S) Sf T0 ks m → TyL Sf S 450 150 ks st st' → IvP Sf it S st hs → n + ks.length ≤ 12000 → m + ks.length ≤ n1 → (∀ h : HD, h ∈ hs → n + ks.length ≤ h.1 ∧ m + ks.length ≤ h.2.1) → (IvP Sf it S st' hs → Gdk M0 T0 Sf n1 it k (n + ks.length) (m + ks.length) S st' hs) → Gdk M0 T0 Sf n1 it k n m S st hs := by
  intro ks
  induction ks with
  | nil =>
    intro k n m st st' _ _ h3 iv _ _ _ hg
    rw [show st' = st from h3] at hg
    exact hg iv
  | cons j ks ih =>
    intro k n m st st' h1 h2 h3 iv hn hm hp hg
    rw [List.length_cons] at hn hm hp hg
    obtain ⟨s1, t1, t2, t3, t4⟩ := h3
    have iv1 : IvP Sf it S s1 hs := iv.nl.stk (ty_in cx iv.1 iv.2.1 t1 iv.2.2.2.1) t2 t3
    refine gd_ru iv (by omega) (by omega) (fun h hh => by have := hp h hh; omega) (fun j' hj => ?_)
    have g1 := ih j' (n + 1) (m + 1) s1 st' h1.2 h2.2 t4 iv1 (by omega) (by omega) (fun h hh => by have := hp h hh; omega) (fun hiv => by rw [show n + 1 + ks.length = n + (ks.length + 1) by omega, show m + 1 + ks.length = m + (ks.length + 1) by omega]; exact (hg hiv).le (by omega))
    by_cases c : j.1 = 18
    · exact Or.inr (Or.inr (Or.inl ⟨j, s1, c, h1.1, h2.1, t1, fun ts s0 e => by rw [e] at iv; exact iv.dr, iv1, g1⟩))
    · exact Or.inr (Or.inl ⟨j, s1, c, h1.1, h2.1, t1, iv1, g1⟩)
/-- a STEP begins */
-/
theorem gd_stp {p : Nat} (iv : IvP Sf it S [] hs) (n12 : n < 12000) (mn : m < n1) (hp : PsH n m hs) (r1 : rwC4 M0 n = (0, nI p, 0, 0)) (r2 : cw3 T0 m = (1, nI p, 0)) (h : Gdk M0 T0 Sf n1 it k (n + 1) (m + 1) S [] hs) : Gdk M0 T0 Sf n1 it k n m S [] hs := gd_ru iv n12 mn hp (fun j hj => Or.inl ⟨p, r1, r2, rfl, h.le (by omega)⟩)
end SUI
