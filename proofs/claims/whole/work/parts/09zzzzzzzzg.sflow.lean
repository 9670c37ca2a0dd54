/-! what is known, changed on both sides -/
/-- the same VARS, by slots and by places in sight -/
def agB (S : gSt) (x y : Int32) : Prop := ∀ u s, u < vn S → S.1 79 u = nI s → s < 20 → fi x s = fi y u
section SFL
variable {S S' T T' : gSt} {X : Lx} {nf d e v u s n c m k i : Nat} {st kw lv rc st2 kw2 lv2 rc2 x y : Int32} {w w2 : Int64} {t : Tr} {nm : Int64} {bo : Bool}
theorem RgE.lt (h : RgE e S c m) : c < 12 ∧ m < 12 := by
  rcases h with h | ⟨j, h1, h2, h3, h4, h5, h6⟩ <;> omega
theorem fi_m1 (hm : m < 32) : fi (-1) m = true := by
  unfold fi
  have e : (-1 : Int32).toBitVec = BitVec.allOnes 32 := rfl
  rw [e, BitVec.getLsbD_allOnes]
  exact decide_eq_true hm
theorem fi_xr : fi (x ^^^ y) m = (fi x m ^^ fi y m) := by
  unfold fi
  rw [Int32.toBitVec_xor, BitVec.getLsbD_xor]
theorem fi_on (hn : n < 32) (hm : m < 32) : fi (x ||| ((1 : Int32) <<< (nI n &&& 31))) m = (if m = n then true else fi x m) := by
  rw [fi_or, fi_1 hn hm]
  by_cases c : m = n
  · simp [c]
  · simp [c]
theorem fi_of (hn : n < 32) (hm : m < 32) : fi (x &&& (((1 : Int32) <<< (nI n &&& 31)) ^^^ (-1))) m = (if m = n then false else fi x m) := by
  rw [fi_an, fi_xr, fi_1 hn hm, fi_m1 hm]
  by_cases c : m = n
  · simp [c]
  · simp [c]
theorem m1_or {x : Int32} : (-1 : Int32) ||| x = -1 := fi_ext (fun n hn => by rw [fi_or, fi_m1 hn]; rfl)
theorem FwR.know (h : FwR e S T st kw lv rc w) (hd : ∀ a b, a < vn S → b < vn S → S.1 79 a = S.1 79 b → a = b) (hv : vn S ≤ 20) (hu : u < vn S) (hs : S.1 79 u = nI s) (h20 : s < 20) : FwR e S T st (kw ||| ((1 : Int32) <<< (nI s &&& 31))) lv rc (sbW w (20 + u) true) := by
  obtain ⟨h1, h2, h3, h4, h5⟩ := h
  refine ⟨h1, fun m hm => by rw [fb_sb (by omega) (by omega), if_neg (by omega)]; exact h2 m hm, fun c m r => by have := RgE.lt r; rw [fb_sb (by omega) (by omega), if_neg (by omega)]; exact h3 c m r, ⟨by rw [fb_sb (by omega) (by omega), if_neg (by omega)]; exact h4.1, fun q => ⟨(h4.2 q).1, by rw [(h4.2 q).2]; exact m1_or⟩⟩, fun a z ha hz z20 => ?_⟩
  obtain ⟨b1, b2⟩ := h5 a z ha hz z20
  rw [fb_sb (by omega) (by omega), if_neg (by omega), fb_sb (by omega) (by omega), if_neg (by omega), fb_sb (n := 20 + u) (m := 20 + a) (by omega) (by omega), fi_on (by omega) (by omega)]
  refine ⟨b1, fun y y1 y2 y3 => ?_⟩
  by_cases c : a = u
  · subst c
    have : z = s := nI_inj (by omega) (by omega) (by rw [← hz, ← hs])
    rw [if_pos this, if_pos rfl]
    exact ⟨fun _ q => absurd q.2 (by decide), fun _ => rfl⟩
  · have : ¬ z = s := fun q => c (hd a u ha hu (by rw [hz, hs, q]))
    rw [if_neg this, if_neg (by omega)]
    exact b2 y y1 y2 y3
theorem FwR.know0 (h : FwR e S T st kw lv rc w) (hv : vn S ≤ 20) (hu : u < 20) (hn : ∀ y, T.1 70 u = nI y → y < 16387 → ¬ kdC T y = 4) : FwR e S T st kw lv rc (sbW w (20 + u) true) := by
  obtain ⟨h1, h2, h3, h4, h5⟩ := h
  refine ⟨h1, fun m hm => by rw [fb_sb (by omega) (by omega), if_neg (by omega)]; exact h2 m hm, fun c m r => by have := RgE.lt r; rw [fb_sb (by omega) (by omega), if_neg (by omega)]; exact h3 c m r, ⟨by rw [fb_sb (by omega) (by omega), if_neg (by omega)]; exact h4.1, h4.2⟩, fun a z ha hz z20 => ?_⟩
  obtain ⟨b1, b2⟩ := h5 a z ha hz z20
  rw [fb_sb (by omega) (by omega), if_neg (by omega), fb_sb (by omega) (by omega), if_neg (by omega), fb_sb (n := 20 + u) (m := 20 + a) (by omega) (by omega)]
  refine ⟨b1, fun y y1 y2 y3 => ?_⟩
  by_cases c : a = u
  · subst c
    exact absurd y3 (hn y y1 y2)
  · rw [if_neg (by omega)]
    exact b2 y y1 y2 y3
theorem FwR.stop (h : FwR e S T st kw lv rc w) (hv : vn S ≤ 20) : FwR e S T (-1) (-1) lv 0 (sbW w 52 false) := by
  obtain ⟨h1, h2, h3, h4, h5⟩ := h
  refine ⟨h1, fun m hm => by rw [fb_sb (by omega) (by omega), if_neg (by omega)]; exact h2 m hm, fun c m r => by have := RgE.lt r; rw [fb_sb (by omega) (by omega), if_neg (by omega)]; exact h3 c m r, ⟨by rw [fb_sb (by omega) (by omega), if_pos rfl]; exact ⟨fun _ => rfl, fun _ => rfl⟩, fun _ => ⟨rfl, rfl⟩⟩, fun a z ha hz z20 => ?_⟩
  rw [fb_sb (n := 52) (m := 52) (by omega) (by omega), if_pos rfl, fi_m1 (by omega)]
  exact ⟨⟨(fun q => by cases q), fun q => absurd q.1 (by decide)⟩, fun y _ _ _ => ⟨fun _ q => absurd q.1 (by decide), fun _ => rfl⟩⟩
/-- not REACHED: only LIVE counts -/
theorem FwR.un (h : FwR e S T st kw lv rc w) (h0 : rc = 0) (h2' : ∀ m, 40 ≤ m → m ≤ 52 → fb w2 m = fb w m) : FwR e S T st kw lv rc w2 := by
  obtain ⟨h1, h2, h3, h4, h5⟩ := h
  have f52 := h4.1.mp h0
  refine ⟨h1, fun m hm => by rw [h2' _ (by omega) (by omega)]; exact h2 m hm, fun c m r => by have := RgE.lt r; rw [h2' _ (by omega) (by omega)]; exact h3 c m r, ⟨by rw [h2' 52 (by omega) (by omega)]; exact h4.1, h4.2⟩, fun a z ha hz z20 => ?_⟩
  obtain ⟨b1, b2⟩ := h5 a z ha hz z20
  rw [f52] at b1 b2
  rw [h2' 52 (by omega) (by omega), f52]
  refine ⟨⟨fun q => absurd (b1.mp q).1 (by decide), fun q => absurd q.1 (by decide)⟩, fun y y1 y2 y3 => ⟨fun _ q => absurd q.1 (by decide), fun _ => (b2 y y1 y2 y3).mpr (fun q => absurd q.1 (by decide))⟩⟩
/-- a VAR takes a value -/
theorem FwR.give (h : FwR e S T st kw lv rc w) (hrc : ¬ rc = 0) (hd : ∀ a b, a < vn S → b < vn S → S.1 79 a = S.1 79 b → a = b) (hv : vn S ≤ 20) (hu : u < vn S) (hs : S.1 79 u = nI s) (h20 : s < 20) (hx : ∀ y, T.1 70 u = nI y → y < 16387 → kdC T y = 4 → (fi x s = bo)) (ho : ∀ z, z < 20 → ¬ z = s → fi x z = fi kw z) : FwR e S T (st ||| ((1 : Int32) <<< (nI s &&& 31))) x lv rc (if bo = true then sbW (sbW (sbW w (20 + u) false) u true) (20 + u) true else sbW (sbW w (20 + u) false) u true) := by
  obtain ⟨h1, h2, h3, h4, h5⟩ := h
  have hb : ∀ m, m < 64 → fb (if bo = true then sbW (sbW (sbW w (20 + u) false) u true) (20 + u) true else sbW (sbW w (20 + u) false) u true) m = (if m = 20 + u then bo else if m = u then true else fb w m) := fun m hm => by
    cases bo with
    | true =>
      rw [if_pos rfl, fb_sb (by omega) hm]
      by_cases c : m = 20 + u
      · rw [if_pos c, if_pos c]
      · rw [if_neg c, if_neg c, fb_sb (by omega) hm]
        by_cases c2 : m = u
        · rw [if_pos c2, if_pos c2]
        · rw [if_neg c2, if_neg c2, fb_sb (by omega) hm, if_neg c]
    | false =>
      rw [if_neg (by decide), fb_sb (by omega) hm]
      by_cases c2 : m = u
      · rw [if_pos c2, if_neg (by omega), if_pos c2]
      · rw [if_neg c2, if_neg c2, fb_sb (by omega) hm]
  refine ⟨h1, fun m hm => by rw [hb _ (by omega), if_neg (by omega), if_neg (by omega)]; exact h2 m hm, fun c m r => by have := RgE.lt r; rw [hb _ (by omega), if_neg (by omega), if_neg (by omega)]; exact h3 c m r, ⟨by rw [hb _ (by omega), if_neg (by omega), if_neg (by omega)]; exact h4.1, fun q => absurd q hrc⟩, fun a z ha hz z20 => ?_⟩
  obtain ⟨b1, b2⟩ := h5 a z ha hz z20
  rw [hb 52 (by omega), if_neg (by omega), if_neg (by omega), hb a (by omega), if_neg (by omega), hb (20 + a) (by omega), if_neg (show ¬ 20 + a = u by omega), fi_on (by omega) (by omega)]
  by_cases c : a = u
  · subst c
    have ez : z = s := nI_inj (by omega) (by omega) (by rw [← hz, ← hs])
    subst ez
    rw [if_pos rfl, if_pos rfl, if_pos rfl]
    refine ⟨⟨(fun q => by cases q), fun q => absurd q.2 (by decide)⟩, fun y y1 y2 y3 => ?_⟩
    rw [hx y y1 y2 y3]
    have r0 : fb w 52 = true := by
      cases hq : fb w 52 with
      | true => rfl
      | false => exact absurd (h4.1.mpr hq) hrc
    cases bo with
    | true => exact ⟨fun _ q => absurd q.2 (by decide), fun _ => rfl⟩
    | false => exact ⟨(fun q => by cases q), fun q => absurd ⟨r0, rfl⟩ q⟩
  · have ez : ¬ z = s := fun q => c (hd a u ha hu (by rw [hz, hs, q]))
    rw [if_neg ez, if_neg c, if_neg (by omega)]
    refine ⟨b1, fun y y1 y2 y3 => ?_⟩
    rw [ho z z20 ez]
    exact b2 y y1 y2 y3
/-- VARS are no longer KNOWN -/
theorem fb_l {x : Int32} (hm : m < 64) (hx : ∀ j, 20 ≤ j → j < 32 → fi x j = false) : fb (x.toInt64 <<< ((20 : Int32).toInt64 &&& 63)) m = (if 20 ≤ m ∧ m < 40 then fi x (m - 20) else false) := by
  unfold fb
  have e1 : (x.toInt64 <<< ((20 : Int32).toInt64 &&& 63)).toBitVec = x.toInt64.toBitVec <<< (((20 : Int32).toInt64 &&& 63 : Int64).toBitVec.smod 64) := rfl
  have e2 : (((20 : Int32).toInt64 &&& 63 : Int64).toBitVec.smod 64) = 20#64 := by decide
  have e3 : x.toInt64.toBitVec = x.toBitVec.signExtend 64 := rfl
  rw [e1, e2, BitVec.shiftLeft_eq', BitVec.getLsbD_shiftLeft, e3]
  have e4 : (20#64).toNat = 20 := rfl
  rw [e4, BitVec.getLsbD_signExtend]
  have hmsb : x.toBitVec.msb = false := by
    have := hx 31 (by omega) (by omega)
    unfold fi at this
    rw [BitVec.msb_eq_getLsbD_last]
    exact this
  rw [hmsb]
  by_cases c : 20 ≤ m ∧ m < 40
  · rw [if_pos c]
    have a1 : decide (m < 20) = false := decide_eq_false (by omega)
    have a2 : decide (m - 20 < 64) = true := decide_eq_true (by omega)
    have a3 : m - 20 < 32 := by omega
    rw [a1, a2, if_pos a3]
    simp [hm]
    rfl
  · rw [if_neg c]
    by_cases c2 : m < 20
    · simp [c2]
    · by_cases c3 : m - 20 < 32
      · rw [if_pos c3]
        have := hx (m - 20) (by omega) (by omega)
        unfold fi at this
        rw [this]
        simp
      · rw [if_neg c3]
        simp
def fgW (w : Int64) (x : Int32) : Int64 := w &&& ((x.toInt64 <<< ((20 : Int32).toInt64 &&& 63)) ^^^ (-1 : Int64))
theorem fb_fg (hm : m < 64) (hx : ∀ j, 20 ≤ j → j < 32 → fi x j = false) : fb (fgW w x) m = (fb w m && !(if 20 ≤ m ∧ m < 40 then fi x (m - 20) else false)) := by
  unfold fgW
  rw [fb_an, fb_xr, fb_m1 hm, fb_l hm hx]
  simp
theorem FwR.forget (h : FwR e S T st kw lv rc w) (hv : vn S ≤ 20) (hx : ∀ j, 20 ≤ j → j < 32 → fi x j = false) (ha : agB S y x) : FwR e S T st (if rc = 0 then kw else kw &&& (y ^^^ (-1))) lv rc (fgW w x) := by
  have hb : ∀ m, m < 64 → ¬ (20 ≤ m ∧ m < 40) → fb (fgW w x) m = fb w m := fun m hm q => by
    rw [fb_fg hm hx, if_neg q]
    simp
  by_cases r0 : rc = 0
  · rw [if_pos r0]
    exact h.un r0 (fun m m1 m2 => hb m (by omega) (by omega))
  rw [if_neg r0]
  obtain ⟨h1, h2, h3, h4, h5⟩ := h
  refine ⟨h1, fun m hm => by rw [hb _ (by omega) (by omega)]; exact h2 m hm, fun c m r => by have := RgE.lt r; rw [hb _ (by omega) (by omega)]; exact h3 c m r, ⟨by rw [hb _ (by omega) (by omega)]; exact h4.1, fun q => absurd q r0⟩, fun a z ha' hz z20 => ?_⟩
  obtain ⟨b1, b2⟩ := h5 a z ha' hz z20
  rw [hb 52 (by omega) (by omega), hb a (by omega) (by omega)]
  refine ⟨b1, fun t t1 t2 t3 => ?_⟩
  have q := b2 t t1 t2 t3
  rw [fi_an, fi_xr, fi_m1 (by omega), ha a z ha' hz z20, fb_fg (by omega) hx, if_pos (by omega), show 20 + a - 20 = a by omega]
  have r1 : fb w 52 = true := by
    cases hq : fb w 52 with
    | true => rfl
    | false => exact absurd (h4.1.mpr hq) r0
  rw [r1] at q ⊢
  cases hf : fi x a with
  | true => simp
  | false =>
    cases hk : fi kw z <;> cases hw : fb w (20 + a) <;> rw [hk, hw] at q <;> simp at q ⊢
/-- two ways meet -/
theorem FwR.meet (h : FwR e S T st kw lv rc w) (h' : FwR e S T st2 kw2 lv2 rc2 w2) (hv : vn S ≤ 20) (r1 : ¬ rc = 0) (r2 : ¬ rc2 = 0) (hl : lv2 = lv) : FwR e S T (st2 &&& st) (kw2 &&& kw) lv2 rc2 (w &&& w2) := by
  obtain ⟨h1, h2, h3, h4, h5⟩ := h
  obtain ⟨g1, g2, g3, g4, g5⟩ := h'
  have f1 : fb w 52 = true := by
    cases hq : fb w 52 with
    | true => rfl
    | false => exact absurd (h4.1.mpr hq) r1
  have f2 : fb w2 52 = true := by
    cases hq : fb w2 52 with
    | true => rfl
    | false => exact absurd (g4.1.mpr hq) r2
  refine ⟨g1, fun m hm q => ?_, fun c m r => ?_, ?_, fun a z ha hz z20 => ?_⟩
  · rw [fb_an] at q
    exact h2 m hm (by revert q; cases fb w (40 + m) <;> simp)
  · have a := h3 c m r
    have b := g3 c m r
    rw [fb_an, ← a, ← b, hl]
    cases fi lv c <;> rfl
  · rw [fb_an, f1, f2]
    exact ⟨⟨fun q => absurd q r2, fun q => by cases q⟩, fun q => absurd q r2⟩
  · obtain ⟨b1, b2⟩ := h5 a z ha hz z20
    obtain ⟨c1, c2⟩ := g5 a z ha hz z20
    rw [f1] at b1 b2
    rw [f2] at c1 c2
    rw [fb_an, f1, f2, fb_an, fi_an, fb_an, fi_an]
    constructor
    · cases p1 : fi st2 z <;> cases p2 : fi st z <;> cases p3 : fb w a <;> cases p4 : fb w2 a <;> rw [p1] at c1 <;> rw [p2] at b1 <;> rw [p3] at b1 <;> rw [p4] at c1 <;> simp at b1 c1 ⊢
    · intro y y1 y2 y3
      have d1 := b2 y y1 y2 y3
      have d2 := c2 y y1 y2 y3
      cases p1 : fi kw2 z <;> cases p2 : fi kw z <;> cases p3 : fb w (20 + a) <;> cases p4 : fb w2 (20 + a) <;> rw [p1] at d2 <;> rw [p2] at d1 <;> rw [p3] at d1 <;> rw [p4] at d2 <;> simp at d1 d2 ⊢
/-- the same REGIONS are LIVE -/
theorem FwR.same (h : FwR e S T st kw lv rc w) (h' : FwR e S T st2 kw2 lv2 rc2 w2) : lv2 = lv ↔ samB w w2 40 52 := by
  obtain ⟨h1, h2, h3, h4, h5⟩ := h
  obtain ⟨g1, g2, g3, g4, g5⟩ := h'
  constructor
  · intro q m m1 m2
    obtain ⟨j, rfl⟩ : ∃ j, m = 40 + j := ⟨m - 40, by omega⟩
    cases p1 : fb w (40 + j) with
    | true =>
      obtain ⟨c, r⟩ := h2 j (by omega) p1
      rw [← g3 c j r, q, h3 c j r, p1]
    | false =>
      cases p2 : fb w2 (40 + j) with
      | false => rfl
      | true =>
        obtain ⟨c, r⟩ := g2 j (by omega) p2
        rw [← h3 c j r, ← q, g3 c j r, p2] at p1
        cases p1
  · intro q
    refine fi_ext (fun c hc => ?_)
    cases p1 : fi lv c with
    | true =>
      obtain ⟨m, r⟩ := h1 c hc p1
      have := RgE.lt r
      rw [g3 c m r, ← q (40 + m) (by omega) (by omega), ← h3 c m r, p1]
    | false =>
      cases p2 : fi lv2 c with
      | false => rfl
      | true =>
        obtain ⟨m, r⟩ := g1 c hc p2
        have := RgE.lt r
        rw [h3 c m r, q (40 + m) (by omega) (by omega), ← g3 c m r, p2] at p1
        cases p1
/-- a REGION isn't LIVE any more -/
theorem FwR.clear (h : FwR e S T st kw lv rc w) (h11 : R11 (RgE e S)) (hv : vn S ≤ 20) (hr : RgE e S c k) : FwR e S T st kw (lv &&& (((1 : Int32) <<< (nI c &&& 31)) ^^^ (-1))) rc (sbW w (40 + k) false) := by
  have l := RgE.lt hr
  obtain ⟨h1, h2, h3, h4, h5⟩ := h
  refine ⟨fun a ha q => ?_, fun m hm q => ?_, fun a m r => ?_, ?_, fun a z ha hz z20 => ?_⟩
  · rw [fi_of (by omega) ha] at q
    by_cases ca : a = c
    · rw [if_pos ca] at q; cases q
    · rw [if_neg ca] at q
      exact h1 a ha q
  · rw [fb_sb (by omega) (by omega)] at q
    by_cases cm : 40 + m = 40 + k
    · rw [if_pos cm] at q; cases q
    · rw [if_neg cm] at q
      exact h2 m hm q
  · have l2 := RgE.lt r
    rw [fi_of (by omega) (by omega), fb_sb (by omega) (by omega)]
    by_cases ca : a = c
    · subst ca
      have := h11.1 _ _ _ r hr
      rw [if_pos rfl, if_pos (by omega)]
    · have : ¬ m = k := fun q => by
        subst q
        exact ca (h11.2 _ _ _ r hr)
      rw [if_neg ca, if_neg (by omega)]
      exact h3 a m r
  · rw [fb_sb (by omega) (by omega), if_neg (by omega)]
    exact h4
  · obtain ⟨b1, b2⟩ := h5 a z ha hz z20
    rw [fb_sb (by omega) (by omega), if_neg (by omega), fb_sb (by omega) (by omega), if_neg (by omega), fb_sb (n := 40 + k) (m := 20 + a) (by omega) (by omega), if_neg (by omega)]
    exact ⟨b1, b2⟩
end SFL
