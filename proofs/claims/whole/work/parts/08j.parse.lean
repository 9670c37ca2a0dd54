/-! the reference's parse, whole -/
section IY
variable {nf d : Nat} {T T0 T1 T2 : gSt} {X : Lx} {e B i j m n v g t c q : Nat}
theorem adv0_at (hX : LX X) (h1 : T.1 0 = xf X) (h2 : T.1 1 0 = nI (xz X)) (h5 : T.1 4 0 = 0) : AtM X (advS T) 0 := by
  obtain ⟨x1, x2, x3, x4, x5, x6, x7⟩ := hX
  obtain ⟨u1, u2, u3, u4, u5, u6, u7, u8, u9⟩ := x5 0 (Nat.zero_le _)
  have eA : adA T = 0 := by unfold adA; rw [h5]; rfl
  have eZ : adZ T = xz X := by unfold adZ; rw [h2, nI_clamp (by omega)]
  have eQ : adQ T = xP X 0 := by unfold adQ; rw [eA, eZ, h1, x7, Nat.zero_add, Nat.sub_zero]
  refine ⟨Nat.zero_le _, ?_, ?_, ?_, ?_, ?_, And.intro ?_ (And.intro ?_ ?_)⟩
  · rw [advS_if (by omega), h1]
  · rw [advS_i (by omega), h2]
  · unfold advS
    simp only [rdI, rdJI]
    rw [eZ, eQ, h1, u4]
    simp
  · unfold advS
    simp only [rdI, rdJI]
    rw [eQ]
    simp
  · unfold advS
    simp only [rdI, rdJI]
    rw [eZ, eQ, h1, u5]
    simp
  · intro hk
    unfold advS
    simp only [rdI, rdJI]
    rw [eZ, eQ, h1, u6 _ hk]
    simp
  · intro hk
    unfold advS
    simp only [rdI, rdJI]
    rw [eZ, eQ, h1, u7 _ hk]
    simp
  · intro hk
    unfold advS
    simp only [rdIJ, rdJ]
    rw [eZ, eQ, h1, u8 _ hk]
    simp
/-- what the reference's parse leaves: the grammar's items, or its fault -/
def PR (X : Lx) (T : gSt) (res : Except Nat (List It)) (T' : gSt) : Prop := match res with
  | .ok l => ∃ j c, Gd X T' j ∧ Gw T' j ∧ Fy T T' ∧ T'.1 11 0 = nI l.length ∧ l.length ≤ 24 ∧ T'.1 20 0 = nI c ∧ c ≤ 192 ∧ RepP X T' 0 0 0 l ∧ nN T' ≤ 2 * j
  | .error e => Zi X e T (2 * e + 100) T'
set_option maxHeartbeats 4000000 in
theorem x_prog (hX : LX X) (hnf : 5000 ≤ nf) (hd : 649 ≤ d) (h0 : T.1 0 = xf X) (h1 : T.1 1 0 = nI (xz X)) (h7 : T.1 7 0 = 0) : wp (RR nf (d + 34) 23 T [] []) (fun _ _ T' => PR X T (pIts (xK X) 24 0) T') := by
  have hz := hX.2.1
  refine wp_cast (e_Model_program_ nf (d + 33) T) ?_
  unfold rb_Model_program_
  refine wp_st ?_
  refine wp_st ?_
  refine wp_st ?_
  refine wp_st ?_
  refine wp_st ?_
  refine wp_st ?_
  have y : Fy T (sI (sI (sI (sI (sI (sI T 4 0 0) 11 0 0) 20 0 0) 37 0 0) 45 0 0) 49 0 0) := (((((Fy.rf.w (by omega)).w (by omega)).w (by omega)).w (by omega)).w (by omega)).w (by omega)
  have o : ∀ g, g ≠ 4 → g ≠ 11 → g ≠ 20 → g ≠ 37 → g ≠ 45 → g ≠ 49 → (sI (sI (sI (sI (sI (sI T 4 0 0) 11 0 0) 20 0 0) 37 0 0) 45 0 0) 49 0 0).1 g = T.1 g := fun g a b c d e f => by rw [sI_ne f, sI_ne e, sI_ne d, sI_ne c, sI_ne b, sI_ne a]
  have o4 : (sI (sI (sI (sI (sI (sI T 4 0 0) 11 0 0) 20 0 0) 37 0 0) 45 0 0) 49 0 0).1 4 0 = 0 := by simp only [rdI]; simp
  have o11 : (sI (sI (sI (sI (sI (sI T 4 0 0) 11 0 0) 20 0 0) 37 0 0) 45 0 0) 49 0 0).1 11 0 = 0 := by simp only [rdI]; simp
  have o20 : (sI (sI (sI (sI (sI (sI T 4 0 0) 11 0 0) 20 0 0) 37 0 0) 45 0 0) 49 0 0).1 20 0 = 0 := by simp only [rdI]; simp
  have o37 : (sI (sI (sI (sI (sI (sI T 4 0 0) 11 0 0) 20 0 0) 37 0 0) 45 0 0) 49 0 0).1 37 0 = 0 := by simp only [rdI]; simp
  have o45 : (sI (sI (sI (sI (sI (sI T 4 0 0) 11 0 0) 20 0 0) 37 0 0) 45 0 0) 49 0 0).1 45 0 = 0 := by simp only [rdI]; simp
  have o49 : (sI (sI (sI (sI (sI (sI T 4 0 0) 11 0 0) 20 0 0) 37 0 0) 45 0 0) 49 0 0).1 49 0 = 0 := by simp only [rdI]; simp
  generalize sI (sI (sI (sI (sI (sI T 4 0 0) 11 0 0) 20 0 0) 37 0 0) 45 0 0) 49 0 0 = S at *
  have s0 : S.1 0 = xf X := by rw [o 0 (by omega) (by omega) (by omega) (by omega) (by omega) (by omega)]; exact h0
  have s1 : S.1 1 0 = nI (xz X) := by rw [o 1 (by omega) (by omega) (by omega) (by omega) (by omega) (by omega)]; exact h1
  have s7 : S.1 7 0 = 0 := by rw [o 7 (by omega) (by omega) (by omega) (by omega) (by omega) (by omega)]; exact h7
  have hok : advOk S := by
    unfold advOk
    rw [o4, s1, nI_toInt (by omega)]
    refine ⟨by decide, ?_, by omega⟩
    show (0 : Int) ≤ _
    omega
  have ea : RR nf (d + 33) 10 S [] [] = some (0, 0, advS S) := by
    rw [e_Model_advance nf (d + 32)]
    unfold rb_Model_advance gd
    rw [if_pos hok]
  refine wp_be ea ?_
  have nn : nN (advS S) = 0 := by rw [nN_adv]; unfold nN; rw [o49]; rfl
  have nu : nU (advS S) = 0 := by rw [nU_adv]; unfold nU; rw [o45]; rfl
  have nw : nW (advS S) = 0 := by rw [nW_adv]; unfold nW; rw [o37]; rfl
  have hG : Gd X (advS S) 0 := ⟨adv0_at hX s0 s1 o4, by rw [advS_i (by omega)]; exact s7, by rw [advS_i (by omega), nn, nI_0]; exact o49, by rw [advS_i (by omega), nu, nI_0]; exact o45, by omega⟩
  have hW : Gw (advS S) 0 := ⟨by rw [advS_i (by omega), nw, nI_0]; exact o37, by omega⟩
  refine wp_mono (x_its hX hnf hd 24 nf 0 0 (advS S) 0 (by omega) (by omega) hG hW (by rw [advS_i (by omega), nI_0]; exact o11) (by rw [advS_i (by omega), nI_0]; exact o20) (by omega) (by omega)) ?_
  intro r l T' h
  have fy : Fy T (advS S) := y.tr Fz.rf.adv.fy
  generalize pIts (xK X) 24 0 = res at h ⊢
  cases res with
  | error e => exact h.2.fy fy
  | ok l =>
    obtain ⟨j, c', b1, b2, b3, b4, b5, b6, b7, b8, b9, b10⟩ := h
    rw [Nat.zero_add] at b5 b6 b8
    rw [nn] at b9
    exact ⟨j, c', b2, b3, fy.tr b4.1, b5, b6, b7, by omega, b9, b10⟩
end IY
