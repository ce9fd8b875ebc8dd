/-! The class's face: images, a text taken over -/
variable {h : Hp}
theorem bx_R (m : XS h) {β : Nat} (hβ : β ≤ 1) : gR h 28 β = 77 + 2 * β ∧ CO h (77 + 2 * β) := by
  match β, hβ with
  | 0, _ => exact ⟨X_r28_0 m, CO_77 m⟩
  | 1, _ => exact ⟨X_r28_1 m, CO_79 m⟩
theorem in2 {v : Int32} (z : ¬ v < 0) (z2 : v < 2) : ∃ β, β ≤ 1 ∧ v = nI β := by
  have z2 : v ≤ 1 := by
    rw [Int32.lt_iff_toInt_lt, show (2 : Int32).toInt = 2 from rfl] at z2
    rw [Int32.le_iff_toInt_le, show (1 : Int32).toInt = 1 from rfl]
    omega
  obtain ⟨n, hn, e⟩ := nI_of2 (M := 1) (n := 1) rfl z z2
  exact ⟨n, hn, e⟩
theorem t_X_image {f : Nat → Int32} {r n : Nat} {v : Int32} {Q : Int32 → Hp → Prop} (c0 : CN f r n h) (hq0 : (decide (0 ≤ v) && decide (v ≤ 1)) = false → Q (-1) h)
    (hq : ∀ h' β, β ≤ 1 → v = nI β → Fx [29, 77 + 2 * β, 78 + 2 * β] [] h h' → (∀ j, gI h' 29 j = if j = β then 1 else gI h 29 j) → (∀ j, j < 44 → gI h' (78 + 2 * β) j = f j) → gI h' (77 + 2 * β) 1 = nI r → gI h' (77 + 2 * β) 2 = nI n → Q (nI n) h') : w_X_image 16 v h Q := by
  have m := c0.1
  have e22 : gI h (21 + 1) = f := c0.2.2.1
  unfold w_X_image
  refine ⟨fun z => hq0 (by rw [decide_eq_false (p := 0 ≤ v) (Int32.not_le.mpr z)]; rfl), fun z => ⟨fun z2 => ?_, fun z2 => hq0 ?_⟩⟩
  · obtain ⟨β, hβ, rfl⟩ := in2 z z2
    obtain ⟨b1, b2⟩ := bx_R m hβ
    rw [X_r16_4 m, X_r16_2 m, ix_nI (by omega), b1, X_n28 m]
    refine ⟨X_k16 m, X_k28 m, vp_in_nI (by omega) (by omega), b2.1, t_Co_copyFrom b2 (CO_21 m) (by omega) (by omega) ?_⟩
    have x1 : Fx [77 + 2 * β, 78 + 2 * β] [] h (sI (sI (sI (sA h (77 + 2 * β + 1) (cp44 (gI h (21 + 1)) (gI h (77 + 2 * β + 1)))) (77 + 2 * β) 1 (gI h 21 1)) (77 + 2 * β) 2 (gI h 21 2)) (77 + 2 * β) 3 (gI h (77 + 2 * β) 3 + 1)) := fx_trans (fx_sA _ _ (by simp; omega)) (fx_trans (fx_sI _ _ (by simp)) (fx_trans (fx_sI _ _ (by simp)) (fx_sI _ _ (by simp))))
    have q0 : ∀ j, j < 44 → gI (sI (sI (sI (sA h (77 + 2 * β + 1) (cp44 (gI h (21 + 1)) (gI h (77 + 2 * β + 1)))) (77 + 2 * β) 1 (gI h 21 1)) (77 + 2 * β) 2 (gI h 21 2)) (77 + 2 * β) 3 (gI h (77 + 2 * β) 3 + 1)) (78 + 2 * β) j = f j := fun j hj => by
      rw [gI_sI, if_neg (by omega), gI_sI, if_neg (by omega), gI_sI, if_neg (by omega), gI_sA, if_pos (by omega), e22]
      unfold cp44
      rw [if_pos hj]
    have q1 : gI (sI (sI (sI (sA h (77 + 2 * β + 1) (cp44 (gI h (21 + 1)) (gI h (77 + 2 * β + 1)))) (77 + 2 * β) 1 (gI h 21 1)) (77 + 2 * β) 2 (gI h 21 2)) (77 + 2 * β) 3 (gI h (77 + 2 * β) 3 + 1)) (77 + 2 * β) 1 = nI r := by
      rw [gI_sI, if_neg (by omega), gI_sI, if_neg (by omega), gI_sI, if_pos ⟨rfl, rfl⟩]
      exact c0.2.1.2.1
    have q2 : gI (sI (sI (sI (sA h (77 + 2 * β + 1) (cp44 (gI h (21 + 1)) (gI h (77 + 2 * β + 1)))) (77 + 2 * β) 1 (gI h 21 1)) (77 + 2 * β) 2 (gI h 21 2)) (77 + 2 * β) 3 (gI h (77 + 2 * β) 3 + 1)) (77 + 2 * β) 2 = nI n := by
      rw [gI_sI, if_neg (by omega), gI_sI, if_pos ⟨rfl, rfl⟩]
      exact c0.2.1.2.2.1
    generalize sI (sI (sI (sA h (77 + 2 * β + 1) (cp44 (gI h (21 + 1)) (gI h (77 + 2 * β + 1)))) (77 + 2 * β) 1 (gI h 21 1)) (77 + 2 * β) 2 (gI h 21 2)) (77 + 2 * β) 3 (gI h (77 + 2 * β) 3 + 1) = h1 at x1 q0 q1 q2 ⊢
    have m1 := fx_XS x1 m
    rw [X_r16_5 m1, X_r16_2 m1, X_n29 m1]
    have e2 : gI (sI h1 29 β 1) 21 2 = nI n := by
      rw [gI_sI, if_neg (fun q => absurd q.1 (by decide)), fx_I x1 (by simp; omega)]
      exact c0.2.1.2.2.1
    rw [e2]
    refine ⟨X_k16 m1, X_k29 m1, vp_in_nI (by omega) (by omega), X_k21 m1, hq _ β hβ rfl (fx_trans (fx_mono x1 (by simp) (by simp)) (fx_sI _ _ (by simp))) (fun j => ?_) (fun j hj => ?_) ?_ ?_⟩
    · rw [gI_sI]
      by_cases g : j = β
      · rw [if_pos ⟨rfl, g⟩, if_pos g]
      · rw [if_neg (fun q => g q.2), if_neg g, fx_I x1 (by simp; omega)]
    · rw [gI_sI, if_neg (by omega)]; exact q0 j hj
    · rw [gI_sI, if_neg (by omega)]; exact q1
    · rw [gI_sI, if_neg (by omega)]; exact q2
  · rw [decide_eq_false (p := v ≤ 1) (fun q => z2 (Int32.lt_of_le_of_lt q (by decide))), Bool.and_false]
theorem t_Ac_forget {Q : Hp → Prop} (m : XS h) (hq : ∀ h', Fx [30] [] h h' → gI h' 30 4 = 0 → gI h' 30 5 = 0 → gI h' 30 6 = 0 → Q h') : w_Ac_forget 30 h Q := by
  unfold w_Ac_forget
  refine ⟨X_k30 m, hq _ (fx_trans (fx_sI _ _ (by simp)) (fx_trans (fx_sI _ _ (by simp)) (fx_sI _ _ (by simp)))) ?_ ?_ ?_⟩
  · rw [gI_sI, if_neg (by decide), gI_sI, if_neg (by decide), gI_sI, if_pos ⟨rfl, rfl⟩]
  · rw [gI_sI, if_neg (by decide), gI_sI, if_pos ⟨rfl, rfl⟩]
  · rw [gI_sI, if_pos ⟨rfl, rfl⟩]
/-- a Columns object has become a copy of another -/
def CPd (c d : Nat) (h h' : Hp) : Prop := Fx [c, c + 1] [] h h' ∧ gI h' (c + 1) = cp44 (gI h (d + 1)) (gI h (c + 1)) ∧ gI h' c 1 = gI h d 1 ∧ gI h' c 2 = gI h d 2 ∧ gI h' c 3 = gI h c 3 + 1
theorem t_Co_copy {c d : Nat} {Q : Hp → Prop} (hC : CO h c) (hB : CO h d) (h1 : d ≠ c) (h2 : d ≠ c + 1) (hq : ∀ h', CPd c d h h' → Q h') : w_Co_copyFrom c d h Q := by
  refine t_Co_copyFrom hC hB h1 h2 (hq _ ⟨fx_trans (fx_sA _ _ (by simp)) (fx_trans (fx_sI _ _ (by simp)) (fx_trans (fx_sI _ _ (by simp)) (fx_sI _ _ (by simp)))), ?_, ?_, ?_, ?_⟩)
  · funext j
    rw [gI_sI, if_neg (by omega), gI_sI, if_neg (by omega), gI_sI, if_neg (by omega), gI_sA, if_pos rfl]
  · rw [gI_sI, if_neg (by omega), gI_sI, if_neg (by omega), gI_sI, if_pos ⟨rfl, rfl⟩]
  · rw [gI_sI, if_neg (by omega), gI_sI, if_pos ⟨rfl, rfl⟩]
  · rw [gI_sI, if_pos ⟨rfl, rfl⟩]
theorem t_X_back {v : Int32} {Q : Int32 → Hp → Prop} (m : XS h) (hq0 : (decide (0 ≤ v) && decide (v ≤ 1)) = false → Q (-1) h)
    (hq1 : ∀ β, β ≤ 1 → v = nI β → gI h 29 β = 0 → Q (-1) h)
    (hq : ∀ h1 h' β, β ≤ 1 → v = nI β → ¬ gI h 29 β = 0 → CPd 21 (77 + 2 * β) h h1 → Fx [30] [] h1 h' → gI h' 30 4 = 0 → gI h' 30 5 = 0 → gI h' 30 6 = 0 → Q (gI h (77 + 2 * β) 2) h') : w_X_back 16 v h Q := by
  unfold w_X_back
  refine ⟨fun z => hq0 (by rw [decide_eq_false (p := 0 ≤ v) (Int32.not_le.mpr z)]; rfl), fun z => ⟨fun z2 => hq0 ?_, fun z2 => ?_⟩⟩
  · rw [decide_eq_false (p := v ≤ 1) (fun q => absurd (Int32.le_trans z2 q) (by decide)), Bool.and_false]
  · obtain ⟨β, hβ, rfl⟩ := in2 z (Int32.not_le.mp z2)
    obtain ⟨b1, b2⟩ := bx_R m hβ
    rw [X_r16_5 m, X_r16_4 m, X_r16_2 m, ix_nI (by omega), b1, X_n28 m, X_n29 m]
    refine ⟨X_k16 m, X_k29 m, vp_in_nI (by omega) (by omega), fun z3 => hq1 β hβ rfl z3, fun z3 => ⟨X_k28 m, vp_in_nI (by omega) (by omega), X_k21 m, t_Co_copy (CO_21 m) b2 (by omega) (by omega) (fun h1 cp => ?_)⟩⟩
    have m1 := fx_XS cp.1 m
    rw [X_r16_6 m1]
    refine ⟨X_k16 m1, X_k30 m1, t_Ac_forget m1 (fun h2 x2 e4 e5 e6 => ?_)⟩
    have m2 := fx_XS x2 m1
    rw [X_r16_2 m2, show gI h2 21 2 = gI h (77 + 2 * β) 2 from by rw [fx_I x2 (by decide)]; exact cp.2.2.2.1]
    exact ⟨X_k16 m2, X_k21 m2, hq h1 h2 β hβ rfl z3 cp x2 e4 e5 e6⟩
theorem t_X_program {B : Nat → Int32} {N : Nat} {Q : Int32 → Hp → Prop} (m : XS h) (o : TY B N h)
    (hq2 : ∀ e h', prog B N = .error e → Fx [17, 23, 24, 25, 26, 27] [] h h' → gI h' 17 1 = 0 → gI h' 23 6 = nI e.1 → gI h' 23 7 = nI e.2 → Q (-1) h')
    (hq1 : ∀ s h', prog B N = .ok s → dS B N s → Fx [17, 19, 20, 21, 22, 23, 24, 25, 26, 27, 29, 30, 71] [] h h' → gI h' 17 1 = 0 → gI h' 23 6 = 0 → gI h' 23 7 = -1 → (∀ k, k < 44 → gI h' 20 k = s.2.1 k) → (∀ k, k < 44 → gI h' 22 k = s.2.1 k) → (∀ k, 44 ≤ k → gI h' 20 k = gI h 20 k ∧ gI h' 22 k = gI h 22 k) → gI h' 19 1 = nI s.2.2.1 → gI h' 19 2 = nI s.2.2.2.1.length → gI h' 21 1 = nI s.2.2.1 → gI h' 21 2 = nI s.2.2.2.1.length → gI h' 21 3 = gI h 21 3 + 1 → gI h' 30 4 = 0 → gI h' 30 5 = 0 → gI h' 30 6 = 0 → gI h' 71 6 = 0 → (∀ k, k ≠ 6 → gI h' 71 k = gI h 71 k) → gI h' 29 0 = 0 → gI h' 29 1 = 0 → Q (nI s.2.2.2.1.length) h') : w_X_program 16 h Q := by
  unfold w_X_program
  rw [X_r16_3 m]
  refine ⟨X_k16 m, X_k23 m, t_Rd_read m o (fun e h1 he ee => ?_) (fun s h1 he ay => ?_)⟩
  · have m1 := fx_XS ee.1 m
    rw [X_r16_0 m1]
    refine ⟨X_k16 m1, X_k17 m1, fun _ => hq2 e _ he (fx_trans ee.1 (fx_sI _ _ (by simp))) ?_ ?_ ?_, fun z => absurd rfl z⟩
    · rw [gI_sI, if_pos ⟨rfl, rfl⟩]
    · rw [gI_sI, if_neg (by decide)]; exact ee.2.1
    · rw [gI_sI, if_neg (by decide)]; exact ee.2.2
  · obtain ⟨ds, x01, o1, d1, r1⟩ := ay
    have m1 := fx_XS x01 m
    rw [X_r16_0 m1, X_r16_3 m1, X_r16_1 m1, X_r23_1 m1]
    have x2 : Fx [17] [] h1 (sI h1 17 1 0) := fx_sI _ _ (by simp)
    have e17 : gI (sI h1 17 1 0) 17 1 = 0 := by rw [gI_sI, if_pos ⟨rfl, rfl⟩]
    refine ⟨X_k16 m1, X_k17 m1, fun z => absurd z (by decide), fun _ => ⟨X_k23 m1, X_k19 m1, ?_⟩⟩
    generalize sI h1 17 1 0 = h2 at x2 e17 ⊢
    have m2 := fx_XS x2 m1
    refine t_Co_copy (CO_19 m2) (CO_24 m2) (by decide) (by decide) (fun h3 c3 => ?_)
    have m3 := fx_XS c3.1 m2
    rw [X_r16_3 m3, X_r16_2 m3, X_r23_1 m3]
    refine ⟨X_k16 m3, X_k23 m3, X_k21 m3, t_Co_copy (CO_21 m3) (CO_24 m3) (by decide) (by decide) (fun h4 c4 => ?_)⟩
    have m4 := fx_XS c4.1 m3
    rw [X_r16_6 m4]
    refine ⟨X_k16 m4, X_k30 m4, t_Ac_forget m4 (fun h5 x5 a4 a5 a6 => ?_)⟩
    have m5 := fx_XS x5 m4
    rw [X_r16_13 m5]
    refine ⟨X_k16 m5, X_k71 m5, ?_⟩
    unfold w_Kn_forget
    refine ⟨X_k71 m5, ?_⟩
    have x6 : Fx [71] [] h5 (sI h5 71 6 0) := fx_sI _ _ (by simp)
    have k6 : gI (sI h5 71 6 0) 71 6 = 0 := by rw [gI_sI, if_pos ⟨rfl, rfl⟩]
    have k7 : ∀ k, k ≠ 6 → gI (sI h5 71 6 0) 71 k = gI h5 71 k := fun k hk => by rw [gI_sI, if_neg (fun q => hk q.2)]
    generalize sI h5 71 6 0 = h6 at x6 k6 k7 ⊢
    have x36 : Fx [21, 22, 30, 71] [] h3 h6 := fx_trans (fx_mono c4.1 (by simp) (by simp)) (fx_trans (fx_mono x5 (by simp) (by simp)) (fx_mono x6 (by simp) (by simp)))
    have x46 : Fx [30, 71] [] h4 h6 := fx_trans (fx_mono x5 (by simp) (by simp)) (fx_mono x6 (by simp) (by simp))
    have x26 : Fx [19, 20, 21, 22, 30, 71] [] h2 h6 := fx_trans (fx_mono c3.1 (by simp) (by simp)) (fx_mono x36 (by simp) (by simp))
    have e25 : ∀ k, k < 44 → gI h2 25 k = s.2.1 k := fun k hk => by rw [fx_I x2 (by decide)]; exact d1.1 k hk
    have e241 : gI h2 24 1 = nI s.2.2.1 := by rw [fx_I x2 (by decide)]; exact d1.2.1
    have e242 : gI h2 24 2 = nI s.2.2.2.1.length := by rw [fx_I x2 (by decide)]; exact d1.2.2.1
    have t25 : gI h3 25 = gI h2 25 := fx_I c3.1 (by decide)
    have t24 : gI h3 24 = gI h2 24 := fx_I c3.1 (by decide)
    refine loop_0 (fun q i st => w_X_program_L66 Q 16 q (nI i) st) (fun i st => Fx [29] [] h6 st ∧ ∀ j, j < i → gI st 29 j = 0) 2 h6 ⟨fx_refl _ _ _, fun j hj => absurd hj (Nat.not_lt_zero _)⟩ ?_ ?_
    · rintro q st ⟨x7, e7⟩
      have x67 : Fx [17, 19, 20, 21, 22, 23, 24, 25, 26, 27, 29, 30, 71] [] h st := fx_trans (fx_mono x01 (by simp) (by simp)) (fx_trans (fx_mono x2 (by simp) (by simp)) (fx_trans (fx_mono x26 (by simp) (by simp)) (fx_mono x7 (by simp) (by simp))))
      have m7 := fx_XS x67 m
      have s20 : gI st 20 = cp44 (gI h2 25) (gI h 20) := by rw [fx_I x7 (by decide), fx_I x36 (by decide), show gI h3 20 = cp44 (gI h2 25) (gI h2 20) from c3.2.1, fx_I x2 (x := 20) (by decide), fx_I x01 (x := 20) (by decide)]
      have s22 : gI st 22 = cp44 (gI h2 25) (gI h 22) := by rw [fx_I x7 (by decide), fx_I x46 (by decide), show gI h4 22 = cp44 (gI h3 25) (gI h3 22) from c4.2.1, t25, fx_I c3.1 (x := 22) (by decide), fx_I x2 (x := 22) (by decide), fx_I x01 (x := 22) (by decide)]
      have s192 : gI st 19 2 = nI s.2.2.2.1.length := by rw [fx_I x7 (by decide), fx_I x36 (by decide), c3.2.2.2.1]; exact e242
      have s212 : gI st 21 2 = nI s.2.2.2.1.length := by rw [fx_I x7 (by decide), fx_I x46 (by decide), c4.2.2.2.1, t24]; exact e242
      unfold w_X_program_L66
      rw [X_r16_2 m7, s212]
      refine ⟨fun _ => ⟨X_k16 m7, X_k21 m7, hq1 s st he ds x67 ?_ ?_ ?_ (fun k hk => ?_) (fun k hk => ?_) (fun k hk => ?_) ?_ s192 ?_ s212 ?_ ?_ ?_ ?_ ?_ (fun k hk => ?_) (e7 0 (by decide)) (e7 1 (by decide))⟩, fun z => absurd (Int32.le_refl _) z⟩
      · rw [fx_I x7 (by decide), fx_I x26 (by decide)]; exact e17
      · rw [fx_I x7 (by decide), fx_I x26 (by decide), fx_I x2 (by decide)]; exact d1.2.2.2.2.2.2.1
      · rw [fx_I x7 (by decide), fx_I x26 (by decide), fx_I x2 (by decide)]; exact d1.2.2.2.2.2.2.2
      · rw [s20]
        unfold cp44
        rw [if_pos hk]
        exact e25 k hk
      · rw [s22]
        unfold cp44
        rw [if_pos hk]
        exact e25 k hk
      · rw [s20, s22]
        unfold cp44
        rw [if_neg (by omega), if_neg (by omega)]
        exact ⟨rfl, rfl⟩
      · rw [fx_I x7 (by decide), fx_I x36 (by decide), c3.2.2.1]; exact e241
      · rw [fx_I x7 (by decide), fx_I x46 (by decide), c4.2.2.1, t24]; exact e241
      · rw [fx_I x7 (by decide), fx_I x46 (by decide), c4.2.2.2.2, fx_I c3.1 (x := 21) (by decide), fx_I x2 (x := 21) (by decide), fx_I x01 (x := 21) (by decide)]
      · rw [fx_I x7 (by decide), fx_I x6 (by decide)]; exact a4
      · rw [fx_I x7 (by decide), fx_I x6 (by decide)]; exact a5
      · rw [fx_I x7 (by decide), fx_I x6 (by decide)]; exact a6
      · rw [fx_I x7 (by decide)]; exact k6
      · rw [fx_I x7 (by decide), k7 k hk, fx_I x5 (x := 71) (by decide), fx_I c4.1 (x := 71) (by decide), fx_I c3.1 (x := 71) (by decide), fx_I x2 (x := 71) (by decide), fx_I x01 (x := 71) (by decide)]
    · rintro q i st hi ⟨x7, e7⟩ ih
      have m7 := fx_XS x7 (fx_XS x26 m2)
      unfold w_X_program_L66
      rw [X_r16_5 m7, X_n29 m7, ix_nI (by omega), nI_1]
      refine ⟨fun z => absurd z (nI_ge (b := 2) hi (by omega)), fun _ => ⟨X_k16 m7, X_k29 m7, vp_in_nI (by omega) (by omega), ih _ ⟨fx_trans x7 (fx_sI _ _ (by simp)), fun j hj => ?_⟩⟩⟩
      rw [gI_sI]
      by_cases g : j = i
      · rw [if_pos ⟨rfl, g⟩]
      · rw [if_neg (fun q => g q.2)]
        exact e7 j (by omega)
