/-! The reference's now and told, beyond their lengths too -/
variable {h : Hp}
def EXd (h h' : Hp) (k : Nat) : Prop := EXc h h' k ∧ ∀ j, 44 ≤ j → gI h' 86 j = gI h 86 j
theorem t_M_exchanges2 {k : Nat} {Q : Hp → Prop} (hM : MS h) (hk : k < 20) (hq : ∀ h', Fr [86, 87] [41] [] [] h h' → gI h' 81 41 = 0 → EXd h h' k → Q h') : w_M_exchanges 81 (nI k) h Q := by
  obtain ⟨a1, a2, a3⟩ := M_now hM
  obtain ⟨b1, b2, b3⟩ := M_past hM
  unfold w_M_exchanges
  refine loop_0 (fun m i s => w_M_exchanges_L2 Q 81 (nI k) m (nI i) s) (fun i s => Fr [86, 87] [] [] [] h s ∧ (∀ j, gI s 86 j = if j < i then gI h 87 (44 * k + j) else gI h 86 j) ∧ (∀ j, gI s 87 j = if 44 * k ≤ j ∧ j < 44 * k + i then gI h 86 (j - 44 * k) else gI h 87 j)) 44 _ ⟨fr_refl _ _ _ _ _, fun j => by rw [if_neg (Nat.not_lt_zero _)], fun j => by rw [if_neg (by omega)]⟩ ?_ ?_
  · rintro m s ⟨f, e1, e2⟩
    unfold w_M_exchanges_L2
    refine ⟨fun _ => ⟨M_K (fr_MS f hM), hq _ (fr_trans (fr_mono f (by simp) (by simp) (by simp) (by simp)) (fr_sI _ _ (Or.inr ⟨rfl, by simp⟩))) ?_ ⟨⟨fun j hj => ?_, fun j hj => ?_⟩, fun j hj => ?_⟩⟩, fun z => absurd (Int32.le_refl _) z⟩
    · rw [gI_sI, if_pos ⟨rfl, rfl⟩]
    · rw [gI_sI, if_neg (fun z => absurd z.1 (by decide)), e1 j, if_pos hj]
    · rw [gI_sI, if_neg (fun z => absurd z.1 (by decide)), e2 j]
    · rw [gI_sI, if_neg (fun z => absurd z.1 (by decide)), e1 j, if_neg (by omega)]
  · rintro m i s hi ⟨f, e1, e2⟩ ih
    unfold w_M_exchanges_L2
    refine ⟨fun z => absurd z (nI_ge (b := 44) hi (by omega)), fun _ => ?_⟩
    rw [fr_R f, fr_K f, fr_N f, a1, a3, b1, b3, show (44 : Int32) = nI 44 from rfl, pk_mul, nI_add, nI_1, ix_nI (n := i) (by omega), ix_nI (n := 44 * k + i) (by omega), e1 i, if_neg (Nat.lt_irrefl _), e2 (44 * k + i), if_neg (by omega)]
    refine ⟨M_K hM, b2, vp_in_nI (by omega) (by omega), a2, vp_in_nI (by omega) (by omega), ih _ ⟨fr_trans (fr_trans f (fr_sI _ _ (Or.inl (by simp)))) (fr_sI _ _ (Or.inl (by simp))), fun j => ?_, fun j => ?_⟩⟩
    · rw [gI_sI]
      by_cases g : j = i
      · rw [if_pos ⟨rfl, g⟩, if_pos (by omega), g]
      · rw [if_neg (fun z => g z.2), gI_sI, if_neg (fun z => absurd z.1 (by decide)), e1 j]
        by_cases g2 : j < i
        · rw [if_pos g2, if_pos (by omega)]
        · rw [if_neg g2, if_neg (by omega)]
    · rw [gI_sI, if_neg (fun z => absurd z.1 (by decide)), gI_sI]
      by_cases g : j = 44 * k + i
      · rw [if_pos ⟨rfl, g⟩, if_pos (by omega), show j - 44 * k = i from by omega]
      · rw [if_neg (fun z => g z.2), e2 j]
        by_cases g2 : 44 * k ≤ j ∧ j < 44 * k + i
        · rw [if_pos g2, if_pos (by omega)]
        · rw [if_neg g2, if_neg (by omega)]
theorem EXd_fr {as fs js gs : List Nat} {h0 h h' : Hp} {k : Nat} (a : Fr as fs js gs h0 h) (h1 : 86 ∉ as) (h2 : 87 ∉ as) (b : EXd h h' k) : EXd h0 h' k := ⟨EXc_fr a h1 h2 b.1, by rw [← fr_I a h1 (by decide)]; exact b.2⟩
theorem t_M_undo2 {A U : Nat} {Q : Bool → Hp → Prop} (hM : MS h) (hA : gI h 81 24 = nI A) (hA2 : A ≤ 20) (hU : gI h 81 25 = nI U)
    (hq0 : A = 0 → Q false h) (hq : ∀ h' a, A = a + 1 → Fr [86, 87] [24, 25, 41] [] [] h h' → gI h' 81 24 = nI a → gI h' 81 25 = nI (U + 1) → gI h' 81 41 = 0 → EXd h h' a → Q true h') : w_M_undo 81 h Q := by
  unfold w_M_undo
  rw [hA]
  refine ⟨M_K hM, fun z => hq0 ((nI_eq (b := 0) (by omega) (by omega)).mp z), fun z => ?_⟩
  obtain ⟨a, rfl⟩ : ∃ a, A = a + 1 := ⟨A - 1, by have : A ≠ 0 := fun g => z (by rw [g]; rfl); omega⟩
  have e25 : gI (sI h 81 24 (nI a)) 81 25 = nI U := by rw [gI_sI, if_neg (by decide)]; exact hU
  rw [nI_s1, e25, nI_1, gI_sI, if_neg (by decide), gI_sI, if_pos ⟨rfl, rfl⟩]
  have f1 : Fr [] [24, 25] [] [] h (sI (sI h 81 24 (nI a)) 81 25 (nI (U + 1))) := fr_trans (fr_sI _ _ (Or.inr ⟨rfl, by simp⟩)) (fr_sI _ _ (Or.inr ⟨rfl, by simp⟩))
  refine t_M_exchanges2 (MS_sI.mpr (MS_sI.mpr hM)) (by omega) (fun h' f e1 e2 => hq h' a rfl (fr_trans (fr_mono f1 (by simp) (by simp) (by simp) (by simp)) (fr_mono f (by simp) (by simp) (by simp) (by simp))) ?_ ?_ e1 (EXd_fr f1 (by simp) (by simp) e2))
  · rw [fr_F f (by decide) (by decide), gI_sI, if_neg (by decide), gI_sI, if_pos ⟨rfl, rfl⟩]
  · rw [fr_F f (by decide) (by decide), gI_sI, if_pos ⟨rfl, rfl⟩]
theorem t_M_redo2 {A U : Nat} {Q : Bool → Hp → Prop} (hM : MS h) (hA : gI h 81 24 = nI A) (hU : gI h 81 25 = nI U) (hAU : A + U ≤ 20)
    (hq0 : U = 0 → Q false h) (hq : ∀ h' u, U = u + 1 → Fr [86, 87] [24, 25, 41] [] [] h h' → gI h' 81 24 = nI (A + 1) → gI h' 81 25 = nI u → gI h' 81 41 = 0 → EXd h h' A → Q true h') : w_M_redo 81 h Q := by
  unfold w_M_redo
  rw [hU]
  refine ⟨M_K hM, fun z => hq0 ((nI_eq (b := 0) (by omega) (by omega)).mp z), fun z => ?_⟩
  obtain ⟨u, rfl⟩ : ∃ u, U = u + 1 := ⟨U - 1, by have : U ≠ 0 := fun g => z (by rw [g]; rfl); omega⟩
  rw [nI_s1, gI_sI, if_neg (by decide), hA]
  have f1 : Fr [] [25] [] [] h (sI h 81 25 (nI u)) := fr_sI _ _ (Or.inr ⟨rfl, by simp⟩)
  refine t_M_exchanges2 (MS_sI.mpr hM) (by omega) (fun h' f e1 e2 => ⟨M_K (fr_MS f (MS_sI.mpr hM)), hq _ u rfl (fr_trans (fr_trans (fr_mono f1 (by simp) (by simp) (by simp) (by simp)) (fr_mono f (by simp) (by simp) (by simp) (by simp))) (fr_sI _ _ (Or.inr ⟨rfl, by simp⟩))) ?_ ?_ ?_ ?_⟩)
  · rw [gI_sI, if_pos ⟨rfl, rfl⟩, fr_F f (by decide) (by decide), gI_sI, if_neg (by decide), hA, nI_1]
  · rw [gI_sI, if_neg (by decide), fr_F f (by decide) (by decide), gI_sI, if_pos ⟨rfl, rfl⟩]
  · rw [gI_sI, if_neg (by decide)]; exact e1
  · have := EXd_fr f1 (by simp) (by simp) e2
    refine ⟨⟨fun j hj => ?_, fun j hj => ?_⟩, fun j hj => ?_⟩
    · rw [gI_sI, if_neg (fun z => absurd z.1 (by decide))]; exact this.1.1 j hj
    · rw [gI_sI, if_neg (fun z => absurd z.1 (by decide))]; exact this.1.2 j hj
    · rw [gI_sI, if_neg (fun z => absurd z.1 (by decide))]; exact this.2 j hj
theorem t_M_back2 {n : Nat} {v : Int32} {Q : Int32 → Hp → Prop} (hM : MS h) (hn : gI h 81 18 = nI n) (hq0 : (decide (0 ≤ v) && decide (v ≤ 1)) = false → Q (-1) h)
    (hq1 : ∀ b, b ≤ 1 → v = nI b → gI h 119 b = 0 → Q (-1) h)
    (hq : ∀ h' b, b ≤ 1 → v = nI b → ¬ gI h 119 b = 0 → Fr [86] [24, 25, 41] [] [] h h' → gI h' 81 24 = 0 → gI h' 81 25 = 0 → gI h' 81 41 = 0 → (∀ j, j < 44 → gI h' 86 j = gI h 118 (44 * b + j)) → (∀ j, 44 ≤ j → gI h' 86 j = gI h 86 j) → Q (nI n) h') : w_M_back 81 v h Q := by
  obtain ⟨a1, a2, a3⟩ := M_now hM
  obtain ⟨b1, b2, b3⟩ := M_boxes hM
  obtain ⟨c1, c2, c3⟩ := M_isKept hM
  unfold w_M_back
  refine t_M_isIn ⟨hq0, fun z => ⟨M_K hM, ?_⟩⟩
  obtain ⟨b, hb, rfl⟩ := in_nI (k := 1) rfl z
  rw [c1, c3, ix_nI (by omega)]
  refine ⟨c2, vp_in_nI (by omega) (by omega), hq1 b hb rfl, fun zk => ?_⟩
  refine loop_0 (fun m i s => w_M_back_L22 Q 81 (nI b) m (nI i) s) (fun i s => Fr [86] [] [] [] h s ∧ (∀ j, j < i → gI s 86 j = gI h 118 (44 * b + j)) ∧ ∀ j, i ≤ j → gI s 86 j = gI h 86 j) 44 _ ⟨fr_refl _ _ _ _ _, fun j hj => absurd hj (Nat.not_lt_zero _), fun j _ => rfl⟩ ?_ ?_
  · rintro m s ⟨f, e1, e3⟩
    unfold w_M_back_L22
    refine ⟨fun _ => ⟨M_K (fr_MS f hM), ?_⟩, fun z => absurd (Int32.le_refl _) z⟩
    have e18 : gI (sI (sI (sI s 81 24 0) 81 25 0) 81 41 0) 81 18 = nI n := by
      rw [gI_sI, if_neg (by decide), gI_sI, if_neg (by decide), gI_sI, if_neg (by decide), fr_F f (by decide) (by decide), hn]
    rw [e18]
    refine hq _ b hb rfl zk (fr_trans (fr_mono f (by simp) (by simp) (by simp) (by simp)) (fr_trans (fr_trans (fr_sI _ _ (Or.inr ⟨rfl, by simp⟩)) (fr_sI _ _ (Or.inr ⟨rfl, by simp⟩))) (fr_sI _ _ (Or.inr ⟨rfl, by simp⟩)))) ?_ ?_ ?_ (fun j hj => ?_) (fun j hj => ?_)
    · rw [gI_sI, if_neg (by decide), gI_sI, if_neg (by decide), gI_sI, if_pos ⟨rfl, rfl⟩]
    · rw [gI_sI, if_neg (by decide), gI_sI, if_pos ⟨rfl, rfl⟩]
    · rw [gI_sI, if_pos ⟨rfl, rfl⟩]
    · rw [gI_sI, if_neg (fun z => absurd z.1 (by decide)), gI_sI, if_neg (fun z => absurd z.1 (by decide)), gI_sI, if_neg (fun z => absurd z.1 (by decide)), e1 j hj]
    · rw [gI_sI, if_neg (fun z => absurd z.1 (by decide)), gI_sI, if_neg (fun z => absurd z.1 (by decide)), gI_sI, if_neg (fun z => absurd z.1 (by decide)), e3 j hj]
  · rintro m i s hi ⟨f, e1, e3⟩ ih
    unfold w_M_back_L22
    refine ⟨fun z => absurd z (nI_ge (b := 44) hi (by omega)), fun _ => ?_⟩
    rw [fr_R f, fr_K f, fr_N f, a1, a3, b1, b3, show (44 : Int32) = nI 44 from rfl, pk_mul, nI_add, nI_1, ix_nI (n := i) (by omega), ix_nI (n := 44 * b + i) (by omega), fr_I f (x := 118) (by decide) (by decide)]
    refine ⟨M_K hM, b2, vp_in_nI (by omega) (by omega), a2, vp_in_nI (by omega) (by omega), ih _ ⟨fr_trans f (fr_sI _ _ (Or.inl (by simp))), fun j hj => ?_, fun j hj => ?_⟩⟩
    rotate_left
    · rw [gI_sI, if_neg (fun q => absurd q.2 (by omega))]
      exact e3 j (by omega)
    rw [gI_sI]
    by_cases g : j = i
    · rw [if_pos ⟨rfl, g⟩, g]
    · rw [if_neg (fun z => g z.2)]
      exact e1 j (by omega)
theorem t_M_takesOver2 {Q : Hp → Prop} (hM : MS h) (hq : ∀ h', Fr [84, 86, 119] [17, 18, 24, 25, 41, 73] [] [] h h' → (∀ k, k < 44 → gI h' 84 k = gI h 83 k) → (∀ k, k < 44 → gI h' 86 k = gI h 83 k) → gI h' 81 17 = gI h 81 15 → gI h' 81 18 = gI h 81 16 → gI h' 81 24 = 0 → gI h' 81 25 = 0 → gI h' 81 73 = 0 → gI h' 81 41 = 0 → gI h' 119 0 = 0 → gI h' 119 1 = 0 → (∀ k, 44 ≤ k → gI h' 84 k = gI h 84 k ∧ gI h' 86 k = gI h 86 k) → Q h') : w_M_takesOver 81 h Q := by
  obtain ⟨b1, b2, b3⟩ := M_told hM
  obtain ⟨c1, c2, c3⟩ := M_toldNow hM
  obtain ⟨d1, d2, d3⟩ := M_now hM
  obtain ⟨k1, k2, k3⟩ := M_isKept hM
  unfold w_M_takesOver
  refine ⟨M_K hM, ?_⟩
  refine loop_0 (fun m i s => w_M_takesOver_L18 Q 81 m (nI i) s) (fun i s => Fr [84, 86, 119] [17, 18, 24, 25, 41, 73] [] [] h s ∧ (∀ k, k < i → gI s 84 k = gI h 83 k ∧ gI s 86 k = gI h 83 k) ∧ gI s 81 17 = gI h 81 15 ∧ gI s 81 18 = gI h 81 16 ∧ ∀ k, i ≤ k → gI s 84 k = gI h 84 k ∧ gI s 86 k = gI h 86 k) 44 _ ⟨fr_trans (fr_sI _ _ (Or.inr ⟨rfl, by simp⟩)) (fr_sI _ _ (Or.inr ⟨rfl, by simp⟩)), fun k hk => absurd hk (Nat.not_lt_zero _), ?_, ?_, fun k _ => ?_⟩ ?_ ?_
  · rw [gI_sI, if_neg (by decide), gI_sI, if_pos ⟨rfl, rfl⟩]
  · rw [gI_sI, if_pos ⟨rfl, rfl⟩, gI_sI, if_neg (by decide)]
  · rw [gI_sI, if_neg (fun y => absurd y.1 (by decide)), gI_sI, if_neg (fun y => absurd y.1 (by decide)), gI_sI, if_neg (fun y => absurd y.1 (by decide)), gI_sI, if_neg (fun y => absurd y.1 (by decide))]
    exact ⟨rfl, rfl⟩
  · rintro m s ⟨f, e, e1, e2, e3⟩
    have hM1 := fr_MS f hM
    unfold w_M_takesOver_L18
    refine ⟨fun _ => ⟨M_K hM1, ?_⟩, fun z => absurd (Int32.le_refl _) z⟩
    have f2 : Fr [84, 86, 119] [17, 18, 24, 25, 41, 73] [] [] h (sI (sI (sI (sI s 81 24 0) 81 25 0) 81 73 0) 81 41 0) := fr_trans f (fr_trans (fr_trans (fr_trans (fr_sI _ _ (Or.inr ⟨rfl, by simp⟩)) (fr_sI _ _ (Or.inr ⟨rfl, by simp⟩))) (fr_sI _ _ (Or.inr ⟨rfl, by simp⟩))) (fr_sI _ _ (Or.inr ⟨rfl, by simp⟩)))
    refine loop_0 (fun m i s => w_M_takesOver_L76 Q 81 m (nI i) s) (fun i x => Fr [119] [] [] [] (sI (sI (sI (sI s 81 24 0) 81 25 0) 81 73 0) 81 41 0) x ∧ ∀ k, k < i → gI x 119 k = 0) 2 _ ⟨fr_refl _ _ _ _ _, fun k hk => absurd hk (Nat.not_lt_zero _)⟩ ?_ ?_
    · rintro m x ⟨fx, ex⟩
      unfold w_M_takesOver_L76
      refine ⟨fun _ => hq x (fr_trans f2 (fr_mono fx (by simp) (by simp) (by simp) (by simp))) (fun k hk => ?_) (fun k hk => ?_) ?_ ?_ ?_ ?_ ?_ ?_ (ex 0 (by omega)) (ex 1 (by omega)) (fun k hk => ?_), fun z => absurd (Int32.le_refl _) z⟩
      · rw [fr_I fx (x := 84) (by decide) (by decide), gI_sI, if_neg (fun y => absurd y.1 (by decide)), gI_sI, if_neg (fun y => absurd y.1 (by decide)), gI_sI, if_neg (fun y => absurd y.1 (by decide)), gI_sI, if_neg (fun y => absurd y.1 (by decide))]; exact (e k hk).1
      · rw [fr_I fx (x := 86) (by decide) (by decide), gI_sI, if_neg (fun y => absurd y.1 (by decide)), gI_sI, if_neg (fun y => absurd y.1 (by decide)), gI_sI, if_neg (fun y => absurd y.1 (by decide)), gI_sI, if_neg (fun y => absurd y.1 (by decide))]; exact (e k hk).2
      · rw [fr_F fx (by decide) (by decide), gI_sI, if_neg (by decide), gI_sI, if_neg (by decide), gI_sI, if_neg (by decide), gI_sI, if_neg (by decide)]; exact e1
      · rw [fr_F fx (by decide) (by decide), gI_sI, if_neg (by decide), gI_sI, if_neg (by decide), gI_sI, if_neg (by decide), gI_sI, if_neg (by decide)]; exact e2
      · rw [fr_F fx (by decide) (by decide), gI_sI, if_neg (by decide), gI_sI, if_neg (by decide), gI_sI, if_neg (by decide), gI_sI, if_pos ⟨rfl, rfl⟩]
      · rw [fr_F fx (by decide) (by decide), gI_sI, if_neg (by decide), gI_sI, if_neg (by decide), gI_sI, if_pos ⟨rfl, rfl⟩]
      · rw [fr_F fx (by decide) (by decide), gI_sI, if_neg (by decide), gI_sI, if_pos ⟨rfl, rfl⟩]
      · rw [fr_F fx (by decide) (by decide), gI_sI, if_pos ⟨rfl, rfl⟩]
      · rw [fr_I fx (x := 84) (by decide) (by decide), fr_I fx (x := 86) (by decide) (by decide), gI_sI, if_neg (fun y => absurd y.1 (by decide)), gI_sI, if_neg (fun y => absurd y.1 (by decide)), gI_sI, if_neg (fun y => absurd y.1 (by decide)), gI_sI, if_neg (fun y => absurd y.1 (by decide)), gI_sI, if_neg (fun y => absurd y.1 (by decide)), gI_sI, if_neg (fun y => absurd y.1 (by decide)), gI_sI, if_neg (fun y => absurd y.1 (by decide)), gI_sI, if_neg (fun y => absurd y.1 (by decide))]; exact e3 k hk
    · rintro m i x hi ⟨fx, ex⟩ ih
      have hMx := fr_MS fx (fr_MS f2 hM)
      obtain ⟨k1, k2, k3⟩ := M_isKept hMx
      unfold w_M_takesOver_L76
      refine ⟨fun z => absurd z (nI_ge (b := 2) hi (by omega)), fun _ => ?_⟩
      rw [k1, k3, ix_nI (by omega), nI_1]
      refine ⟨M_K hMx, k2, vp_in_nI (by omega) (by omega), ih _ ⟨fr_trans fx (fr_sI _ _ (Or.inl (by simp))), fun k hk => ?_⟩⟩
      rw [gI_sI]
      by_cases g : k = i
      · rw [if_pos ⟨rfl, g⟩]
      · rw [if_neg (fun y => g y.2)]; exact ex k (by omega)
  · rintro m i s hi ⟨f, e, e1, e2, e3⟩ ih
    unfold w_M_takesOver_L18
    refine ⟨fun z => absurd z (nI_ge (b := 44) hi (by omega)), fun _ => ?_⟩
    rw [fr_K f, fr_R f, fr_N f, b1, b3, c1, c3, d1, d3, ix_nI (by omega), nI_1, gI_sI, if_neg (fun y => absurd y.1 (by decide)), fr_I f (x := 83) (by decide) (by decide)]
    refine ⟨M_K hM, b2, vp_in_nI (by omega) (by omega), c2, vp_in_nI (by omega) (by omega), d2, vp_in_nI (by omega) (by omega), ih _ ⟨fr_trans f (fr_trans (fr_sI _ _ (Or.inl (by simp))) (fr_sI _ _ (Or.inl (by simp)))), fun k hk => ?_, ?_, ?_, fun k hk => ?_⟩⟩
    · rw [gI_sI, if_neg (fun y => absurd y.1 (by decide)), gI_sI, gI_sI]
      by_cases g : k = i
      · rw [if_pos ⟨rfl, g⟩, if_pos ⟨rfl, g⟩, g]; exact ⟨rfl, rfl⟩
      · rw [if_neg (fun y => g y.2), if_neg (fun y => g y.2), gI_sI, if_neg (fun y => absurd y.1 (by decide))]; exact e k (by omega)
    · rw [gI_sI, if_neg (fun y => absurd y.1 (by decide)), gI_sI, if_neg (fun y => absurd y.1 (by decide))]; exact e1
    · rw [gI_sI, if_neg (fun y => absurd y.1 (by decide)), gI_sI, if_neg (fun y => absurd y.1 (by decide))]; exact e2
    · rw [gI_sI, if_neg (fun y => absurd y.1 (by decide)), gI_sI, if_neg (fun y => absurd y.2 (by omega)), gI_sI, if_neg (fun y => absurd y.2 (by omega)), gI_sI, if_neg (fun y => absurd y.1 (by decide))]
      exact e3 k (by omega)
theorem t_M_program2 {B : Nat → Int32} {N : Nat} {Q : Int32 → Hp → Prop} (hM : MS h) (hN : N ≤ 700) (h1 : gI h 81 1 = nI N) (hB : ∀ i, i < N → gI h 82 i = B i ∧ 0 ≤ B i)
    (hq1 : ∀ s h', prog B N = .ok s → dS B N s → Fr [83, 84, 86, 119] [1, 2, 3, 4, 5, 6, 7, 8, 9, 10, 15, 16, 17, 18, 19, 20, 21, 24, 25, 41, 73] [85] [11] h h' → TO s h' → gI h' 81 1 = 0 → gI h' 81 9 = 0 → gI h' 81 10 = -1 → (∀ k, 44 ≤ k → gI h' 84 k = gI h 84 k ∧ gI h' 86 k = gI h 86 k) → Q (nI s.2.2.2.1.length) h')
    (hq2 : ∀ e h', prog B N = .error e → Fr [83] [1, 2, 3, 4, 5, 6, 7, 8, 9, 10, 15, 16, 19, 20, 21] [85] [11] h h' → gI h' 81 1 = 0 → gI h' 81 9 = nI e.1 → gI h' 81 10 = nI e.2 → Q (-1) h') : w_M_program 81 h Q := by
  unfold w_M_program
  refine ⟨M_K hM, ?_⟩
  rw [h1]
  have f0 : Fr [] [1, 2, 3, 7, 8] [] [] h (sI (sI (sI (sI (sI h 81 2 (nI N)) 81 1 0) 81 3 0) 81 7 0) 81 8 (-1)) := fr_trans (fr_trans (fr_trans (fr_trans (fr_sI _ _ (Or.inr ⟨rfl, by simp⟩)) (fr_sI _ _ (Or.inr ⟨rfl, by simp⟩))) (fr_sI _ _ (Or.inr ⟨rfl, by simp⟩))) (fr_sI _ _ (Or.inr ⟨rfl, by simp⟩))) (fr_sI _ _ (Or.inr ⟨rfl, by simp⟩))
  have e2 : gI (sI (sI (sI (sI (sI h 81 2 (nI N)) 81 1 0) 81 3 0) 81 7 0) 81 8 (-1)) 81 2 = nI N := by rw [gI_sI, if_neg (by decide), gI_sI, if_neg (by decide), gI_sI, if_neg (by decide), gI_sI, if_neg (by decide), gI_sI, if_pos ⟨rfl, rfl⟩]
  have e1 : gI (sI (sI (sI (sI (sI h 81 2 (nI N)) 81 1 0) 81 3 0) 81 7 0) 81 8 (-1)) 81 1 = 0 := by rw [gI_sI, if_neg (by decide), gI_sI, if_neg (by decide), gI_sI, if_neg (by decide), gI_sI, if_pos ⟨rfl, rfl⟩]
  have e3 : gI (sI (sI (sI (sI (sI h 81 2 (nI N)) 81 1 0) 81 3 0) 81 7 0) 81 8 (-1)) 81 3 = 0 := by rw [gI_sI, if_neg (by decide), gI_sI, if_neg (by decide), gI_sI, if_pos ⟨rfl, rfl⟩]
  have e7 : gI (sI (sI (sI (sI (sI h 81 2 (nI N)) 81 1 0) 81 3 0) 81 7 0) 81 8 (-1)) 81 7 = 0 := by rw [gI_sI, if_neg (by decide), gI_sI, if_pos ⟨rfl, rfl⟩]
  have e8 : gI (sI (sI (sI (sI (sI h 81 2 (nI N)) 81 1 0) 81 3 0) 81 7 0) 81 8 (-1)) 81 8 = -1 := by rw [gI_sI, if_pos ⟨rfl, rfl⟩]
  revert f0 e2 e1 e3 e7 e8
  generalize sI (sI (sI (sI (sI h 81 2 (nI N)) 81 1 0) 81 3 0) 81 7 0) 81 8 (-1) = h1'
  intro f0 e2 e1 e3 e7 e8
  have hM1 := fr_MS f0 hM
  refine t_M_begins hM1 (fun h2 f2 t2 e15 e16 e19 e20 e21 => ?_)
  have hM2 := fr_MS f2 hM1
  have o2 : TX B N h2 := ⟨hN, (fr_F f2 (by decide) (by decide)).trans e2, fun i hi => by rw [fr_I f2 (x := 82) (by decide) (by decide), fr_I f0 (x := 82) (by decide) (by decide)]; exact hB i hi⟩
  have h72 : gI h2 81 7 = 0 := (fr_F f2 (by decide) (by decide)).trans e7
  have h82 : gI h2 81 8 = -1 := (fr_F f2 (by decide) (by decide)).trans e8
  have h12 : gI h2 81 1 = 0 := (fr_F f2 (by decide) (by decide)).trans e1
  have f02 : Fr [83] [1, 2, 3, 4, 5, 6, 7, 8, 9, 10, 15, 16, 19, 20, 21] [85] [11] h h2 := fr_trans (fr_mono f0 (by simp) (by simp) (by simp) (by simp)) (fr_mono f2 (by simp) (by simp) (by simp) (by simp))
  refine ⟨M_K hM2, t_M_goOn hM2 o2 ((fr_F f2 (by decide) (by decide)).trans e3) (Nat.zero_le _) (fun h3 f3 r3 => ?_)⟩
  have al : AL B N h2 s0L h3 := by
    refine ⟨⟨Nat.zero_le _, by decide, by decide, by decide, fun w hw => absurd hw List.not_mem_nil⟩, ⟨fr_mono f3 (by simp) (by simp) (by simp) (by simp), fun k hk => ?_, ?_, ?_, fun i hi => absurd hi (Nat.not_lt_zero _), ?_, ?_, ?_⟩, r3, (fr_F f3 (by decide) (by decide)).trans h72, fr_F f3 (by decide) (by decide)⟩
    · rw [fr_I f3 (x := 83) (by decide) (by decide)]; exact t2 k hk
    · rw [fr_F f3 (by decide) (by decide)]; exact e15
    · rw [fr_F f3 (by decide) (by decide)]; exact e16
    · rw [fr_F f3 (by decide) (by decide)]; exact e19
    · rw [fr_F f3 (by decide) (by decide)]; exact e20
    · rw [fr_F f3 (by decide) (by decide)]; exact e21
  have endd : ∀ (x : Except ER PSt) (h4 : Hp), prog B N = x → OX B N h2 x h4 → w_M_program_B57 Q 81 h4 := by
    intro x h4 hx ox
    cases x with
    | error e =>
      have d := ox.2 e rfl
      have hM4 := fr_MS d.1 hM2
      unfold w_M_program_B57
      refine ⟨M_K hM4, fun z => ?_, fun z => ?_⟩
      · rw [gI_sI, if_neg (by decide), gI_sI, if_neg (by decide)] at z
        exact absurd z (DE_pos d.2).1
      · refine hq2 e _ hx (fr_trans (fr_trans (fr_trans f02 (fr_mono d.1 (by simp) (by simp) (by simp) (by simp))) (fr_sI _ _ (Or.inr ⟨rfl, by simp⟩))) (fr_sI _ _ (Or.inr ⟨rfl, by simp⟩))) ?_ ?_ ?_
        · rw [gI_sI, if_neg (by decide), gI_sI, if_neg (by decide), fr_F d.1 (by decide) (by decide)]; exact h12
        · rw [gI_sI, if_neg (by decide), gI_sI, if_pos ⟨rfl, rfl⟩]; exact d.2.1
        · rw [gI_sI, if_pos ⟨rfl, rfl⟩, gI_sI, if_neg (by decide)]; exact d.2.2.1
    | ok s =>
      obtain ⟨xs, xd, xr, x7, x8⟩ := ox.1 s rfl
      have hM4 := fr_MS xd.1 hM2
      have f5 : Fr [] [9, 10] [] [] h4 (sI (sI h4 81 9 (gI h4 81 7)) 81 10 (gI (sI h4 81 9 (gI h4 81 7)) 81 8)) := fr_trans (fr_sI _ _ (Or.inr ⟨rfl, by simp⟩)) (fr_sI _ _ (Or.inr ⟨rfl, by simp⟩))
      have hM5 := fr_MS f5 hM4
      have k9 : gI (sI (sI h4 81 9 (gI h4 81 7)) 81 10 (gI (sI h4 81 9 (gI h4 81 7)) 81 8)) 81 9 = 0 := by rw [gI_sI, if_neg (by decide), gI_sI, if_pos ⟨rfl, rfl⟩]; exact x7
      have k10 : gI (sI (sI h4 81 9 (gI h4 81 7)) 81 10 (gI (sI h4 81 9 (gI h4 81 7)) 81 8)) 81 10 = -1 := by rw [gI_sI, if_pos ⟨rfl, rfl⟩, gI_sI, if_neg (by decide), x8]; exact h82
      unfold w_M_program_B57
      refine ⟨M_K hM4, fun z => ?_, fun z => ?_⟩
      · refine t_M_takesOver2 hM5 (fun h6 f6 q1 q2 q3 q4 q5 q6 q7 q8 q9 q10 q11 => ?_)
        have hM6 := fr_MS f6 hM5
        obtain ⟨a1, a2, a3, a4, a5, a6, a7, a8⟩ := xd
        have e18 : gI h6 81 18 = nI s.2.2.2.1.length := by rw [q4, fr_F f5 (by decide) (by decide)]; exact a4
        rw [e18]
        refine ⟨M_K hM6, hq1 s h6 hx xs (fr_trans (fr_trans (fr_trans (fr_mono f02 (by simp) (by simp) (by simp) (by simp)) (fr_mono a1 (by simp) (by simp) (by simp) (by simp))) (fr_mono f5 (by simp) (by simp) (by simp) (by simp))) (fr_mono f6 (by simp) (by simp) (by simp) (by simp))) ⟨fun k hk => ?_, fun k hk => ?_, ?_, e18, q5, q6, q7, q8, q9, q10⟩ ?_ ?_ ?_ (fun k hk => ?_)⟩
        · rw [q1 k hk, fr_I f5 (x := 83) (by decide) (by decide)]; exact a2 k hk
        · rw [q2 k hk, fr_I f5 (x := 83) (by decide) (by decide)]; exact a2 k hk
        · rw [q3, fr_F f5 (by decide) (by decide)]; exact a3
        · rw [fr_F f6 (by decide) (by decide), fr_F f5 (by decide) (by decide), fr_F a1 (by decide) (by decide)]; exact h12
        · rw [fr_F f6 (by decide) (by decide)]; exact k9
        · rw [fr_F f6 (by decide) (by decide)]; exact k10
        · have := q11 k hk
          rw [fr_I f5 (x := 84) (by decide) (by decide), fr_I f5 (x := 86) (by decide) (by decide), fr_I a1 (x := 84) (by decide) (by decide), fr_I a1 (x := 86) (by decide) (by decide), fr_I f02 (x := 84) (by decide) (by decide), fr_I f02 (x := 86) (by decide) (by decide)] at this
          exact this
      · rw [gI_sI, if_neg (by decide), gI_sI, if_neg (by decide), x7] at z
        exact absurd (Int32.le_refl _) z
  have run : ∀ k s h4, AL B N h2 s h4 → N < s.1 + k → prgL B N k s = prog B N → w_M_program_L36 Q 81 (k + 1) h4 := by
    intro k
    induction k with
    | zero => intro s h4 a hk; exact absurd a.1.1 (by omega)
    | succ k ih =>
      intro s h4 a hk hp
      have hM4 := fr_MS a.2.1.1 hM2
      have hkd := kd_6 B N s.1
      unfold w_M_program_L36
      refine ⟨M_K hM4, t_M_isGood hM4 a.2.2.2.1 ⟨fun g => absurd g (by decide), fun _ => ⟨M_K hM4, ?_⟩⟩⟩
      rw [a.2.2.1.2.2.1]
      rw [prgL] at hp
      refine ⟨fun z => ?_, fun z => ?_⟩
      · rw [if_pos ((nI_eq (b := 0) (by omega) (by omega)).mp z)] at hp
        exact endd _ h4 hp.symm (OX_ok rfl a)
      · rw [if_neg (fun g => z (by rw [g]; rfl))] at hp
        refine t_M_line hM2 o2 a (fun h5 ox => ?_)
        cases e : lineL B N s with
        | error e' =>
          rw [e] at hp ox
          have d := ox.2 e' rfl
          have hM5 := fr_MS d.1 hM2
          unfold w_M_program_L36
          exact ⟨M_K hM5, t_M_isGood_d hM5 d.2 ⟨fun _ => endd _ h5 hp.symm ox, fun g => absurd rfl g⟩⟩
        | ok x =>
          rw [e] at hp ox
          have := (lineL_sp a.1 e).2
          exact ih x h5 (ox.1 x rfl) (by omega) hp
  exact ⟨N + 2, run (N + 1) s0L h3 al (by show N < 0 + (N + 1); omega) rfl⟩
