/-! The reference's undo, redo, image, back, better, and what it tells -/
variable {h : Hp}
/-- now and one of the past have changed their places -/
def EXc (h h' : Hp) (k : Nat) : Prop := (∀ j, j < 44 → gI h' 86 j = gI h 87 (44 * k + j)) ∧ (∀ j, j < 880 → gI h' 87 j = if 44 * k ≤ j ∧ j < 44 * k + 44 then gI h 86 (j - 44 * k) else gI h 87 j)
theorem t_M_exchanges {k : Nat} {Q : Hp → Prop} (hM : MS h) (hk : k < 20) (hq : ∀ h', Fr [86, 87] [41] [] [] h h' → gI h' 81 41 = 0 → EXc h h' k → Q h') : w_M_exchanges 81 (nI k) h Q := by
  obtain ⟨a1, a2, a3⟩ := M_now hM
  obtain ⟨b1, b2, b3⟩ := M_past hM
  unfold w_M_exchanges
  refine loop_0 (fun m i s => w_M_exchanges_L2 Q 81 (nI k) m (nI i) s) (fun i s => Fr [86, 87] [] [] [] h s ∧ (∀ j, j < 44 → gI s 86 j = if j < i then gI h 87 (44 * k + j) else gI h 86 j) ∧ (∀ j, gI s 87 j = if 44 * k ≤ j ∧ j < 44 * k + i then gI h 86 (j - 44 * k) else gI h 87 j)) 44 _ ⟨fr_refl _ _ _ _ _, fun j _ => by rw [if_neg (Nat.not_lt_zero _)], fun j => by rw [if_neg (by omega)]⟩ ?_ ?_
  · rintro m s ⟨f, e1, e2⟩
    unfold w_M_exchanges_L2
    refine ⟨fun _ => ⟨M_K (fr_MS f hM), hq _ (fr_trans (fr_mono f (by simp) (by simp) (by simp) (by simp)) (fr_sI _ _ (Or.inr ⟨rfl, by simp⟩))) ?_ ⟨fun j hj => ?_, fun j hj => ?_⟩⟩, fun z => absurd (Int32.le_refl _) z⟩
    · rw [gI_sI, if_pos ⟨rfl, rfl⟩]
    · rw [gI_sI, if_neg (fun z => absurd z.1 (by decide)), e1 j hj, if_pos hj]
    · rw [gI_sI, if_neg (fun z => absurd z.1 (by decide)), e2 j]
  · rintro m i s hi ⟨f, e1, e2⟩ ih
    unfold w_M_exchanges_L2
    refine ⟨fun z => absurd z (nI_ge (b := 44) hi (by omega)), fun _ => ?_⟩
    rw [fr_R f, fr_K f, fr_N f, a1, a3, b1, b3, show (44 : Int32) = nI 44 from rfl, pk_mul, nI_add, nI_1, ix_nI (n := i) (by omega), ix_nI (n := 44 * k + i) (by omega), e1 i hi, if_neg (Nat.lt_irrefl _), e2 (44 * k + i), if_neg (by omega)]
    refine ⟨M_K hM, b2, vp_in_nI (by omega) (by omega), a2, vp_in_nI (by omega) (by omega), ih _ ⟨fr_trans (fr_trans f (fr_sI _ _ (Or.inl (by simp)))) (fr_sI _ _ (Or.inl (by simp))), fun j hj => ?_, fun j => ?_⟩⟩
    · rw [gI_sI]
      by_cases g : j = i
      · rw [if_pos ⟨rfl, g⟩, if_pos (by omega), g]
      · rw [if_neg (fun z => g z.2), gI_sI, if_neg (fun z => absurd z.1 (by decide)), e1 j hj]
        by_cases g2 : j < i
        · rw [if_pos g2, if_pos (by omega)]
        · rw [if_neg g2, if_neg (by omega)]
    · rw [gI_sI, if_neg (fun z => absurd z.1 (by decide)), gI_sI]
      by_cases g : j = 44 * k + i
      · rw [if_pos ⟨rfl, g⟩, if_pos (by omega), show j - 44 * k = i from by omega]
      · rw [if_neg (fun z => g z.2), e2 j]
        by_cases g2 : 44 * k ≤ j ∧ j < 44 * k + i
        · rw [if_pos g2, if_pos (by omega)]
        · rw [if_neg g2, if_neg (by omega)]
theorem EXc_fr {as fs js gs : List Nat} {h0 h h' : Hp} {k : Nat} (a : Fr as fs js gs h0 h) (h1 : 86 ∉ as) (h2 : 87 ∉ as) (b : EXc h h' k) : EXc h0 h' k := by
  unfold EXc
  rw [← fr_I a h1 (by decide), ← fr_I a h2 (by decide)]
  exact b
theorem t_M_undo {A U : Nat} {Q : Bool → Hp → Prop} (hM : MS h) (hA : gI h 81 24 = nI A) (hA2 : A ≤ 20) (hU : gI h 81 25 = nI U)
    (hq0 : A = 0 → Q false h) (hq : ∀ h' a, A = a + 1 → Fr [86, 87] [24, 25, 41] [] [] h h' → gI h' 81 24 = nI a → gI h' 81 25 = nI (U + 1) → gI h' 81 41 = 0 → EXc h h' a → Q true h') : w_M_undo 81 h Q := by
  unfold w_M_undo
  rw [hA]
  refine ⟨M_K hM, fun z => hq0 ((nI_eq (b := 0) (by omega) (by omega)).mp z), fun z => ?_⟩
  obtain ⟨a, rfl⟩ : ∃ a, A = a + 1 := ⟨A - 1, by have : A ≠ 0 := fun g => z (by rw [g]; rfl); omega⟩
  have e25 : gI (sI h 81 24 (nI a)) 81 25 = nI U := by rw [gI_sI, if_neg (by decide)]; exact hU
  rw [nI_s1, e25, nI_1, gI_sI, if_neg (by decide), gI_sI, if_pos ⟨rfl, rfl⟩]
  have f1 : Fr [] [24, 25] [] [] h (sI (sI h 81 24 (nI a)) 81 25 (nI (U + 1))) := fr_trans (fr_sI _ _ (Or.inr ⟨rfl, by simp⟩)) (fr_sI _ _ (Or.inr ⟨rfl, by simp⟩))
  refine t_M_exchanges (MS_sI.mpr (MS_sI.mpr hM)) (by omega) (fun h' f e1 e2 => hq h' a rfl (fr_trans (fr_mono f1 (by simp) (by simp) (by simp) (by simp)) (fr_mono f (by simp) (by simp) (by simp) (by simp))) ?_ ?_ e1 (EXc_fr f1 (by simp) (by simp) e2))
  · rw [fr_F f (by decide) (by decide), gI_sI, if_neg (by decide), gI_sI, if_pos ⟨rfl, rfl⟩]
  · rw [fr_F f (by decide) (by decide), gI_sI, if_pos ⟨rfl, rfl⟩]
theorem t_M_redo {A U : Nat} {Q : Bool → Hp → Prop} (hM : MS h) (hA : gI h 81 24 = nI A) (hU : gI h 81 25 = nI U) (hAU : A + U ≤ 20)
    (hq0 : U = 0 → Q false h) (hq : ∀ h' u, U = u + 1 → Fr [86, 87] [24, 25, 41] [] [] h h' → gI h' 81 24 = nI (A + 1) → gI h' 81 25 = nI u → gI h' 81 41 = 0 → EXc h h' A → Q true h') : w_M_redo 81 h Q := by
  unfold w_M_redo
  rw [hU]
  refine ⟨M_K hM, fun z => hq0 ((nI_eq (b := 0) (by omega) (by omega)).mp z), fun z => ?_⟩
  obtain ⟨u, rfl⟩ : ∃ u, U = u + 1 := ⟨U - 1, by have : U ≠ 0 := fun g => z (by rw [g]; rfl); omega⟩
  rw [nI_s1, gI_sI, if_neg (by decide), hA]
  have f1 : Fr [] [25] [] [] h (sI h 81 25 (nI u)) := fr_sI _ _ (Or.inr ⟨rfl, by simp⟩)
  refine t_M_exchanges (MS_sI.mpr hM) (by omega) (fun h' f e1 e2 => ⟨M_K (fr_MS f (MS_sI.mpr hM)), hq _ u rfl (fr_trans (fr_trans (fr_mono f1 (by simp) (by simp) (by simp) (by simp)) (fr_mono f (by simp) (by simp) (by simp) (by simp))) (fr_sI _ _ (Or.inr ⟨rfl, by simp⟩))) ?_ ?_ ?_ ?_⟩)
  · rw [gI_sI, if_pos ⟨rfl, rfl⟩, fr_F f (by decide) (by decide), gI_sI, if_neg (by decide), hA, nI_1]
  · rw [gI_sI, if_neg (by decide), fr_F f (by decide) (by decide), gI_sI, if_pos ⟨rfl, rfl⟩]
  · rw [gI_sI, if_neg (by decide)]; exact e1
  · have := EXc_fr f1 (by simp) (by simp) e2
    refine ⟨fun j hj => ?_, fun j hj => ?_⟩
    · rw [gI_sI, if_neg (fun z => absurd z.1 (by decide))]; exact this.1 j hj
    · rw [gI_sI, if_neg (fun z => absurd z.1 (by decide))]; exact this.2 j hj
theorem t_M_untell {s : Nat} {v : Int32} {Q : Bool → Hp → Prop} (hM : MS h) (hS : gI h 81 73 = nI s) (hs : s ≤ 20) (hq0 : inb v s = false → Q false h)
    (hq : ∀ j, j < s → v = nI j → (gI h 115 j = -1 → Q true (sI h 115 j (gI h 81 74))) ∧ (¬ gI h 115 j = -1 → Q false h)) : w_M_untell 81 v h Q := by
  obtain ⟨b1, b2, b3⟩ := M_untoldAt hM
  unfold w_M_untell
  rw [hS]
  refine ⟨M_K hM, t_M_isIn ?_⟩
  rw [isIn_inb (by omega)]
  refine ⟨hq0, fun z => ⟨M_K hM, ?_⟩⟩
  obtain ⟨j, hj, rfl⟩ := inb_ex (by omega) (ntf z)
  rw [b1, b3, ix_nI (by omega)]
  exact ⟨b2, vp_in_nI (by omega) (by omega), hq j hj rfl⟩
theorem t_M_later {v : Int32} {Q : Int32 → Hp → Prop} (hM : MS h) (hq0 : (decide (0 ≤ v) && decide (v ≤ 1000)) = false → Q (-1) h)
    (hq : (decide (0 ≤ v) && decide (v ≤ 1000)) = true → (gI h 81 74 + v ≤ 100000 → Q (gI h 81 74 + v) (sI h 81 74 (gI h 81 74 + v))) ∧ (¬ gI h 81 74 + v ≤ 100000 → Q (-1) h)) : w_M_later 81 v h Q := by
  unfold w_M_later
  refine t_M_isIn ⟨hq0, fun z => ⟨M_K hM, fun y => ?_, (hq (ntf z)).2⟩⟩
  rw [gI_sI, if_pos ⟨rfl, rfl⟩]
  exact (hq (ntf z)).1 y
def hdg (f : Nat → Int32) (r n : Nat) (w : Int32) : Int32 :=
  if (decide (0 ≤ w) && decide (w ≤ 2)) = true then (if inb w r then sm (fun c => f (36 + c) * f (3 * c + ix w)) n else -1000001)
  else if w = 3 then sm (fun c => f (36 + c) * f (24 + c)) n else if w = 4 then sm (fun c => f (36 + c)) n
  else if w = 5 then sm (fun k => ab (sm (fun c => f (36 + c) * f (3 * c + k)) n - f (32 + k))) r else -1000001
theorem t_M_holding {r n : Nat} {w : Int32} {Q : Int32 → Hp → Prop} (hM : Mrc h r n) (hq : Q (hdg (gI h 86) r n w) h) : w_M_holding 81 w h Q := by
  have hr := hM.2.2.2.2.1
  unfold hdg at hq
  unfold w_M_holding
  refine t_M_isIn ⟨fun z => ⟨fun y => ⟨M_K hM.1, t_M_heldGain hM ?_⟩, fun y => ⟨fun y2 => ⟨M_K hM.1, t_M_heldSteps hM ?_⟩, fun y2 => ⟨fun y3 => ⟨M_K hM.1, t_M_heldOff hM ?_⟩, fun y3 => ?_⟩⟩⟩, fun z => ⟨M_K hM.1, t_M_isRow hM.1 hM.2.1 (by omega) ⟨fun y => ?_, fun y => ⟨M_K hM.1, ?_⟩⟩⟩⟩
  · rw [if_neg (by rw [z]; decide), if_pos y] at hq; exact hq
  · rw [if_neg (by rw [z]; decide), if_neg y, if_pos y2] at hq; exact hq
  · rw [if_neg (by rw [z]; decide), if_neg y, if_neg y2, if_pos y3] at hq; exact hq
  · rw [if_neg (by rw [z]; decide), if_neg y, if_neg y2, if_neg y3] at hq; exact hq
  · rw [if_pos (ntf z), y] at hq; exact hq
  · rw [if_pos (ntf z), ntf y] at hq
    obtain ⟨j, hj, rfl⟩ := inb_ex (by omega) (ntf y)
    rw [ix_nI (by omega)] at hq
    exact t_M_heldSum hM (by omega) hq
/-- the greatest of the numbers, column by column -/
def grC (f : Nat → Int32) (r : Nat) : Nat → Int32
  | 0 => 0
  | c + 1 => (fun (F : Nat → Int32) => itrN F (grC f r c) r) (fun j => ab (f (3 * c + j)))
where itrN (F : Nat → Int32) (s : Int32) : Nat → Int32
  | 0 => s
  | j + 1 => gt (itrN F s j) (F j)
theorem t_M_greatest {r n : Nat} {Q : Int32 → Hp → Prop} (hM : Mrc h r n) (hq : Q (grC (gI h 86) r n) h) : w_M_greatest 81 h Q := by
  have hn := hM.2.2.2.2.2
  have hr := hM.2.2.2.2.1
  unfold w_M_greatest
  refine loop_0 (fun m c s => w_M_greatest_L4 Q 81 m s (nI c) h) (fun c s => s = grC (gI h 86) r c) n 0 rfl ?_ ?_
  · rintro m s rfl
    unfold w_M_greatest_L4
    exact ⟨M_K hM.1, fun _ => hq, fun z => absurd (loop_le hM.2.2.1) z⟩
  · rintro m c s hc rfl ih
    unfold w_M_greatest_L4
    refine ⟨M_K hM.1, fun z => absurd (hM.2.2.1 ▸ z) (nI_ge hc (by omega)), fun _ => ?_⟩
    refine loop_0 (fun m2 j s => w_M_greatest_L14 Q (w_M_greatest_L4 Q 81 m) 81 (nI c) m2 s (nI j) h) (fun j s => s = grC.itrN (fun j => ab (gI h 86 (3 * c + j))) (grC (gI h 86) r c) j) r _ rfl ?_ ?_
    · rintro m2 s rfl
      unfold w_M_greatest_L14
      refine ⟨M_K hM.1, fun _ => ?_, fun z => absurd (loop_le hM.2.1) z⟩
      rw [nI_1]
      exact ih _ rfl
    · rintro m2 j s hj rfl ih2
      unfold w_M_greatest_L14
      refine ⟨M_K hM.1, fun z => absurd (hM.2.1 ▸ z) (nI_ge hj (by omega)), fun _ => t_M_numberOf hM.1 (by omega) (t_M_plus (t_M_greater ?_))⟩
      rw [nI_1]
      exact ih2 _ rfl
def abt (h : Hp) (r n : Nat) (v : Int32) : Int32 := match v.toInt with
  | 0 => nI r
  | 1 => nI n
  | 2 => gI h 86 35
  | 3 => grC (gI h 86) r n
  | 4 => gI h 81 24
  | 5 => gI h 81 25
  | 6 => gI h 81 73
  | 7 => gI h 81 74
  | 8 => gI h 81 1
  | _ => -1
theorem t_M_about {r n : Nat} {v : Int32} {Q : Int32 → Hp → Prop} (hM : Mrc h r n) (hq : Q (abt h r n v) h) : w_M_about 81 v h Q := by
  obtain ⟨a1, a2, a3⟩ := M_now hM.1
  unfold abt at hq
  unfold w_M_about
  refine ⟨fun z => ?_, fun z => ⟨M_K hM.1, ?_⟩, fun z => ⟨M_K hM.1, ?_⟩, fun z => ⟨M_K hM.1, ?_⟩, fun z => ⟨M_K hM.1, t_M_greatest hM ?_⟩, fun z => ⟨M_K hM.1, ?_⟩, fun z => ⟨M_K hM.1, ?_⟩, fun z => ⟨M_K hM.1, ?_⟩, fun z => ⟨M_K hM.1, ?_⟩, fun z => ⟨M_K hM.1, ?_⟩⟩
  · split at hq <;> first | exact hq | (exfalso; omega)
  · rw [z] at hq; rw [hM.2.1]; exact hq
  · rw [z] at hq; rw [hM.2.2.1]; exact hq
  · rw [z] at hq
    rw [a1, a3]
    exact ⟨a2, vp_in_nI (n := 35) (by omega) (by omega), hq⟩
  all_goals (rw [z] at hq; exact hq)
theorem t_M_image {n : Nat} {v : Int32} {Q : Int32 → Hp → Prop} (hM : MS h) (hn : gI h 81 18 = nI n) (hq0 : (decide (0 ≤ v) && decide (v ≤ 1)) = false → Q (-1) h)
    (hq : ∀ h' b, b ≤ 1 → v = nI b → Fr [118, 119] [] [] [] h h' → (∀ j, gI h' 119 j = if j = b then 1 else gI h 119 j) → (∀ j, gI h' 118 j = if 44 * b ≤ j ∧ j < 44 * b + 44 then gI h 86 (j - 44 * b) else gI h 118 j) → Q (nI n) h') : w_M_image 81 v h Q := by
  obtain ⟨a1, a2, a3⟩ := M_now hM
  obtain ⟨b1, b2, b3⟩ := M_boxes hM
  obtain ⟨c1, c2, c3⟩ := M_isKept hM
  unfold w_M_image
  refine t_M_isIn ⟨hq0, fun z => ⟨M_K hM, ?_⟩⟩
  obtain ⟨b, hb, rfl⟩ := in_nI (k := 1) rfl z
  rw [c1, c3, ix_nI (by omega)]
  refine ⟨c2, vp_in_nI (by omega) (by omega), ?_⟩
  refine loop_0 (fun m i s => w_M_image_L20 Q 81 (nI b) m (nI i) s) (fun i s => Fr [118, 119] [] [] [] h s ∧ (∀ j, gI s 119 j = if j = b then 1 else gI h 119 j) ∧ (∀ j, gI s 118 j = if 44 * b ≤ j ∧ j < 44 * b + i then gI h 86 (j - 44 * b) else gI h 118 j)) 44 _ ⟨fr_sI _ _ (Or.inl (by simp)), fun j => ?_, fun j => ?_⟩ ?_ ?_
  · rw [gI_sI]
    by_cases g : j = b
    · rw [if_pos ⟨rfl, g⟩, if_pos g]
    · rw [if_neg (fun z => g z.2), if_neg g]
  · rw [gI_sI, if_neg (fun z => absurd z.1 (by decide)), if_neg (by omega)]
  · rintro m s ⟨f, e1, e2⟩
    unfold w_M_image_L20
    refine ⟨fun _ => ⟨M_K (fr_MS f hM), ?_⟩, fun z => absurd (Int32.le_refl _) z⟩
    rw [fr_F f (by decide) (by decide), hn]
    exact hq s b hb rfl f e1 e2
  · rintro m i s hi ⟨f, e1, e2⟩ ih
    unfold w_M_image_L20
    refine ⟨fun z => absurd z (nI_ge (b := 44) hi (by omega)), fun _ => ?_⟩
    rw [fr_R f, fr_K f, fr_N f, a1, a3, b1, b3, show (44 : Int32) = nI 44 from rfl, pk_mul, nI_add, nI_1, ix_nI (n := i) (by omega), ix_nI (n := 44 * b + i) (by omega), fr_I f (x := 86) (by decide) (by decide)]
    refine ⟨M_K hM, a2, vp_in_nI (by omega) (by omega), b2, vp_in_nI (by omega) (by omega), ih _ ⟨fr_trans f (fr_sI _ _ (Or.inl (by simp))), fun j => ?_, fun j => ?_⟩⟩
    · rw [gI_sI, if_neg (fun z => absurd z.1 (by decide)), e1 j]
    · rw [gI_sI]
      by_cases g : j = 44 * b + i
      · rw [if_pos ⟨rfl, g⟩, if_pos (by omega), show j - 44 * b = i from by omega]
      · rw [if_neg (fun z => g z.2), e2 j]
        by_cases g2 : 44 * b ≤ j ∧ j < 44 * b + i
        · rw [if_pos g2, if_pos (by omega)]
        · rw [if_neg g2, if_neg (by omega)]
theorem t_M_back {n : Nat} {v : Int32} {Q : Int32 → Hp → Prop} (hM : MS h) (hn : gI h 81 18 = nI n) (hq0 : (decide (0 ≤ v) && decide (v ≤ 1)) = false → Q (-1) h)
    (hq1 : ∀ b, b ≤ 1 → v = nI b → gI h 119 b = 0 → Q (-1) h)
    (hq : ∀ h' b, b ≤ 1 → v = nI b → ¬ gI h 119 b = 0 → Fr [86] [24, 25, 41] [] [] h h' → gI h' 81 24 = 0 → gI h' 81 25 = 0 → gI h' 81 41 = 0 → (∀ j, j < 44 → gI h' 86 j = gI h 118 (44 * b + j)) → Q (nI n) h') : w_M_back 81 v h Q := by
  obtain ⟨a1, a2, a3⟩ := M_now hM
  obtain ⟨b1, b2, b3⟩ := M_boxes hM
  obtain ⟨c1, c2, c3⟩ := M_isKept hM
  unfold w_M_back
  refine t_M_isIn ⟨hq0, fun z => ⟨M_K hM, ?_⟩⟩
  obtain ⟨b, hb, rfl⟩ := in_nI (k := 1) rfl z
  rw [c1, c3, ix_nI (by omega)]
  refine ⟨c2, vp_in_nI (by omega) (by omega), hq1 b hb rfl, fun zk => ?_⟩
  refine loop_0 (fun m i s => w_M_back_L22 Q 81 (nI b) m (nI i) s) (fun i s => Fr [86] [] [] [] h s ∧ ∀ j, j < i → gI s 86 j = gI h 118 (44 * b + j)) 44 _ ⟨fr_refl _ _ _ _ _, fun j hj => absurd hj (Nat.not_lt_zero _)⟩ ?_ ?_
  · rintro m s ⟨f, e1⟩
    unfold w_M_back_L22
    refine ⟨fun _ => ⟨M_K (fr_MS f hM), ?_⟩, fun z => absurd (Int32.le_refl _) z⟩
    have e18 : gI (sI (sI (sI s 81 24 0) 81 25 0) 81 41 0) 81 18 = nI n := by
      rw [gI_sI, if_neg (by decide), gI_sI, if_neg (by decide), gI_sI, if_neg (by decide), fr_F f (by decide) (by decide), hn]
    rw [e18]
    refine hq _ b hb rfl zk (fr_trans (fr_mono f (by simp) (by simp) (by simp) (by simp)) (fr_trans (fr_trans (fr_sI _ _ (Or.inr ⟨rfl, by simp⟩)) (fr_sI _ _ (Or.inr ⟨rfl, by simp⟩))) (fr_sI _ _ (Or.inr ⟨rfl, by simp⟩)))) ?_ ?_ ?_ (fun j hj => ?_)
    · rw [gI_sI, if_neg (by decide), gI_sI, if_neg (by decide), gI_sI, if_pos ⟨rfl, rfl⟩]
    · rw [gI_sI, if_neg (by decide), gI_sI, if_pos ⟨rfl, rfl⟩]
    · rw [gI_sI, if_pos ⟨rfl, rfl⟩]
    · rw [gI_sI, if_neg (fun z => absurd z.1 (by decide)), gI_sI, if_neg (fun z => absurd z.1 (by decide)), gI_sI, if_neg (fun z => absurd z.1 (by decide)), e1 j hj]
  · rintro m i s hi ⟨f, e1⟩ ih
    unfold w_M_back_L22
    refine ⟨fun z => absurd z (nI_ge (b := 44) hi (by omega)), fun _ => ?_⟩
    rw [fr_R f, fr_K f, fr_N f, a1, a3, b1, b3, show (44 : Int32) = nI 44 from rfl, pk_mul, nI_add, nI_1, ix_nI (n := i) (by omega), ix_nI (n := 44 * b + i) (by omega), fr_I f (x := 118) (by decide) (by decide)]
    refine ⟨M_K hM, b2, vp_in_nI (by omega) (by omega), a2, vp_in_nI (by omega) (by omega), ih _ ⟨fr_trans f (fr_sI _ _ (Or.inl (by simp))), fun j hj => ?_⟩⟩
    rw [gI_sI]
    by_cases g : j = i
    · rw [if_pos ⟨rfl, g⟩, g]
    · rw [if_neg (fun z => g z.2)]
      exact e1 j (by omega)
