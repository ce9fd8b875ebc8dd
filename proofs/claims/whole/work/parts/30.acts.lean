/-! The reference's acts; what it tells of the numbers -/
variable {h : Hp}
def A1 (A : Nat) : Nat := if A = 20 then 19 else A
def pP (A : Nat) (P f : Nat → Int32) : Nat → Int32 := fun k => if 44 * A1 A ≤ k ∧ k < 44 * A1 A + 44 then f (k - 44 * A1 A) else if A = 20 then P (k + 44) else P k
/-- a heap as an act leaves it -/
def AI (h h' : Hp) (A : Nat) : Prop := Fr [87] [24, 25, 41] [] [] h h' ∧ gI h' 81 24 = nI (A1 A + 1) ∧ gI h' 81 25 = 0 ∧ gI h' 81 41 = 0 ∧ ∀ k, k < 880 → gI h' 87 k = pP A (gI h 87) (gI h 86) k
theorem t_M_act_L52 {h0 : Hp} {A : Nat} {Q : Hp → Prop} (hM : MS h) (hA : gI h 81 24 = nI (A1 A)) (hA2 : A ≤ 20) (f0 : Fr [87] [24, 25, 41] [] [] h0 h)
    (hP : ∀ k, k < 880 → ¬ (44 * A1 A ≤ k ∧ k < 44 * A1 A + 44) → gI h 87 k = if A = 20 then gI h0 87 (k + 44) else gI h0 87 k)
    (hq : ∀ h', AI h0 h' A → Q h') : ∃ m, w_M_act_L52 Q 81 m 0 h := by
  obtain ⟨a1, a2, a3⟩ := M_now hM
  obtain ⟨b1, b2, b3⟩ := M_past hM
  have hA3 : A1 A ≤ 19 := by unfold A1; split <;> omega
  have e86 : gI h 86 = gI h0 86 := fr_I f0 (by decide) (by decide)
  refine loop_0 (fun m i s => w_M_act_L52 Q 81 m (nI i) s) (fun i s => Fr [87] [] [] [] h s ∧ ∀ k, k < 880 → gI s 87 k = if 44 * A1 A ≤ k ∧ k < 44 * A1 A + i then gI h0 86 (k - 44 * A1 A) else gI h 87 k) 44 _ ⟨fr_refl _ _ _ _ _, fun k hk => by rw [if_neg (by omega)]⟩ ?_ ?_
  · rintro m s ⟨f, e⟩
    have ea : gI s 81 24 = nI (A1 A) := (fr_F f (by decide) (by decide)).trans hA
    unfold w_M_act_L52
    refine ⟨fun _ => ⟨M_K (fr_MS f hM), hq _ ⟨fr_trans (fr_trans f0 (fr_mono f (by simp) (by simp) (by simp) (by simp))) (fr_trans (fr_trans (fr_sI _ _ (Or.inr ⟨rfl, by simp⟩)) (fr_sI _ _ (Or.inr ⟨rfl, by simp⟩))) (fr_sI _ _ (Or.inr ⟨rfl, by simp⟩))), ?_, ?_, ?_, fun k hk => ?_⟩⟩, fun z => absurd (Int32.le_refl _) z⟩
    · rw [gI_sI, if_neg (by decide), gI_sI, if_neg (by decide), gI_sI, if_pos ⟨rfl, rfl⟩, ea, nI_1]
    · rw [gI_sI, if_neg (by decide), gI_sI, if_pos ⟨rfl, rfl⟩]
    · rw [gI_sI, if_pos ⟨rfl, rfl⟩]
    · rw [gI_sI, if_neg (fun z => absurd z.1 (by decide)), gI_sI, if_neg (fun z => absurd z.1 (by decide)), gI_sI, if_neg (fun z => absurd z.1 (by decide)), e k hk]
      unfold pP
      by_cases g : 44 * A1 A ≤ k ∧ k < 44 * A1 A + 44
      · rw [if_pos g, if_pos g]
      · rw [if_neg g, if_neg g, hP k hk g]
  · rintro m i s hi ⟨f, e⟩ ih
    have ea : gI s 81 24 = nI (A1 A) := (fr_F f (by decide) (by decide)).trans hA
    unfold w_M_act_L52
    refine ⟨fun z => absurd z (nI_ge (b := 44) hi (by omega)), fun _ => ?_⟩
    rw [fr_R f, fr_K f, fr_N f, a1, a3, b1, b3, ea, show (44 : Int32) = nI 44 from rfl, pk_mul, nI_add, nI_1, ix_nI (n := i) (by omega), ix_nI (n := 44 * A1 A + i) (by omega), fr_I f (x := 86) (by decide) (by decide), e86]
    refine ⟨M_K hM, a2, vp_in_nI (by omega) (by omega), b2, vp_in_nI (by omega) (by omega), ih _ ⟨fr_trans f (fr_sI _ _ (Or.inl (by simp))), fun k hk => ?_⟩⟩
    rw [gI_sI]
    by_cases g : k = 44 * A1 A + i
    · rw [if_pos ⟨rfl, g⟩, if_pos (by omega), show k - 44 * A1 A = i from by omega]
    · rw [if_neg (fun z => g z.2), e k hk]
      by_cases g2 : 44 * A1 A ≤ k ∧ k < 44 * A1 A + i
      · rw [if_pos g2, if_pos (by omega)]
      · rw [if_neg g2, if_neg (by omega)]
theorem t_M_act {A : Nat} {Q : Hp → Prop} (hM : MS h) (hA : gI h 81 24 = nI A) (hA2 : A ≤ 20) (hq : ∀ h', AI h h' A → Q h') : w_M_act 81 h Q := by
  obtain ⟨b1, b2, b3⟩ := M_past hM
  unfold w_M_act
  refine ⟨M_K hM, fun z => ?_, fun z => ?_⟩
  · rw [hA] at z
    have z : A = 20 := (nI_eq (b := 20) (by omega) (by omega)).mp z
    have eA : A1 A = 19 := if_pos z
    refine loop_0 (fun m i s => w_M_act_L12 Q 81 m (nI (44 + i)) s) (fun i s => Fr [87] [] [] [] h s ∧ (∀ k, k < i → gI s 87 k = gI h 87 (k + 44)) ∧ ∀ k, i ≤ k → gI s 87 k = gI h 87 k) 836 _ ⟨fr_refl _ _ _ _ _, fun k hk => absurd hk (Nat.not_lt_zero _), fun k _ => rfl⟩ ?_ ?_
    · rintro m s ⟨f, e1, e2⟩
      have ea : gI s 81 24 = nI A := (fr_F f (by decide) (by decide)).trans hA
      unfold w_M_act_L12
      refine ⟨fun _ => ⟨M_K (fr_MS f hM), ?_⟩, fun z => absurd (Int32.le_refl _) z⟩
      refine t_M_act_L52 (h0 := h) (A := A) (MS_sI.mpr (fr_MS f hM)) ?_ hA2 (fr_trans (fr_mono f (by simp) (by simp) (by simp) (by simp)) (fr_sI _ _ (Or.inr ⟨rfl, by simp⟩))) (fun k hk g => ?_) hq
      · rw [gI_sI, if_pos ⟨rfl, rfl⟩, ea, eA, z]
        exact nI_s1 19
      · rw [gI_sI, if_neg (fun y => absurd y.1 (by decide)), if_pos z, e1 k (by omega)]
    · rintro m i s hi ⟨f, e1, e2⟩ ih
      unfold w_M_act_L12
      refine ⟨fun z => absurd z (nI_ge (b := 880) (by omega) (by omega)), fun _ => ?_⟩
      have e44 : nI (44 + i) - 44 = nI i := by
        rw [show (44 : Int32) = nI 44 from rfl, ← nI_add, Int32.add_comm, Int32.add_sub_cancel]
      rw [fr_R f, fr_K f, fr_N f, b1, b3, e44, nI_1, ix_nI (n := i) (by omega), ix_nI (n := 44 + i) (by omega)]
      refine ⟨M_K hM, b2, vp_in_nI (by omega) (by omega), vp_in_nI (by omega) (by omega), ih _ ⟨fr_trans f (fr_sI _ _ (Or.inl (by simp))), fun k hk => ?_, fun k hk => ?_⟩⟩
      · rw [gI_sI]
        by_cases g : k = i
        · rw [if_pos ⟨rfl, g⟩, e2 _ (by omega), g, Nat.add_comm]
        · rw [if_neg (fun y => g y.2), e1 k (by omega)]
      · rw [gI_sI, if_neg (fun y => absurd y.2 (by omega)), e2 k (by omega)]
  · have z : A ≠ 20 := fun g => z (by rw [hA, g]; rfl)
    have eA : A1 A = A := if_neg z
    refine t_M_act_L52 (h0 := h) hM (by rw [eA]; exact hA) hA2 (fr_refl _ _ _ _ _) (fun k hk g => by rw [if_neg z]) hq
theorem t_M_becomes {A k : Nat} {v : Int32} {Q : Int32 → Hp → Prop} (hM : MS h) (hk : k < 44) (hA : gI h 81 24 = nI A) (hA2 : A ≤ 20)
    (hq0 : gI h 86 k = v → Q (-1000001) h) (hq : ¬ gI h 86 k = v → ∀ h', AI h h' A → Q (gI h 86 k) (sI h' 86 k v)) : w_M_becomes 81 (nI k) v h Q := by
  obtain ⟨a1, a2, a3⟩ := M_now hM
  unfold w_M_becomes
  rw [a1, a3, ix_nI (by omega)]
  refine ⟨M_K hM, a2, vp_in_nI (by omega) (by omega), hq0, fun z => t_M_act hM hA hA2 (fun h' a => ?_)⟩
  obtain ⟨c1, c2, c3⟩ := M_now (fr_MS a.1 hM)
  rw [c1, c3]
  exact ⟨M_K (fr_MS a.1 hM), c2, vp_in_nI (by omega) (by omega), hq z h' a⟩
/-- a change of one slot: none where nothing would change -/
def BC (h : Hp) (A k : Nat) (v n : Int32) (Q : Int32 → Hp → Prop) : Prop := (gI h 86 k = v → Q n h) ∧ (¬ gI h 86 k = v → ∀ h', AI h h' A → Q (gI h 86 k) (sI h' 86 k v))
theorem t_M_change {r n A : Nat} {c k v : Int32} {Q : Int32 → Hp → Prop} (hM : Mrc h r n) (hA : gI h 81 24 = nI A) (hA2 : A ≤ 20)
    (hq0 : (inb c n && (inb k r && (decide (-5 ≤ v) && decide (v ≤ 5)))) = false → Q (-1000001) h)
    (hq : ∀ i j, i < n → j < r → c = nI i → k = nI j → (decide (-5 ≤ v) && decide (v ≤ 5)) = true → BC h A (3 * i + j) v (-1000001) Q) : w_M_change 81 c k v h Q := by
  have hn := hM.2.2.2.2.2
  have hr := hM.2.2.2.2.1
  unfold w_M_change
  refine ⟨M_K hM.1, t_M_isColumn hM.1 hM.2.2.1 hn ⟨fun z => hq0 (by rw [z]; rfl), fun z => ⟨M_K hM.1, t_M_isRow hM.1 hM.2.1 (by omega) ⟨fun z2 => hq0 (by rw [z2, Bool.false_and, Bool.and_false]), fun z2 => t_M_isIn ⟨fun z3 => hq0 (by rw [z3, Bool.and_false, Bool.and_false]), fun z3 => ⟨M_K hM.1, ?_⟩⟩⟩⟩⟩⟩
  obtain ⟨i, hi, rfl⟩ := inb_ex (by omega) (ntf z)
  obtain ⟨j, hj, rfl⟩ := inb_ex (by omega) (ntf z2)
  rw [l_3cr]
  have := hq i j hi hj rfl rfl (ntf z3)
  exact t_M_becomes hM.1 (by omega) hA hA2 this.1 this.2
theorem t_M_worth {r n A : Nat} {c v : Int32} {Q : Int32 → Hp → Prop} (hM : Mrc h r n) (hA : gI h 81 24 = nI A) (hA2 : A ≤ 20)
    (hq0 : (inb c n && (decide (-99 ≤ v) && decide (v ≤ 99))) = false → Q (-1000001) h)
    (hq : ∀ i, i < n → c = nI i → (decide (-99 ≤ v) && decide (v ≤ 99)) = true → BC h A (24 + i) v (-1000001) Q) : w_M_worth 81 c v h Q := by
  have hn := hM.2.2.2.2.2
  unfold w_M_worth
  refine ⟨M_K hM.1, t_M_isColumn hM.1 hM.2.2.1 hn ⟨fun z => hq0 (by rw [z]; rfl), fun z => t_M_isIn ⟨fun z3 => hq0 (by rw [z3, Bool.and_false]), fun z3 => ⟨M_K hM.1, ?_⟩⟩⟩⟩
  obtain ⟨i, hi, rfl⟩ := inb_ex (by omega) (ntf z)
  rw [show (24 : Int32) + nI i = nI (24 + i) from nI_add 24 i]
  have := hq i hi rfl (ntf z3)
  exact t_M_becomes hM.1 (by omega) hA hA2 this.1 this.2
theorem t_M_want {r n A : Nat} {c v : Int32} {Q : Int32 → Hp → Prop} (hM : Mrc h r n) (hA : gI h 81 24 = nI A) (hA2 : A ≤ 20)
    (hq0 : (inb c r && (decide (-20 ≤ v) && decide (v ≤ 20))) = false → Q (-1000001) h)
    (hq : ∀ i, i < r → c = nI i → (decide (-20 ≤ v) && decide (v ≤ 20)) = true → BC h A (32 + i) v (-1000001) Q) : w_M_want 81 c v h Q := by
  have hr := hM.2.2.2.2.1
  unfold w_M_want
  refine ⟨M_K hM.1, t_M_isRow hM.1 hM.2.1 (by omega) ⟨fun z => hq0 (by rw [z]; rfl), fun z => t_M_isIn ⟨fun z3 => hq0 (by rw [z3, Bool.and_false]), fun z3 => ⟨M_K hM.1, ?_⟩⟩⟩⟩
  obtain ⟨i, hi, rfl⟩ := inb_ex (by omega) (ntf z)
  rw [show (32 : Int32) + nI i = nI (32 + i) from nI_add 32 i]
  have := hq i hi rfl (ntf z3)
  exact t_M_becomes hM.1 (by omega) hA hA2 this.1 this.2
theorem t_M_allow {A : Nat} {v : Int32} {Q : Int32 → Hp → Prop} (hM : MS h) (hA : gI h 81 24 = nI A) (hA2 : A ≤ 20)
    (hq0 : (decide (1 ≤ v) && decide (v ≤ 12)) = false → Q (-1000001) h)
    (hq : (decide (1 ≤ v) && decide (v ≤ 12)) = true → BC h A 35 v (-1000001) Q) : w_M_allow 81 v h Q := by
  unfold w_M_allow
  refine t_M_isIn ⟨hq0, fun z => ⟨M_K hM, ?_⟩⟩
  have := hq (ntf z)
  exact t_M_becomes (k := 35) hM (by omega) hA hA2 this.1 this.2
theorem t_M_hold {r n A : Nat} {c v : Int32} {Q : Int32 → Hp → Prop} (hM : Mrc h r n) (hA : gI h 81 24 = nI A) (hA2 : A ≤ 20)
    (hw : ∀ i, i < n → ¬ gI h 86 (36 + i) = -1000001)
    (hq0 : (inb c n && (decide (0 ≤ v) && decide (v ≤ 99))) = false → Q (-1) h)
    (hq : ∀ i, i < n → c = nI i → (decide (0 ≤ v) && decide (v ≤ 99)) = true → BC h A (36 + i) v (-1) Q) : w_M_hold 81 c v h Q := by
  have hn := hM.2.2.2.2.2
  unfold w_M_hold
  refine ⟨M_K hM.1, t_M_isColumn hM.1 hM.2.2.1 hn ⟨fun z => hq0 (by rw [z]; rfl), fun z => t_M_isIn ⟨fun z3 => hq0 (by rw [z3, Bool.and_false]), fun z3 => ⟨M_K hM.1, ?_⟩⟩⟩⟩
  obtain ⟨i, hi, rfl⟩ := inb_ex (by omega) (ntf z)
  rw [show (36 : Int32) + nI i = nI (36 + i) from nI_add 36 i]
  have := hq i hi rfl (ntf z3)
  refine t_M_becomes hM.1 (by omega) hA hA2 (fun y => ⟨fun _ => this.1 y, fun y2 => absurd rfl y2⟩) (fun y h' a => ⟨fun y2 => absurd y2 (hw i hi), fun _ => this.2 y h' a⟩)
theorem t_M_number {r n : Nat} {c k : Int32} {Q : Int32 → Hp → Prop} (hM : Mrc h r n) (hq : Q (if inb c n && inb k r then gI h 86 (3 * ix c + ix k) else -1000001) h) : w_M_number 81 c k h Q := by
  have hn := hM.2.2.2.2.2
  have hr := hM.2.2.2.2.1
  unfold w_M_number
  refine ⟨M_K hM.1, t_M_isColumn hM.1 hM.2.2.1 hn ⟨fun z => ?_, fun z => ⟨M_K hM.1, t_M_isRow hM.1 hM.2.1 (by omega) ⟨fun z2 => ?_, fun z2 => ⟨M_K hM.1, ?_⟩⟩⟩⟩⟩
  · rw [z] at hq; exact hq
  · rw [z2, Bool.and_false] at hq; exact hq
  · rw [ntf z, ntf z2] at hq
    obtain ⟨i, hi, rfl⟩ := inb_ex (by omega) (ntf z)
    obtain ⟨j, hj, rfl⟩ := inb_ex (by omega) (ntf z2)
    rw [ix_nI (by omega), ix_nI (by omega)] at hq
    exact t_M_numberOf hM.1 (by omega) hq
theorem t_M_gain {r n : Nat} {c : Int32} {Q : Int32 → Hp → Prop} (hM : Mrc h r n) (hq : Q (if inb c n then gI h 86 (24 + ix c) else -1000001) h) : w_M_gain 81 c h Q := by
  have hn := hM.2.2.2.2.2
  unfold w_M_gain
  refine ⟨M_K hM.1, t_M_isColumn hM.1 hM.2.2.1 hn ⟨fun z => ?_, fun z => ⟨M_K hM.1, ?_⟩⟩⟩
  · rw [z] at hq; exact hq
  · rw [ntf z] at hq
    obtain ⟨i, hi, rfl⟩ := inb_ex (by omega) (ntf z)
    rw [ix_nI (by omega)] at hq
    exact t_M_gainOf hM.1 (by omega) hq
theorem t_M_need {r n : Nat} {c : Int32} {Q : Int32 → Hp → Prop} (hM : Mrc h r n) (hq : Q (if inb c r then gI h 86 (32 + ix c) else -1000001) h) : w_M_need 81 c h Q := by
  have hr := hM.2.2.2.2.1
  unfold w_M_need
  refine ⟨M_K hM.1, t_M_isRow hM.1 hM.2.1 (by omega) ⟨fun z => ?_, fun z => ⟨M_K hM.1, ?_⟩⟩⟩
  · rw [z] at hq; exact hq
  · rw [ntf z] at hq
    obtain ⟨i, hi, rfl⟩ := inb_ex (by omega) (ntf z)
    rw [ix_nI (by omega)] at hq
    exact t_M_needOf hM.1 (by omega) hq
theorem t_M_held {r n : Nat} {c : Int32} {Q : Int32 → Hp → Prop} (hM : Mrc h r n) (hq : Q (if inb c n then gI h 86 (36 + ix c) else -1) h) : w_M_held 81 c h Q := by
  have hn := hM.2.2.2.2.2
  obtain ⟨a1, a2, a3⟩ := M_now hM.1
  unfold w_M_held
  refine ⟨M_K hM.1, t_M_isColumn hM.1 hM.2.2.1 hn ⟨fun z => ?_, fun z => ⟨M_K hM.1, ?_⟩⟩⟩
  · rw [z] at hq; exact hq
  · rw [ntf z] at hq
    obtain ⟨i, hi, rfl⟩ := inb_ex (by omega) (ntf z)
    rw [ix_nI (by omega)] at hq
    rw [a1, a3, show (36 : Int32) + nI i = nI (36 + i) from nI_add 36 i, ix_nI (by omega)]
    exact ⟨a2, vp_in_nI (by omega) (by omega), hq⟩
