/-! The reference's seen and better -/
variable {h : Hp}
theorem g81_111 (h : Hp) (k : Nat) (v : Int32) (j : Nat) : gI (sI h 111 k v) 81 j = gI h 81 j := rfl
theorem g81_112 (h : Hp) (k : Nat) (v : Int32) (j : Nat) : gI (sI h 112 k v) 81 j = gI h 81 j := rfl
theorem g81_113 (h : Hp) (k : Nat) (v : Int32) (j : Nat) : gI (sI h 113 k v) 81 j = gI h 81 j := rfl
theorem g81_114 (h : Hp) (k : Nat) (v : Int32) (j : Nat) : gI (sI h 114 k v) 81 j = gI h 81 j := rfl
theorem g81_115 (h : Hp) (k : Nat) (v : Int32) (j : Nat) : gI (sI h 115 k v) 81 j = gI h 81 j := rfl
theorem t_M_isFar {v : Int32} {Q : Bool → Hp → Prop} (hq : Q (decide (-80 ≤ v) && decide (v ≤ 80)) h) : w_M_isFar v h Q := by
  unfold w_M_isFar
  exact t_M_isIn hq
def far (v : Int32) : Bool := decide (-80 ≤ v) && decide (v ≤ 80)
/-- a heap as one more sight leaves it -/
def seH (h : Hp) (s : Nat) (t a b c : Int32) (d : Bool) : Hp := sI (sI (sI (sI (sI (sI (sI (sI h 111 s t) 112 (3 * s) a) 112 (3 * s + 1) b) 112 (3 * s + 2) c) 113 s (b2i d)) 114 s (gI h 81 74)) 115 s (-1)) 81 73 (nI (s + 1))
theorem t_M_seen {s : Nat} {t a b c : Int32} {d : Bool} {Q : Int32 → Hp → Prop} (hM : MS h) (hS : gI h 81 73 = nI s) (hs : s ≤ 20)
    (hq0 : ((decide (0 ≤ t) && decide (t ≤ 8)) && (far a && (far b && (far c && decide (s ≠ 20))))) = false → Q (-1) h)
    (hq : ((decide (0 ≤ t) && decide (t ≤ 8)) && (far a && (far b && (far c && decide (s ≠ 20))))) = true → Q (nI s) (seH h s t a b c d)) : w_M_seen 81 t a b c (b2i d) h Q := by
  obtain ⟨a1, a2, a3⟩ := M_seenSteps hM
  obtain ⟨b1, b2, b3⟩ := M_seenSum hM
  obtain ⟨c1, c2, c3⟩ := M_seenIs hM
  obtain ⟨d1, d2, d3⟩ := M_toldAt hM
  obtain ⟨e1, e2, e3⟩ := M_untoldAt hM
  unfold w_M_seen
  refine t_M_isIn ⟨fun z => hq0 (by rw [z]; rfl), fun z => t_M_isFar ⟨fun z2 => hq0 (by rw [show far a = false from z2, Bool.false_and, Bool.and_false]), fun z2 => t_M_isFar ⟨fun z3 => hq0 (by rw [show far b = false from z3, Bool.false_and, Bool.and_false, Bool.and_false]), fun z3 => t_M_isFar ⟨fun z4 => hq0 (by rw [show far c = false from z4, Bool.false_and, Bool.and_false, Bool.and_false, Bool.and_false]), fun z4 => ⟨M_K hM, fun z5 => hq0 ?_, fun z5 => ?_⟩⟩⟩⟩⟩
  · rw [hS] at z5
    have : s = 20 := (nI_eq (b := 20) (by omega) (by omega)).mp z5
    rw [show decide (s ≠ 20) = false from decide_eq_false (fun g => g this), Bool.and_false, Bool.and_false, Bool.and_false, Bool.and_false]
  · have z5 : s ≠ 20 := fun g => z5 (by rw [hS, g]; rfl)
    have fin := hq (by rw [ntf z, show far a = true from ntf z2, show far b = true from ntf z3, show far c = true from ntf z4, decide_eq_true z5]; rfl)
    have i3 : (3 : Int32) * nI s = nI (3 * s) := by rw [show (3 : Int32) = nI 3 from rfl, pk_mul]
    simp only [a1, b1, c1, g81_111, g81_112, hS, i3]
    rw [nI_1, show nI (3 * s) + 2 = nI (3 * s + 2) from nI_add _ 2, ix_nI (n := s) (by omega), ix_nI (n := 3 * s) (by omega), ix_nI (n := 3 * s + 1) (by omega), ix_nI (n := 3 * s + 2) (by omega), a3, b3]
    refine ⟨a2, vp_in_nI (by omega) (by omega), b2, vp_in_nI (by omega) (by omega), vp_in_nI (by omega) (by omega), vp_in_nI (by omega) (by omega), t_M_truth ?_⟩
    simp only [gR_sI, gK_sI, gN_sI, d1, e1, g81_111, g81_112, g81_113, g81_114, g81_115, hS]
    rw [c3, d3, e3, nI_1, gI_sI, if_pos ⟨rfl, rfl⟩, nI_s1, ix_nI (n := s) (by omega)]
    exact ⟨c2, vp_in_nI (by omega) (by omega), M_K hM, d2, vp_in_nI (by omega) (by omega), e2, vp_in_nI (by omega) (by omega), fin⟩
/-- what is held behind an exchange -/
def btF (f : Nat → Int32) (n : Nat) (x : XT) : Nat → Int32 := fun j => if 36 ≤ j ∧ j < 36 + n then f j + (x.2.2.2.2 (j - 36) - x.2.2.2.1 (j - 36)) else f j
theorem t_M_better {r n A : Nat} {v : Int32} {Q : Int32 → Hp → Prop} (hM : Mrc h r n) (hA : gI h 81 24 = nI A) (hA2 : A ≤ 20)
    (hq0 : (decide (1 ≤ v) && decide (v ≤ 3)) = false → Q (-1000001) h)
    (hq1 : ∀ m h1, 1 ≤ m → m ≤ 3 → v = nI m → (exX h r n m).1 ≤ 0 → XI h h1 (exX h r n m) → Q (-1000001) h1)
    (hq : ∀ m h1 h2 h3, 1 ≤ m → m ≤ 3 → v = nI m → ¬ (exX h r n m).1 ≤ 0 → XI h h1 (exX h r n m) → AI h1 h2 A → Fr [86] [] [] [] h2 h3 → (∀ j, gI h3 86 j = btF (gI h 86) n (exX h r n m) j) → Q (sm (fun c => gI h3 86 (36 + c) * gI h3 86 (24 + c)) n) h3) : w_M_better 81 v h Q := by
  have hn := hM.2.2.2.2.2
  unfold w_M_better
  refine t_M_isIn ⟨hq0, fun z => ⟨M_K hM.1, ?_⟩⟩
  obtain ⟨m, m1, m3, rfl⟩ := in13 (ntf z)
  refine t_M_laysExchange hM m3 (fun h1 a => ?_)
  have hM1 := fr_Mrc a.1 (by decide) (by decide) (by decide) hM
  have hA1 : gI h1 81 24 = nI A := (fr_F a.1 (by decide) (by decide)).trans hA
  refine ⟨fun z3 => ?_, fun z3 => ⟨M_K hM1.1, t_M_act hM1.1 hA1 hA2 (fun h2 a2 => ?_)⟩⟩
  · rw [decide_eq_false_iff_not] at z3
    exact hq1 m h1 m1 m3 rfl (Decidable.not_not.mp z3) a
  · have z3 : ¬ (exX h r n m).1 ≤ 0 := by simpa using z3
    have hM2 := fr_Mrc a2.1 (by decide) (by decide) (by decide) hM1
    obtain ⟨c1, c2, c3⟩ := M_now hM2.1
    obtain ⟨b1, b2, b3⟩ := M_out hM2.1
    obtain ⟨d1, d2, d3⟩ := M_in hM2.1
    have e86 : gI h2 86 = gI h 86 := (fr_I a2.1 (by decide) (by decide)).trans (fr_I a.1 (by decide) (by decide))
    refine loop_0 (fun k i s => w_M_better_L27 Q 81 k (nI i) s) (fun i s => Fr [86] [] [] [] h2 s ∧ ∀ j, gI s 86 j = btF (gI h 86) i (exX h r n m) j) n _ ⟨fr_refl _ _ _ _ _, fun j => by unfold btF; rw [if_neg (by omega), e86]⟩ ?_ ?_
    · rintro k s ⟨f, e⟩
      have hMs := fr_Mrc f (by decide) (by decide) (by decide) hM2
      unfold w_M_better_L27
      exact ⟨M_K hMs.1, fun _ => t_M_heldGain hMs (hq m h1 h2 s m1 m3 rfl z3 a a2 f e), fun y => absurd (loop_le hMs.2.2.1) y⟩
    · rintro k i s hi ⟨f, e⟩ ih
      have hMs := fr_Mrc f (by decide) (by decide) (by decide) hM2
      unfold w_M_better_L27
      refine ⟨M_K hMs.1, fun y => absurd (hMs.2.2.1 ▸ y) (nI_ge hi (by omega)), fun _ => ?_⟩
      rw [fr_R f, fr_K f, fr_N f, c1, c3, b1, b3, d1, d3, show (36 : Int32) + nI i = nI (36 + i) from nI_add 36 i, nI_1, ix_nI (n := i) (by omega), ix_nI (n := 36 + i) (by omega), fr_I f (x := 108) (by decide) (by decide), fr_I f (x := 109) (by decide) (by decide), fr_I a2.1 (x := 108) (by decide) (by decide), fr_I a2.1 (x := 109) (by decide) (by decide), a.2.2.2.2.1 i (by omega), a.2.2.2.2.2 i (by omega), e (36 + i)]
      refine ⟨c2, vp_in_nI (by omega) (by omega), d2, vp_in_nI (by omega) (by omega), b2, vp_in_nI (by omega) (by omega), ih _ ⟨fr_trans f (fr_sI _ _ (Or.inl (by simp))), fun j => ?_⟩⟩
      rw [gI_sI]
      unfold btF
      by_cases g : j = 36 + i
      · rw [if_pos ⟨rfl, g⟩, if_neg (by omega), if_pos (by omega), g, show 36 + i - 36 = i from by omega]
      · rw [if_neg (fun y => g y.2), e j]
        unfold btF
        by_cases g2 : 36 ≤ j ∧ j < 36 + i
        · rw [if_pos g2, if_pos (by omega)]
        · rw [if_neg g2, if_neg (by omega)]
