/-! The reference's fits, fit, ask -/
variable {h : Hp}
theorem t_M_fits {r n s : Nat} {k : Int32} {Q : Int32 → Hp → Prop} (hM : Mrc h r n) (hS : KS h s)
    (hq : ∀ h', Fr [88, 116] [] [] [] h h' → Q (nI (cntB (ftB (kn h) r n s k) (n + 1))) h') : w_M_fits 81 k h Q := by
  unfold w_M_fits
  exact ⟨M_K hM.1, t_M_laysFits hM hS (fun h' f _ => hq h' f)⟩
def fdI (F : Nat → Bool) (i : Nat) : Nat → Nat → Nat → Int32
  | 0, _, _ => -2
  | m + 1, c, q => if F c then (if q = i then tu c else fdI F i m (c + 1) (q + 1)) else fdI F i m (c + 1) q
theorem t_M_fit {r n s : Nat} {v k : Int32} {Q : Int32 → Hp → Prop} (hM : Mrc h r n) (hS : KS h s)
    (hq0 : ∀ h', Fr [88, 116] [] [] [] h h' → inb v (cntB (ftB (kn h) r n s k) (n + 1)) = false → Q (-2) h')
    (hq : ∀ h' i, Fr [88, 116] [] [] [] h h' → v = nI i → i < cntB (ftB (kn h) r n s k) (n + 1) → Q (fdI (ftB (kn h) r n s k) i (n + 1) 0 0) h') : w_M_fit 81 v k h Q := by
  have hn := hM.2.2.2.2.2
  have hcb := cntB_le (ftB (kn h) r n s k) (n + 1)
  unfold w_M_fit
  refine ⟨M_K hM.1, t_M_laysFits hM hS (fun h1 f1 e => ?_)⟩
  have hM1 := fr_Mrc f1 (by decide) (by decide) (by decide) hM
  obtain ⟨c1, c2, c3⟩ := M_isFit hM1.1
  cases ev : inb v (cntB (ftB (kn h) r n s k) (n + 1))
  · refine ⟨1, ?_⟩
    unfold w_M_fit_L12
    refine ⟨M_K hM1.1, fun _ => hq0 h1 f1 ev, fun _ => t_M_isIn ?_⟩
    rw [isIn_inb (by omega), ev]
    exact ⟨fun _ => hq0 h1 f1 ev, fun z => absurd rfl z⟩
  · obtain ⟨i, hi, rfl⟩ := inb_ex (by omega) ev
    have fin := hq h1 i f1 rfl hi
    have key : ∀ m c q, c + m = n + 1 → q ≤ c → Q (fdI (ftB (kn h) r n s k) i m c q) h1 → w_M_fit_L12 Q 81 (nI i) (nI (cntB (ftB (kn h) r n s k) (n + 1))) (m + 1) (nI q) (tu c) h1 := by
      intro m
      induction m with
      | zero =>
        intro c q hc hqc fin
        rw [show c = n + 1 from by omega]
        unfold w_M_fit_L12
        exact ⟨M_K hM1.1, fun _ => fin, fun z => absurd (loop_le hM1.2.2.1) z⟩
      | succ m ih =>
        intro c q hc hqc fin
        unfold w_M_fit_L12
        refine ⟨M_K hM1.1, fun z => absurd (hM1.2.2.1 ▸ z) (tu_ge (by omega) hn), fun _ => t_M_isIn ?_⟩
        rw [isIn_inb (by omega), ev, c1, c3, tu_1, ix_nI (by omega), e c (by omega)]
        rw [fdI] at fin
        refine ⟨fun z => (by cases z), fun _ => ⟨M_K hM1.1, c2, vp_in_nI (by omega) (by omega), fun z => ?_, fun z => ⟨fun y => ?_, fun y => ?_⟩⟩⟩
        · have z : ftB (kn h) r n s k c = false := by
            cases g : ftB (kn h) r n s k c
            · rfl
            · rw [g] at z; exact absurd z (by decide)
          rw [z] at fin
          exact ih (c + 1) q (by omega) (by omega) fin
        · have z : ftB (kn h) r n s k c = true := ntf (fun g => z (by rw [g]; rfl))
          have y := (nI_eq (a := q) (b := i) (by omega) (by omega)).mp y
          rw [z, if_pos rfl, if_pos y] at fin
          exact fin
        · have z : ftB (kn h) r n s k c = true := ntf (fun g => z (by rw [g]; rfl))
          have y : q ≠ i := fun g => y (by rw [g])
          rw [z, if_pos rfl, if_neg y] at fin
          rw [nI_1]
          exact ih (c + 1) (q + 1) (by omega) (by omega) fin
    exact ⟨n + 1 + 1, key (n + 1) 0 0 (by omega) (Nat.le_refl _) fin⟩
/-- whether a plan's first sum is a value, for a turned column -/
def hF (g : Nat → Int32) (n t i : Nat) (v : Int32) : Bool := (PL n t).any (fun p => decide (tS g p n 0 (tu i) = v))
theorem v20 {v : Int32} (z : (decide (-20 ≤ v) && decide (v ≤ 20)) = true) : ∃ x, x < 41 ∧ v + 20 = nI x ∧ v = nI x - 20 := by
  rw [Bool.and_eq_true, decide_eq_true_eq, decide_eq_true_eq, Int32.le_iff_toInt_le, Int32.le_iff_toInt_le, show (-20 : Int32).toInt = -20 from rfl, show (20 : Int32).toInt = 20 from rfl] at z
  have e : (v + 20).toInt = v.toInt + 20 := by
    rw [Jvm.Kit.i32_add (by rw [show (20 : Int32).toInt = 20 from rfl]; omega) (by rw [show (20 : Int32).toInt = 20 from rfl]; omega)]
    rfl
  refine ⟨(v + 20).toInt.toNat, by omega, ?_, ?_⟩
  · rw [← Int32.toInt_inj, nI_toInt (by omega)]
    omega
  · have : nI (v + 20).toInt.toNat = v + 20 := by
      rw [← Int32.toInt_inj, nI_toInt (by omega)]
      omega
    rw [this, Int32.add_sub_cancel]
