/-! The reference's fractions, and how far the best plan is from them -/
variable {h : Hp}
def frA (f : Nat → Int32) (n : Nat) (e : Bool) (c : Nat) (part : Int32) : Int32 := match (crF f n (2 ^ n)).2 with
  | none => -1000001
  | some v => if e = true then -1000001 else if part = 0 then (lI (rdU (v.2.1 c) v.2.2)).toInt32 else (lI (rdL (v.2.1 c) v.2.2)).toInt32
theorem t_M_fraction {f : Nat → Int32} {r n : Nat} {col part : Int32} {Q : Int32 → Hp → Prop} (hM : Mrc h r n) (hf : gI h 86 = f) (hF : FB f n) (hN : NB f) (hG : GB f n) (hZ : ZB f r) (hq0 : (inb col n && (decide (0 ≤ part) && decide (part ≤ 1))) = false → Q (-1000001) h) (hq : ∀ e h' c, c < n → col = nI c → RF h h' → (e = true ↔ (crF f n (2 ^ n)).1 ≠ 0 ∧ rndP f n) → Q (frA f n e c part) h') : w_M_fraction 81 col part h Q := by
  have cl := crF_le f n (2 ^ n)
  have hn := hM.2.2.2.2.2
  unfold w_M_fraction
  refine ⟨M_K hM.1, t_M_isColumn hM.1 hM.2.2.1 hn ⟨fun z => hq0 (by rw [z]; rfl), fun z => t_M_isIn ⟨fun z2 => hq0 (by rw [z2, Bool.and_false]), fun z2 => ⟨M_K hM.1, t_M_laysRelaxed hM hf hF hN hG hZ (fun e h1 f1 k1 c1 k57 he => ?_)⟩⟩⟩⟩
  obtain ⟨c, hc, rfl⟩ := inb_ex (x := col) (n := n) (by omega) (ntf z)
  have hM1 := fr_Mrc f1 (by decide) (by decide) (by decide) hM
  have fin := hq e h1 c hc rfl f1 he
  unfold frA at fin
  obtain ⟨p1, p2, p3⟩ := M_cornerUpper hM1.1
  obtain ⟨q1, q2, q3⟩ := M_cornerLower hM1.1
  cases ev : (crF f n (2 ^ n)).2 with
  | none =>
    rw [ev] at fin
    have e0 := cl.2.mpr ev
    refine ⟨fun _ => fin, fun y => absurd (decide_eq_false (fun g => g e0)) y⟩
  | some v =>
    rw [ev] at fin
    dsimp only at fin
    have e0 : (crF f n (2 ^ n)).1 ≠ 0 := fun g => by rw [cl.2.mp g] at ev; cases ev
    obtain ⟨b1, b2, b3, b4, b5, b6, b7, b8⟩ := c1 v ev
    rw [k57, p1, p3, q1, q3, ix_nI (by omega), (b4 c hc).1, (b4 c hc).2]
    refine ⟨fun y => absurd y (by rw [decide_eq_true e0]; decide), fun _ => ⟨M_K hM1.1, fun x => ?_, fun x => ?_⟩⟩
    · have e1 : ¬ e = true := fun g => by rw [g] at x; exact absurd x (by decide)
      rw [if_neg e1] at fin
      refine ⟨fun q => ⟨p2, vp_in_nI (by omega) (by omega), ?_⟩, fun q => ⟨q2, vp_in_nI (by omega) (by omega), ?_⟩⟩
      · rw [if_pos q] at fin; exact fin
      · rw [if_neg q] at fin; exact fin
    · have e1 : e = true := by
        cases e
        · exact absurd rfl x
        · rfl
      rw [if_pos e1] at fin
      exact fin
/-- how far a plan is from fractions, times their divisor -/
def Dp (p : List Nat) (Y : Nat → Int) (Z : Int) (k : Nat) : Int := sZ (fun c => (((p.getD c 0 : Int) * Z - Y c).natAbs : Int)) k
def apA (f : Nat → Int32) (r n s : Nat) (e : Bool) (part : Int32) : Int32 := match opR f r n (s + 1) with
  | none => -1000001
  | some x => match (crF f n (2 ^ n)).2 with
    | none => -1000001
    | some v => if e = true then -1000001 else if part = 0 then (lI (rdU (Dp x.1 v.2.1 v.2.2 n) v.2.2)).toInt32 else (lI (rdL (Dp x.1 v.2.1 v.2.2 n) v.2.2)).toInt32
theorem Dp_bd {p : List Nat} {Y : Nat → Int} {Z : Int} (hp : ∀ j, p.getD j 0 ≤ 12) (hZ : 0 < Z ∧ Z ≤ 48000) (hY : ∀ c, 0 ≤ Y c ∧ Y c ≤ 48000) : ∀ k, (Dp p Y Z k).natAbs ≤ k * 624000 := by
  intro k
  induction k with
  | zero => exact Nat.zero_le _
  | succ k ih =>
    have h1 := mulA (a := (p.getD k 0 : Int)) (b := Z) (A := 12) (B := 48000) (by have := hp k; omega) (by omega)
    have h2 := hY k
    have e : Dp p Y Z (k + 1) = Dp p Y Z k + (((p.getD k 0 : Int) * Z - Y k).natAbs : Int) := rfl
    rw [e, Nat.add_mul]
    omega
theorem t_M_apart {f : Nat → Int32} {r n s : Nat} {part : Int32} {Q : Int32 → Hp → Prop} (hM : Mrc h r n) (hf : gI h 86 = f) (hF : FB f n) (hN : NB f) (hG : GB f n) (hZ : ZB f r) (hs : gI h 86 35 = nI s) (hs2 : s ≤ 12) (hq0 : (decide (0 ≤ part) && decide (part ≤ 1)) = false → Q (-1000001) h) (hq : ∀ e h', Fr [88, 89, 105, 106] [28, 29, 56, 57, 58] [100, 101, 102, 103, 104] [52, 53, 54, 55] h h' → (e = true ↔ (crF f n (2 ^ n)).1 ≠ 0 ∧ rndP f n) → Q (apA f r n s e part) h') : w_M_apart 81 part h Q := by
  have cl := crF_le f n (2 ^ n)
  have hn := hM.2.2.2.2.2
  unfold w_M_apart
  refine t_M_isIn ⟨fun z => hq0 z, fun z => ⟨M_K hM.1, t_M_laysOptimum hM hs hs2 (fun h1 a1 => ?_)⟩⟩
  rw [hf] at a1 ⊢
  have hM1 := fr_Mrc a1.1 (by decide) (by decide) (by decide) hM
  have hf1 := (fr_I a1.1 (x := 86) (by decide) (by decide)).trans hf
  have anye : ∃ e : Bool, e = true ↔ (crF f n (2 ^ n)).1 ≠ 0 ∧ rndP f n := by
    rcases Classical.em ((crF f n (2 ^ n)).1 ≠ 0 ∧ rndP f n) with g | g
    · exact ⟨true, fun _ => g, fun _ => rfl⟩
    · exact ⟨false, fun y => absurd y (by decide), fun y => absurd y g⟩
  cases eo : opR f r n (s + 1) with
  | none =>
    obtain ⟨e, he⟩ := anye
    have fin := hq e h1 (fr_mono a1.1 (by simp) (by simp) (by simp) (by simp)) he
    unfold apA at fin
    rw [eo] at fin
    exact ⟨fun _ => fin, fun y => absurd rfl y⟩
  | some x =>
    refine ⟨fun y => absurd y (by simp), fun _ => ⟨M_K hM1.1, t_M_laysRelaxed hM1 hf1 hF hN hG hZ (fun e h2 f2 k2 c2 k57 he => ?_)⟩⟩
    have hM2 := fr_Mrc f2 (by decide) (by decide) (by decide) hM1
    have f12 : Fr [88, 89, 105, 106] [28, 29, 56, 57, 58] [100, 101, 102, 103, 104] [52, 53, 54, 55] h h2 := fr_trans (fr_mono a1.1 (by simp) (by simp) (by simp) (by simp)) (fr_mono f2 (by simp) (by simp) (by simp) (by simp))
    have fin := fun h' f' => hq e h' f' he
    unfold apA at fin
    rw [eo] at fin
    dsimp only at fin
    cases ev : (crF f n (2 ^ n)).2 with
    | none =>
      rw [ev] at fin
      have e0 := cl.2.mpr ev
      refine ⟨fun _ => fin h2 f12, fun y => absurd (decide_eq_false (fun g => g e0)) y⟩
    | some v =>
      rw [ev] at fin
      dsimp only at fin
      have e0 : (crF f n (2 ^ n)).1 ≠ 0 := fun g => by rw [cl.2.mp g] at ev; cases ev
      obtain ⟨b1, b2, b3, b4, b5, b6, b7, b8⟩ := c2 v ev
      have hx := opR_some _ _ eo
      have ob := a1.2
      rw [eo] at ob
      have hp : ∀ j, x.1.getD j 0 ≤ 12 := fun j => by
        have h1 := getD_le_sum x.1 j
        have h2 := (PL_mem hx.1).2
        have h3 := hx.2.1
        omega
      have db := Dp_bd (p := x.1) hp ⟨b5, b6⟩ b7
      obtain ⟨z1, z2⟩ := rd_0 b5
      rw [k57]
      refine ⟨fun y => absurd y (by rw [decide_eq_true e0]; decide), fun _ => ⟨M_K hM2.1, fun y => ?_, fun y => ?_⟩⟩
      · have e1 : ¬ e = true := fun g => by rw [g] at y; exact absurd y (by decide)
        rw [if_neg e1] at fin
        refine loop_0 (fun m c s => w_M_apart_L46 Q 81 part m (nI c) s) (fun c s => Fr [] [] [] [52, 53] h2 s ∧ gL s 81 52 = lI (rdU (Dp x.1 v.2.1 v.2.2 c) v.2.2) ∧ gL s 81 53 = lI (rdL (Dp x.1 v.2.1 v.2.2 c) v.2.2)) n _ ⟨fr_trans (fr_sL _ _ (Or.inr ⟨rfl, by simp⟩)) (fr_sL _ _ (Or.inr ⟨rfl, by simp⟩)), ?_, ?_⟩ ?_ ?_
        · rw [gL_sL, if_neg (by decide), gL_sL, if_pos ⟨rfl, rfl⟩]
          show (0 : Int64) = lI (rdU 0 v.2.2)
          rw [z1]
          rfl
        · rw [gL_sL, if_pos ⟨rfl, rfl⟩]
          show (1 : Int64) = lI (rdL 0 v.2.2)
          rw [z2]
          rfl
        · rintro m s ⟨fs, g1, g2⟩
          have hMs := fr_Mrc fs (by decide) (by decide) (by decide) hM2
          have fin := fin s (fr_trans f12 (fr_mono fs (by simp) (by simp) (by simp) (by simp)))
          unfold w_M_apart_L46
          rw [g1, g2]
          refine ⟨M_K hMs.1, fun _ => ⟨fun q => ?_, fun q => ?_⟩, fun z => absurd (loop_le hMs.2.2.1) z⟩
          · rw [if_pos q] at fin; exact fin
          · rw [if_neg q] at fin; exact fin
        · rintro m c s hc ⟨fs, g1, g2⟩ ih
          have hMs := fr_Mrc fs (by decide) (by decide) (by decide) hM2
          obtain ⟨t1, t2, t3⟩ := M_best hMs.1
          obtain ⟨p1, p2, p3⟩ := M_cornerUpper hMs.1
          obtain ⟨q1, q2, q3⟩ := M_cornerLower hMs.1
          have e89 : gI s 89 c = nI (x.1.getD c 0) := by
            rw [fr_I fs (x := 89) (by decide) (by decide), fr_I f2 (x := 89) (by decide) (by decide)]
            exact ob.2.2.1 c (by omega)
          have hpc := hp c
          have hyc := b7 c
          have r1 := rd_le (a := Dp x.1 v.2.1 v.2.2 c) b5
          have r2 := rd_le (a := v.2.1 c) b5
          have d1 := db c
          have d2 : c * 624000 ≤ 8 * 624000 := Nat.mul_le_mul_right _ (by omega)
          obtain ⟨-, -, -, s1, -⟩ := rd_sp (a := Dp x.1 v.2.1 v.2.2 c) b5
          obtain ⟨gg, gu, gl, s2, -⟩ := rd_sp (a := v.2.1 c) b5
          have m1 := mulA (a := (x.1.getD c 0 : Int)) (b := rdL (v.2.1 c) v.2.2) (A := 12) (B := 48000) (by omega) (by omega)
          have oe : (nI (x.1.getD c 0)).toInt64 * lI (rdL (v.2.1 c) v.2.2) - lI (rdU (v.2.1 c) v.2.2) = lI ((x.1.getD c 0 : Int) * rdL (v.2.1 c) v.2.2 - rdU (v.2.1 c) v.2.2) := by
            rw [i_l, nI_toInt (by omega), lI_mul (by omega) (by omega) (by omega), lI_sub (by omega) (by omega)]
          have main : w_M_apart_B89 Q (w_M_apart_L46 Q 81 part m) 81 part (nI c) 81 (lI ((((x.1.getD c 0 : Int) * rdL (v.2.1 c) v.2.2 - rdU (v.2.1 c) v.2.2).natAbs : Nat) : Int)) s := by
            unfold w_M_apart_B89
            rw [q1, q3, ix_nI (by omega), fr_L fs (x := 104) (by decide) (by decide), (b4 c hc).2, nI_1]
            refine ⟨M_K hMs.1, q2, vp_in_nI (by omega) (by omega), M_K hMs.1, t_M_pluses hMs.1 g1 g2 s1 s2 (by omega) (by omega) (by omega) (by omega) (fun s3 f3 k1 k2 => ih s3 ⟨fr_trans fs f3, ?_, ?_⟩)⟩
            all_goals
              have c1 := rd_cross (a := Dp x.1 v.2.1 v.2.2 c) b5
              have e : Dp x.1 v.2.1 v.2.2 (c + 1) = Dp x.1 v.2.1 v.2.2 c + (((x.1.getD c 0 : Int) * v.2.2 - v.2.1 c).natAbs : Int) := rfl
              have nn : ((((x.1.getD c 0 : Int) * rdL (v.2.1 c) v.2.2 - rdU (v.2.1 c) v.2.2).natAbs : Nat) : Int) * v.2.2 = (((x.1.getD c 0 : Int) * v.2.2 - v.2.1 c).natAbs : Int) * rdL (v.2.1 c) v.2.2 := by
                have c2 := rd_cross (a := v.2.1 c) b5
                have k : ((x.1.getD c 0 : Int) * rdL (v.2.1 c) v.2.2 - rdU (v.2.1 c) v.2.2) * v.2.2 = ((x.1.getD c 0 : Int) * v.2.2 - v.2.1 c) * rdL (v.2.1 c) v.2.2 := by
                  generalize rdU (v.2.1 c) v.2.2 = A at c2 ⊢
                  generalize rdL (v.2.1 c) v.2.2 = B at c2 ⊢
                  have : ((x.1.getD c 0 : Int) * B - A) * v.2.2 = (x.1.getD c 0 : Int) * B * v.2.2 - A * v.2.2 := by grind
                  rw [this, c2]
                  grind
                have := congrArg Int.natAbs k
                rw [Int.natAbs_mul, Int.natAbs_mul] at this
                have v1 : ((v.2.2.natAbs : Nat) : Int) = v.2.2 := by omega
                have v2 : (((rdL (v.2.1 c) v.2.2).natAbs : Nat) : Int) = rdL (v.2.1 c) v.2.2 := by omega
                generalize ((x.1.getD c 0 : Int) * rdL (v.2.1 c) v.2.2 - rdU (v.2.1 c) v.2.2).natAbs = A at this ⊢
                generalize ((x.1.getD c 0 : Int) * v.2.2 - v.2.1 c).natAbs = B at this ⊢
                have this := congrArg (fun x : Nat => (x : Int)) this
                simp only [Int.natCast_mul] at this
                rw [v1, v2] at this
                exact this
              have cross : (rdU (Dp x.1 v.2.1 v.2.2 c) v.2.2 * rdL (v.2.1 c) v.2.2 + ((((x.1.getD c 0 : Int) * rdL (v.2.1 c) v.2.2 - rdU (v.2.1 c) v.2.2).natAbs : Nat) : Int) * rdL (Dp x.1 v.2.1 v.2.2 c) v.2.2) * v.2.2 = Dp x.1 v.2.1 v.2.2 (c + 1) * (rdL (Dp x.1 v.2.1 v.2.2 c) v.2.2 * rdL (v.2.1 c) v.2.2) := by
                rw [e]
                generalize ((((x.1.getD c 0 : Int) * rdL (v.2.1 c) v.2.2 - rdU (v.2.1 c) v.2.2).natAbs : Nat) : Int) = O at nn ⊢
                generalize (((x.1.getD c 0 : Int) * v.2.2 - v.2.1 c).natAbs : Int) = P at nn ⊢
                generalize rdU (Dp x.1 v.2.1 v.2.2 c) v.2.2 = A at c1 ⊢
                generalize rdL (Dp x.1 v.2.1 v.2.2 c) v.2.2 = B at c1 ⊢
                generalize rdL (v.2.1 c) v.2.2 = D at nn ⊢
                generalize Dp x.1 v.2.1 v.2.2 c = E at c1 ⊢
                have : (A * D + O * B) * v.2.2 = (A * v.2.2) * D + (O * v.2.2) * B := by grind
                rw [this, c1, nn]
                grind
              obtain ⟨w1, w2⟩ := rd_eq (Int.mul_pos s1 s2) b5 cross
            · rw [k1, w1]
            · rw [k2, w2]
          unfold w_M_apart_L46
          rw [t1, t3, p1, p3, q1, q3, ix_nI (by omega), e89, fr_L fs (x := 103) (by decide) (by decide), fr_L fs (x := 104) (by decide) (by decide), (b4 c hc).1, (b4 c hc).2, oe, lI_0le (by omega)]
          refine ⟨M_K hMs.1, fun z => absurd (hMs.2.2.1 ▸ z) (nI_ge hc (by omega)), fun _ => ⟨t2, vp_in_nI (by omega) (by omega), q2, vp_in_nI (by omega) (by omega), p2, vp_in_nI (by omega) (by omega), fun z => ?_, fun z => ?_⟩⟩
          · have : lI ((x.1.getD c 0 : Int) * rdL (v.2.1 c) v.2.2 - rdU (v.2.1 c) v.2.2) = lI ((((x.1.getD c 0 : Int) * rdL (v.2.1 c) v.2.2 - rdU (v.2.1 c) v.2.2).natAbs : Nat) : Int) := by congr 1; omega
            rw [this]
            exact main
          · have : -(lI ((x.1.getD c 0 : Int) * rdL (v.2.1 c) v.2.2 - rdU (v.2.1 c) v.2.2)) = lI ((((x.1.getD c 0 : Int) * rdL (v.2.1 c) v.2.2 - rdU (v.2.1 c) v.2.2).natAbs : Nat) : Int) := by rw [lI_neg (by omega)]; congr 1; omega
            rw [this]
            exact main
      · have e1 : e = true := by
          cases e
          · exact absurd rfl y
          · rfl
        rw [if_pos e1] at fin
        exact fin h2 f12
