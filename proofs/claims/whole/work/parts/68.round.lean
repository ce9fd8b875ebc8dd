/-! The reference's gains without end -/
variable {h : Hp}
def aN (f : Nat → Int32) (c : Nat) : Nat → Int := fun o => -((f (3 * c + o)).toInt)
/-- one column that others undo, and a gain by it -/
def rP (f : Nat → Int32) (n c s : Nat) : Prop := s.testBit c = false ∧ ∃ w, brS f (aN f c) n s = some w ∧ 0 < Gn f w.1 n + gZ f c * w.2
def rndP (f : Nat → Int32) (n : Nat) : Prop := ∃ c s, c < n ∧ s < 2 ^ n ∧ rP f n c s
theorem neg_toInt {x : Int32} (h : x.toInt.natAbs ≤ 1000) : (-x).toInt = -x.toInt := Jvm.Kit.i32_neg (by omega)
theorem t_M_goesRound {f : Nat → Int32} {r n : Nat} {Q : Bool → Hp → Prop} (hM : Mrc h r n) (hf : gI h 86 = f) (hF : FB f n) (hG : GB f n) (hZ : ZB f r) (hq : ∀ b h', Fr [105, 106] [] [100, 101, 102] [52, 53] h h' → (b = true ↔ rndP f n) → Q b h') : w_M_goesRound 81 h Q := by
  have hn := hM.2.2.2.2.2
  have hr := hM.2.2.2.2.1
  have hr1 := hM.2.2.2.1
  have p8 := pow8 hn
  unfold w_M_goesRound
  refine loop_0 (fun m c x => w_M_goesRound_L2 Q 81 m (nI c) x) (fun c x => Fr [105, 106] [] [100, 101, 102] [52, 53] h x ∧ ∀ c' s, c' < c → s < 2 ^ n → ¬ rP f n c' s) n h ⟨fr_refl _ _ _ _ _, fun c' s hc' => absurd hc' (Nat.not_lt_zero _)⟩ ?_ ?_
  · rintro m x ⟨fx, hno⟩
    have hMx := fr_Mrc fx (by decide) (by decide) (by decide) hM
    unfold w_M_goesRound_L2
    exact ⟨M_K hMx.1, fun _ => hq false x fx ⟨fun g => absurd g (by decide), fun ⟨c, s, hc, hs, g⟩ => absurd g (hno c s hc hs)⟩, fun z => absurd (loop_le hMx.2.2.1) z⟩
  · rintro m c x hc ⟨fx, hno⟩ ih
    have hMx := fr_Mrc fx (by decide) (by decide) (by decide) hM
    have hbb : ∀ o, o < 3 → (aN f c o).natAbs ≤ 20 := fun o ho => by
      have := hF c o hc ho
      unfold aN
      omega
    have hb0 : ∀ o, r ≤ o → o < 3 → aN f c o = 0 := fun o h1 h2 => by
      unfold aN
      rw [(hZ o h1 h2).2 c (by omega)]
      rfl
    obtain ⟨i1, i2, i3⟩ := M_aim hMx.1
    unfold w_M_goesRound_L2
    refine ⟨M_K hMx.1, fun z => absurd (hMx.2.2.1 ▸ z) (nI_ge hc (by omega)), fun _ => ?_⟩
    refine loop_0 (fun m' o x' => w_M_goesRound_L12 Q (w_M_goesRound_L2 Q 81 m) 81 (nI c) m' (nI o) x') (fun o x' => Fr [106] [] [] [] x x' ∧ ∀ o', o' < o → (gI x' 106 o').toInt = aN f c o') r x ⟨fr_refl _ _ _ _ _, fun o' ho' => absurd ho' (Nat.not_lt_zero _)⟩ ?_ ?_
    · rintro m1 x1 ⟨f1, a1⟩
      have hM1 := fr_Mrc f1 (by decide) (by decide) (by decide) hMx
      unfold w_M_goesRound_L12
      refine ⟨M_K hM1.1, fun _ => ?_, fun z => absurd (loop_le hM1.2.1) z⟩
      have fx1 : Fr [105, 106] [] [100, 101, 102] [52, 53] h x1 := fr_trans fx (fr_mono f1 (by simp) (by simp) (by simp) (by simp))
      refine loop_0 (fun m' s x' => w_M_goesRound_L41 Q (w_M_goesRound_L2 Q 81 m) 81 (nI c) m' (nI s) x') (fun s x' => Fr [105, 106] [] [100, 101, 102] [52, 53] h x' ∧ (∀ o, o < r → (gI x' 106 o).toInt = aN f c o) ∧ ∀ s', s' < s → ¬ rP f n c s') (2 ^ n) x1 ⟨fx1, a1, fun s' hs' => absurd hs' (Nat.not_lt_zero _)⟩ ?_ ?_
      · rintro m2 x2 ⟨f2, a2, n2⟩
        have hM2 := fr_Mrc f2 (by decide) (by decide) (by decide) hM
        unfold w_M_goesRound_L41
        rw [hM2.2.2.1, shl8 hn, nI_1]
        refine ⟨M_K hM2.1, fun _ => ih x2 ⟨f2, fun c' s hc' hs => ?_⟩, fun z => absurd (Int32.le_refl _) z⟩
        by_cases e : c' = c
        · rw [e]; exact n2 s hs
        · exact hno c' s (by omega) hs
      · rintro m2 s x2 hs ⟨f2, a2, n2⟩ ih2
        have hM2 := fr_Mrc f2 (by decide) (by decide) (by decide) hM
        have hf2 := (fr_I f2 (x := 86) (by decide) (by decide)).trans hf
        have c8 := cnS_8 hn hs
        have cl := cnS_le (bS s) n
        unfold w_M_goesRound_L41
        rw [hM2.2.2.1, shl8 hn, nI_1 s, bit_nI s (by omega) c (by omega)]
        have next : ¬ rP f n c s → ∀ x3, Fr [105] [] [100, 101, 102] [52, 53] x2 x3 → w_M_goesRound_L41 Q (w_M_goesRound_L2 Q 81 m) 81 (nI c) m2 (nI (s + 1)) x3 := fun hn3 x3 f3 => ih2 x3 ⟨fr_trans f2 (fr_mono f3 (by simp) (by simp) (by simp) (by simp)), fun o ho => by rw [fr_I f3 (x := 106) (by decide) (by decide)]; exact a2 o ho, fun s' hs' => by
          by_cases e : s' = s
          · rw [e]; exact hn3
          · exact n2 s' (by omega)⟩
        refine ⟨M_K hM2.1, fun z => absurd z (nI_ge hs (by omega)), fun _ => ⟨fun z => next (fun g => ?_) x2 (fr_refl _ _ _ _ _), fun z => t_M_many (by omega) ⟨M_K hM2.1, ?_⟩⟩⟩
        · rw [g.1] at z; exact absurd z (by decide)
        · have tb : s.testBit c = false := by
            cases g : s.testBit c
            · rfl
            · rw [g] at z; exact absurd rfl z
          rw [c8, hM2.2.1]
          refine ⟨fun y => next (fun g => ?_) x2 (fr_refl _ _ _ _ _), fun y => ?_⟩
          · have lt : r < cnS (bS s) n := by
              by_cases g : r < cnS (bS s) n
              · exact g
              · exact absurd y (nI_nlt (by omega) (by omega))
            obtain ⟨-, w, hw, -⟩ := g
            obtain ⟨q1, q2, -⟩ := barS_w hF hbb hw
            rw [dep_many hF hbb hr1 hn hZ lt q1] at q2
            cases q2
          · have le : cnS (bS s) n ≤ r := Nat.le_of_not_lt (fun g => y (nI_lt g (by omega)))
            have eb : brS f (aN f c) n s = barS f (aN f c) (bS s) n 3 := by unfold brS; rw [if_pos (by omega)]
            refine t_M_comesBy hM2 hf2 hF hbb hZ hb0 (by omega) le a2 (fun x' f' e' => ⟨fun _ => next (fun g => ?_) x' (fr_mono f' (by simp) (by simp) (by simp) (by simp)), fun y => absurd rfl y⟩) (fun w x' f' e' ul => ⟨fun y => absurd y (by decide), fun _ => ?_⟩)
            · obtain ⟨-, w, hw, -⟩ := g
              rw [eb, e'] at hw
              cases hw
            · have ew := eb.trans e'
              obtain ⟨-, -, w1, w2, w3⟩ := barS_w hF hbb ew
              have hM' := fr_Mrc f' (by decide) (by decide) (by decide) hM2
              have hf' := (fr_I f' (x := 86) (by decide) (by decide)).trans hf2
              refine ⟨M_K hM'.1, t_M_gains hM' hf' hG w1 w2 w3 ul (fun x4 f4 g1 g2 => ?_)⟩
              have hM4 := fr_Mrc f4 (by decide) (by decide) (by decide) hM'
              have f24 : Fr [105] [] [100, 101, 102] [52, 53] x2 x4 := fr_trans (fr_mono f' (by simp) (by simp) (by simp) (by simp)) (fr_mono f4 (by simp) (by simp) (by simp) (by simp))
              refine ⟨M_K hM4.1, t_M_gainOf hM4.1 (by omega) ⟨M_K hM4.1, ?_⟩⟩
              have nb : (Gn f w.1 n).natAbs ≤ 38016000 := by
                have h1 := Gn_bd (K := 48000) hG (fun c => by have := w3 c; omega : ∀ c, (w.1 c).natAbs ≤ 48000) n (Nat.le_refl _)
                have h2 : n * (99 * 48000) ≤ 8 * (99 * 48000) := Nat.mul_le_mul_right _ hn
                omega
              have r1 := rd_le (a := Gn f w.1 n) w1
              obtain ⟨gp, gu, gl, p1, -⟩ := rd_sp (a := Gn f w.1 n) w1
              have hg := hG c hc
              have m1 := mulA (a := gZ f c) (b := rdL (Gn f w.1 n) w.2) (A := 99) (B := 48000) (by unfold gZ; omega) (by omega)
              rw [fr_I f4 (x := 86) (by decide) (by decide), hf', g1, g2, i_l, show (f (24 + c)).toInt = gZ f c from rfl, lI_mul (by unfold gZ; omega) (by omega) (by omega), lI_add (by omega) (by omega), lI_le0 (by omega)]
              have key : (rdU (Gn f w.1 n) w.2 + gZ f c * rdL (Gn f w.1 n) w.2) * ((Nat.gcd (Gn f w.1 n).natAbs w.2.natAbs : Nat) : Int) = Gn f w.1 n + gZ f c * w.2 := by
                rw [Int.add_mul, gu, Int.mul_assoc, gl]
              have gp' : (0 : Int) < ((Nat.gcd (Gn f w.1 n).natAbs w.2.natAbs : Nat) : Int) := by omega
              refine ⟨fun y => next (fun g => ?_) x4 f24, fun y => ?_⟩
              · obtain ⟨-, w', hw', g3⟩ := g
                rw [ew] at hw'
                injection hw' with hw'
                rw [← hw', ← key] at g3
                have := Int.mul_nonpos_of_nonpos_of_nonneg y (Int.le_of_lt gp')
                omega
              · refine hq true x4 (fr_trans f2 (fr_mono f24 (by simp) (by simp) (by simp) (by simp))) ⟨fun _ => ⟨c, s, hc, hs, tb, w, ew, ?_⟩, fun _ => rfl⟩
                rw [← key]
                exact Int.mul_pos (by omega) gp'
    · rintro m1 o x1 ho ⟨f1, a1⟩ ih1
      have hM1 := fr_Mrc f1 (by decide) (by decide) (by decide) hMx
      have hfb := hF c o hc (by omega)
      unfold w_M_goesRound_L12
      refine ⟨M_K hM1.1, fun z => absurd (hM1.2.1 ▸ z) (nI_ge ho (by omega)), fun _ => t_M_numberOf hM1.1 (by omega) ?_⟩
      rw [fr_R f1, fr_K f1, fr_N f1, i1, i3, ix_nI (by omega), nI_1, fr_I f1 (x := 86) (by decide) (by decide), fr_I fx (x := 86) (by decide) (by decide), hf]
      refine ⟨i2, vp_in_nI (by omega) (by omega), ih1 _ ⟨fr_trans f1 (fr_sI _ _ (Or.inl (by simp))), fun o' ho' => ?_⟩⟩
      rw [gI_sI]
      by_cases g : o' = o
      · rw [if_pos ⟨rfl, g⟩, g, neg_toInt (by omega)]; rfl
      · rw [if_neg (fun y => g y.2)]; exact a1 o' (by omega)
abbrev RF (h h' : Hp) : Prop := Fr [105, 106] [56, 57, 58] [100, 101, 102, 103, 104] [52, 53, 54, 55] h h'
theorem t_M_laysRelaxed {f : Nat → Int32} {r n : Nat} {Q : Bool → Hp → Prop} (hM : Mrc h r n) (hf : gI h 86 = f) (hF : FB f n) (hN : NB f) (hG : GB f n) (hZ : ZB f r) (hq : ∀ e h', RF h h' → gI h' 81 58 = nI (crF f n (2 ^ n)).1 → CB f n h' (crF f n (2 ^ n)).2 → gI h' 81 57 = b2i e → (e = true ↔ (crF f n (2 ^ n)).1 ≠ 0 ∧ rndP f n) → Q (decide ((crF f n (2 ^ n)).1 ≠ 0)) h') : w_M_laysRelaxed 81 h Q := by
  unfold w_M_laysRelaxed
  refine ⟨M_K hM.1, t_M_laysCorners hM hf hF hN hG hZ (fun h1 f1 k1 c1 => ?_)⟩
  have hM1 := fr_Mrc f1 (by decide) (by decide) (by decide) hM
  have hf1 := (fr_I f1 (x := 86) (by decide) (by decide)).trans hf
  rw [i2b_b2i]
  have fin : ∀ (e : Bool) (h2 : Hp), Fr [105, 106] [] [100, 101, 102] [52, 53] h1 h2 → (e = true ↔ (crF f n (2 ^ n)).1 ≠ 0 ∧ rndP f n) → Q (decide ((crF f n (2 ^ n)).1 ≠ 0)) (sI h2 81 57 (b2i e)) := fun e h2 f2 he => by
    refine hq e _ (fr_trans (fr_trans (fr_mono f1 (by simp) (by simp) (by simp) (by simp)) (fr_mono f2 (by simp) (by simp) (by simp) (by simp))) (fr_sI _ _ (Or.inr ⟨rfl, by simp⟩))) ?_ ?_ ?_ he
    · rw [gI_sI, if_neg (by decide), fr_F f2 (by decide) (by decide)]; exact k1
    · exact CB_fr (as := []) (fs := [57]) (js := []) (gs := []) (CB_fr c1 f2 (by decide) (by decide) (by decide) (by decide) (by decide) (by decide) (by decide)) (fr_sI _ _ (Or.inr ⟨rfl, by simp⟩)) (by decide) (by decide) (by decide) (by decide) (by decide) (by decide) (by decide)
    · rw [gI_sI, if_pos ⟨rfl, rfl⟩]
  refine ⟨fun z => ⟨M_K hM1.1, b2i_B _, ?_⟩, fun z => ⟨M_K hM1.1, t_M_goesRound hM1 hf1 hF hG hZ (fun e h2 f2 he => ?_)⟩⟩
  · have e0 : ¬ (crF f n (2 ^ n)).1 ≠ 0 := fun g => by
      rw [decide_eq_true g] at z
      exact absurd z (by decide)
    exact fin false h1 (fr_refl _ _ _ _ _) ⟨fun g => absurd g (by decide), fun g => absurd g.1 e0⟩
  · have e0 : (crF f n (2 ^ n)).1 ≠ 0 := by
      by_cases g : (crF f n (2 ^ n)).1 ≠ 0
      · exact g
      · rw [decide_eq_false g] at z
        exact absurd rfl z
    have hM2 := fr_Mrc f2 (by decide) (by decide) (by decide) hM1
    refine ⟨fun y => ⟨M_K hM2.1, b2i_B _, ?_⟩, fun y => ⟨M_K hM2.1, b2i_B _, ?_⟩⟩
    · exact fin false h2 f2 ⟨fun g => absurd g (by decide), fun g => by rw [y] at he; exact absurd (he.mpr g.2) (by decide)⟩
    · exact fin true h2 f2 ⟨fun _ => ⟨e0, he.mp (ntf y)⟩, fun _ => rfl⟩
theorem t_M_corners {f : Nat → Int32} {r n : Nat} {Q : Int32 → Hp → Prop} (hM : Mrc h r n) (hf : gI h 86 = f) (hF : FB f n) (hN : NB f) (hG : GB f n) (hZ : ZB f r) (hq : ∀ h', RF h h' → Q (nI (crF f n (2 ^ n)).1) h') : w_M_corners 81 h Q := by
  unfold w_M_corners
  refine ⟨M_K hM.1, t_M_laysCorners hM hf hF hN hG hZ (fun h1 f1 k1 c1 => ?_)⟩
  have hM1 := fr_Mrc f1 (by decide) (by decide) (by decide) hM
  rw [k1]
  exact ⟨M_K hM1.1, hq h1 (fr_mono f1 (by simp) (by simp) (by simp) (by simp))⟩
/-- what is told of plans of fractions; v: the best corner, if there is one and gains have an end -/
def rlA (f : Nat → Int32) (n : Nat) (e : Bool) (what : Int32) : Int32 :=
  if (decide (0 ≤ what) && decide (what ≤ 3)) = false then -1000001 else match (crF f n (2 ^ n)).2 with
    | none => -1000001
    | some v => if what = 3 then b2i e else if e = true then -1000001 else if what = 0 then (lI (rdU (Gn f v.2.1 n) v.2.2)).toInt32 else if what = 1 then (lI (rdL (Gn f v.2.1 n) v.2.2)).toInt32 else nI v.1
theorem t_M_relaxed {f : Nat → Int32} {r n : Nat} {what : Int32} {Q : Int32 → Hp → Prop} (hM : Mrc h r n) (hf : gI h 86 = f) (hF : FB f n) (hN : NB f) (hG : GB f n) (hZ : ZB f r) (hq : ∀ e h', RF h h' → (e = true ↔ (crF f n (2 ^ n)).1 ≠ 0 ∧ rndP f n) → Q (rlA f n e what) h') : w_M_relaxed 81 what h Q := by
  have cl := crF_le f n (2 ^ n)
  unfold w_M_relaxed
  refine t_M_isIn ⟨fun z => ?_, fun z => ⟨M_K hM.1, t_M_laysRelaxed hM hf hF hN hG hZ (fun e h1 f1 k1 c1 k57 he => ?_)⟩⟩
  · have := Classical.em ((crF f n (2 ^ n)).1 ≠ 0 ∧ rndP f n)
    rcases this with g | g
    · have := hq true h (fr_refl _ _ _ _ _) ⟨fun _ => g, fun _ => rfl⟩
      unfold rlA at this
      rw [if_pos z] at this
      exact this
    · have := hq false h (fr_refl _ _ _ _ _) ⟨fun y => absurd y (by decide), fun y => absurd y g⟩
      unfold rlA at this
      rw [if_pos z] at this
      exact this
  · have hM1 := fr_Mrc f1 (by decide) (by decide) (by decide) hM
    have fin := hq e h1 f1 he
    unfold rlA at fin
    rw [if_neg z] at fin
    cases ev : (crF f n (2 ^ n)).2 with
    | none =>
      rw [ev] at fin
      have e0 := cl.2.mpr ev
      refine ⟨fun _ => fin, fun y => absurd (decide_eq_false (fun g => g e0)) y⟩
    | some v =>
      rw [ev] at fin
      dsimp only at fin
      have e0 : (crF f n (2 ^ n)).1 ≠ 0 := fun g => by rw [cl.2.mp g] at ev; cases ev
      obtain ⟨b1, b2, b3, b4, b5, b6, b7, b8⟩ := c1 v ev
      rw [k57, b1, b2, b3]
      refine ⟨fun y => absurd y (by rw [decide_eq_true e0]; decide), fun _ => ⟨fun y => ⟨M_K hM1.1, t_M_truth ?_⟩, fun y => ⟨M_K hM1.1, fun x => ?_, fun x => ?_⟩⟩⟩
      · rw [if_pos y] at fin; exact fin
      · have e1 : ¬ e = true := fun g => by rw [g] at x; exact absurd x (by decide)
        rw [if_neg y, if_neg e1] at fin
        refine ⟨fun q => ?_, fun q => ⟨fun q2 => ?_, fun q2 => ?_⟩⟩
        · rw [if_pos q] at fin; exact fin
        · rw [if_neg q, if_pos q2] at fin; exact fin
        · rw [if_neg q, if_neg q2] at fin; exact fin
      · have e1 : e = true := by
          cases e
          · exact absurd rfl x
          · rfl
        rw [if_neg y, if_pos e1] at fin
        exact fin
