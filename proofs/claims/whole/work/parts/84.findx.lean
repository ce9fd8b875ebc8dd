/-! The class's corners: all sets -/
variable {h : Hp}
theorem t_Cr_solvedGain {f : Nat → Int32} {r n : Nat} {S : Nat → Bool} {w : (Nat → Int) × Int} {Q : Int64 → Hp → Prop} (c0 : CN f r n h) (so : SO f S n w h) (hm : cnS S n ≤ 4) (wb : ∀ c, 0 ≤ w.1 c ∧ w.1 c ≤ 3840000) (w0 : ∀ c, ¬ (c < n ∧ S c = true) → w.1 c = 0) (hq : Q (lI (Gn f w.1 n)) h) : w_Cr_solvedGain 56 h Q := by
  have m := c0.1
  have hn := c0.2.1.2.2.2.2.2
  have hG := c0.2.2.2.2.2.1
  obtain ⟨⟨s4, s58⟩, -, sc⟩ := so
  have eq : Gn f w.1 n = sZ (fun i => gZ f (mb S n i) * w.1 (mb S n i)) (cnS S n) := by
    rw [Gn_if w0]
    exact sZ_mb S (fun c => gZ f c * w.1 c) n
  have bd : ∀ k, k ≤ cnS S n → (sZ (fun i => gZ f (mb S n i) * w.1 (mb S n i)) k).natAbs ≤ k * 380160000 := by
    intro k
    induction k with
    | zero => intro _; exact Nat.zero_le _
    | succ k ih =>
      intro hk
      have h1 := ih (by omega)
      have h2 := hG (mb S n k) (mb_sp (show k < cnS S n by omega)).1
      have h3 := wb (mb S n k)
      have h4 := mulA (a := gZ f (mb S n k)) (b := w.1 (mb S n k)) (A := 99) (B := 3840000) (by unfold gZ; omega) (by omega)
      rw [sZ, Nat.add_mul]
      omega
  unfold w_Cr_solvedGain
  refine loop_0 (fun a i (x : Int64) => w_Cr_solvedGain_L4 Q 56 a x (nI i) h) (fun i x => x = lI (sZ (fun i => gZ f (mb S n i) * w.1 (mb S n i)) i)) (cnS S n) 0 rfl ?_ ?_
  · rintro a x rfl
    unfold w_Cr_solvedGain_L4
    rw [s4, ← eq]
    exact ⟨X_k56 m, fun _ => hq, fun z => absurd (Int32.le_refl _) z⟩
  · rintro a i x hi rfl ih
    have mi := (mb_sp hi).1
    have b1 := bd i (by omega)
    have b2 : i * 380160000 ≤ 4 * 380160000 := Nat.mul_le_mul_right _ (by omega)
    have h2 := hG (mb S n i) mi
    have h3 := wb (mb S n i)
    have h4 := mulA (a := gZ f (mb S n i)) (b := w.1 (mb S n i)) (A := 99) (B := 3840000) (by unfold gZ; omega) (by omega)
    have h5 : (gZ f (mb S n i)).natAbs ≤ 99 := by unfold gZ; omega
    unfold w_Cr_solvedGain_L4
    rw [s4]
    refine ⟨X_k56 m, fun z => absurd z (nI_ge hi (by omega)), fun _ => ?_⟩
    rw [X_r56_0 m, X_r56_2 m, X_k58 m, X_n58 m, ix_nI (n := i) (by omega), s58 i hi]
    refine ⟨rfl, vp_in_nI (by omega) (by omega), c0.2.1.1.1, t_Co_gainOf c0.2.1.1 (by omega) ?_⟩
    have eg : (gI h (21 + 1) (24 + mb S n i)).toInt64 = lI (gZ f (mb S n i)) := by
      rw [i_l]
      show lI (gI h 22 (24 + mb S n i)).toInt = _
      rw [c0.2.2.1]
      rfl
    rw [X_r56_1 m, X_k57 m, X_n57 m, s4, show (5 : Int32) = nI 5 from rfl, pk_mul, nI_add, nI_1, show i * 5 + cnS S n = 5 * i + cnS S n from by omega, ix_nI (n := 5 * i + cnS S n) (by omega), sc i hi, eg, lI_mul (by omega) (by omega) (by omega), lI_add (by omega) (by omega)]
    exact ⟨X_k56 m, rfl, vp_in_nI (by omega) (by omega), ih _ rfl⟩
/-- the best corner so far, as the class has it -/
def KC (f : Nat → Int32) (n : Nat) (o : Option (Nat × (Nat → Int) × Int)) (h : Hp) : Prop := ∀ v, o = some v → gI h 56 10 = nI v.1 ∧ gL h 56 11 = lI (Gn f v.2.1 n) ∧ gL h 56 12 = lI v.2.2 ∧ (∀ c, c < n → gL h 59 c = lI (v.2.1 c)) ∧ 0 < v.2.2 ∧ v.2.2 ≤ 48000 ∧ (∀ c, 0 ≤ v.2.1 c ∧ v.2.1 c ≤ 48000) ∧ v.1 < 256
theorem t_fillL {a n : Nat} {v : Int64} {Q : Hp → Prop} (hk : gK h a = 21) (hn : gN h a = n) (hb : n < 2 ^ 31) (hq : ∀ h', Fx [] [a] h h' → (∀ j, j < n → gL h' a j = v) → Q h') : w_JA_fill a v h Q := by
  unfold w_JA_fill
  refine ⟨Or.inr hk, ?_⟩
  rw [hn]
  refine loop_0 (fun x i y => w_JA_fill_L6 Q a v (nI n) x (nI i) y) (fun i y => Fx [] [a] h y ∧ ∀ j, j < i → gL y a j = v) n h ⟨fx_refl _ _ _, fun j hj => absurd hj (Nat.not_lt_zero _)⟩ ?_ ?_
  · rintro x y ⟨fy, ey⟩
    unfold w_JA_fill_L6
    exact ⟨fun _ => hq y fy ey, fun z => absurd (Int32.le_refl _) z⟩
  · rintro x i y hi ⟨fy, ey⟩ ih
    unfold w_JA_fill_L6
    refine ⟨fun z => absurd z (nI_ge hi hb), fun _ => ?_⟩
    rw [fx_K fy, fx_N fy, hn, ix_nI (by omega), nI_1]
    refine ⟨hk, vp_in_nI hi hb, ih _ ⟨fx_trans fy (fx_sL _ _ (by simp)), fun j hj => ?_⟩⟩
    rw [gL_sL]
    by_cases g : j = i
    · rw [if_pos ⟨rfl, g⟩]
    · rw [if_neg (fun z => g z.2)]; exact ey j (by omega)
theorem t_Cr_take {f : Nat → Int32} {r n s : Nat} {w : (Nat → Int) × Int} {Q : Hp → Prop} (c0 : CN f r n h) (hs : s < 256) (so : SO f (bS s) n w h) (hm : cnS (bS s) n ≤ 3) (wp : 0 < w.2 ∧ w.2 ≤ 48000 ∧ ∀ c, 0 ≤ w.1 c ∧ w.1 c ≤ 48000) (w0 : ∀ c, ¬ (c < n ∧ bS s c = true) → w.1 c = 0) (hq : ∀ h', Fx [56] [56, 59] h h' → (∀ k, k ≠ 10 → gI h' 56 k = gI h 56 k) → KC f n (some (s, w)) h' → Q h') : w_Cr_takeIfBetter_B33 Q 56 (nI s) (lI (Gn f w.1 n)) h := by
  have m := c0.1
  have hn := c0.2.1.2.2.2.2.2
  obtain ⟨⟨s4, s58⟩, s5, sc⟩ := so
  unfold w_Cr_takeIfBetter_B33
  rw [X_r56_3 m, gL_sL, if_neg (by decide), gL_sI, s5]
  have f1 : Fx [56] [56, 59] h (sL (sL (sI h 56 10 (nI s)) 56 11 (lI (Gn f w.1 n))) 56 12 (lI w.2)) := fx_trans (fx_trans (fx_sI _ _ (by simp)) (fx_sL _ _ (by simp))) (fx_sL _ _ (by simp))
  have k10 : gI (sL (sL (sI h 56 10 (nI s)) 56 11 (lI (Gn f w.1 n))) 56 12 (lI w.2)) 56 10 = nI s := by rw [gI_sL, gI_sL, gI_sI, if_pos ⟨rfl, rfl⟩]
  have kk : ∀ k, k ≠ 10 → gI (sL (sL (sI h 56 10 (nI s)) 56 11 (lI (Gn f w.1 n))) 56 12 (lI w.2)) 56 k = gI h 56 k := fun k hk => by rw [gI_sL, gI_sL, gI_sI, if_neg (fun y => hk y.2)]
  have k11 : gL (sL (sL (sI h 56 10 (nI s)) 56 11 (lI (Gn f w.1 n))) 56 12 (lI w.2)) 56 11 = lI (Gn f w.1 n) := by rw [gL_sL, if_neg (by decide), gL_sL, if_pos ⟨rfl, rfl⟩]
  have k12 : gL (sL (sL (sI h 56 10 (nI s)) 56 11 (lI (Gn f w.1 n))) 56 12 (lI w.2)) 56 12 = lI w.2 := by rw [gL_sL, if_pos ⟨rfl, rfl⟩]
  have k57 : gL (sL (sL (sI h 56 10 (nI s)) 56 11 (lI (Gn f w.1 n))) 56 12 (lI w.2)) 57 = gL h 57 := funext (fun j => by rw [gL_sL, if_neg (fun y => absurd y.1 (by decide)), gL_sL, if_neg (fun y => absurd y.1 (by decide)), gL_sI])
  have k58 : gI (sL (sL (sI h 56 10 (nI s)) 56 11 (lI (Gn f w.1 n))) 56 12 (lI w.2)) 58 = gI h 58 := funext (fun j => by rw [gI_sL, gI_sL, gI_sI, if_neg (fun y => absurd y.1 (by decide))])
  revert f1 k10 kk k11 k12 k57 k58
  generalize sL (sL (sI h 56 10 (nI s)) 56 11 (lI (Gn f w.1 n))) 56 12 (lI w.2) = h1
  intro f1 k10 kk k11 k12 k57 k58
  have m1 := fx_XS f1 m
  refine ⟨X_k56 m, t_fillL (X_k59 m1) (X_n59 m1) (by decide) (fun h2 f2 e2 => ?_)⟩
  have s42 : ∀ y, Fx [] [59] h1 y → gI y 56 4 = nI (cnS (bS s) n) := fun y fy => by rw [fx_I fy (x := 56) (by decide), kk 4 (by decide)]; exact s4
  refine loop_0 (fun a i y => w_Cr_takeIfBetter_L62 Q 56 a (nI i) y) (fun i y => Fx [] [59] h1 y ∧ ∀ c, c < 8 → gL y 59 c = if (c < n ∧ bS s c = true) ∧ cnS (bS s) c < i then lI (w.1 c) else 0) (cnS (bS s) n) h2 ⟨f2, fun c hc => by rw [if_neg (fun y => Nat.not_lt_zero _ y.2)]; exact e2 c hc⟩ ?_ ?_
  · rintro a y ⟨fy, ey⟩
    unfold w_Cr_takeIfBetter_L62
    rw [s42 y fy]
    refine ⟨X_k56 (fx_XS fy m1), fun _ => hq y (fx_trans f1 (fx_mono fy (by simp) (by simp))) (fun k hk => by rw [fx_I fy (x := 56) (by decide)]; exact kk k hk) (fun v hv => ?_), fun z => absurd (Int32.le_refl _) z⟩
    injection hv with hv
    rw [← hv]
    refine ⟨?_, ?_, ?_, fun c hc => ?_, wp.1, wp.2.1, wp.2.2, hs⟩
    · rw [fx_I fy (x := 56) (by decide)]; exact k10
    · rw [fx_L fy (x := 56) (by decide)]; exact k11
    · rw [fx_L fy (x := 56) (by decide)]; exact k12
    · rw [ey c (by omega)]
      by_cases g : bS s c = true
      · rw [if_pos ⟨⟨hc, g⟩, (mb_at hc g).2⟩]
      · rw [if_neg (fun y => g y.1.2)]
        dsimp only
        rw [w0 c (fun y => g y.2)]
        rfl
  · rintro a i y hi ⟨fy, ey⟩ ih
    have my := fx_XS fy m1
    obtain ⟨p1, p2, p3⟩ := mb_sp hi
    unfold w_Cr_takeIfBetter_L62
    rw [s42 y fy]
    refine ⟨X_k56 my, fun z => absurd z (nI_ge hi (by omega)), fun _ => ?_⟩
    rw [X_r56_1 my, X_r56_2 my, X_r56_3 my, X_k57 my, X_k58 my, X_k59 my, X_n57 my, X_n58 my, X_n59 my, ix_nI (n := i) (by omega), fx_I fy (x := 58) (by decide), k58, s58 i hi, show (5 : Int32) = nI 5 from rfl, pk_mul, nI_add, nI_1, show i * 5 + cnS (bS s) n = 5 * i + cnS (bS s) n from by omega, ix_nI (n := 5 * i + cnS (bS s) n) (by omega), ix_nI (n := mb (bS s) n i) (by omega), fx_L fy (x := 57) (by decide), k57, sc i hi]
    refine ⟨rfl, vp_in_nI (by omega) (by omega), rfl, vp_in_nI (by omega) (by omega), rfl, vp_in_nI (by omega) (by omega), ih _ ⟨fx_trans fy (fx_sL _ _ (by simp)), fun c hc => ?_⟩⟩
    rw [gL_sL]
    by_cases g : c = mb (bS s) n i
    · rw [if_pos ⟨rfl, g⟩, g, if_pos ⟨⟨p1, p2⟩, by omega⟩]
    · rw [if_neg (fun y => g y.2), ey c hc]
      by_cases g2 : (c < n ∧ bS s c = true) ∧ cnS (bS s) c < i
      · rw [if_pos g2, if_pos ⟨g2.1, by omega⟩]
      · rw [if_neg g2, if_neg (fun y => ?_)]
        refine g2 ⟨y.1, ?_⟩
        have : cnS (bS s) c ≠ i := fun e => g (by rw [← e, (mb_at y.1.1 y.1.2).1])
        omega
