/-! The class's Columns, second part -/
variable {h : Hp}
/-- the greatest of some, at least 0 -/
def mx (F : Nat → Int32) : Nat → Int32
  | 0 => 0
  | n + 1 => gt (mx F n) (F n)
theorem gt_0 {a : Int32} (h : 0 ≤ a) : gt a 0 = a := by
  unfold gt
  split
  · rename_i z
    exact Int32.le_antisymm h z
  · rfl
theorem le_gt {a b c : Int32} (h : c ≤ a) : c ≤ gt a b := by
  unfold gt
  split
  · rename_i z
    exact Int32.le_trans h z
  · exact h
theorem mx_nn (F : Nat → Int32) (n : Nat) : 0 ≤ mx F n := by
  induction n with
  | zero => exact Int32.le_refl _
  | succ n ih => exact le_gt ih
theorem mx_congr {F G : Nat → Int32} {n : Nat} (h : ∀ i, i < n → F i = G i) : mx F n = mx G n := by
  induction n with
  | zero => rfl
  | succ n ih => rw [mx, mx, ih (fun i hi => h i (by omega)), h n (by omega)]
theorem mx_ext {F : Nat → Int32} {r n : Nat} (hr : r ≤ n) (h : ∀ i, r ≤ i → i < n → F i = 0) : mx F n = mx F r := by
  induction n with
  | zero => rw [show r = 0 by omega]
  | succ n ih =>
    by_cases e : r = n + 1
    · rw [e]
    · rw [mx, h n (by omega) (by omega), gt_0 (mx_nn F n)]
      exact ih (by omega) (fun i h1 h2 => h i h1 (by omega))
theorem sm_ext {F : Nat → Int32} {r n : Nat} (hr : r ≤ n) (h : ∀ i, r ≤ i → i < n → F i = 0) : sm F n = sm F r := by
  induction n with
  | zero => rw [show r = 0 by omega]
  | succ n ih =>
    by_cases e : r = n + 1
    · rw [e]
    · rw [sm, h n (by omega) (by omega), Int32.add_zero]
      exact ih (by omega) (fun i h1 h2 => h i h1 (by omega))
theorem t_Co_strayAt {c a : Nat} {t k : Int32} {Q : Int32 → Hp → Prop} (hC : CO h c) (hk : gK h a = 20) (hn : gN h a = 3) (hq : Q (mx (fun j => ab (t * gI h a j - k * gI h (c + 1) (32 + j))) 3) h) : w_Co_strayAt c a t k h Q := by
  unfold w_Co_strayAt
  refine loop_0 (fun m j (s : Int32) => w_Co_strayAt_L6 Q c a t k m s (nI j) h) (fun j s => s = mx (fun j => ab (t * gI h a j - k * gI h (c + 1) (32 + j))) j) 3 0 rfl ?_ ?_
  · rintro m s rfl
    unfold w_Co_strayAt_L6
    exact ⟨fun _ => hq, fun z => absurd (Int32.le_refl _) z⟩
  · rintro m j s hj rfl ih
    unfold w_Co_strayAt_L6
    refine ⟨fun z => absurd z (nI_ge (b := 3) hj (by omega)), fun _ => ⟨hk, by rw [hn]; exact vp_in_nI hj (by omega), hC.1, t_Co_needOf hC hj (t_abs (t_max ?_))⟩⟩
    rw [ix_nI (by omega), nI_1]
    exact ih _ rfl
theorem t_Co_farFromNeed {c a : Nat} {Q : Int32 → Hp → Prop} (hC : CO h c) (hk : gK h a = 20) (hn : gN h a = 3) (hq : Q (sm (fun j => ab (gI h a j - gI h (c + 1) (32 + j))) 3) h) : w_Co_farFromNeed c a h Q := by
  unfold w_Co_farFromNeed
  refine loop_0 (fun m j (s : Int32) => w_Co_farFromNeed_L4 Q c a m s (nI j) h) (fun j s => s = sm (fun j => ab (gI h a j - gI h (c + 1) (32 + j))) j) 3 0 rfl ?_ ?_
  · rintro m s rfl
    unfold w_Co_farFromNeed_L4
    exact ⟨fun _ => hq, fun z => absurd (Int32.le_refl _) z⟩
  · rintro m j s hj rfl ih
    unfold w_Co_farFromNeed_L4
    refine ⟨fun z => absurd z (nI_ge (b := 3) hj (by omega)), fun _ => ⟨hk, by rw [hn]; exact vp_in_nI hj (by omega), hC.1, t_Co_needOf hC hj (t_abs ?_)⟩⟩
    rw [ix_nI (by omega), nI_1]
    exact ih _ rfl
/-- sums of three rows: beyond them what was there -/
def hs3 (g f : Nat → Int32) (n : Nat) : Nat → Int32 := fun k => if k < 3 then sm (fun c => f (36 + c) * f (3 * c + k)) n else g k
theorem t_Co_heldSums {c a r n : Nat} {Q : Hp → Prop} (hC : Crc h c r n) (hk : gK h a = 20) (hn : gN h a = 3) (hne : a ≠ c + 1) (hac : a ≠ c) (hq : Q (sA h a (hs3 (gI h a) (gI h (c + 1)) n))) : w_Co_heldSums c a h Q := by
  obtain ⟨hC, e1, e2, -, -, h8⟩ := hC
  unfold w_Co_heldSums
  refine t_fill hk hn (by omega) ?_
  have := loop_0 (fun m i (s : Hp) => w_Co_heldSums_L7 Q c a m (nI i) s) (fun i s => s = sA h a (hs3 (gI h a) (gI h (c + 1)) i)) n (sA h a (fl (gI h a) 3 0)) ?_ ?_ ?_
  · exact this
  · congr 1
  · rintro m s rfl
    unfold w_Co_heldSums_L7
    refine ⟨hC.1, fun _ => hq, fun z => absurd ?_ z⟩
    rw [gI_sA, if_neg (Ne.symm hac)]
    exact loop_le e2
  · rintro m i s hi rfl ih
    unfold w_Co_heldSums_L7
    rw [gI_sA, if_neg (Ne.symm hac)]
    refine ⟨hC.1, fun z => absurd (e2 ▸ z) (nI_ge hi (by omega)), fun _ => t_Co_heldOf (c := c) hC (by omega) ⟨hC.1, t_Co_addTo (c := c) hC (by omega) hk hn hne ?_⟩⟩
    rw [nI_1, sA_sA]
    refine ih _ ?_
    congr 1
    funext k
    have e9 : gI (sA h a (hs3 (gI h a) (gI h (c + 1)) i)) (c + 1) = gI h (c + 1) := by
      funext j
      rw [gI_sA, if_neg (by omega)]
    have e8 : gI (sA h a (hs3 (gI h a) (gI h (c + 1)) i)) a = hs3 (gI h a) (gI h (c + 1)) i := by
      funext j
      rw [gI_sA, if_pos rfl]
    rw [e8, e9]
    unfold adT hs3
    by_cases e : k < 3
    · simp only [if_pos e]
      rfl
    · simp only [if_neg e]
theorem t_Co_heldGain {c r n : Nat} {Q : Int32 → Hp → Prop} (hC : Crc h c r n) (hq : Q (sm (fun i => gI h (c + 1) (36 + i) * gI h (c + 1) (24 + i)) n) h) : w_Co_heldGain c h Q := by
  obtain ⟨hC, e1, e2, -, -, h8⟩ := hC
  unfold w_Co_heldGain
  refine loop_0 (fun m i (s : Int32) => w_Co_heldGain_L4 Q c m s (nI i) h) (fun i s => s = sm (fun i => gI h (c + 1) (36 + i) * gI h (c + 1) (24 + i)) i) n 0 rfl ?_ ?_
  · rintro m s rfl
    unfold w_Co_heldGain_L4
    exact ⟨hC.1, fun _ => hq, fun z => absurd (loop_le e2) z⟩
  · rintro m i s hi rfl ih
    unfold w_Co_heldGain_L4
    refine ⟨hC.1, fun z => absurd (e2 ▸ z) (nI_ge hi (by omega)), fun _ => t_Co_heldOf hC (by omega) ⟨hC.1, t_Co_gainOf hC (by omega) ?_⟩⟩
    rw [nI_1]
    exact ih _ rfl
theorem t_Co_heldSteps {c r n : Nat} {Q : Int32 → Hp → Prop} (hC : Crc h c r n) (hq : Q (sm (fun i => gI h (c + 1) (36 + i)) n) h) : w_Co_heldSteps c h Q := by
  obtain ⟨hC, e1, e2, -, -, h8⟩ := hC
  unfold w_Co_heldSteps
  refine loop_0 (fun m i (s : Int32) => w_Co_heldSteps_L4 Q c m s (nI i) h) (fun i s => s = sm (fun i => gI h (c + 1) (36 + i)) i) n 0 rfl ?_ ?_
  · rintro m s rfl
    unfold w_Co_heldSteps_L4
    exact ⟨hC.1, fun _ => hq, fun z => absurd (loop_le e2) z⟩
  · rintro m i s hi rfl ih
    unfold w_Co_heldSteps_L4
    refine ⟨hC.1, fun z => absurd (e2 ▸ z) (nI_ge hi (by omega)), fun _ => t_Co_heldOf hC (by omega) ?_⟩
    rw [nI_1]
    exact ih _ rfl
theorem t_Co_greatestNumber {c r n : Nat} {Q : Int32 → Hp → Prop} (hC : Crc h c r n) (hq : Q (mx (fun i => ab (gI h (c + 1) i)) (3 * n)) h) : w_Co_greatestNumber c h Q := by
  obtain ⟨hC, e1, e2, -, -, h8⟩ := hC
  obtain ⟨a1, a2, a3, a4⟩ := hC
  have e3 : gI h c 2 * 3 = nI (3 * n) := by rw [e2, show (3 : Int32) = nI 3 from rfl, pk_mul, Nat.mul_comm]
  unfold w_Co_greatestNumber
  refine loop_0 (fun m i (s : Int32) => w_Co_greatestNumber_L4 Q c m s (nI i) h) (fun i s => s = mx (fun i => ab (gI h (c + 1) i)) i) (3 * n) 0 rfl ?_ ?_
  · rintro m s rfl
    unfold w_Co_greatestNumber_L4
    exact ⟨a1, fun _ => hq, fun z => absurd (loop_le e3) z⟩
  · rintro m i s hi rfl ih
    unfold w_Co_greatestNumber_L4
    rw [e3, a2, a4]
    refine ⟨a1, fun z => absurd z (nI_ge hi (by omega)), fun _ => ⟨a3, vp_in_nI (by omega) (by omega), t_abs (t_max ?_)⟩⟩
    rw [ix_nI (by omega), nI_1]
    exact ih _ rfl
def noth (f : Nat → Int32) (i : Nat) : Bool := decide (f (3 * i) = 0) && decide (f (3 * i + 1) = 0) && decide (f (3 * i + 2) = 0)
theorem t_Co_isNothing {c i : Nat} {Q : Bool → Hp → Prop} (hC : CO h c) (hi : i < 8) (hq : Q (noth (gI h (c + 1)) i) h) : w_Co_isNothing c (nI i) h Q := by
  unfold w_Co_isNothing
  refine ⟨4, ?_⟩
  unfold w_Co_isNothing_L2
  refine ⟨fun z => absurd z (by decide), fun _ => ⟨hC.1, t_Co_numberOf (k := 0) hC (by omega) ⟨fun e0 => ?_, fun e0 => ?_⟩⟩⟩
  · unfold w_Co_isNothing_L2
    refine ⟨fun z => absurd z (by decide), fun _ => ⟨hC.1, t_Co_numberOf (k := 1) hC (by omega) ⟨fun e1 => ?_, fun e1 => ?_⟩⟩⟩
    · unfold w_Co_isNothing_L2
      refine ⟨fun z => absurd z (by decide), fun _ => ⟨hC.1, t_Co_numberOf (k := 2) hC (by omega) ⟨fun e2 => ?_, fun e2 => ?_⟩⟩⟩
      · unfold w_Co_isNothing_L2
        refine ⟨fun _ => ?_, fun z => absurd (by decide) z⟩
        have : noth (gI h (c + 1)) i = true := by simp [noth, show gI h (c + 1) (3 * i) = 0 from e0, e1, e2]
        rw [this] at hq; exact hq
      · have : noth (gI h (c + 1)) i = false := by simp [noth, e2]
        rw [this] at hq; exact hq
    · have : noth (gI h (c + 1)) i = false := by simp [noth, e1]
      rw [this] at hq; exact hq
  · have : noth (gI h (c + 1)) i = false := by simp [noth, show ¬ gI h (c + 1) (3 * i) = 0 from e0]
    rw [this] at hq; exact hq
theorem t_Co_get {c i : Nat} {Q : Int32 → Hp → Prop} (hC : CO h c) (hi : i < 44) (hq : Q (gI h (c + 1) i) h) : w_Co_get c (nI i) h Q := by
  obtain ⟨a1, a2, a3, a4⟩ := hC
  unfold w_Co_get
  rw [a2, a4, ix_nI (by omega)]
  exact ⟨fun z => absurd z (nI_pos (by omega)), fun _ => ⟨fun z => absurd z (nI_ge (b := 44) hi (by omega)), fun _ => ⟨a1, a3, vp_in_nI hi (by omega), hq⟩⟩⟩
theorem t_Co_put {c i : Nat} {v : Int32} {Q : Hp → Prop} (hC : CO h c) (hi : i < 44) (hq : Q (sI (sI h (c + 1) i v) c 3 (gI h c 3 + 1))) : w_Co_put c (nI i) v h Q := by
  obtain ⟨a1, a2, a3, a4⟩ := hC
  unfold w_Co_put
  rw [a2, a4, ix_nI (by omega), gI_sI, if_neg (by omega)]
  exact ⟨fun z => absurd z (nI_pos (by omega)), fun _ => ⟨fun z => absurd z (nI_ge (b := 44) hi (by omega)), fun _ => ⟨a1, a3, vp_in_nI hi (by omega), hq⟩⟩⟩
/-- the row copied: the first 44 from another -/
def cp44 (f g : Nat → Int32) : Nat → Int32 := fun k => if k < 44 then f k else g k
theorem t_Co_copyFrom {c b : Nat} {Q : Hp → Prop} (hC : CO h c) (hB : CO h b) (h1 : b ≠ c) (h2 : b ≠ c + 1) (hq : Q (sI (sI (sI (sA h (c + 1) (cp44 (gI h (b + 1)) (gI h (c + 1)))) c 1 (gI h b 1)) c 2 (gI h b 2)) c 3 (gI h c 3 + 1))) : w_Co_copyFrom c b h Q := by
  obtain ⟨a1, a2, a3, a4⟩ := hC
  obtain ⟨b1, b2, b3, b4⟩ := hB
  have e : va_cpy (gI h (b + 1)) (gI h (c + 1)) (ix (0 : Int32)) (ix (0 : Int32)) (ix (44 : Int32)) = cp44 (gI h (b + 1)) (gI h (c + 1)) := by
    funext k
    rw [show ix (0 : Int32) = 0 from rfl, show ix (44 : Int32) = 44 from rfl]
    unfold va_cpy cp44
    simp
  unfold w_Co_copyFrom
  rw [a2, b2, e]
  refine ⟨b1, a1, b3, a3, by rw [b4]; decide, by rw [a4]; decide, ?_⟩
  have e1 : ∀ j, gI (sA h (c + 1) (cp44 (gI h (b + 1)) (gI h (c + 1)))) b j = gI h b j := fun j => by rw [gI_sA, if_neg h2]
  have e2 : ∀ j, gI (sA h (c + 1) (cp44 (gI h (b + 1)) (gI h (c + 1)))) c j = gI h c j := fun j => by rw [gI_sA, if_neg (by omega)]
  rw [e1, gI_sI, if_neg (by omega), e1, gI_sI, if_neg (by omega), gI_sI, if_neg (by omega), e2]
  exact hq
theorem t_Co_clear {c : Nat} {Q : Hp → Prop} (hC : CO h c) (hq : Q (sI (sI (sI (sA h (c + 1) (fun j => if j = 35 then 8 else fl (gI h (c + 1)) 44 0 j)) c 1 1) c 2 0) c 3 (gI h c 3 + 1))) : w_Co_clear c h Q := by
  have hC0 := hC
  obtain ⟨a1, a2, a3, a4⟩ := hC
  unfold w_Co_clear
  refine ⟨a1, ?_⟩
  rw [a2]
  refine t_fill a3 a4 (by omega) ?_
  refine ⟨a1, ?_⟩
  rw [gR_sA, gN_sA, a2, a4, show ix (35 : Int32) = 35 from rfl, sI_sA, gI_sI, if_neg (by omega), gI_sI, if_neg (by omega), gI_sA, if_neg (by omega)]
  exact ⟨a3, vp_in_nI (n := 35) (by omega) (by omega), hq⟩
