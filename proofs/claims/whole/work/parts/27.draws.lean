/-! The reference's drawn walks -/
variable {h : Hp}
theorem ntf {b : Bool} (z : ¬ b = false) : b = true := by
  cases b
  · exact absurd rfl z
  · rfl
abbrev DT : Type := Nat × Int32 × Int32 × (Nat → Int32)
def drS (f : Nat → Int32) (r n : Nat) (T : Int32) (k : Nat) (d : DT) : DT :=
  ((137 * d.1 + 71) % 10007, gt d.2.1 (nSt f r (adR d.2.2.2 f ((137 * d.1 + 71) % 10007 % n) r) (nI k) T), d.2.2.1 + f (24 + (137 * d.1 + 71) % 10007 % n), adR d.2.2.2 f ((137 * d.1 + 71) % 10007 % n) r)
def drw (f : Nat → Int32) (r n : Nat) (T : Int32) (seed : Nat) : Nat → DT
  | 0 => (seed, 0, 0, fun _ => 0)
  | k + 1 => drS f r n T (k + 1) (drw f r n T seed k)
theorem drw_lt (f : Nat → Int32) (r n : Nat) (T : Int32) {seed : Nat} (hs : seed < 10007) : ∀ k, (drw f r n T seed k).1 < 10007 := by
  intro k
  cases k with
  | zero => exact hs
  | succ k => exact Nat.mod_lt _ (by decide)
def DI (h h' : Hp) (d : DT) : Prop := Fr [92] [66, 67] [] [] h h' ∧ SU h' d.2.2.2 ∧ gI h' 81 66 = d.2.1 ∧ gI h' 81 67 = d.2.2.1
theorem t_M_draws {r n seed t : Nat} {Q : Hp → Prop} (hM : Mrc h r n) (h0 : 0 < n) (hs : seed < 10007) (ht : t ≤ 12) (hq : ∀ h', DI h h' (drw (gI h 86) r n (nI t) seed t) → Q h') : w_M_draws 81 (nI seed) (nI t) h Q := by
  have hn := hM.2.2.2.2.2
  unfold w_M_draws
  refine ⟨M_K hM.1, t_M_noSums hM.1 (fun h1 f1 s1 => ⟨M_K (fr_MS f1 hM.1), ?_⟩)⟩
  have key := loop_0 (fun m i (x : Nat × Hp) => w_M_draws_L19 Q 81 (nI t) m (nI x.1) (nI (i + 1)) x.2) (fun i x => x.1 = (drw (gI h 86) r n (nI t) seed i).1 ∧ DI h x.2 (drw (gI h 86) r n (nI t) seed i)) t (seed, sI (sI h1 81 66 0) 81 67 0) ⟨rfl, fr_trans (fr_trans (fr_mono f1 (by simp) (by simp) (by simp) (by simp)) (fr_sI _ _ (Or.inr ⟨rfl, by simp⟩))) (fr_sI _ _ (Or.inr ⟨rfl, by simp⟩)), ?_, ?_, ?_⟩ ?_ ?_
  · exact key
  · exact s1
  · show gI (sI (sI h1 81 66 0) 81 67 0) 81 66 = 0
    rw [gI_sI, if_neg (by decide), gI_sI, if_pos ⟨rfl, rfl⟩]
  · show gI (sI (sI h1 81 66 0) 81 67 0) 81 67 = 0
    rw [gI_sI, if_pos ⟨rfl, rfl⟩]
  · rintro m ⟨x, h2⟩ ⟨e, a⟩
    unfold w_M_draws_L19
    exact ⟨fun _ => hq h2 a, fun z => absurd (nI_lt (Nat.lt_succ_self t) (by omega)) z⟩
  · rintro m i ⟨x, h2⟩ hi ⟨e, f2, s2, e66, e67⟩ ih
    have e : x = (drw (gI h 86) r n (nI t) seed i).1 := e
    have hx : x < 10007 := by rw [e]; exact drw_lt _ _ _ _ hs i
    have hM2 := fr_Mrc f2 (by decide) (by decide) (by decide) hM
    have e86 : gI h2 86 = gI h 86 := fr_I f2 (by decide) (by decide)
    have h71 : jrem (((137 : Int32) * nI x) + (71 : Int32)) (10007 : Int32) = nI ((137 * x + 71) % 10007) := by
      unfold jrem
      rw [show (137 : Int32) = nI 137 from rfl, show (71 : Int32) = nI 71 from rfl, show (10007 : Int32) = nI 10007 from rfl, pk_mul, nI_add, pk_rem (by omega) (by omega) (by omega)]
    have hy : (137 * x + 71) % 10007 < 10007 := Nat.mod_lt _ (by decide)
    have hc : (137 * x + 71) % 10007 % n < n := Nat.mod_lt _ h0
    have hjr : jrem (nI ((137 * x + 71) % 10007)) (nI n) = nI ((137 * x + 71) % 10007 % n) := by
      unfold jrem
      rw [pk_rem (by omega) h0 (by omega)]
    unfold w_M_draws_L19
    refine ⟨fun z => absurd z (nI_nlt (by omega) (by omega)), fun _ => ⟨M_K hM2.1, by rw [hM2.2.2.1]; exact nI_ne0 h0 (by omega), ?_⟩⟩
    rw [h71, hM2.2.2.1, hjr]
    refine t_M_adds hM2 (by omega) s2 (fun h3 f3 s3 => ?_)
    have hM3 := fr_Mrc f3 (by decide) (by decide) (by decide) hM2
    refine ⟨M_K hM3.1, by rw [hM3.2.2.1]; exact nI_ne0 h0 (by omega), ?_⟩
    rw [hM3.2.2.1, hjr]
    refine t_M_gainOf hM3.1 (by omega) ⟨M_K hM3.1, ?_⟩
    have f4 : Fr [92] [66, 67] [] [] h3 (sI h3 81 67 (gI h3 81 67 + gI h3 86 (24 + (137 * x + 71) % 10007 % n))) := fr_sI _ _ (Or.inr ⟨rfl, by simp⟩)
    have hM4 : Mrc (sI h3 81 67 (gI h3 81 67 + gI h3 86 (24 + (137 * x + 71) % 10007 % n))) r n := fr_Mrc f4 (by decide) (by decide) (by decide) hM3
    refine t_M_strayNow (S := adR (drw (gI h 86) r n (nI t) seed i).2.2.2 (gI h2 86) ((137 * x + 71) % 10007 % n) r) hM4 (fun j hj => ?_) (t_M_greater ⟨M_K hM4.1, ?_⟩)
    · rw [gI_sI, if_neg (fun z => absurd z.1 (by decide))]
      exact s3 j hj
    · have f3' : Fr [92] [66, 67] [] [] h2 h3 := fr_mono f3 (by simp) (by simp) (by simp) (by simp)
      rw [nI_1, fr_I f4 (x := 86) (by decide) (by decide)]
      have e66' : gI (sI h3 81 67 (gI h3 81 67 + gI h3 86 (24 + (137 * x + 71) % 10007 % n))) 81 66 = (drw (gI h 86) r n (nI t) seed i).2.1 := by
        rw [gI_sI, if_neg (by decide), fr_F f3 (by decide) (by decide), e66]
      rw [e66', fr_I f3 (x := 86) (by decide) (by decide), e86]
      refine ih ((137 * x + 71) % 10007, sI (sI h3 81 67 (gI h3 81 67 + gI h 86 (24 + (137 * x + 71) % 10007 % n))) 81 66 (gt (drw (gI h 86) r n (nI t) seed i).2.1 (nSt (gI h 86) r (adR (drw (gI h 86) r n (nI t) seed i).2.2.2 (gI h 86) ((137 * x + 71) % 10007 % n) r) (nI (i + 1)) (nI t)))) ⟨by rw [e]; rfl, fr_trans (fr_trans f2 f3') (fr_trans (fr_sI _ _ (Or.inr ⟨rfl, by simp⟩)) (fr_sI _ _ (Or.inr ⟨rfl, by simp⟩))), fun j hj => ?_, ?_, ?_⟩
      · rw [gI_sI, if_neg (fun z => absurd z.1 (by decide)), gI_sI, if_neg (fun z => absurd z.1 (by decide)), s3 j hj, e86, e]
        rfl
      · rw [gI_sI, if_pos ⟨rfl, rfl⟩, e]
        rfl
      · rw [gI_sI, if_neg (by decide), gI_sI, if_pos ⟨rfl, rfl⟩, fr_F f3 (by decide) (by decide), e67, e]
        rfl
theorem in_nI {v M : Int32} {k : Nat} (hM : M.toInt = k) (z : ¬ (decide (0 ≤ v) && decide (v ≤ M)) = false) : ∃ j, j ≤ k ∧ v = nI j := by
  have z : (decide (0 ≤ v) && decide (v ≤ M)) = true := by simpa using z
  rw [Bool.and_eq_true, decide_eq_true_eq, decide_eq_true_eq] at z
  exact nI_of2 hM (fun x => absurd z.1 (by rw [Int32.not_le]; exact x)) z.2
def drW (f : Nat → Int32) (r : Nat) (d : DT) (w : Int32) : Int32 := if w = 0 then d.2.1 else if w = 1 then d.2.2.1 else sm (fun j => ab (d.2.2.2 j - f (32 + j))) r
theorem t_M_drawn {r n : Nat} {s t w : Int32} {Q : Int32 → Hp → Prop} (hM : Mrc h r n)
    (hq0 : ((decide (0 ≤ s) && decide (s ≤ 9999)) && ((decide (0 ≤ t) && decide (t ≤ 12)) && ((decide (0 ≤ w) && decide (w ≤ 2)) && decide (n ≠ 0)))) = false → Q (-1000001) h)
    (hq : ∀ h' s' t', s' ≤ 9999 → t' ≤ 12 → s = nI s' → t = nI t' → n ≠ 0 → (decide (0 ≤ w) && decide (w ≤ 2)) = true → Fr [92] [66, 67] [] [] h h' → Q (drW (gI h 86) r (drw (gI h 86) r n (nI t') s' t') w) h') : w_M_drawn 81 s t w h Q := by
  have hn := hM.2.2.2.2.2
  unfold w_M_drawn
  refine t_M_isIn ⟨fun z => hq0 (by rw [z]; rfl), fun z => t_M_isIn ⟨fun z2 => hq0 (by rw [z2, Bool.false_and, Bool.and_false]), fun z2 => t_M_isIn ⟨fun z3 => hq0 (by rw [z3, Bool.false_and, Bool.and_false, Bool.and_false]), fun z3 => ⟨M_K hM.1, fun z4 => hq0 ?_, fun z4 => ?_⟩⟩⟩⟩
  · rw [hM.2.2.1] at z4
    have : n = 0 := (nI_eq (a := n) (b := 0) (by omega) (by omega)).mp z4
    rw [show decide (n ≠ 0) = false from decide_eq_false (fun g => g this), Bool.and_false, Bool.and_false, Bool.and_false]
  · obtain ⟨s', hs', rfl⟩ := in_nI (k := 9999) rfl z
    obtain ⟨t', ht', rfl⟩ := in_nI (k := 12) rfl z2
    have h0 : n ≠ 0 := fun g => z4 (by rw [hM.2.2.1, g]; rfl)
    refine t_M_draws hM (by omega) (by omega) ht' (fun h1 a => ?_)
    obtain ⟨f1, s1, e66, e67⟩ := a
    have hM1 := fr_Mrc f1 (by decide) (by decide) (by decide) hM
    obtain ⟨a1, a2, a3⟩ := M_sums hM1.1
    have e86 : gI h1 86 = gI h 86 := fr_I f1 (by decide) (by decide)
    have fin := hq h1 s' t' hs' ht' rfl rfl h0 (ntf z3) f1
    have hr := hM.2.2.2.2.1
    refine loop_0 (fun m i x => w_M_drawn_L53 Q 81 w m x (nI i) h1) (fun i x => x = sm (fun j => ab ((drw (gI h 86) r n (nI t') s' t').2.2.2 j - gI h 86 (32 + j))) i) r 0 rfl ?_ ?_
    · rintro m x rfl
      unfold w_M_drawn_L53
      unfold drW at fin
      refine ⟨M_K hM1.1, fun _ => ⟨fun y => ?_, fun y => ⟨fun y1 => ?_, fun y1 => ?_⟩⟩, fun z => absurd (loop_le hM1.2.1) z⟩
      · rw [e66]; rw [if_pos y] at fin; exact fin
      · rw [e67]; rw [if_neg y, if_pos y1] at fin; exact fin
      · rw [if_neg y, if_neg y1] at fin; exact fin
    · rintro m i x hi rfl ih
      unfold w_M_drawn_L53
      refine ⟨M_K hM1.1, fun z => absurd (hM1.2.1 ▸ z) (nI_ge hi (by omega)), fun _ => ?_⟩
      rw [a1, a3, ix_nI (by omega), s1 i (by omega), nI_1]
      refine ⟨a2, vp_in_nI (by omega) (by omega), t_M_needOf hM1.1 (by omega) (t_M_plus ?_)⟩
      rw [e86]
      exact ih _ rfl
theorem t_M_isStrip {t w : Int32} {Q : Bool → Hp → Prop} (hq : Q ((decide (0 ≤ t) && decide (t ≤ 12)) && (decide (0 ≤ w) && decide (w ≤ 12))) h) : w_M_isStrip t w h Q := by
  unfold w_M_isStrip
  refine t_M_isIn ⟨fun z => ?_, fun z => t_M_isIn ⟨fun z2 => ?_, fun z2 => ?_⟩⟩
  · rw [z, Bool.false_and] at hq; exact hq
  · rw [z2, Bool.and_false] at hq; exact hq
  · rw [show (decide (0 ≤ t) && decide (t ≤ 12)) = true from ntf z, show (decide (0 ≤ w) && decide (w ≤ 12)) = true from ntf z2] at hq; exact hq
theorem t_M_chance {r n : Nat} {t w : Int32} {Q : Int32 → Hp → Prop} (hM : Mrc h r n)
    (hq0 : (((decide (0 ≤ t) && decide (t ≤ 12)) && (decide (0 ≤ w) && decide (w ≤ 12))) && decide (n ≠ 0)) = false → Q (-1) h)
    (hq : ∀ h' t' w', t' ≤ 12 → w' ≤ 12 → t = nI t' → w = nI w' → n ≠ 0 → Fr [92] [66, 67] [] [] h h' → Q (sm (fun s => b2i (decide (¬ nI w' * nI t' < (drw (gI h 86) r n (nI t') s t').2.1))) 100) h') : w_M_chance 81 t w h Q := by
  have hn := hM.2.2.2.2.2
  unfold w_M_chance
  refine t_M_isStrip ⟨fun z => hq0 (by rw [z]; rfl), fun z => ⟨M_K hM.1, fun z4 => hq0 ?_, fun z4 => ?_⟩⟩
  · rw [hM.2.2.1] at z4
    have : n = 0 := (nI_eq (a := n) (b := 0) (by omega) (by omega)).mp z4
    rw [show decide (n ≠ 0) = false from decide_eq_false (fun g => g this), Bool.and_false]
  · have z : ((decide (0 ≤ t) && decide (t ≤ 12)) && (decide (0 ≤ w) && decide (w ≤ 12))) = true := ntf z
    rw [Bool.and_eq_true] at z
    obtain ⟨t', ht', rfl⟩ := in_nI (k := 12) (v := t) (M := 12) rfl (by rw [z.1]; decide)
    obtain ⟨w', hw', rfl⟩ := in_nI (k := 12) (v := w) (M := 12) rfl (by rw [z.2]; decide)
    have h0 : n ≠ 0 := fun g => z4 (by rw [hM.2.2.1, g]; rfl)
    have key := loop_0 (fun m i (x : Int32 × Hp) => w_M_chance_L22 Q 81 (nI t') (nI w') m x.1 (nI i) x.2) (fun i x => x.1 = sm (fun s => b2i (decide (¬ nI w' * nI t' < (drw (gI h 86) r n (nI t') s t').2.1))) i ∧ Fr [92] [66, 67] [] [] h x.2) 100 (0, h) ⟨rfl, fr_refl _ _ _ _ _⟩ ?_ ?_
    · exact key
    · rintro m ⟨x, h1⟩ ⟨e, f1⟩
      have e : x = _ := e
      subst e
      unfold w_M_chance_L22
      exact ⟨fun _ => hq h1 t' w' ht' hw' rfl rfl h0 f1, fun z => absurd (Int32.le_refl _) z⟩
    · rintro m i ⟨x, h1⟩ hi ⟨e, f1⟩ ih
      have e : x = _ := e
      subst e
      have hM1 := fr_Mrc f1 (by decide) (by decide) (by decide) hM
      have e86 : gI h1 86 = gI h 86 := fr_I f1 (by decide) (by decide)
      unfold w_M_chance_L22
      refine ⟨fun z => absurd z (nI_ge (b := 100) hi (by omega)), fun _ => ⟨M_K hM1.1, t_M_draws hM1 (by omega) (by omega) ht' (fun h2 a => ?_)⟩⟩
      rw [e86] at a
      have hM2 := fr_Mrc a.1 (by decide) (by decide) (by decide) hM1
      rw [a.2.2.1]
      refine ⟨M_K hM2.1, fun z => ?_, fun z => ?_⟩
      · unfold w_M_chance_B52
        refine t_M_truth (b := false) ?_
        rw [nI_1]
        refine ih (_, h2) ⟨?_, fr_trans f1 a.1⟩
        rw [sm, decide_eq_false (fun g => g z)]
      · unfold w_M_chance_B52
        refine t_M_truth (b := true) ?_
        rw [nI_1]
        refine ih (_, h2) ⟨?_, fr_trans f1 a.1⟩
        rw [sm, decide_eq_true z]
