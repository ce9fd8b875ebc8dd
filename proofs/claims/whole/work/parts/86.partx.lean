/-! What the class tells of plans of fractions -/
variable {h : Hp}
theorem cd_half {b r : Nat} (h0 : 0 < r) (h1 : r < b) : 2 * (b % r) < b := by
  have h2 := Nat.mod_lt b h0
  have h3 := Nat.div_add_mod b r
  have h4 : 1 ≤ b / r := (Nat.le_div_iff_mul_le h0).mpr (by omega)
  have h5 : r * 1 ≤ r * (b / r) := Nat.mul_le_mul_left r h4
  omega
theorem cd_ok {Q : Int64 → Hp → Prop} : ∀ (k a b turn : Nat), a < 2 ^ 62 → b < 2 ^ k → k ≤ 60 → turn + 2 * k + 2 ≤ 200 → Q (lN (Nat.gcd a b)) h → w_X_commonDivisor_L3 Q (2 * k + 2) (lN a) (lN b) (nI turn) h := by
  intro k
  induction k with
  | zero =>
    intro a b turn ha hb _ ht hq
    have b0 : b = 0 := by
      have : b < 1 := hb
      omega
    subst b0
    rw [Nat.gcd_zero_right] at hq
    unfold w_X_commonDivisor_L3
    exact ⟨fun _ => hq, fun _ => ⟨fun _ => hq, fun z => absurd rfl z⟩⟩
  | succ k ih =>
    intro a b turn ha hb hk ht hq
    have p60 : 2 ^ (k + 1) ≤ 2 ^ 61 := Nat.pow_le_pow_right (by decide) (by omega)
    rw [show 2 * (k + 1) + 2 = (2 * k + 2) + 1 + 1 from by omega]
    unfold w_X_commonDivisor_L3
    refine ⟨fun z => absurd z (nI_ge (b := 200) (by omega) (by omega)), fun _ => ⟨fun z => ?_, fun z => ⟨z, ?_⟩⟩⟩
    · have b0 := (lN_e0 (by omega)).mp z
      rw [b0, Nat.gcd_zero_right] at hq
      exact hq
    · have b0 : b ≠ 0 := fun g => z ((lN_e0 (by omega)).mpr g)
      have r1 := Nat.mod_lt a (Nat.pos_of_ne_zero b0)
      have g1 : Nat.gcd a b = Nat.gcd b (a % b) := by rw [Nat.gcd_comm a b, Nat.gcd_rec, Nat.gcd_comm]
      unfold jlrem
      rw [pk_lRem (by omega) (by omega) (by omega), nI_1]
      unfold w_X_commonDivisor_L3
      refine ⟨fun z => absurd z (nI_ge (b := 200) (by omega) (by omega)), fun _ => ⟨fun y => ?_, fun y => ⟨y, ?_⟩⟩⟩
      · have r0 := (lN_e0 (by omega)).mp y
        rw [g1, r0, Nat.gcd_zero_right] at hq
        exact hq
      · have r0 : a % b ≠ 0 := fun g => y ((lN_e0 (by omega)).mpr g)
        have hf := cd_half (Nat.pos_of_ne_zero r0) r1
        have g2 : Nat.gcd b (a % b) = Nat.gcd (a % b) (b % (a % b)) := by rw [Nat.gcd_comm b, Nat.gcd_rec, Nat.gcd_comm]
        unfold jlrem
        rw [pk_lRem (by omega) (by omega) (by omega), nI_1]
        refine ih (a % b) (b % (a % b)) (turn + 1 + 1) (by omega) ?_ (by omega) (by omega) (by rw [← g2, ← g1]; exact hq)
        rw [Nat.pow_succ] at hb
        omega
/-- a part of a fraction in lowest terms -/
def prA (a b : Int) (v : Int32) : Int32 := if v = 0 then (lI (rdU a b)).toInt32 else (lI (rdL a b)).toInt32
theorem t_X_part {a b : Int} {v : Int32} {Q : Int32 → Hp → Prop} (hb : 0 < b) (hb2 : b ≤ 1000000000) (ha : a.natAbs < 2 ^ 60) (hq : Q (prA a b v) h) : w_X_part (lI a) (lI b) v h Q := by
  have bN : lI b = lN b.natAbs := by rw [lI_N]; congr 1; omega
  obtain ⟨g0, ru, rl, -, -⟩ := rd_sp (a := a) hb
  have gl : Nat.gcd a.natAbs b.natAbs ≤ b.natAbs := Nat.gcd_le_right _ (by omega)
  have main : ∀ x : Int64, x = lN a.natAbs → w_X_commonDivisor x (lI b) h (fun r4 h3 => ((1 : Int64) ≤ r4 → (v = 0 → ¬ r4 = 0 ∧ (Q ((lI a / r4).toInt32) h3)) ∧ (¬ v = 0 → ¬ r4 = 0 ∧ (Q ((lI b / r4).toInt32) h3))) ∧ (¬ (1 : Int64) ≤ r4 → Q (-1000001 : Int32) h3)) := fun x hx => by
    unfold w_X_commonDivisor
    rw [hx, bN]
    have key := cd_ok (h := h) (Q := fun r4 h3 => ((1 : Int64) ≤ r4 → (v = 0 → ¬ r4 = 0 ∧ (Q ((lI a / r4).toInt32) h3)) ∧ (¬ v = 0 → ¬ r4 = 0 ∧ (Q ((lN b.natAbs / r4).toInt32) h3))) ∧ (¬ (1 : Int64) ≤ r4 → Q (-1000001 : Int32) h3)) 30 a.natAbs b.natAbs 0 (by omega) (by omega) (by omega) (by omega) ?_
    · exact ⟨2 * 30 + 2, key⟩
    · rw [lI_N, ← bN]
      have ne : ¬ lI ((Nat.gcd a.natAbs b.natAbs : Nat) : Int) = 0 := fun z => by
        have := (lI_e0 (by omega)).mp z
        omega
      unfold prA at hq
      refine ⟨fun _ => ⟨fun z => ⟨ne, ?_⟩, fun z => ⟨ne, ?_⟩⟩, fun z => absurd ?_ z⟩
      · rw [if_pos z] at hq
        rw [lI_div (c := rdU a b) (by omega) (by omega) (by omega) ru.symm]
        exact hq
      · rw [if_neg z] at hq
        rw [lI_div (c := rdL a b) (by omega) (by omega) (by omega) rl.symm]
        exact hq
      · show lI 1 ≤ _
        rw [lI_le (by decide) (by omega)]
        omega
  unfold w_X_part w_JM_abs_JJ
  rw [lI_0le (by omega)]
  refine ⟨fun z => main _ ?_, fun z => main _ ?_⟩
  · rw [lI_N]; congr 1; omega
  · rw [lI_neg (by omega), lI_N]; congr 1; omega
theorem VC_e {f : Nat → Int32} {n : Nat} (v : VC f n h) : (crF f n (2 ^ n)).1 ≤ 2 ^ n ∧ ((crF f n (2 ^ n)).1 = 0 ↔ (crF f n (2 ^ n)).2 = none) := crF_le f n (2 ^ n)
theorem t_X_corners {f : Nat → Int32} {r n b : Nat} {Q : Int32 → Hp → Prop} (c0 : CN f r n h) (hb : gI h 21 3 = nI b) (hb2 : b < 2 ^ 31) (kk : KK f n b h) (hq : ∀ h', Fx [56, 58] [56, 57, 59] h h' → KK f n b h' → Q (nI (crF f n (2 ^ n)).1) h') : w_X_corners 16 h Q := by
  unfold w_X_corners
  rw [X_r16_10 c0.1]
  refine ⟨X_k16 c0.1, X_k56 c0.1, t_Cr_find c0 hb hb2 kk (fun h2 f2 vc k2 => ?_)⟩
  have c2 := CN_fx c0 f2 (by decide) (by decide)
  rw [X_r16_10 c2.1, vc.1]
  exact ⟨X_k16 c2.1, X_k56 c2.1, hq h2 f2 k2⟩
theorem t_X_relaxed {f : Nat → Int32} {r n b : Nat} {what : Int32} {Q : Int32 → Hp → Prop} (c0 : CN f r n h) (hb : gI h 21 3 = nI b) (hb2 : b < 2 ^ 31) (kk : KK f n b h) (hq : ∀ e h', Fx [56, 58] [56, 57, 59] h h' → KK f n b h' → (e = true ↔ (crF f n (2 ^ n)).1 ≠ 0 ∧ rndP f n) → Q (rlA f n e what) h') : w_X_relaxed 16 what h Q := by
  have hn := c0.2.1.2.2.2.2.2
  have hG := c0.2.2.2.2.2.1
  have p8 := pow8 hn
  unfold w_X_relaxed
  rw [X_r16_10 c0.1]
  refine ⟨X_k16 c0.1, X_k56 c0.1, t_Cr_find c0 hb hb2 kk (fun h2 f2 vc k2 => ?_)⟩
  have c2 := CN_fx c0 f2 (by decide) (by decide)
  obtain ⟨v8, kc, e, v9, he⟩ := vc
  have cl := crF_le f n (2 ^ n)
  have fin := hq e h2 f2 k2 he
  unfold rlA at fin
  have out : (what < 0 ∨ 3 < what) → Q (-1000001) h2 := fun g => by
    have : (decide (0 ≤ what) && decide (what ≤ 3)) = false := by
      rcases g with g | g
      · rw [decide_eq_false (Int32.not_le.mpr g)]; rfl
      · rw [decide_eq_false (p := what ≤ 3) (Int32.not_le.mpr g), Bool.and_false]
    rw [if_pos this] at fin
    exact fin
  refine ⟨fun z => out (Or.inl z), fun z => ⟨fun z2 => out (Or.inr z2), fun z2 => ?_⟩⟩
  have inr : ¬ (decide (0 ≤ what) && decide (what ≤ 3)) = false := by
    rw [decide_eq_true (Int32.not_lt.mp z), decide_eq_true (Int32.not_lt.mp z2)]; decide
  rw [if_neg inr] at fin
  rw [X_r16_10 c2.1, v8, v9]
  refine ⟨X_k16 c2.1, X_k56 c2.1, fun y => ?_, fun y => ?_⟩
  · have e0 : (crF f n (2 ^ n)).1 = 0 := (nI_eq (b := 0) (by omega) (by omega)).mp y
    rw [cl.2.mp e0] at fin
    exact fin
  · have e0 : (crF f n (2 ^ n)).1 ≠ 0 := fun g => y (by rw [g]; rfl)
    cases ev : (crF f n (2 ^ n)).2 with
    | none => exact absurd (cl.2.mpr ev) e0
    | some v =>
      rw [ev] at fin
      dsimp only at fin
      obtain ⟨b1, b2, b3, b4, b5, b6, b7, b8⟩ := kc v ev
      have gb : (Gn f v.2.1 n).natAbs ≤ 3041280000 := Gn_bd4 hG hn (fun c => ⟨(b7 c).1, by have := (b7 c).2; omega⟩)
      refine ⟨fun x => ?_, fun x => ⟨fun w => ?_, fun w => ?_⟩⟩
      · rw [if_pos x] at fin
        cases e
        · exact ⟨fun _ => fin, fun w => absurd rfl w⟩
        · exact ⟨fun w => absurd w (by decide), fun _ => fin⟩
      · have e1 : ¬ e = true := fun g => by rw [g] at w; exact absurd w (by decide)
        rw [if_neg x, if_neg e1] at fin
        rw [b1, b2, b3]
        refine ⟨fun q => ?_, fun q => t_X_part b5 (by omega) (by omega) ?_⟩
        · rw [if_neg (by rw [q]; decide), if_neg (by rw [q]; decide)] at fin
          exact fin
        · unfold prA
          by_cases q0 : what = 0
          · rw [if_pos q0] at fin ⊢; exact fin
          · rw [if_neg q0] at fin ⊢
            by_cases q1 : what = 1
            · rw [if_pos q1] at fin; exact fin
            · exfalso
              obtain ⟨k, hk, ek⟩ := in_nI (k := 3) (v := what) (M := 3) rfl inr
              rw [ek] at q0 q1 q x
              have a0 : k ≠ 0 := fun g => q0 (by rw [g]; rfl)
              have a1 : k ≠ 1 := fun g => q1 (by rw [g]; rfl)
              have a2 : k ≠ 2 := fun g => q (by rw [g]; rfl)
              have a3 : k ≠ 3 := fun g => x (by rw [g]; rfl)
              omega
      · have e1 : e = true := by
          cases e
          · exact absurd rfl w
          · rfl
        rw [if_neg x, if_pos e1] at fin
        exact fin
theorem t_Cr_isThere {f : Nat → Int32} {n : Nat} {Q : Bool → Hp → Prop} (m : XS h) (vc : VC f n h) (hn : n ≤ 8) (hq : ∀ e, (e = true ↔ (crF f n (2 ^ n)).1 ≠ 0 ∧ rndP f n) → Q (decide ((crF f n (2 ^ n)).1 ≠ 0) && !e) h) : w_Cr_isThere 56 h Q := by
  obtain ⟨v8, kc, e, v9, he⟩ := vc
  have cl := crF_le f n (2 ^ n)
  have p8 := pow8 hn
  have fin := hq e he
  unfold w_Cr_isThere
  rw [v8, v9]
  refine ⟨X_k56 m, fun z => ?_, fun z => ⟨fun y => ?_, fun y => ?_⟩⟩
  · have e0 : (crF f n (2 ^ n)).1 = 0 := by
      by_cases g : (crF f n (2 ^ n)).1 = 0
      · exact g
      · exact absurd z (nI_nle (by omega) (by omega))
    rw [decide_eq_false (fun g => g e0)] at fin
    exact fin
  · have e0 : (crF f n (2 ^ n)).1 ≠ 0 := fun g => z (by rw [g]; exact Int32.le_refl _)
    have e1 : e = false := by
      cases e
      · rfl
      · exact absurd y (by decide)
    rw [decide_eq_true e0, e1] at fin
    exact fin
  · have e1 : e = true := by
      cases e
      · exact absurd rfl y
      · rfl
    rw [e1] at fin
    rw [show (!true) = false from rfl, Bool.and_false] at fin
    exact fin
theorem t_X_fraction {f : Nat → Int32} {r n b : Nat} {col part : Int32} {Q : Int32 → Hp → Prop} (c0 : CN f r n h) (hb : gI h 21 3 = nI b) (hb2 : b < 2 ^ 31) (kk : KK f n b h) (hq0 : ∀ h', Fx [56, 58] [56, 57, 59] h h' → KK f n b h' → (inb col n && (decide (0 ≤ part) && decide (part ≤ 1))) = false → Q (-1000001) h') (hq : ∀ e h' c, c < n → col = nI c → Fx [56, 58] [56, 57, 59] h h' → KK f n b h' → (e = true ↔ (crF f n (2 ^ n)).1 ≠ 0 ∧ rndP f n) → Q (frA f n e c part) h') : w_X_fraction 16 col part h Q := by
  have hn := c0.2.1.2.2.2.2.2
  unfold w_X_fraction
  rw [X_r16_10 c0.1]
  refine ⟨X_k16 c0.1, X_k56 c0.1, t_Cr_find c0 hb hb2 kk (fun h2 f2 vc k2 => ?_)⟩
  have c2 := CN_fx c0 f2 (by decide) (by decide)
  have cl := crF_le f n (2 ^ n)
  rw [X_r16_2 c2.1]
  refine ⟨X_k16 c2.1, c2.2.1.1.1, t_Co_hasColumn c2.2.1.1.1 c2.2.1.2.2.1 hn ⟨fun z => hq0 h2 f2 k2 (by rw [z]; rfl), fun z => ⟨fun z2 => hq0 h2 f2 k2 ?_, fun z2 => ⟨fun z3 => hq0 h2 f2 k2 ?_, fun z3 => ?_⟩⟩⟩⟩
  · rw [decide_eq_false (p := 0 ≤ part) (Int32.not_le.mpr z2), Bool.false_and, Bool.and_false]
  · rw [decide_eq_false (p := part ≤ 1) (Int32.not_le.mpr z3), Bool.and_false, Bool.and_false]
  · obtain ⟨c, hc, rfl⟩ := inb_ex (x := col) (n := n) (by omega) (ntf z)
    rw [X_r16_10 c2.1]
    refine ⟨X_k16 c2.1, X_k56 c2.1, t_Cr_isThere c2.1 vc hn (fun e he => ?_)⟩
    have fin := hq e h2 c hc rfl f2 k2 he
    unfold frA at fin
    rw [X_r16_10 c2.1]
    cases ev : (crF f n (2 ^ n)).2 with
    | none =>
      rw [ev] at fin
      rw [decide_eq_false (fun g => g (cl.2.mpr ev))]
      exact ⟨fun _ => fin, fun y => absurd rfl y⟩
    | some v =>
      rw [ev] at fin
      dsimp only at fin
      have e0 : (crF f n (2 ^ n)).1 ≠ 0 := fun g => by rw [cl.2.mp g] at ev; cases ev
      obtain ⟨b1, b2, b3, b4, b5, b6, b7, b8⟩ := vc.2.1 v ev
      rw [decide_eq_true e0, Bool.true_and]
      refine ⟨fun y => ?_, fun y => ⟨X_k16 c2.1, X_k56 c2.1, ?_⟩⟩
      · have e1 : e = true := by
          cases e
          · exact absurd y (by decide)
          · rfl
        rw [if_pos e1] at fin
        exact fin
      · have e1 : ¬ e = true := fun g => y (by rw [g]; rfl)
        rw [if_neg e1] at fin
        unfold w_Cr_upperOf
        have yb := b7 c
        rw [X_r56_3 c2.1, X_k59 c2.1, X_n59 c2.1, ix_nI (by omega), b4 c hc]
        dsimp only
        rw [X_r16_10 c2.1, b3]
        exact ⟨X_k56 c2.1, rfl, vp_in_nI (by omega) (by omega), X_k16 c2.1, X_k56 c2.1, t_X_part b5 (by omega) (by omega) fin⟩
