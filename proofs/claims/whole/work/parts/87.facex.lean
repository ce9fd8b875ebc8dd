/-! What the class tells of the best plan -/
variable {h : Hp}
theorem in_lt {v : Int32} {n : Nat} (hn : n < 2 ^ 31) (h0 : ¬ v < 0) (h1 : v < nI n) : ∃ j, j < n ∧ v = nI j := by
  refine inb_ex hn (inb_iff.mpr ?_)
  rw [Int32.lt_iff_toInt_lt] at h0 h1
  rw [nI_toInt hn] at h1
  exact ⟨Int.not_lt.mp h0, h1⟩
theorem t_X_isLength {v : Int32} {Q : Bool → Hp → Prop} (hq : Q (decide (0 ≤ v) && decide (v ≤ 12)) h) : w_X_isLength v h Q := by
  unfold w_X_isLength
  refine ⟨fun z => ?_, fun z => ⟨fun z2 => ?_, fun z2 => ?_⟩⟩
  · rw [decide_eq_false (p := 0 ≤ v) (Int32.not_le.mpr z), Bool.false_and] at hq; exact hq
  · rw [decide_eq_false (p := v ≤ 12) (Int32.not_le.mpr z2), Bool.and_false] at hq; exact hq
  · rw [decide_eq_true (Int32.not_lt.mp z), decide_eq_true (Int32.not_lt.mp z2)] at hq; exact hq
theorem t_X_optimum {f : Nat → Int32} {r n s b : Nat} {v : Int32} {Q : Int32 → Hp → Prop} (c0 : CN f r n h) (hs : f 35 = nI s) (hs2 : s ≤ 12) (hb : gI h 21 3 = nI b) (hb2 : b < 2 ^ 31) (ko : KO f r n s b h)
    (hq0 : (decide (0 ≤ v) && decide (v ≤ 1)) = false → Q (-1000001) h)
    (hq : ∀ h', Fx [35, 36, 37, 38, 39, 40, 41, 50, 51, 52, 53, 54, 55] [] h h' → KO f r n s b h' → Q (match opR f r n (s + 1) with
      | none => -1000001
      | some (_, g, t) => if v = 0 then g else nI t) h') : w_X_optimum 16 v h Q := by
  unfold w_X_optimum
  refine ⟨fun z => hq0 ?_, fun z => ⟨fun z2 => hq0 ?_, fun z2 => ?_⟩⟩
  · rw [decide_eq_false (p := 0 ≤ v) (Int32.not_le.mpr z), Bool.false_and]
  · rw [decide_eq_false (p := v ≤ 1) (Int32.not_le.mpr z2), Bool.and_false]
  · rw [X_r16_9 c0.1]
    refine ⟨X_k16 c0.1, X_k50 c0.1, t_Op_find c0 hs hs2 hb hb2 ko (fun h2 f2 vo k2 => ?_)⟩
    have m2 := fx_XS f2 c0.1
    have fin := hq h2 f2 k2
    unfold VO at vo
    rw [X_r16_9 m2]
    revert fin vo
    generalize opR f r n (s + 1) = o
    intro vo fin
    match o, fin, vo with
    | none, fin, vo => exact ⟨fun _ => fin, fun y => absurd rfl y⟩
    | some (p, g, t), fin, vo =>
      refine ⟨fun y => absurd y (by simp), fun _ => ⟨fun y => ⟨X_k16 m2, X_k50 m2, ?_⟩, fun y => ⟨X_k16 m2, X_k50 m2, ?_⟩⟩⟩
      · rw [vo.2.1]; simp only [if_pos y] at fin; exact fin
      · rw [vo.2.2.1]; simp only [if_neg y] at fin; exact fin
theorem t_X_plan {f : Nat → Int32} {r n s b : Nat} {v : Int32} {Q : Int32 → Hp → Prop} (c0 : CN f r n h) (hs : f 35 = nI s) (hs2 : s ≤ 12) (hb : gI h 21 3 = nI b) (hb2 : b < 2 ^ 31) (ko : KO f r n s b h)
    (hq0 : inb v n = false → Q (-1) h)
    (hq : ∀ h' j, j < n → v = nI j → Fx [35, 36, 37, 38, 39, 40, 41, 50, 51, 52, 53, 54, 55] [] h h' → KO f r n s b h' → Q (match opR f r n (s + 1) with
      | none => -1
      | some (p, _, _) => nI (p.getD j 0)) h') : w_X_plan 16 v h Q := by
  have hn := c0.2.1.2.2.2.2.2
  unfold w_X_plan
  rw [X_r16_2 c0.1]
  refine ⟨X_k16 c0.1, c0.2.1.1.1, t_Co_hasColumn c0.2.1.1.1 c0.2.1.2.2.1 hn ⟨hq0, fun z => ?_⟩⟩
  obtain ⟨j, hj, rfl⟩ := inb_ex (x := v) (n := n) (by omega) (ntf z)
  rw [X_r16_9 c0.1]
  refine ⟨X_k16 c0.1, X_k50 c0.1, t_Op_find c0 hs hs2 hb hb2 ko (fun h2 f2 vo k2 => ?_)⟩
  have m2 := fx_XS f2 c0.1
  have fin := hq h2 j hj rfl f2 k2
  unfold VO at vo
  rw [X_r16_9 m2]
  revert fin vo
  generalize opR f r n (s + 1) = o
  intro vo fin
  match o, fin, vo with
  | none, fin, vo => exact ⟨fun _ => fin, fun y => absurd rfl y⟩
  | some (p, g, t), fin, vo =>
    refine ⟨fun y => absurd y (by simp), fun _ => ⟨X_k16 m2, X_k50 m2, ?_⟩⟩
    unfold w_Op_oftenOf
    rw [X_r50_2 m2, X_n51 m2, ix_nI (by omega), vo.2.2.2.1 j hj]
    exact ⟨X_k50 m2, X_k51 m2, vp_in_nI (by omega) (by omega), fin⟩
theorem t_X_strays {f : Nat → Int32} {r n s b : Nat} {Q : Int32 → Hp → Prop} (c0 : CN f r n h) (hs : f 35 = nI s) (hs2 : s ≤ 12) (hb : gI h 21 3 = nI b) (hb2 : b < 2 ^ 31) (ko : KO f r n s b h)
    (hq : ∀ h', Fx [35, 36, 37, 38, 39, 40, 41, 50, 51, 52, 53, 54, 55] [] h h' → KO f r n s b h' → Q (match opR f r n (s + 1) with
      | none => -1
      | some (p, _, t) => sfT f r n p (nI t) 0) h') : w_X_strays 16 h Q := by
  unfold w_X_strays
  rw [X_r16_9 c0.1]
  refine ⟨X_k16 c0.1, X_k50 c0.1, t_Op_find c0 hs hs2 hb hb2 ko (fun h2 f2 vo k2 => ?_)⟩
  have m2 := fx_XS f2 c0.1
  have fin := hq h2 f2 k2
  unfold VO at vo
  rw [X_r16_9 m2]
  revert fin vo
  generalize opR f r n (s + 1) = o
  intro vo fin
  match o, fin, vo with
  | none, fin, vo => exact ⟨fun _ => fin, fun y => absurd rfl y⟩
  | some (p, g, t), fin, vo =>
    refine ⟨fun y => absurd y (by simp), fun _ => ⟨X_k16 m2, X_k50 m2, ?_⟩⟩
    rw [vo.2.2.2.2.1]; exact fin
theorem t_X_sorted {f : Nat → Int32} {r n s b : Nat} {Q : Int32 → Hp → Prop} (c0 : CN f r n h) (hs : f 35 = nI s) (hs2 : s ≤ 12) (hb : gI h 21 3 = nI b) (hb2 : b < 2 ^ 31) (ko : KO f r n s b h)
    (hq : ∀ h', Fx [35, 36, 37, 38, 39, 40, 41, 50, 51, 52, 53, 54, 55] [] h h' → KO f r n s b h' → Q (match opR f r n (s + 1) with
      | none => -1
      | some (p, _, t) => (srC f r (nI t) p n).1) h') : w_X_sorted 16 h Q := by
  unfold w_X_sorted
  rw [X_r16_9 c0.1]
  refine ⟨X_k16 c0.1, X_k50 c0.1, t_Op_find c0 hs hs2 hb hb2 ko (fun h2 f2 vo k2 => ?_)⟩
  have m2 := fx_XS f2 c0.1
  have fin := hq h2 f2 k2
  unfold VO at vo
  rw [X_r16_9 m2]
  revert fin vo
  generalize opR f r n (s + 1) = o
  intro vo fin
  match o, fin, vo with
  | none, fin, vo => exact ⟨fun _ => fin, fun y => absurd rfl y⟩
  | some (p, g, t), fin, vo =>
    refine ⟨fun y => absurd y (by simp), fun _ => ⟨X_k16 m2, X_k50 m2, ?_⟩⟩
    rw [vo.2.2.2.2.2.2]; exact fin
theorem t_X_order {f : Nat → Int32} {r n s b : Nat} {v : Int32} {Q : Int32 → Hp → Prop} (c0 : CN f r n h) (hs : f 35 = nI s) (hs2 : s ≤ 12) (hb : gI h 21 3 = nI b) (hb2 : b < 2 ^ 31) (ko : KO f r n s b h)
    (hq0 : ∀ h', Fx [35, 36, 37, 38, 39, 40, 41, 50, 51, 52, 53, 54, 55] [] h h' → KO f r n s b h' → (∀ p g t, opR f r n (s + 1) = some (p, g, t) → inb v t = false) → Q (-1) h')
    (hq : ∀ h' p g t i, opR f r n (s + 1) = some (p, g, t) → v = nI i → i < t → Fx [35, 36, 37, 38, 39, 40, 41, 50, 51, 52, 53, 54, 55] [] h h' → KO f r n s b h' → Q (nI (wlk p (sfT f r n p (nI t)) n (i + 1)).2) h') : w_X_order 16 v h Q := by
  unfold w_X_order
  rw [X_r16_9 c0.1]
  refine ⟨X_k16 c0.1, X_k50 c0.1, t_Op_find c0 hs hs2 hb hb2 ko (fun h2 f2 vo k2 => ?_)⟩
  have m2 := fx_XS f2 c0.1
  have fin0 := hq0 h2 f2 k2
  have ho := opR_some (f := f) (r := r) (n := n) (s + 1)
  have fin := fun p g t i (e : opR f r n (s + 1) = some (p, g, t)) (a : v = nI i) (d : i < t) => hq h2 p g t i e a d f2 k2
  unfold VO at vo
  rw [X_r16_9 m2]
  revert fin vo fin0 ho
  generalize opR f r n (s + 1) = o
  intro vo fin0 ho fin
  match o, fin, vo, fin0, ho with
  | none, fin, vo, fin0, ho => exact ⟨fun _ => fin0 (fun p g t e => by cases e), fun y => absurd rfl y⟩
  | some (p, g, t), fin, vo, fin0, ho =>
    obtain ⟨o1, o2, -, -⟩ := ho _ rfl
    simp only at o1 o2
    rw [vo.2.2.1]
    have nb : (v < 0 ∨ ¬ v < nI t) → Q (-1) h2 := fun y => fin0 (fun p' g' t' e => by
      cases e
      refine inb_f (fun g => ?_)
      obtain ⟨i, hi, rfl⟩ := inb_ex (x := v) (n := t) (by omega) g
      rcases y with y | y
      · exact absurd y (nI_nlt (a := i) (b := 0) (by omega) (by omega))
      · exact y (nI_lt hi (by omega)))
    refine ⟨fun y => absurd y (by simp), fun _ => ⟨fun y => nb (Or.inl y), fun y => ⟨X_k16 m2, X_k50 m2, fun y2 => ?_, fun y2 => nb (Or.inr y2)⟩⟩⟩
    obtain ⟨i, hi, rfl⟩ := in_lt (n := t) (by omega) y y2
    unfold w_Op_columnAt
    rw [X_r50_4 m2, X_n53 m2, ix_nI (by omega), vo.2.2.2.2.2.1 i hi]
    exact ⟨X_k50 m2, X_k53 m2, vp_in_nI (by omega) (by omega), fin p g t i rfl rfl hi⟩
theorem t_X_plans {f : Nat → Int32} {r n : Nat} {v : Int32} {Q : Int32 → Hp → Prop} (c0 : CN f r n h)
    (hq0 : (decide (0 ≤ v) && decide (v ≤ 12)) = false → Q (-1) h)
    (hq : ∀ t h', t ≤ 12 → v = nI t → Fx [35, 36, 37, 38, 39, 40, 41, 76] [] h h' → Q (nI (cntL f r n (PL n t))) h') : w_X_plans 16 v h Q := by
  have hn := c0.2.1.2.2.2.2.2
  unfold w_X_plans
  refine t_X_isLength ⟨hq0, fun z => ⟨X_k16 c0.1, ?_⟩⟩
  obtain ⟨t, ht, rfl⟩ := in_nI (k := 12) (v := v) (M := 12) rfl z
  have hle := cntL_le f r n (PL n t)
  have h2 := PL_le (n := n) (t := t) hn (by omega)
  refine t_X_countPlans (en := 1000000) c0 ht (by omega) (by omega) (fun h2 f2 => ?_)
  rw [Nat.min_eq_right (by omega)]
  exact hq t h2 ht rfl f2
theorem t_X_fewest {f : Nat → Int32} {r n : Nat} {Q : Int32 → Hp → Prop} (c0 : CN f r n h) (hq : ∀ h', Fx [35, 36, 37, 38, 39, 40, 41, 76] [] h h' → Q (lst (fun t => decide (0 < cntL f r n (PL n t))) 13 0) h') : w_X_fewest 16 h Q := by
  unfold w_X_fewest
  have key : ∀ m t, t + m = 13 → ∀ s, Fx [35, 36, 37, 38, 39, 40, 41, 76] [] h s → (∀ h', Fx [35, 36, 37, 38, 39, 40, 41, 76] [] h h' → Q (lst (fun t => decide (0 < cntL f r n (PL n t))) m t) h') → w_X_fewest_L2 Q 16 (m + 1) (nI t) s := by
    intro m
    induction m with
    | zero =>
      intro t ht s fs hq
      unfold w_X_fewest_L2
      exact ⟨fun _ => hq s fs, fun z => absurd (nI_lt (a := 12) (by omega) (by omega)) z⟩
    | succ m ih =>
      intro t ht s fs hq
      have cs := CN_fx c0 fs (by decide) (by decide)
      unfold w_X_fewest_L2
      refine ⟨fun z => absurd z (nI_nlt (a := 12) (b := t) (by omega) (by omega)), fun _ => ⟨X_k16 cs.1, t_X_countPlans (en := 1) cs (by omega) (by omega) (by omega) (fun h2 f2 => ?_)⟩⟩
      have f3 := fx_trans fs f2
      refine ⟨fun z => ?_, fun z => ?_⟩
      · rw [nI_1]
        refine ih (t + 1) (by omega) h2 f3 (fun h' f' => ?_)
        have := hq h' f'
        have e0 : ¬ 0 < cntL f r n (PL n t) := fun g => absurd z (nI_nle (by omega) (by omega))
        rw [lst, if_neg (by rw [decide_eq_true_eq]; exact e0)] at this
        exact this
      · have := hq h2 f3
        have e0 : 0 < cntL f r n (PL n t) := by
          apply Nat.pos_of_ne_zero
          intro g
          rw [g] at z
          exact z (Int32.le_refl _)
        rw [lst, if_pos (by rw [decide_eq_true_eq]; exact e0)] at this
        exact this
  exact ⟨13 + 1, key 13 0 (by omega) h (fx_refl _ _ h) hq⟩
theorem KO_fx {f : Nat → Int32} {r n s b : Nat} {as js : List Nat} {h' : Hp} (a : KO f r n s b h) (x : Fx as js h h') (h1 : 50 ∉ as) (h2 : 51 ∉ as) (h3 : 53 ∉ as) : KO f r n s b h' := by
  unfold KO at a ⊢
  rw [fx_I x h1]
  rcases a with a | ⟨c, c1, c2, c3⟩
  · exact Or.inl a
  · exact Or.inr ⟨c, c1, c2, fun e => VO_fx (c3 e) x h1 h2 h3⟩
theorem KK_fx {f : Nat → Int32} {n b : Nat} {as js : List Nat} {h' : Hp} (a : KK f n b h) (x : Fx as js h h') (h1 : 56 ∉ as) (h2 : 56 ∉ js) (h3 : 59 ∉ js) : KK f n b h' := by
  unfold KK VC KC at a ⊢
  rw [fx_I x h1, fx_L x h2, fx_L x h3]
  exact a
theorem t_X_apart {f : Nat → Int32} {r n s b : Nat} {part : Int32} {Q : Int32 → Hp → Prop} (c0 : CN f r n h) (hs : f 35 = nI s) (hs2 : s ≤ 12) (hb : gI h 21 3 = nI b) (hb2 : b < 2 ^ 31) (ko : KO f r n s b h) (kk : KK f n b h)
    (hq0 : ∀ h', Fx [35, 36, 37, 38, 39, 40, 41, 50, 51, 52, 53, 54, 55, 56, 58] [56, 57, 59] h h' → KO f r n s b h' → KK f n b h' → (decide (0 ≤ part) && decide (part ≤ 1)) = false → Q (-1000001) h')
    (hq : ∀ e h', Fx [35, 36, 37, 38, 39, 40, 41, 50, 51, 52, 53, 54, 55, 56, 58] [56, 57, 59] h h' → KO f r n s b h' → KK f n b h' → (e = true ↔ (crF f n (2 ^ n)).1 ≠ 0 ∧ rndP f n) → Q (apA f r n s e part) h') : w_X_apart 16 part h Q := by
  have hn := c0.2.1.2.2.2.2.2
  have cl := crF_le f n (2 ^ n)
  unfold w_X_apart
  rw [X_r16_10 c0.1]
  refine ⟨X_k16 c0.1, X_k56 c0.1, t_Cr_find c0 hb hb2 kk (fun h2 f2 vc k2 => ?_)⟩
  have c2 := CN_fx c0 f2 (by decide) (by decide)
  have ko2 : KO f r n s b h2 := KO_fx ko f2 (by decide) (by decide) (by decide)
  have f2' : Fx [35, 36, 37, 38, 39, 40, 41, 50, 51, 52, 53, 54, 55, 56, 58] [56, 57, 59] h h2 := fx_mono f2 (by simp) (by simp)
  refine ⟨fun z => hq0 h2 f2' ko2 k2 ?_, fun z => ⟨fun z2 => hq0 h2 f2' ko2 k2 ?_, fun z2 => ?_⟩⟩
  · rw [decide_eq_false (p := 0 ≤ part) (Int32.not_le.mpr z), Bool.false_and]
  · rw [decide_eq_false (p := part ≤ 1) (Int32.not_le.mpr z2), Bool.and_false]
  · rw [X_r16_10 c2.1]
    refine ⟨X_k16 c2.1, X_k56 c2.1, t_Cr_isThere c2.1 vc hn (fun e he => ?_)⟩
    have fin2 := hq e h2 f2' ko2 k2 he
    have vc2 := vc.2.1
    cases ev : (crF f n (2 ^ n)).2 with
    | none =>
      unfold apA at fin2
      rw [ev] at fin2
      rw [decide_eq_false (fun g => g (cl.2.mpr ev))]
      refine ⟨fun _ => ?_, fun y => absurd rfl y⟩
      revert fin2
      cases opR f r n (s + 1) with
      | none => exact fun a => a
      | some x => exact fun a => a
    | some v =>
      have e0 : (crF f n (2 ^ n)).1 ≠ 0 := fun g => by rw [cl.2.mp g] at ev; cases ev
      rw [decide_eq_true e0, Bool.true_and]
      obtain ⟨b1, b2, b3, b4, b5, b6, b7, b8⟩ := vc2 v ev
      refine ⟨fun y => ?_, fun y => ?_⟩
      · have e1 : e = true := by
          cases e
          · exact absurd y (by decide)
          · rfl
        unfold apA at fin2
        rw [ev] at fin2
        subst e1
        revert fin2
        cases opR f r n (s + 1) with
        | none => exact fun a => a
        | some x => exact fun a => a
      · have e1 : ¬ e = true := fun g => y (by rw [g]; rfl)
        have hb3 : gI h2 21 3 = nI b := (congrFun (fx_I f2 (by decide)) 3).trans hb
        rw [X_r16_9 c2.1]
        refine ⟨X_k16 c2.1, X_k50 c2.1, t_Op_find c2 hs hs2 hb3 hb2 ko2 (fun h3 f3 vo k3 => ?_)⟩
        have c3 := CN_fx c2 f3 (by decide) (by decide)
        have m3 := c3.1
        have kk3 : KK f n b h3 := KK_fx k2 f3 (by decide) (by decide) (by decide)
        have fin := hq e h3 (fx_trans f2' (fx_mono f3 (by simp) (by simp))) k3 kk3 he
        unfold apA at fin
        rw [ev] at fin
        have ho := opR_some (f := f) (r := r) (n := n) (s + 1)
        unfold VO at vo
        have l3 : gL h3 56 = gL h2 56 := fx_L f3 (by decide)
        have l4 : gL h3 59 = gL h2 59 := fx_L f3 (by decide)
        rw [← l3] at b3
        rw [← l4] at b4
        revert vo fin ho
        generalize opR f r n (s + 1) = o
        intro vo fin ho
        match o, vo, fin, ho with
        | none, vo, fin, ho => exact ⟨fun _ => fin, fun y => absurd rfl y⟩
        | some (p, g, t), vo, fin, ho =>
          obtain ⟨o1, o2, -, -⟩ := ho _ rfl
          simp only at o1 o2
          dsimp only at fin
          rw [if_neg e1] at fin
          have hp := PL_mem o1
          have p12 : ∀ j, p.getD j 0 ≤ 12 := fun j => by
            have := getD_le_sum p j
            omega
          have bd := Dp_bd (p := p) (Y := v.2.1) (Z := v.2.2) p12 ⟨b5, by omega⟩ b7
          refine ⟨fun y => absurd y (by simp), fun _ => ?_⟩
          refine loop_0 (fun m c (x : Int64) => w_X_apart_L44 Q 16 part m x (nI c) h3) (fun c x => x = lI (Dp p v.2.1 v.2.2 c)) n 0 rfl ?_ ?_
          · rintro m x rfl
            have bn := bd n
            have bn2 : n * 624000 ≤ 8 * 624000 := Nat.mul_le_mul_right _ hn
            unfold w_X_apart_L44
            rw [X_r16_2 m3, X_r16_10 m3, b3, c3.2.1.2.2.1]
            refine ⟨X_k16 m3, c3.2.1.1.1, fun _ => ⟨X_k56 m3, t_X_part b5 (by omega) (by omega) fin⟩, fun y => absurd (Int32.le_refl _) y⟩
          · rintro m c x hc rfl ih
            have bn := bd c
            have bn2 : c * 624000 ≤ 8 * 624000 := Nat.mul_le_mul_right _ (by omega)
            have pc := p12 c
            have yc := b7 c
            have mz := mulA (a := (p.getD c 0 : Int)) (b := v.2.2) (A := 12) (B := 48000) (by omega) (by omega)
            unfold w_X_apart_L44
            rw [X_r16_2 m3, X_r16_9 m3, c3.2.1.2.2.1]
            refine ⟨X_k16 m3, c3.2.1.1.1, fun y => absurd y (nI_ge (b := n) (by omega) (by omega)), fun _ => ⟨X_k50 m3, ?_⟩⟩
            unfold w_Op_oftenOf
            rw [X_r50_2 m3, X_n51 m3, ix_nI (by omega), vo.2.2.2.1 c hc]
            refine ⟨X_k50 m3, X_k51 m3, vp_in_nI (by omega) (by omega), ?_⟩
            dsimp only
            rw [X_r16_10 m3]
            refine ⟨X_k16 m3, X_k56 m3, ?_⟩
            unfold w_Cr_upperOf
            rw [X_r56_3 m3, X_k59 m3, X_n59 m3, ix_nI (by omega), b4 c hc]
            refine ⟨X_k56 m3, rfl, vp_in_nI (by omega) (by omega), ?_⟩
            dsimp only
            rw [b3, i_l, nI_toInt (by omega), lI_mul (by omega) (by omega) (by omega), lI_sub (by omega) (by omega)]
            unfold w_JM_abs_JJ
            rw [lI_0le (by omega), nI_1]
            have fini : Dp p v.2.1 v.2.2 (c + 1) = Dp p v.2.1 v.2.2 c + (((p.getD c 0 : Int) * v.2.2 - v.2.1 c).natAbs : Int) := rfl
            refine ⟨fun y => ?_, fun y => ?_⟩
            · dsimp only
              rw [lI_add (by omega) (by omega)]
              exact ih _ (by rw [fini]; congr 1; omega)
            · dsimp only
              rw [lI_neg (by omega), lI_add (by omega) (by omega)]
              exact ih _ (by rw [fini]; congr 1; omega)
