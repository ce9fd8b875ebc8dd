/-! The class's strip: its face -/
variable {h : Hp}
theorem t_X_isStrip {t w : Int32} {Q : Bool → Hp → Prop} (hq : Q (isSt t w) h) : w_X_isStrip t w h Q := by
  unfold w_X_isStrip
  unfold isSt at hq
  refine t_X_isLength ⟨fun z => by rw [z, Bool.false_and] at hq; exact hq, fun z => ?_⟩
  rw [ntf z, Bool.true_and] at hq
  refine ⟨fun z1 => ?_, fun z1 => ⟨fun z2 => ?_, fun z2 => ?_⟩⟩
  · rw [decide_eq_false (p := 0 ≤ w) (Int32.not_le.mpr z1), Bool.false_and] at hq; exact hq
  · rw [decide_eq_false (p := w ≤ 12) (Int32.not_le.mpr z2), Bool.and_false] at hq; exact hq
  · rw [decide_eq_true (Int32.not_lt.mp z1), decide_eq_true (Int32.not_lt.mp z2)] at hq; exact hq
theorem KZ_fx {f : Nat → Int32} {r n b ρ a : Nat} {as js : List Nat} {h' : Hp} (kt : KZ f r n b ρ a h) (x : Fx as js h h') (h2 : 42 ∉ as) (h3 : 43 ∉ as) (h4 : 44 ∉ as) (j2 : 42 ∉ js) (j6 : 46 ∉ js) (j9 : 49 ∉ js) (j : ∀ y, y ∈ js → y < 120) : KZ f r n b ρ a h' := by
  obtain ⟨rm, k1, k2, k3, k4⟩ := kt
  have f42 : gI h' 42 = gI h 42 := fx_I x h2
  have ea : gL h' a = gL h a := fx_L x (fun q => by
    rcases k2 with k2 | k2
    · rw [k2.1] at q; exact j6 q
    · have := j _ q; omega)
  have ea3 : gL h' (a + 3) = gL h (a + 3) := fx_L x (fun q => by
    rcases k2 with k2 | k2
    · rw [k2.1] at q; exact j9 q
    · have := j _ q; omega)
  refine ⟨RM_fx rm x (by rw [f42]), k1, k2, fun y hy => by rw [ea]; exact k3 y hy, ?_⟩
  rw [f42]
  rcases k4 with k4 | ⟨t, w, s, q1, q2, q3, q4, q5, q6, q7⟩
  · exact Or.inl k4
  · refine Or.inr ⟨t, w, s, q1, q2, q3, q4, q5, q6, fun e => ?_⟩
    obtain ⟨s1, s2, s3, s4, s5, s6⟩ := q7 e
    refine ⟨SB_eq s1 (by rw [f42]) (by rw [f42]) (fx_I x h3) (fx_I x h4), by rw [f42]; exact s2, by rw [fx_L x j2]; exact s3, fun z => by rw [f42]; exact s4 z, fun k' hk' s hs => ?_, s6⟩
    rw [chP_eq ea3]
    exact s5 k' hk' s hs
theorem KZ_up {f f' : Nat → Int32} {r n r' n' b b' ρ a : Nat} (kt : KZ f r n b ρ a h) (hb : b < b') : KZ f' r' n' b' ρ a h := by
  obtain ⟨rm, k1, k2, k3, k4⟩ := kt
  refine ⟨rm, k1, k2, k3, ?_⟩
  rcases k4 with k4 | ⟨t, w, s, q1, q2, q3, q4, q5, q6, q7⟩
  · exact Or.inl k4
  · exact Or.inr ⟨t, w, s, q1, q2, q3, q4, q5, by omega, fun e => absurd e (by omega)⟩
theorem t_X_strip {f : Nat → Int32} {r n b ρ a bc bs : Nat} {t w v : Int32} {Q : Int32 → Hp → Prop} (c0 : CN f r n h) (hX : 120 ≤ gX h) (hb : gI h 21 3 = nI b) (hb2 : b < 2 ^ 31) (kt : KZ f r n b ρ a h) (hbc : csC r ρ ≤ bc) (hbs : csS r ρ ≤ bs) (hq0 : (isSt t w && (decide (0 ≤ v) && decide (v ≤ 1))) = false → Q (-1) h)
    (hq : ∀ h' ρ' a' t' w', t' ≤ 12 → w' ≤ 12 → t = nI t' → w = nI w' → Fz [42, 43, 44, 45] [42] h h' → KZ f r n b ρ' a' h' → ρ' = max ρ (25 ^ r) → (v = 0 → Q (b2i (decide (wz f r n t' w' t' (fun _ => 0) ≠ 0))) h') ∧ (v = 1 → Q (nI (off (lay f r n t' w') (t' + 1))) h')) : w_X_strip bc bs 16 t w v h Q := by
  have m := c0.1
  have hn := c0.2.1.2.2.2.2.2
  unfold w_X_strip
  refine t_X_isStrip ⟨fun z => hq0 (by rw [z]; rfl), fun z => ⟨fun z1 => hq0 (by rw [decide_eq_false (p := 0 ≤ v) (Int32.not_le.mpr z1), Bool.false_and, Bool.and_false]), fun z1 => ⟨fun z2 => ⟨X_k16 m, by omega, ?_⟩, fun z2 => hq0 (by rw [decide_eq_false z2, Bool.and_false, Bool.and_false])⟩⟩⟩
  obtain ⟨t', w', ht, hw, rfl, rfl⟩ := isStrip_nI z
  rw [X_r16_8 m]
  refine ⟨X_k42 m, bc - csC r ρ, bs - csS r ρ, csC r ρ, csS r ρ, by omega, by omega, t_St_sweep c0 hX hb hb2 kt ht hw (Nat.le_refl _) (Nat.le_refl _) (fun h' ρ' a' x kt' vs _ em => ?_)⟩
  have hq := hq h' ρ' a' t' w' ht hw rfl rfl x kt' em
  have m' := fz_XS x m
  have vl := wz_lt (f := f) (r := r) (t := t') (w := w') (m := t') hn ht (fun _ => 0)
  rw [X_r16_8 m', vs.2.1, vs.2.2.1]
  refine ⟨fun z3 => ⟨X_k16 m', X_k42 m', hq.2 z3⟩, fun z3 => ⟨X_k16 m', X_k42 m', fun z4 => ?_, fun z4 => ?_⟩⟩
  · have v0 : v = 0 := by
      obtain ⟨v', hv', rfl⟩ := in_nI (k := 1) (v := v) (M := 1) rfl (by rw [decide_eq_true (Int32.not_lt.mp z1), decide_eq_true z2]; decide)
      have : v' ≠ 1 := fun q => z3 (by rw [q]; rfl)
      rw [show v' = 0 from by omega]
      rfl
    have := hq.1 v0
    rw [decide_eq_false (fun g => g ((lN_le0 (by omega)).mp z4))] at this
    exact this
  · have v0 : v = 0 := by
      obtain ⟨v', hv', rfl⟩ := in_nI (k := 1) (v := v) (M := 1) rfl (by rw [decide_eq_true (Int32.not_lt.mp z1), decide_eq_true z2]; decide)
      have : v' ≠ 1 := fun q => z3 (by rw [q]; rfl)
      rw [show v' = 0 from by omega]
      rfl
    have := hq.1 v0
    rw [decide_eq_true (show wz f r n t' w' t' (fun _ => 0) ≠ 0 from fun g => z4 ((lN_le0 (by omega)).mpr g))] at this
    exact this
theorem t_X_walks {f : Nat → Int32} {r n b ρ a bc bs : Nat} {t w : Int32} {Q : Int64 → Hp → Prop} (c0 : CN f r n h) (hX : 120 ≤ gX h) (hb : gI h 21 3 = nI b) (hb2 : b < 2 ^ 31) (kt : KZ f r n b ρ a h) (hbc : csC r ρ ≤ bc) (hbs : csS r ρ ≤ bs) (hq0 : isSt t w = false → Q (-1) h)
    (hq : ∀ h' ρ' a' t' w', t' ≤ 12 → w' ≤ 12 → t = nI t' → w = nI w' → Fz [42, 43, 44, 45] [42] h h' → KZ f r n b ρ' a' h' → ρ' = max ρ (25 ^ r) → Q (lN (wz f r n t' w' t' (fun _ => 0))) h') : w_X_walks bc bs 16 t w h Q := by
  have m := c0.1
  unfold w_X_walks
  refine t_X_isStrip ⟨fun z => hq0 z, fun z => ⟨X_k16 m, by omega, ?_⟩⟩
  obtain ⟨t', w', ht, hw, rfl, rfl⟩ := isStrip_nI z
  rw [X_r16_8 m]
  refine ⟨X_k42 m, bc - csC r ρ, bs - csS r ρ, csC r ρ, csS r ρ, by omega, by omega, t_St_sweep c0 hX hb hb2 kt ht hw (Nat.le_refl _) (Nat.le_refl _) (fun h' ρ' a' x kt' vs _ em => ?_)⟩
  have m' := fz_XS x m
  rw [X_r16_8 m', vs.2.2.1]
  exact ⟨X_k16 m', X_k42 m', hq h' ρ' a' t' w' ht hw rfl rfl x kt' em⟩
theorem t_X_best {f : Nat → Int32} {r n b ρ a bc bs : Nat} {t w : Int32} {Q : Int32 → Hp → Prop} (c0 : CN f r n h) (hX : 120 ≤ gX h) (hb : gI h 21 3 = nI b) (hb2 : b < 2 ^ 31) (kt : KZ f r n b ρ a h) (hbc : csC r ρ ≤ bc) (hbs : csS r ρ ≤ bs) (hq0 : isSt t w = false → Q (-1000001) h)
    (hq : ∀ h' ρ' a' t' w', t' ≤ 12 → w' ≤ 12 → t = nI t' → w = nI w' → Fz [42, 43, 44, 45] [42] h h' → KZ f r n b ρ' a' h' → ρ' = max ρ (25 ^ r) → Q (if wz f r n t' w' t' (fun _ => 0) ≠ 0 then rz f r n t' w' t' (fun _ => 0) else -1000001) h') : w_X_best bc bs 16 t w h Q := by
  have m := c0.1
  have hn := c0.2.1.2.2.2.2.2
  unfold w_X_best
  refine t_X_isStrip ⟨fun z => hq0 z, fun z => ⟨X_k16 m, by omega, ?_⟩⟩
  obtain ⟨t', w', ht, hw, rfl, rfl⟩ := isStrip_nI z
  rw [X_r16_8 m]
  refine ⟨X_k42 m, bc - csC r ρ, bs - csS r ρ, csC r ρ, csS r ρ, by omega, by omega, t_St_sweep c0 hX hb hb2 kt ht hw (Nat.le_refl _) (Nat.le_refl _) (fun h' ρ' a' x kt' vs _ em => ?_)⟩
  have hq := hq h' ρ' a' t' w' ht hw rfl rfl x kt' em
  have m' := fz_XS x m
  have vl := wz_lt (f := f) (r := r) (t := t') (w := w') (m := t') hn ht (fun _ => 0)
  rw [X_r16_8 m', vs.2.2.1]
  refine ⟨X_k16 m', X_k42 m', fun z4 => ?_, fun z4 => ?_⟩
  · rw [if_neg (fun g => g ((lN_le0 (by omega)).mp z4))] at hq
    exact hq
  · have e0 : wz f r n t' w' t' (fun _ => 0) ≠ 0 := fun g => z4 ((lN_le0 (by omega)).mpr g)
    rw [if_pos e0] at hq
    rw [vs.2.2.2.1 e0]
    exact hq
theorem t_X_step {f : Nat → Int32} {r n b ρ a bc bs : Nat} {t w v : Int32} {Q : Int32 → Hp → Prop} (c0 : CN f r n h) (hX : 120 ≤ gX h) (hb : gI h 21 3 = nI b) (hb2 : b < 2 ^ 31) (kt : KZ f r n b ρ a h) (hbc : csC r ρ ≤ bc) (hbs : csS r ρ ≤ bs) (hq0 : (isSt t w && (decide (0 ≤ v) && decide (v ≤ t - 1))) = false → Q (-1) h)
    (hq : ∀ h' ρ' a' t' w' i, t' ≤ 12 → w' ≤ 12 → i < t' → t = nI t' → w = nI w' → v = nI i → Fz [42, 43, 44, 45] [42] h h' → KZ f r n b ρ' a' h' → ρ' = max ρ (25 ^ r) → Q (if wz f r n t' w' t' (fun _ => 0) = 0 then -1 else nI (bsC f r n t' w' (t' - i - 1) (swk f r n t' w' i))) h') : w_X_step bc bs 16 t w v h Q := by
  have m := c0.1
  have hn := c0.2.1.2.2.2.2.2
  have hr1 := c0.2.1.2.2.2.1
  have hr := c0.2.1.2.2.2.2.1
  unfold w_X_step
  refine t_X_isStrip ⟨fun z => hq0 (by rw [z]; rfl), fun z => ?_⟩
  obtain ⟨t', w', ht, hw, rfl, rfl⟩ := isStrip_nI z
  rw [isIn_inb (by omega)] at hq0
  refine ⟨fun z1 => hq0 (by rw [neg_inb z1, Bool.and_false]), fun z1 => ⟨fun z2 => ⟨X_k16 m, by omega, ?_⟩, fun z2 => hq0 (by rw [(ge_inb (by omega) z1).mp (Int32.not_lt.mp z2), Bool.and_false])⟩⟩
  have ib : inb v t' = true := by
    cases e : inb v t' with
    | true => rfl
    | false => exact absurd z2 (Int32.not_lt.mpr ((ge_inb (by omega) z1).mpr e))
  obtain ⟨i, hi, rfl⟩ := inb_ex (by omega) ib
  rw [X_r16_8 m]
  refine ⟨X_k42 m, bc - csC r ρ, bs - csS r ρ, csC r ρ, csS r ρ, by omega, by omega, t_St_sweep c0 hX hb hb2 kt ht hw (Nat.le_refl _) (Nat.le_refl _) (fun h' ρ' a' x kt' vs e11 em => ?_)⟩
  have hq := fun h' x kt' => hq h' ρ' a' t' w' i ht hw hi rfl rfl rfl x kt' em
  have c' := CN_fz c0 x (by decide) (by decide)
  have m' := c'.1
  have vl := wz_lt (f := f) (r := r) (t := t') (w := w') (m := t') hn ht (fun _ => 0)
  have p1 := pw25 hr1 hr
  have p2 := vs.2.2.2.2.2
  have k2 := kt'.2.2.1
  have k1 := kt'.2.1
  rw [X_r16_8 m', vs.2.2.1]
  refine ⟨X_k16 m', X_k42 m', fun z4 => ?_, fun z4 => ?_⟩
  · have hq := hq h' x kt'
    rw [if_pos ((lN_le0 (by omega)).mp z4)] at hq
    exact hq
  · have e0 : wz f r n t' w' t' (fun _ => 0) ≠ 0 := fun g => z4 ((lN_le0 (by omega)).mpr g)
    refine t_St_columnAt c' kt'.1 (by omega) (by omega) ht hw hi vs e11 e0 (fun h2 x2 => ?_)
    have hq := hq h2 (fz_trans x (fz_fx x2 (by simp) (by simp))) (KZ_fx kt' x2 (by decide) (by decide) (by decide) (by simp) (by simp) (by simp) (by simp))
    rw [if_neg e0] at hq
    exact hq
theorem cs_0 {r ρ : Nat} : csC r (max ρ (25 ^ r)) = 0 ∧ csS r (max ρ (25 ^ r)) = 0 := by
  unfold csC csS
  rw [if_pos (Nat.le_max_right _ _), if_pos (Nat.le_max_right _ _)]
  exact ⟨rfl, rfl⟩
theorem t_X_narrow {f : Nat → Int32} {r n b ρ a bc bs : Nat} {t : Int32} {Q : Int32 → Hp → Prop} (c0 : CN f r n h) (hX : 120 ≤ gX h) (hb : gI h 21 3 = nI b) (hb2 : b < 2 ^ 31) (kt : KZ f r n b ρ a h) (hbc : (∃ t', t' ≤ 12 ∧ t = nI t' ∧ cntL f r n (PL n t') ≠ 0) → csC r ρ ≤ bc ∧ csS r ρ ≤ bs) (hq0 : (decide (0 ≤ t) && decide (t ≤ 12)) = false → Q (-1) h)
    (hq : ∀ h' ρ' a' t', t' ≤ 12 → t = nI t' → Fz [35, 36, 37, 38, 39, 40, 41, 42, 43, 44, 45, 76] [42] h h' → KZ f r n b ρ' a' h' → (cntL f r n (PL n t') = 0 → ρ' = ρ) → (cntL f r n (PL n t') ≠ 0 → ρ' = max ρ (25 ^ r)) → Q (if cntL f r n (PL n t') = 0 then -1 else lst (fun w => decide (wz f r n t' w t' (fun _ => 0) ≠ 0)) 13 0) h') : w_X_narrow bc bs 16 t h Q := by
  have m := c0.1
  have hn := c0.2.1.2.2.2.2.2
  unfold w_X_narrow
  refine t_X_isLength ⟨fun z => hq0 z, fun z => ⟨X_k16 m, ?_⟩⟩
  obtain ⟨t', ht, rfl⟩ := in_nI (k := 12) (v := t) (M := 12) rfl z
  have hle := cntL_le f r n (PL n t')
  have h2 := PL_le (n := n) (t := t') hn (by omega)
  refine t_X_countPlans (en := 1) c0 ht (by omega) (by omega) (fun h1 x1 => ⟨fun z2 => ?_, fun z2 => ?_⟩)
  · have := hq h1 ρ a t' ht rfl (fz_fx x1 (by simp) (by simp)) (KZ_fx kt x1 (by decide) (by decide) (by decide) (by simp) (by simp) (by simp) (by simp)) (fun _ => rfl) (fun q => absurd (by have := (nI_eq (b := 0) (by omega) (by omega)).mp z2; omega) q)
    rw [if_pos (by have := (nI_eq (b := 0) (by omega) (by omega)).mp z2; omega)] at this
    exact this
  · have e0 : cntL f r n (PL n t') ≠ 0 := fun g => z2 (by rw [g]; rfl)
    obtain ⟨hbc, hbs⟩ := hbc ⟨t', ht, rfl, e0⟩
    have key : ∀ d w, w + d = 13 → ∀ s ρ1 a1 bc bs, Fz [35, 36, 37, 38, 39, 40, 41, 42, 43, 44, 45, 76] [42] h s → KZ f r n b ρ1 a1 s → csC r ρ1 ≤ bc → csS r ρ1 ≤ bs → (d = 13 ∧ ρ1 = ρ ∨ ρ1 = max ρ (25 ^ r)) → (∀ h' ρ' a', Fz [35, 36, 37, 38, 39, 40, 41, 42, 43, 44, 45, 76] [42] h h' → KZ f r n b ρ' a' h' → ρ' = max ρ (25 ^ r) → Q (lst (fun w => decide (wz f r n t' w t' (fun _ => 0) ≠ 0)) d w) h') → w_X_narrow_L20 Q 16 (nI t') (d + 1) (nI w) bc bs s := by
      intro d
      induction d with
      | zero =>
        intro w hw s ρ1 a1 bc bs xs kts hbc hbs hρ hq
        unfold w_X_narrow_L20
        exact ⟨fun _ => hq s ρ1 a1 xs kts (by omega), fun z => absurd (nI_lt (a := 12) (by omega) (by omega)) z⟩
      | succ d ih =>
        intro w hw s ρ1 a1 bc bs xs kts hbc hbs hρ hq
        have cs := CN_fz c0 xs (by decide) (by decide)
        have ms := cs.1
        have Xs := xs.1
        unfold w_X_narrow_L20
        rw [X_r16_8 ms]
        refine ⟨fun z => absurd z (nI_nlt (a := 12) (b := w) (by omega) (by omega)), fun _ => ⟨X_k16 ms, by omega, X_k42 ms, bc - csC r ρ1, bs - csS r ρ1, csC r ρ1, csS r ρ1, by omega, by omega, t_St_sweep cs (by omega) (by rw [fz_I xs (by decide) (by decide)]; exact hb) hb2 kts ht (by omega) (Nat.le_refl _) (Nat.le_refl _) (fun h3 ρ3 a3 x3 kt3 vs3 _ em => ?_)⟩⟩
        have xs3 := fz_trans xs (fz_mono (as' := [35, 36, 37, 38, 39, 40, 41, 42, 43, 44, 45, 76]) (js' := [42]) x3 (by simp) (by simp))
        have m3 := fz_XS x3 ms
        have vl := wz_lt (f := f) (r := r) (t := t') (w := w) (m := t') hn ht (fun _ => 0)
        have c3 : csC r ρ3 = 0 ∧ csS r ρ3 = 0 := by rw [em]; exact cs_0
        have e3 : ρ3 = max ρ (25 ^ r) := by omega
        rw [X_r16_8 m3, vs3.2.2.1, nI_1 w]
        refine ⟨X_k16 m3, X_k42 m3, fun z4 => ?_, fun z4 => ?_⟩
        · refine ih (w + 1) (by omega) h3 ρ3 a3 _ _ xs3 kt3 (by omega) (by omega) (Or.inr e3) (fun h' ρ' a' x' k' e' => ?_)
          have := hq h' ρ' a' x' k' e'
          rw [lst, decide_eq_false (fun g => g ((lN_le0 (by omega)).mp z4))] at this
          exact this
        · have := hq h3 ρ3 a3 xs3 kt3 e3
          rw [lst, decide_eq_true (show wz f r n t' w t' (fun _ => 0) ≠ 0 from fun g => z4 ((lN_le0 (by omega)).mpr g))] at this
          exact this
    refine ⟨14, key 13 0 (by omega) h1 ρ a bc bs (fz_fx x1 (by simp) (by simp)) (KZ_fx kt x1 (by decide) (by decide) (by decide) (by simp) (by simp) (by simp) (by simp)) hbc hbs (Or.inl ⟨rfl, rfl⟩) (fun h' ρ' a' x' k' e' => ?_)⟩
    have := hq h' ρ' a' t' ht rfl x' k' (fun q => absurd q e0) (fun _ => e')
    rw [if_neg e0] at this
    exact this
