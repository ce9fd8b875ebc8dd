/-! The class knows which columns fit -/
variable {h : Hp}
theorem bit9 : ∀ s, s < 512 → ∀ c, c < 9 → (jshr (nI s) (nI c) &&& 1) = nI (if s.testBit c then 1 else 0) := by decide +kernel
def KX (K : KT) (r n s : Nat) (h : Hp) : Prop := gI h 71 6 = nI s ∧ s ≤ 20 ∧ ∀ j, j < s → gI h 73 j = K.2.2.2.2.1 j ∧ gI h 74 j = K.2.2.2.2.2 j ∧ ∀ i, i ≤ n → bt (gI h 72 j) i = decide (b2i (hsS K.1 K.2.1 K.2.2.1 r n (tu i) j) = K.2.2.2.1 j)
theorem KX_fx {K : KT} {r n s : Nat} {as js : List Nat} {h' : Hp} (a : KX K r n s h) (x : Fx as js h h') (h1 : 71 ∉ as) (h2 : 72 ∉ as) (h3 : 73 ∉ as) (h4 : 74 ∉ as) : KX K r n s h' := by
  unfold KX
  rw [fx_I x h1, fx_I x h2, fx_I x h3, fx_I x h4]
  exact a
theorem anyB_t {F : Nat → Bool} : ∀ {n : Nat}, anyB F n = true ↔ ∃ i, i < n ∧ F i = true := by
  intro n
  induction n with
  | zero => exact ⟨fun z => absurd z (by unfold anyB; decide), fun ⟨i, hi, _⟩ => absurd hi (Nat.not_lt_zero _)⟩
  | succ n ih =>
    unfold anyB
    rw [Bool.or_eq_true, ih]
    constructor
    · rintro (⟨i, hi, e⟩ | e)
      · exact ⟨i, by omega, e⟩
      · exact ⟨n, by omega, e⟩
    · rintro ⟨i, hi, e⟩
      by_cases g : i = n
      · exact Or.inr (by rw [← g]; exact e)
      · exact Or.inl ⟨i, by omega, e⟩
theorem trn_noth {g : Nat → Int32} {r c : Nat} (hr : r ≤ 3) (hZ : ZB g r) (hc : c < 8) : trn g r (c + 1) = !(noth g c) := by
  have e : (noth g c = true) ↔ ∀ j, j < 3 → g (3 * c + j) = 0 := by
    unfold noth
    rw [Bool.and_eq_true, Bool.and_eq_true, decide_eq_true_eq, decide_eq_true_eq, decide_eq_true_eq]
    constructor
    · rintro ⟨⟨e0, e1⟩, e2⟩ j hj
      match j, hj with
      | 0, _ => exact e0
      | 1, _ => exact e1
      | 2, _ => exact e2
    · intro e
      exact ⟨⟨e 0 (by omega), e 1 (by omega)⟩, e 2 (by omega)⟩
  show anyB (fun k => decide (¬ g (3 * c + k) = 0)) r = !(noth g c)
  cases q : noth g c with
  | true =>
    have e := e.mp q
    cases q2 : anyB (fun k => decide (¬ g (3 * c + k) = 0)) r with
    | false => rfl
    | true =>
      obtain ⟨i, hi, z⟩ := anyB_t.mp q2
      exact absurd (e i (by omega)) (of_decide_eq_true z)
  | false =>
    show _ = true
    cases q2 : anyB (fun k => decide (¬ g (3 * c + k) = 0)) r with
    | true => rfl
    | false =>
      have a : ∀ j, j < 3 → g (3 * c + j) = 0 := fun j hj => by
        by_cases g0 : j < r
        · by_cases g1 : g (3 * c + j) = 0
          · exact g1
          · have := anyB_t (F := fun k => decide (¬ g (3 * c + k) = 0)) |>.mpr ⟨j, g0, decide_eq_true g1⟩
            rw [q2] at this
            cases this
        · exact (hZ j (by omega) hj).2 c hc
      rw [e.mpr a] at q
      cases q
/-- the mask of all that fit -/
def MF (K : KT) (r n s : Nat) (k : Int32) (x : Int32) : Prop := ∀ i, bt x i = (decide (i ≤ n) && ftB K r n s k i)
theorem t_Kn_fitting {K : KT} {r n s : Nat} {k : Int32} {Q : Int32 → Hp → Prop} (c0 : CTd K.1 r n h) (kx : KX K r n s h) (hq : ∀ x, MF K r n s k x → Q x h) : w_Kn_fitting 71 k h Q := by
  have m := c0.1
  have hn := c0.2.1.2.2.2.2.2
  have hr := c0.2.1.2.2.2.2.1
  obtain ⟨k1, k2, k3⟩ := kx
  unfold w_Kn_fitting
  refine loop_0 (fun l i (x : Int32) => w_Kn_fitting_L4 Q 71 k l x (nI i) h) (fun i x => ∀ j, bt x j = (decide (j ≤ i) && trn K.1 r j)) n 1 (fun j => ?_) ?_ ?_
  · have : bt 1 j = decide (j = 0) := bt_sh1 (i := 0) (k := j) (by omega)
    rw [this]
    match j with
    | 0 => rfl
    | j + 1 => rw [decide_eq_false (by omega), decide_eq_false (by omega)]; rfl
  · rintro l x e
    unfold w_Kn_fitting_L4
    rw [X_r71_0 m, c0.2.1.2.2.1]
    refine ⟨X_k71 m, X_k19 m, fun _ => ?_, fun z => absurd (Int32.le_refl _) z⟩
    refine loop_0 (fun l i (x : Int32) => w_Kn_fitting_L40 Q 71 k l x (nI i) h) (fun i x => ∀ j, bt x j = (decide (j ≤ n) && (trn K.1 r j && allB (okT K r n k j) i))) s x (fun j => ?_) ?_ ?_
    · rw [e j]
      show _ = (decide (j ≤ n) && (trn K.1 r j && true))
      rw [Bool.and_true]
    · rintro l2 y e2
      unfold w_Kn_fitting_L40
      rw [k1]
      exact ⟨X_k71 m, fun _ => hq y e2, fun z => absurd (Int32.le_refl _) z⟩
    · rintro l2 i y hi e2 ih
      obtain ⟨a1, a2, a3⟩ := k3 i hi
      have keep : ∀ j, j ≤ n → dCt K.2.2.2.2.1 K.2.2.2.2.2 k i = false → okT K r n k j i = true := fun j _ z => by
        unfold okT
        rw [z]
        rfl
      have skip : dCt K.2.2.2.2.1 K.2.2.2.2.2 k i = false → w_Kn_fitting_L40 Q 71 k l2 y (nI i + 1) h := fun z => by
        rw [nI_1]
        refine ih y (fun j => ?_)
        rw [e2 j]
        by_cases g : j ≤ n
        · show _ = (decide (j ≤ n) && (trn K.1 r j && (allB (okT K r n k j) i && okT K r n k j i)))
          rw [keep j g z, Bool.and_true]
        · rw [decide_eq_false g, Bool.false_and, Bool.false_and]
      have take : dCt K.2.2.2.2.1 K.2.2.2.2.2 k i = true → w_Kn_fitting_L40 Q 71 k l2 (y &&& gI h 72 i) (nI i + 1) h := fun z => by
        rw [nI_1]
        refine ih _ (fun j => ?_)
        rw [bt_and, e2 j]
        by_cases g : j ≤ n
        · show _ = (decide (j ≤ n) && (trn K.1 r j && (allB (okT K r n k j) i && okT K r n k j i)))
          have : okT K r n k j i = bt (gI h 72 i) j := by
            rw [a3 j g]
            unfold okT
            rw [z, Bool.not_true, Bool.false_or]
          rw [this, Bool.and_assoc, Bool.and_assoc]
        · rw [decide_eq_false g, Bool.false_and, Bool.false_and, Bool.false_and]
      have B73 : ∀ v, (v = (0 : Int32) ∨ v = 1) → (v = 0 ↔ (gI h 74 i = -1 ∨ ¬ gI h 74 i ≤ k)) → w_Kn_fitting_B73 Q (w_Kn_fitting_L40 Q 71 k l2) 71 k y (nI i) v h := by
        intro v hv ev
        unfold w_Kn_fitting_B73
        rw [X_r71_3 m, X_r71_2 m, X_n73 m, X_n72 m, ix_nI (by omega)]
        refine ⟨X_k71 m, X_k73 m, vp_in_nI (by omega) (by omega), fun z => skip ?_, fun z => ⟨fun z2 => ⟨X_k72 m, vp_in_nI (by omega) (by omega), take ?_⟩, fun z2 => skip ?_⟩⟩
        · unfold dCt
          rw [← a1, decide_eq_false (fun q => q z), Bool.false_and]
        · unfold dCt
          rw [← a1, ← a2, decide_eq_true z, Bool.true_and, Bool.or_eq_true, decide_eq_true_eq, decide_eq_true_eq]
          exact ev.mp z2
        · unfold dCt
          rw [← a1, ← a2, decide_eq_true z, Bool.true_and, Bool.or_eq_false_iff, decide_eq_false_iff_not, decide_eq_false_iff_not]
          have : ¬ (gI h 74 i = -1 ∨ ¬ gI h 74 i ≤ k) := fun q => z2 (ev.mpr q)
          exact ⟨fun q => this (Or.inl q), fun q => this (Or.inr q)⟩
      unfold w_Kn_fitting_L40 w_Kn_fitting_B72
      rw [k1, X_r71_4 m, X_n74 m, ix_nI (by omega)]
      refine ⟨X_k71 m, fun z => absurd z (nI_ge hi (by omega)), fun _ => ⟨X_k74 m, vp_in_nI (by omega) (by omega), fun z => B73 0 (Or.inl rfl) ⟨fun _ => Or.inl z, fun _ => rfl⟩, fun z => ⟨fun z2 => B73 0 (Or.inl rfl) ⟨fun _ => Or.inr (Int32.not_le.mpr z2), fun _ => rfl⟩, fun z2 => B73 1 (Or.inr rfl) ⟨fun q => absurd q (by decide), fun q => ?_⟩⟩⟩⟩
      rcases q with q | q
      · exact absurd q z
      · exact absurd (Int32.not_lt.mp z2) q
  · rintro l i x hi e ih
    unfold w_Kn_fitting_L4
    rw [X_r71_0 m, c0.2.1.2.2.1]
    refine ⟨X_k71 m, X_k19 m, fun z => absurd z (nI_ge hi (by omega)), fun _ => t_Co_isNothing (CO_19 m) (by omega) ?_⟩
    have eg : gI h (19 + 1) = K.1 := c0.2.2.1
    have tn := trn_noth (g := K.1) (c := i) hr c0.2.2.2.2.1 (by omega)
    rw [eg, nI_1]
    refine ⟨fun z => ih _ (fun j => ?_), fun z => ih _ (fun j => ?_)⟩
    · rw [bt_or, bt_sh2 (by omega), e j]
      by_cases g : j = i + 1
      · subst g
        rw [tn, z, decide_eq_true rfl, Bool.or_true, decide_eq_true (Nat.le_refl _)]
        rfl
      · rw [decide_eq_false g, Bool.or_false]
        by_cases g2 : j ≤ i
        · rw [decide_eq_true g2, decide_eq_true (by omega)]
        · rw [decide_eq_false g2, decide_eq_false (by omega)]
    · rw [e j]
      by_cases g : j = i + 1
      · subst g
        rw [tn, ntf z, Bool.not_true, Bool.and_false, Bool.and_false]
      · by_cases g2 : j ≤ i
        · rw [decide_eq_true g2, decide_eq_true (by omega)]
        · rw [decide_eq_false g2, decide_eq_false (by omega)]
theorem cnS_cnt (S : Nat → Bool) : ∀ n, cnS S n = cntB S n := by
  intro n
  induction n with
  | zero => rfl
  | succ n ih =>
    unfold cntB
    unfold cnS at ih ⊢
    unfold mL at ih ⊢
    rw [List.range_succ, List.filter_append, List.length_append, ih]
    congr 1
    cases e : S n with
    | true => rw [List.filter_cons_of_pos e]; rfl
    | false => rw [List.filter_cons_of_neg (by rw [e]; decide)]; rfl
theorem cntB_cut {F G : Nat → Bool} {n : Nat} (e : ∀ i, G i = (decide (i ≤ n) && F i)) : ∀ m, cntB G (n + 1 + m) = cntB F (n + 1) := by
  intro m
  induction m with
  | zero =>
    have : ∀ l, l ≤ n + 1 → cntB G l = cntB F l := fun l => by
      induction l with
      | zero => intro _; rfl
      | succ l ih =>
        intro hl
        unfold cntB
        rw [ih (by omega), e l, decide_eq_true (by omega), Bool.true_and]
    exact this (n + 1) (Nat.le_refl _)
  | succ m ih =>
    show cntB G (n + 1 + m) + (if G (n + 1 + m) then 1 else 0) = _
    rw [ih, e, decide_eq_false (by omega), Bool.false_and]
    rfl
theorem MF_nat {K : KT} {r n s : Nat} {k x : Int32} (hn : n ≤ 8) (a : MF K r n s k x) : ∃ u, u < 512 ∧ x = nI u ∧ (∀ i, u.testBit i = (decide (i ≤ n) && ftB K r n s k i)) ∧ cnS (bS u) 9 = cntB (ftB K r n s k) (n + 1) := by
  obtain ⟨u, h1, h2, h3⟩ := bt_ex (x := x) (fun i hi => by rw [a i, decide_eq_false (by omega), Bool.false_and])
  have h4 : ∀ i, u.testBit i = (decide (i ≤ n) && ftB K r n s k i) := fun i => (h3 i).trans (a i)
  refine ⟨u, h1, h2, h4, ?_⟩
  rw [cnS_cnt]
  have := cntB_cut (F := ftB K r n s k) (G := bS u) (n := n) h4 (8 - n)
  rw [show n + 1 + (8 - n) = 9 from by omega] at this
  exact this
theorem t_X_fits {K : KT} {r n s : Nat} {k : Int32} {Q : Int32 → Hp → Prop} (c0 : CTd K.1 r n h) (kx : KX K r n s h) (hq : Q (nI (cntB (ftB K r n s k) (n + 1))) h) : w_X_fits 16 k h Q := by
  have m := c0.1
  unfold w_X_fits
  rw [X_r16_13 m]
  refine ⟨X_k16 m, X_k71 m, t_Kn_fitting c0 kx (fun x a => ?_)⟩
  obtain ⟨u, u1, u2, u3, u4⟩ := MF_nat c0.2.1.2.2.2.2.2 a
  rw [u2]
  refine t_bitCount u1 ?_
  rw [u4]
  exact hq
/-- the one that is looked for, by its place -/
def fdV (F : Nat → Bool) (v : Int32) : Nat → Nat → Nat → Int32
  | 0, _, _ => -2
  | m + 1, c, q => if F c then (if nI q = v then tu c else fdV F v m (c + 1) (q + 1)) else fdV F v m (c + 1) q
def cntR (F : Nat → Bool) : Nat → Nat → Nat
  | 0, _ => 0
  | m + 1, c => (if F c then 1 else 0) + cntR F m (c + 1)
theorem cntR_s (F : Nat → Bool) : ∀ m c, cntR F (m + 1) c = cntR F m c + (if F (c + m) then 1 else 0) := by
  intro m
  induction m with
  | zero => intro c; show _ + 0 = 0 + _; rw [Nat.add_zero, Nat.zero_add, Nat.add_zero]
  | succ m ih =>
    intro c
    show (if F c then 1 else 0) + cntR F (m + 1) (c + 1) = (if F c then 1 else 0) + cntR F m (c + 1) + _
    rw [ih (c + 1), show c + 1 + m = c + (m + 1) from by omega, Nat.add_assoc]
theorem cntR_B (F : Nat → Bool) : ∀ m, cntR F m 0 = cntB F m := by
  intro m
  induction m with
  | zero => rfl
  | succ m ih =>
    rw [cntR_s, ih, Nat.zero_add]
    rfl
theorem fdV_I {F : Nat → Bool} {i : Nat} (hi : i < 100) : ∀ m c q, q + m < 100 → fdV F (nI i) m c q = fdI F i m c q := by
  intro m
  induction m with
  | zero => intro c q _; rfl
  | succ m ih =>
    intro c q hq
    unfold fdV fdI
    rw [ih (c + 1) (q + 1) (by omega), ih (c + 1) q (by omega)]
    by_cases g : F c = true
    · rw [if_pos g, if_pos g]
      by_cases g2 : q = i
      · rw [if_pos (by rw [g2]), if_pos g2]
      · rw [if_neg (fun e => g2 ((nI_eq (by omega) (by omega)).mp e)), if_neg g2]
    · rw [if_neg g, if_neg g]
theorem fdV_no {F : Nat → Bool} {v : Int32} : ∀ m c q, (∀ q', q ≤ q' → q' < q + cntR F m c → ¬ nI q' = v) → fdV F v m c q = -2 := by
  intro m
  induction m with
  | zero => intro c q _; rfl
  | succ m ih =>
    intro c q hq
    unfold fdV
    unfold cntR at hq
    by_cases g : F c = true
    · rw [if_pos g] at hq ⊢
      rw [if_neg (hq q (Nat.le_refl _) (by omega))]
      exact ih _ _ (fun q' h1 h2 => hq q' (by omega) (by omega))
    · rw [if_neg g] at hq ⊢
      exact ih _ _ (fun q' h1 h2 => hq q' h1 (by omega))
theorem fdV_cut {F G : Nat → Bool} {v : Int32} {n : Nat} (e : ∀ i, G i = (decide (i ≤ n) && F i)) : ∀ m c q d, c + m = n + 1 → fdV G v (m + d) c q = fdV F v m c q := by
  have out : ∀ d c q, n < c → fdV G v d c q = -2 := by
    intro d
    induction d with
    | zero => intro c q _; rfl
    | succ d ih =>
      intro c q hc
      unfold fdV
      rw [e c, decide_eq_false (by omega), Bool.false_and, if_neg (by decide)]
      exact ih _ _ (by omega)
  intro m
  induction m with
  | zero => intro c q d hc; rw [Nat.zero_add]; exact out d c q (by omega)
  | succ m ih =>
    intro c q d hc
    rw [show m + 1 + d = (m + d) + 1 from by omega]
    unfold fdV
    rw [e c, decide_eq_true (by omega), Bool.true_and, ih (c + 1) (q + 1) d (by omega), ih (c + 1) q d (by omega)]
theorem t_X_fit {K : KT} {r n s : Nat} {v k : Int32} {Q : Int32 → Hp → Prop} (c0 : CTd K.1 r n h) (kx : KX K r n s h) (hq : Q (fdV (ftB K r n s k) v (n + 1) 0 0) h) : w_X_fit 16 v k h Q := by
  have m := c0.1
  have hn := c0.2.1.2.2.2.2.2
  unfold w_X_fit
  rw [X_r16_13 m]
  refine ⟨X_k16 m, X_k71 m, t_Kn_fitting c0 kx (fun x a => ?_)⟩
  obtain ⟨u, u1, u2, u3, u4⟩ := MF_nat hn a
  rw [← fdV_cut (G := bS u) u3 (n + 1) 0 0 (8 - n) (by omega), show n + 1 + (8 - n) = 9 from by omega] at hq
  rw [u2]
  have go : ∀ l c q, l + c = 9 → q ≤ c → Q (fdV (bS u) v l c q) h → ∃ f, w_X_fit_L15 Q v (nI u) f (nI q) (nI c) h := by
    intro l
    induction l with
    | zero =>
      intro c q hc _ hq
      refine ⟨1, ?_⟩
      unfold w_X_fit_L15
      have : c = 9 := by omega
      subst this
      exact ⟨fun _ => hq, fun z => absurd (by decide) z⟩
    | succ l ih =>
      intro c q hc hqc hq
      have b9 := bit9 u u1 c (by omega)
      unfold fdV at hq
      by_cases g : bS u c = true
      · rw [if_pos g] at hq
        have g' : u.testBit c = true := g
        rw [if_pos g'] at b9
        by_cases g2 : nI q = v
        · rw [if_pos g2] at hq
          refine ⟨1, ?_⟩
          unfold w_X_fit_L15
          rw [b9, tu_m1]
          exact ⟨fun z => absurd z (nI_nlt (a := 8) (b := c) (by omega) (by omega)), fun _ => ⟨fun z => absurd z (by decide), fun _ => ⟨fun _ => hq, fun z => absurd g2 z⟩⟩⟩
        · rw [if_neg g2] at hq
          obtain ⟨f, hf⟩ := ih (c + 1) (q + 1) (by omega) (by omega) hq
          refine ⟨f + 1, ?_⟩
          unfold w_X_fit_L15
          rw [b9, nI_1, nI_1]
          exact ⟨fun z => absurd z (nI_nlt (a := 8) (b := c) (by omega) (by omega)), fun _ => ⟨fun z => absurd z (by decide), fun _ => ⟨fun z => absurd z g2, fun _ => hf⟩⟩⟩
      · rw [if_neg g] at hq
        have g' : ¬ u.testBit c = true := g
        rw [if_neg g'] at b9
        obtain ⟨f, hf⟩ := ih (c + 1) q (by omega) (by omega) hq
        refine ⟨f + 1, ?_⟩
        unfold w_X_fit_L15
        rw [b9, nI_1]
        exact ⟨fun z => absurd z (nI_nlt (a := 8) (b := c) (by omega) (by omega)), fun _ => ⟨fun _ => hf, fun z => absurd rfl z⟩⟩
  exact go 9 0 0 rfl (Nat.le_refl _) hq
theorem fit_same {F : Nat → Bool} {v : Int32} {n : Nat} (hn : n ≤ 8) : (inb v (cntB F (n + 1)) = false → fdV F v (n + 1) 0 0 = -2) ∧ (∀ i, v = nI i → i < cntB F (n + 1) → fdV F v (n + 1) 0 0 = fdI F i (n + 1) 0 0) := by
  have cb := cntB_le F (n + 1)
  refine ⟨fun z => fdV_no _ _ _ (fun q' _ h2 e => ?_), fun i e hi => ?_⟩
  · rw [cntR_B, Nat.zero_add] at h2
    rw [← e, inb_nI (by omega) h2] at z
    cases z
  · rw [e]
    exact fdV_I (by omega) _ _ _ (by omega)
