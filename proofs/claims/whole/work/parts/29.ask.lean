/-! The reference's fits, fit, ask -/
variable {h : Hp}
theorem t_M_fits {r n s : Nat} {k : Int32} {Q : Int32 → Hp → Prop} (hM : Mrc h r n) (hS : KS h s)
    (hq : ∀ h', Fr [88, 116] [] [] [] h h' → Q (nI (cntB (ftB (kn h) r n s k) (n + 1))) h') : w_M_fits 81 k h Q := by
  unfold w_M_fits
  exact ⟨M_K hM.1, t_M_laysFits hM hS (fun h' f _ => hq h' f)⟩
def fdI (F : Nat → Bool) (i : Nat) : Nat → Nat → Nat → Int32
  | 0, _, _ => -2
  | m + 1, c, q => if F c then (if q = i then tu c else fdI F i m (c + 1) (q + 1)) else fdI F i m (c + 1) q
theorem t_M_fit {r n s : Nat} {v k : Int32} {Q : Int32 → Hp → Prop} (hM : Mrc h r n) (hS : KS h s)
    (hq0 : ∀ h', Fr [88, 116] [] [] [] h h' → inb v (cntB (ftB (kn h) r n s k) (n + 1)) = false → Q (-2) h')
    (hq : ∀ h' i, Fr [88, 116] [] [] [] h h' → v = nI i → i < cntB (ftB (kn h) r n s k) (n + 1) → Q (fdI (ftB (kn h) r n s k) i (n + 1) 0 0) h') : w_M_fit 81 v k h Q := by
  have hn := hM.2.2.2.2.2
  have hcb := cntB_le (ftB (kn h) r n s k) (n + 1)
  unfold w_M_fit
  refine ⟨M_K hM.1, t_M_laysFits hM hS (fun h1 f1 e => ?_)⟩
  have hM1 := fr_Mrc f1 (by decide) (by decide) (by decide) hM
  obtain ⟨c1, c2, c3⟩ := M_isFit hM1.1
  cases ev : inb v (cntB (ftB (kn h) r n s k) (n + 1))
  · refine ⟨1, ?_⟩
    unfold w_M_fit_L12
    refine ⟨M_K hM1.1, fun _ => hq0 h1 f1 ev, fun _ => t_M_isIn ?_⟩
    rw [isIn_inb (by omega), ev]
    exact ⟨fun _ => hq0 h1 f1 ev, fun z => absurd rfl z⟩
  · obtain ⟨i, hi, rfl⟩ := inb_ex (by omega) ev
    have fin := hq h1 i f1 rfl hi
    have key : ∀ m c q, c + m = n + 1 → q ≤ c → Q (fdI (ftB (kn h) r n s k) i m c q) h1 → w_M_fit_L12 Q 81 (nI i) (nI (cntB (ftB (kn h) r n s k) (n + 1))) (m + 1) (nI q) (tu c) h1 := by
      intro m
      induction m with
      | zero =>
        intro c q hc hqc fin
        rw [show c = n + 1 from by omega]
        unfold w_M_fit_L12
        exact ⟨M_K hM1.1, fun _ => fin, fun z => absurd (loop_le hM1.2.2.1) z⟩
      | succ m ih =>
        intro c q hc hqc fin
        unfold w_M_fit_L12
        refine ⟨M_K hM1.1, fun z => absurd (hM1.2.2.1 ▸ z) (tu_ge (by omega) hn), fun _ => t_M_isIn ?_⟩
        rw [isIn_inb (by omega), ev, c1, c3, tu_1, ix_nI (by omega), e c (by omega)]
        rw [fdI] at fin
        refine ⟨fun z => (by cases z), fun _ => ⟨M_K hM1.1, c2, vp_in_nI (by omega) (by omega), fun z => ?_, fun z => ⟨fun y => ?_, fun y => ?_⟩⟩⟩
        · have z : ftB (kn h) r n s k c = false := by
            cases g : ftB (kn h) r n s k c
            · rfl
            · rw [g] at z; exact absurd z (by decide)
          rw [z] at fin
          exact ih (c + 1) q (by omega) (by omega) fin
        · have z : ftB (kn h) r n s k c = true := ntf (fun g => z (by rw [g]; rfl))
          have y := (nI_eq (a := q) (b := i) (by omega) (by omega)).mp y
          rw [z, if_pos rfl, if_pos y] at fin
          exact fin
        · have z : ftB (kn h) r n s k c = true := ntf (fun g => z (by rw [g]; rfl))
          have y : q ≠ i := fun g => y (by rw [g])
          rw [z, if_pos rfl, if_neg y] at fin
          rw [nI_1]
          exact ih (c + 1) (q + 1) (by omega) (by omega) fin
    exact ⟨n + 1 + 1, key (n + 1) 0 0 (by omega) (Nat.le_refl _) fin⟩
/-- whether a plan's first sum is a value, for a turned column -/
def hF (g : Nat → Int32) (n t i : Nat) (v : Int32) : Bool := (PL n t).any (fun p => decide (tS g p n 0 (tu i) = v))
theorem v20 {v : Int32} (z : (decide (-20 ≤ v) && decide (v ≤ 20)) = true) : ∃ x, x < 41 ∧ v + 20 = nI x ∧ v = nI x - 20 := by
  rw [Bool.and_eq_true, decide_eq_true_eq, decide_eq_true_eq, Int32.le_iff_toInt_le, Int32.le_iff_toInt_le, show (-20 : Int32).toInt = -20 from rfl, show (20 : Int32).toInt = 20 from rfl] at z
  have e : (v + 20).toInt = v.toInt + 20 := by
    rw [Jvm.Kit.i32_add (by rw [show (20 : Int32).toInt = 20 from rfl]; omega) (by rw [show (20 : Int32).toInt = 20 from rfl]; omega)]
    rfl
  refine ⟨(v + 20).toInt.toNat, by omega, ?_, ?_⟩
  · rw [← Int32.toInt_inj, nI_toInt (by omega)]
    omega
  · have : nI (v + 20).toInt.toNat = v + 20 := by
      rw [← Int32.toInt_inj, nI_toInt (by omega)]
      omega
    rw [this, Int32.add_sub_cancel]
def vy (y : Nat) : Int32 := nI y - 20
theorem vy_s (y : Nat) : vy y + 1 = vy (y + 1) := by
  unfold vy
  rw [Int32.sub_eq_add_neg, Int32.sub_eq_add_neg, Int32.add_assoc, Int32.add_comm (-20) 1, ← Int32.add_assoc, nI_1]
theorem vy_in : ∀ y, y < 41 → ¬ (20 : Int32) < vy y := by decide
theorem vy_20 {y : Nat} : vy y + 20 = nI y := by
  unfold vy
  rw [Int32.sub_add_cancel]
theorem vy_inj {x y : Nat} (hx : x < 41) (hy : y < 41) (e : vy x = vy y) : x = y := by
  have : nI x = nI y := by rw [← vy_20, ← vy_20, e]
  exact (nI_eq (by omega) (by omega)).mp this
theorem at41 (i x : Nat) : (((41 : Int32) * nI i) + vy x) + 20 = nI (41 * i + x) := by
  rw [Int32.add_assoc, vy_20, show (41 : Int32) = nI 41 from rfl, pk_mul, nI_add]
/-- the marks that stand -/
def MK (h : Hp) (n : Nat) (B : Nat → Nat → Bool) : Prop := ∀ i x, i < n + 1 → x < 41 → gI h 117 (41 * i + x) = b2i (B i x)
theorem t_M_laysFirst_in {r n t : Nat} {p : List Nat} {l : List (List Nat)} {B : Nat → Nat → Bool} {Q : Hp → Prop} {k28 : Int32 → Hp → Prop} (hM : Mrc h r n) (ht : t < 2 ^ 30) (hl : Lp n t (p :: l)) (hp : AtP h p) (hB : MK h n B)
    (hq : ∀ h', Fr [88, 117] [] [] [] h h' → MK h' n (fun i x => B i x || decide (tS (gI h 84) p n 0 (tu i) = vy x)) → hdP h' l → k28 (b2i (!l.isEmpty)) h') : ∃ m, w_M_laysFirst_L34 Q k28 81 m (-1) h := by
  obtain ⟨c1, c2, c3⟩ := M_hasFirst hM.1
  have hn := hM.2.2.2.2.2
  refine loop_0 (fun m i (s : Hp) => w_M_laysFirst_L34 Q k28 81 m (tu i) s) (fun i s => Fr [117] [] [] [] h s ∧ MK s n (fun j x => B j x || (decide (j < i) && decide (tS (gI h 84) p n 0 (tu j) = vy x)))) (n + 1) h ⟨fr_refl _ _ _ _ _, fun i x hi hx => ?_⟩ ?_ ?_
  · dsimp only
    rw [hB i x hi hx, decide_eq_false (Nat.not_lt_zero i), Bool.false_and, Bool.or_false]
  · rintro m s ⟨f, e⟩
    have hMs := fr_Mrc f (by decide) (by decide) (by decide) hM
    unfold w_M_laysFirst_L34
    refine ⟨M_K hMs.1, fun _ => t_M_next hMs ht hl (AtP_fr f (by decide) hp) (fun h2 f2 hd => hq h2 (fr_trans (fr_mono f (by simp) (by simp) (by simp) (by simp)) (fr_mono f2 (by simp) (by simp) (by simp) (by simp))) (fun i x hi hx => ?_) hd), fun z => absurd (loop_le hMs.2.2.1) z⟩
    rw [fr_I f2 (by decide) (by decide), e i x hi hx]
    dsimp only
    rw [decide_eq_true hi, Bool.true_and]
  · rintro m i s hi ⟨f, e⟩ ih
    have hMs := fr_Mrc f (by decide) (by decide) (by decide) hM
    unfold w_M_laysFirst_L34
    refine ⟨M_K hMs.1, fun z => absurd (hMs.2.2.1 ▸ z) (tu_ge hi hn), fun _ => t_M_toldSum (k := 0) hMs (AtP_fr f (by decide) hp) (by omega) (t_M_isIn ?_)⟩
    rw [fr_I f (x := 84) (by decide) (by decide), tu_1]
    refine ⟨fun z => ?_, fun z => ⟨M_K hMs.1, ?_⟩⟩
    · refine ih s ⟨f, fun j x hj hx => ?_⟩
      rw [e j x hj hx]
      dsimp only
      by_cases g : j = i
      · subst g
        have : decide (tS (gI h 84) p n 0 (tu j) = vy x) = false := decide_eq_false (fun y => by
          rw [y] at z
          have h1 : ∀ x, x < 41 → (decide (-20 ≤ vy x) && decide (vy x ≤ 20)) = true := by decide
          rw [h1 x hx] at z
          cases z)
        rw [this, Bool.and_false, Bool.and_false]
      · rw [show decide (j < i + 1) = decide (j < i) from decide_eq_decide.mpr ⟨fun _ => by omega, fun _ => by omega⟩]
    · obtain ⟨x, hx, e1, e2⟩ := v20 (ntf z)
      have e2 : tS (gI h 84) p n 0 (tu i) = vy x := e2
      rw [e2, fr_R f, fr_K f, fr_N f, c1, c3, at41, ix_nI (by omega)]
      refine ⟨c2, vp_in_nI (by omega) (by omega), ih _ ⟨fr_trans f (fr_sI _ _ (Or.inl (by simp))), fun j x' hj hx' => ?_⟩⟩
      rw [gI_sI]
      by_cases g : j = i ∧ x' = x
      · obtain ⟨rfl, rfl⟩ := g
        rw [if_pos ⟨rfl, rfl⟩]
        dsimp only
        rw [show decide (j < j + 1) = true from decide_eq_true (Nat.lt_succ_self j), decide_eq_true e2, Bool.true_and, Bool.or_true]
        rfl
      · rw [if_neg (fun y => g (by omega)), e j x' hj hx']
        dsimp only
        by_cases g2 : j = i
        · subst g2
          have : decide (tS (gI h 84) p n 0 (tu j) = vy x') = false := decide_eq_false (fun y => g ⟨rfl, vy_inj hx' hx (y.symm.trans e2)⟩)
          rw [this, Bool.and_false, Bool.and_false]
        · rw [show decide (j < i + 1) = decide (j < i) from decide_eq_decide.mpr ⟨fun _ => by omega, fun _ => by omega⟩]
theorem t_M_laysFirst {r n t : Nat} {Q : Hp → Prop} (hM : Mrc h r n) (ht : t ≤ 8) (hq : ∀ h', Fr [88, 117] [] [] [] h h' → MK h' n (fun i x => hF (gI h 84) n t i (vy x)) → Q h') : w_M_laysFirst 81 (nI t) h Q := by
  obtain ⟨c1, c2, c3⟩ := M_hasFirst hM.1
  have hn := hM.2.2.2.2.2
  unfold w_M_laysFirst
  refine loop_0 (fun m i (s : Hp) => w_M_laysFirst_L2 Q 81 (nI t) m (nI i) s) (fun i s => Fr [117] [] [] [] h s ∧ ∀ j, j < i → gI s 117 j = 0) 369 h ⟨fr_refl _ _ _ _ _, fun j hj => absurd hj (Nat.not_lt_zero _)⟩ ?_ ?_
  · rintro m s ⟨f, e⟩
    have hMs := fr_Mrc f (by decide) (by decide) (by decide) hM
    unfold w_M_laysFirst_L2
    refine ⟨fun _ => ⟨M_K hMs.1, t_M_first hMs (by omega) (fun h2 f2 hd => ?_)⟩, fun z => absurd (Int32.le_refl _) z⟩
    refine plan_run (n := n) (t := t) (fun m v s => w_M_laysFirst_L28 Q 81 m v s) (fun l h' => Fr [88, 117] [] [] [] h h' ∧ ∃ B, MK h' n B ∧ ∀ i x, (B i x || l.any (fun p => decide (tS (gI h 84) p n 0 (tu i) = vy x))) = hF (gI h 84) n t i (vy x)) ?_ ?_ _ (PL_Lp n t) h2 ⟨fr_trans (fr_mono f (by simp) (by simp) (by simp) (by simp)) (fr_mono f2 (by simp) (by simp) (by simp) (by simp)), fun _ _ => false, fun i x hi hx => ?_, fun i x => rfl⟩ hd
    · rintro m h3 ⟨f3, B, e1, e2⟩
      unfold w_M_laysFirst_L28
      refine ⟨fun _ => hq h3 f3 (fun i x hi hx => ?_), fun z => absurd rfl z⟩
      dsimp only
      rw [e1 i x hi hx, ← e2 i x, List.any_nil, Bool.or_false]
    · rintro m p l h3 ⟨f3, B, e1, e2⟩ hl hp ih
      have hM3 := fr_Mrc f3 (by decide) (by decide) (by decide) hM
      unfold w_M_laysFirst_L28
      refine ⟨fun z => absurd z (by decide), fun _ => t_M_laysFirst_in hM3 (by omega) hl hp e1 (fun h4 f4 e4 hd4 => ih h4 ⟨fr_trans f3 f4, _, e4, fun i x => ?_⟩ hd4)⟩
      rw [fr_I f3 (by decide) (by decide), Bool.or_assoc, ← e2 i x, List.any_cons]
    · rw [fr_I f2 (by decide) (by decide), e _ (by omega)]
      rfl
  · rintro m i s hi ⟨f, e⟩ ih
    unfold w_M_laysFirst_L2
    refine ⟨fun z => absurd z (nI_ge (b := 369) hi (by omega)), fun _ => ?_⟩
    rw [fr_R f, fr_K f, fr_N f, c1, c3, ix_nI (by omega), nI_1]
    refine ⟨M_K hM.1, c2, vp_in_nI hi (by omega), ih _ ⟨fr_trans f (fr_sI _ _ (Or.inl (by simp))), fun j hj => ?_⟩⟩
    rw [gI_sI]
    by_cases e2 : j = i
    · rw [if_pos ⟨rfl, e2⟩]
    · rw [if_neg (fun z => e2 z.2)]
      exact e j (by omega)
def akS (M : Nat) (N : Nat → Nat) (y : Nat) (b : Int32 × Int32) : Int32 × Int32 :=
  if b.1 = -1000001 ∨ gt (nI (N y)) (nI M - nI (N y)) < b.2 then (vy y, gt (nI (N y)) (nI M - nI (N y))) else b
def aks (M : Nat) (N : Nat → Nat) : Nat → Int32 × Int32
  | 0 => (-1000001, 0)
  | y + 1 => akS M N y (aks M N y)
theorem t_M_ask_in {r n M y : Nat} {F : Nat → Bool} {H : Nat → Nat → Bool} {v2 : Int32} {b : Int32 × Int32} {Q : Int32 → Hp → Prop} {k56 : Int32 → Int32 → Int32 → Hp → Prop} (hM : Mrc h r n) (hy : y < 41) (hF : ∀ i, i < n + 1 → gI h 116 i = b2i (F i)) (hH : MK h n H)
    (hq : k56 (akS M (fun y => cntB (fun i => F i && H i y) (n + 1)) y b).1 (akS M (fun y => cntB (fun i => F i && H i y) (n + 1)) y b).2 (vy (y + 1)) h) : ∃ m, w_M_ask_L69 Q k56 81 v2 (nI M) b.1 b.2 (vy y) m 0 (-1) h := by
  obtain ⟨c1, c2, c3⟩ := M_isFit hM.1
  obtain ⟨d1, d2, d3⟩ := M_hasFirst hM.1
  have hn := hM.2.2.2.2.2
  refine loop_0 (fun m i (s : Nat) => w_M_ask_L69 Q k56 81 v2 (nI M) b.1 b.2 (vy y) m (nI s) (tu i) h) (fun i s => s = cntB (fun i => F i && H i y) i) (n + 1) 0 rfl ?_ ?_
  · rintro m s rfl
    unfold akS at hq
    unfold w_M_ask_L69
    refine ⟨M_K hM.1, fun _ => t_M_greater ?_, fun z => absurd (loop_le hM.2.2.1) z⟩
    rw [vy_s]
    refine ⟨fun z => ?_, fun z => ⟨fun z2 => ?_, fun z2 => ?_⟩⟩
    · rw [if_pos (Or.inl z)] at hq; exact hq
    · rw [if_pos (Or.inr z2)] at hq; exact hq
    · rw [if_neg (fun g => g.elim z z2)] at hq; exact hq
  · rintro m i s hi rfl ih
    have step : ∀ c : Bool, (F i && H i y) = c → w_M_ask_B118 Q k56 (w_M_ask_L69 Q k56 81 v2 (nI M) b.1 b.2 (vy y) m) 81 v2 (nI M) b.1 b.2 (vy y) (tu i) (nI (cntB (fun i => F i && H i y) i)) (b2i c) h := by
      rintro c rfl
      unfold w_M_ask_B118
      refine t_M_truth ?_
      rw [show b2i (F i && H i y) = b2i ((fun i => F i && H i y) i) from rfl, cntB_s, tu_1]
      exact ih _ rfl
    unfold w_M_ask_L69
    refine ⟨M_K hM.1, fun z => absurd (hM.2.2.1 ▸ z) (tu_ge hi hn), fun _ => ?_⟩
    rw [tu_1, at41, c1, c3, d1, d3, ix_nI (n := i) (by omega), ix_nI (n := 41 * i + y) (by omega), hF i hi, hH i y hi hy]
    refine ⟨c2, vp_in_nI (by omega) (by omega), fun z => ?_, fun z => ⟨d2, vp_in_nI (by omega) (by omega), fun z2 => ?_, fun z2 => ?_⟩⟩
    · unfold w_M_ask_B117
      refine step false ?_
      cases g : F i
      · rfl
      · rw [g] at z; exact absurd z (by decide)
    · unfold w_M_ask_B117
      refine step false ?_
      cases g : H i y
      · rw [Bool.and_false]
      · rw [g] at z2; exact absurd z2 (by decide)
    · refine step true ?_
      rw [show F i = true from ntf (fun g => z (by rw [g]; rfl)), show H i y = true from ntf (fun g => z2 (by rw [g]; rfl))]
      rfl
def askN (K : KT) (r n s t : Nat) (k : Int32) (y : Nat) : Nat := cntB (fun i => ftB K r n s k i && hF K.1 n t i (vy y)) (n + 1)
theorem t_M_ask {r n s : Nat} {v w k : Int32} {Q : Int32 → Hp → Prop} (hM : Mrc h r n) (hS : KS h s)
    (hq0 : ((decide (0 ≤ v) && decide (v ≤ 8)) && (decide (0 ≤ w) && decide (w ≤ 1))) = false → Q (-1000001) h)
    (hq1 : ∀ h', Fr [88, 116] [] [] [] h h' → cntB (ftB (kn h) r n s k) (n + 1) = 0 → Q (-1000001) h')
    (hq : ∀ h' t, t ≤ 8 → v = nI t → (decide (0 ≤ w) && decide (w ≤ 1)) = true → cntB (ftB (kn h) r n s k) (n + 1) ≠ 0 → Fr [88, 116, 117] [] [] [] h h' → Q (if w = 0 then (aks (cntB (ftB (kn h) r n s k) (n + 1)) (askN (kn h) r n s t k) 41).1 else (aks (cntB (ftB (kn h) r n s k) (n + 1)) (askN (kn h) r n s t k) 41).2) h') : w_M_ask 81 v w k h Q := by
  have hn := hM.2.2.2.2.2
  have hcb := cntB_le (ftB (kn h) r n s k) (n + 1)
  unfold w_M_ask
  refine t_M_isIn ⟨fun z => hq0 (by rw [z]; rfl), fun z => t_M_isIn ⟨fun z2 => hq0 (by rw [z2, Bool.and_false]), fun z2 => ⟨M_K hM.1, t_M_laysFits hM hS (fun h1 f1 e1 => ⟨fun z3 => hq1 h1 f1 ?_, fun z3 => ⟨M_K (fr_MS f1 hM.1), ?_⟩⟩)⟩⟩⟩
  · exact (nI_eq (b := 0) (by omega) (by omega)).mp z3
  · obtain ⟨t, ht, rfl⟩ := in_nI (k := 8) rfl z
    have hM1 := fr_Mrc f1 (by decide) (by decide) (by decide) hM
    refine t_M_laysFirst hM1 ht (fun h2 f2 e2 => ?_)
    have hM2 := fr_Mrc f2 (by decide) (by decide) (by decide) hM1
    rw [fr_I f1 (by decide) (by decide)] at e2
    have e3 : ∀ i, i < n + 1 → gI h2 116 i = b2i (ftB (kn h) r n s k i) := fun i hi => by rw [fr_I f2 (by decide) (by decide)]; exact e1 i hi
    have fin := hq h2 t ht rfl (ntf z2) (fun g => z3 (by rw [g]; rfl)) (fr_trans (fr_mono f1 (by simp) (by simp) (by simp) (by simp)) (fr_mono f2 (by simp) (by simp) (by simp) (by simp)))
    refine loop_0 (fun m y (b : Int32 × Int32) => w_M_ask_L56 Q 81 w (nI (cntB (ftB (kn h) r n s k) (n + 1))) m b.1 b.2 (vy y) h2) (fun y b => b = aks (cntB (ftB (kn h) r n s k) (n + 1)) (askN (kn h) r n s t k) y) 41 (-1000001, 0) rfl ?_ ?_
    · intro m b e
      rw [← show b = aks (cntB (ftB (kn h) r n s k) (n + 1)) (askN (kn h) r n s t k) 41 from e] at fin
      unfold w_M_ask_L56
      refine ⟨fun _ => ⟨fun y => ?_, fun y => ?_⟩, fun y => absurd (by decide) y⟩
      · rw [if_pos y] at fin; exact fin
      · rw [if_neg y] at fin; exact fin
    · rintro m y b hy rfl ih
      unfold w_M_ask_L56
      refine ⟨fun g => absurd g (vy_in y hy), fun _ => t_M_ask_in (F := ftB (kn h) r n s k) (H := fun i x => hF (gI h 84) n t i (vy x)) hM2 hy e3 e2 ?_⟩
      exact ih _ rfl
