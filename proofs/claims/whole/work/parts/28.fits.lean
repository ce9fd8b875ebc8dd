/-! The reference's knowledge: which told numbers fit -/
variable {h : Hp}
/-- the column that is turned about, by its place: first none -/
def tu : Nat → Int32
  | 0 => -1
  | i + 1 => nI i
theorem tu_1 (i : Nat) : tu i + 1 = nI i := by
  cases i with
  | zero => rfl
  | succ i => exact nI_1 i
theorem tu_ge {i n : Nat} (hi : i < n + 1) (hn : n ≤ 8) : ¬ nI n ≤ tu i := by
  cases i with
  | zero =>
    show ¬ nI n ≤ -1
    intro z
    rw [Int32.le_iff_toInt_le, nI_toInt (by omega), show (-1 : Int32).toInt = -1 from rfl] at z
    omega
  | succ i => exact nI_ge (by omega) (by omega)
def tS (g : Nat → Int32) (p : List Nat) (n k : Nat) (v : Int32) : Int32 := sm (fun c => nI (p.getD c 0) * (if nI c = v then -(g (3 * c + k)) else g (3 * c + k))) n
theorem t_M_toldSum {r n k : Nat} {p : List Nat} {v : Int32} {Q : Int32 → Hp → Prop} (hM : Mrc h r n) (hp : AtP h p) (hk : k < 3) (hq : Q (tS (gI h 84) p n k v) h) : w_M_toldSum 81 (nI k) v h Q := by
  obtain ⟨a1, a2, a3⟩ := M_plan hM.1
  obtain ⟨b1, b2, b3⟩ := M_toldNow hM.1
  have hn := hM.2.2.2.2.2
  unfold w_M_toldSum
  refine loop_0 (fun m i (s : Int32) => w_M_toldSum_L5 Q 81 (nI k) v m s (nI i) h) (fun i s => s = sm (fun c => nI (p.getD c 0) * (if nI c = v then -(gI h 84 (3 * c + k)) else gI h 84 (3 * c + k))) i) n 0 rfl ?_ ?_
  · rintro m s rfl
    unfold w_M_toldSum_L5
    exact ⟨M_K hM.1, fun _ => hq, fun a => absurd (loop_le hM.2.2.1) a⟩
  · rintro m i s hi rfl ih
    unfold w_M_toldSum_L5
    refine ⟨M_K hM.1, fun a => absurd (hM.2.2.1 ▸ a) (nI_ge hi (by omega)), fun _ => ?_⟩
    rw [a1, a3, b1, b3, l_3cr, ix_nI (n := i) (by omega), ix_nI (n := 3 * i + k) (by omega), hp i (by omega), nI_1]
    refine ⟨a2, vp_in_nI (by omega) (by omega), fun z => ⟨b2, vp_in_nI (by omega) (by omega), ih _ ?_⟩, fun z => ⟨b2, vp_in_nI (by omega) (by omega), ih _ ?_⟩⟩
    · rw [sm, if_pos z]
    · rw [sm, if_neg z]
def isS (g ss : Nat → Int32) (r n i : Nat) (v : Int32) (p : List Nat) : Bool := allB (fun k => decide (tS g p n k v = ss (3 * i + k))) r
theorem t_M_isSum {r n i : Nat} {p : List Nat} {v : Int32} {Q : Bool → Hp → Prop} (hM : Mrc h r n) (hp : AtP h p) (hi : i < 20) (hq : Q (isS (gI h 84) (gI h 112) r n i v p) h) : w_M_isSum 81 (nI i) v h Q := by
  obtain ⟨b1, b2, b3⟩ := M_seenSum hM.1
  have hr := hM.2.2.2.2.1
  unfold w_M_isSum
  refine loop_0 (fun m k (s : Bool) => w_M_isSum_L5 Q 81 (nI i) v m (b2i s) (nI k) h) (fun k s => s = allB (fun k => decide (tS (gI h 84) p n k v = gI h 112 (3 * i + k))) k) r true rfl ?_ ?_
  · rintro m s rfl
    unfold w_M_isSum_L5
    refine ⟨M_K hM.1, fun _ => ⟨b2i_B _, ?_⟩, fun a => absurd (loop_le hM.2.1) a⟩
    rw [i2b_b2i]
    exact hq
  · rintro m k s hk rfl ih
    unfold w_M_isSum_L5
    refine ⟨M_K hM.1, fun a => absurd (hM.2.1 ▸ a) (nI_ge hk (by omega)), fun _ => ?_⟩
    rw [nI_1]
    cases e : allB (fun k => decide (tS (gI h 84) p n k v = gI h 112 (3 * i + k))) k
    · exact ⟨fun _ => ih false (by rw [allB, e]; rfl), fun z => absurd rfl z⟩
    · refine ⟨fun z => absurd z (by decide), fun _ => t_M_toldSum hM hp (by omega) ⟨M_K hM.1, ?_⟩⟩
      rw [b1, b3, l_3cr, ix_nI (by omega)]
      refine ⟨b2, vp_in_nI (by omega) (by omega), fun z => ?_, fun z => ?_⟩
      · exact ih true (by rw [allB, e, decide_eq_true z]; rfl)
      · exact ih false (by rw [allB, e, decide_eq_false z]; rfl)
def hsS (g st ss : Nat → Int32) (r n : Nat) (v : Int32) (i : Nat) : Bool := (PL n (ix (st i))).any (isS g ss r n i v)
theorem t_M_hasSum {r n i t : Nat} {v : Int32} {Q : Bool → Hp → Prop} (hM : Mrc h r n) (hi : i < 20) (ht : t ≤ 8) (hst : gI h 111 i = nI t) (hq : ∀ h', Fr [88] [] [] [] h h' → Q (hsS (gI h 84) (gI h 111) (gI h 112) r n v i) h') : w_M_hasSum 81 (nI i) v h Q := by
  obtain ⟨b1, b2, b3⟩ := M_seenSteps hM.1
  unfold w_M_hasSum
  rw [b1, b3, ix_nI (by omega), hst]
  unfold hsS at hq
  rw [hst, ix_nI (by omega)] at hq
  refine ⟨M_K hM.1, b2, vp_in_nI (by omega) (by omega), t_M_first hM (by omega) (fun h2 f2 hd => ?_)⟩
  refine plan_run (n := n) (t := t) (fun m v3 s => w_M_hasSum_L11 Q 81 (nI i) v m v3 s) (fun l h' => Fr [88] [] [] [] h h' ∧ l.any (isS (gI h 84) (gI h 112) r n i v) = (PL n t).any (isS (gI h 84) (gI h 112) r n i v)) ?_ ?_ _ (PL_Lp n t) h2 ⟨f2, rfl⟩ hd
  · rintro m h3 ⟨f3, e⟩
    unfold w_M_hasSum_L11
    refine ⟨fun _ => ?_, fun z => absurd rfl z⟩
    have := hq h3 f3
    rw [← e, List.any_nil] at this
    exact this
  · rintro m p l h3 ⟨f3, e⟩ hl hp ih
    have hM3 := fr_Mrc f3 (by decide) (by decide) (by decide) hM
    unfold w_M_hasSum_L11
    refine ⟨fun z => absurd z (by decide), fun _ => ⟨M_K hM3.1, t_M_isSum hM3 hp hi ?_⟩⟩
    rw [fr_I f3 (x := 84) (by decide) (by decide), fr_I f3 (x := 112) (by decide) (by decide)]
    rw [List.any_cons] at e
    refine ⟨fun z => ⟨M_K hM3.1, t_M_next hM3 (by omega) hl hp (fun h4 f4 hd4 => ih h4 ⟨fr_trans f3 f4, ?_⟩ hd4)⟩, fun z => ?_⟩
    · rw [z, Bool.false_or] at e; exact e
    · have := hq h3 f3
      rw [← e, ntf z, Bool.true_or] at this
      exact this
def anyB (F : Nat → Bool) : Nat → Bool
  | 0 => false
  | n + 1 => anyB F n || F n
def trn (g : Nat → Int32) (r : Nat) : Nat → Bool
  | 0 => true
  | c + 1 => anyB (fun k => decide (¬ g (3 * c + k) = 0)) r
theorem t_M_isTurnable {r n i : Nat} {Q : Bool → Hp → Prop} (hM : Mrc h r n) (hi : i < n + 1) (hq : Q (trn (gI h 84) r i) h) : w_M_isTurnable 81 (tu i) h Q := by
  obtain ⟨b1, b2, b3⟩ := M_toldNow hM.1
  have hn := hM.2.2.2.2.2
  have hr := hM.2.2.2.2.1
  unfold w_M_isTurnable
  cases i with
  | zero => exact ⟨fun _ => hq, fun z => absurd rfl z⟩
  | succ c =>
    refine ⟨fun z => ?_, fun _ => ?_⟩
    · have := nI_pos (n := c) (by omega)
      rw [show nI c = -1 from z] at this
      exact absurd (by decide) this
    · refine loop_0 (fun m k (s : Bool) => w_M_isTurnable_L11 Q 81 (nI c) m (b2i s) (nI k) h) (fun k s => s = anyB (fun k => decide (¬ gI h 84 (3 * c + k) = 0)) k) r false rfl ?_ ?_
      · rintro m s rfl
        unfold w_M_isTurnable_L11
        refine ⟨M_K hM.1, fun _ => ⟨b2i_B _, ?_⟩, fun a => absurd (loop_le hM.2.1) a⟩
        rw [i2b_b2i]
        exact hq
      · rintro m k s hk rfl ih
        unfold w_M_isTurnable_L11
        refine ⟨M_K hM.1, fun a => absurd (hM.2.1 ▸ a) (nI_ge hk (by omega)), fun _ => ?_⟩
        rw [nI_1, b1, b3, l_3cr, ix_nI (by omega)]
        cases e : anyB (fun k => decide (¬ gI h 84 (3 * c + k) = 0)) k
        · refine ⟨fun _ => ⟨b2, vp_in_nI (by omega) (by omega), fun z => ?_, fun z => ?_⟩, fun z => absurd rfl z⟩
          · exact ih false (by rw [anyB, e, decide_eq_false (fun g => g z)]; rfl)
          · exact ih true (by rw [anyB, e, decide_eq_true z]; rfl)
        · exact ⟨fun z => absurd z (by decide), fun _ => ih true (by rw [anyB, e]; rfl)⟩
def dCt (ta ua : Nat → Int32) (k : Int32) (i : Nat) : Bool := decide (¬ k < ta i) && (decide (ua i = -1) || decide (¬ ua i ≤ k))
theorem t_M_doesCount {i : Nat} {k : Int32} {Q : Bool → Hp → Prop} (hM : MS h) (hi : i < 20) (hq : Q (dCt (gI h 114) (gI h 115) k i) h) : w_M_doesCount 81 (nI i) k h Q := by
  obtain ⟨a1, a2, a3⟩ := M_toldAt hM
  obtain ⟨b1, b2, b3⟩ := M_untoldAt hM
  unfold w_M_doesCount
  rw [a1, a3, b1, b3, ix_nI (by omega)]
  unfold dCt at hq
  refine ⟨M_K hM, a2, vp_in_nI (by omega) (by omega), fun z => ?_, fun z => ⟨b2, vp_in_nI (by omega) (by omega), fun z2 => ?_, fun z2 => ⟨fun z3 => ?_, fun z3 => ?_⟩⟩⟩
  · rw [decide_eq_false (fun g => g z)] at hq; exact hq
  · rw [decide_eq_true z, decide_eq_true z2] at hq; exact hq
  · rw [decide_eq_true z, decide_eq_false z2, decide_eq_false (fun g => g z3)] at hq; exact hq
  · rw [decide_eq_true z, decide_eq_false z2, decide_eq_true z3] at hq; exact hq
abbrev KT : Type := (Nat → Int32) × (Nat → Int32) × (Nat → Int32) × (Nat → Int32) × (Nat → Int32) × (Nat → Int32)
def kn (h : Hp) : KT := (gI h 84, gI h 111, gI h 112, gI h 113, gI h 114, gI h 115)
def okT (K : KT) (r n : Nat) (k : Int32) (i j : Nat) : Bool := !(dCt K.2.2.2.2.1 K.2.2.2.2.2 k j) || decide (b2i (hsS K.1 K.2.1 K.2.2.1 r n (tu i) j) = K.2.2.2.1 j)
def ftB (K : KT) (r n s : Nat) (k : Int32) (i : Nat) : Bool := trn K.1 r i && allB (okT K r n k i) s
def cntB (F : Nat → Bool) : Nat → Nat
  | 0 => 0
  | n + 1 => cntB F n + (if F n then 1 else 0)
theorem cntB_s (F : Nat → Bool) (n : Nat) : nI (cntB F n) + b2i (F n) = nI (cntB F (n + 1)) := by
  rw [cntB]
  cases F n
  · rw [show b2i false = nI 0 from rfl, nI_add]; rfl
  · rw [show b2i true = nI 1 from rfl, nI_add]; rfl
theorem cntB_le (F : Nat → Bool) (n : Nat) : cntB F n ≤ n := by
  induction n with
  | zero => exact Nat.le_refl _
  | succ n ih => rw [cntB]; split <;> omega
def KS (h : Hp) (s : Nat) : Prop := gI h 81 73 = nI s ∧ s ≤ 20 ∧ ∀ j, j < s → ∃ t, t ≤ 8 ∧ gI h 111 j = nI t
theorem kn_fr {as fs js gs : List Nat} {h h' : Hp} (a : Fr as fs js gs h h') (h1 : 84 ∉ as) (h2 : 111 ∉ as) (h3 : 112 ∉ as) (h4 : 113 ∉ as) (h5 : 114 ∉ as) (h6 : 115 ∉ as) : kn h' = kn h := by
  unfold kn
  rw [fr_I a h1 (by decide), fr_I a h2 (by decide), fr_I a h3 (by decide), fr_I a h4 (by decide), fr_I a h5 (by decide), fr_I a h6 (by decide)]
theorem KS_fr {as fs js gs : List Nat} {h h' : Hp} {s : Nat} (a : Fr as fs js gs h h') (h1 : 81 ∉ as) (h2 : 73 ∉ fs) (h3 : 111 ∉ as) (b : KS h s) : KS h' s := by
  unfold KS
  rw [fr_F a h1 h2, fr_I a h3 (by decide)]
  exact b
theorem t_M_laysFits_in {r n s i : Nat} {k v2 : Int32} {Q : Int32 → Hp → Prop} {k4 : Int32 → Int32 → Hp → Prop} (hM : Mrc h r n) (hS : KS h s) (hi : i < n + 1)
    (hq : ∀ h', Fr [88, 116] [] [] [] h h' → (∀ j, j ≠ i → gI h' 116 j = gI h 116 j) → gI h' 116 i = b2i (ftB (kn h) r n s k i) → k4 (v2 + b2i (ftB (kn h) r n s k i)) (nI i) h') : ∃ m, w_M_laysFits_L22 Q k4 81 k v2 (tu i) m (b2i (trn (gI h 84) r i)) 0 h := by
  obtain ⟨c1, c2, c3⟩ := M_isFit hM.1
  obtain ⟨d1, d2, d3⟩ := M_seenIs hM.1
  have hn := hM.2.2.2.2.2
  have fin : ∀ h1, Fr [88] [] [] [] h h1 → w_M_laysFits_B79 Q k4 81 k v2 (tu i) (b2i (ftB (kn h) r n s k i)) h1 := by
    intro h1 f1
    unfold w_M_laysFits_B79
    rw [fr_R f1, fr_K f1, fr_N f1, c1, c3, tu_1, ix_nI (by omega)]
    refine ⟨M_K hM.1, c2, vp_in_nI (by omega) (by omega), b2i_B _, t_M_truth (hq _ (fr_trans (fr_mono f1 (by simp) (by simp) (by simp) (by simp)) (fr_sI _ _ (Or.inl (by simp)))) (fun j hj => ?_) ?_)⟩
    · rw [gI_sI, if_neg (fun z => hj z.2), fr_I f1 (by decide) (by decide)]
    · rw [gI_sI, if_pos ⟨rfl, rfl⟩]
  have key := loop_0 (fun m j (x : Bool × Hp) => w_M_laysFits_L22 Q k4 81 k v2 (tu i) m (b2i x.1) (nI j) x.2) (fun j x => x.1 = (trn (gI h 84) r i && allB (okT (kn h) r n k i) j) ∧ Fr [88] [] [] [] h x.2 ∧ (x.1 = false → ftB (kn h) r n s k i = false)) s (trn (gI h 84) r i, h) ⟨by rw [allB, Bool.and_true], fr_refl _ _ _ _ _, fun z => by unfold ftB; rw [show trn (kn h).1 r i = false from z, Bool.false_and]⟩ ?_ ?_
  · exact key
  · rintro m ⟨x, h1⟩ ⟨e, f1, -⟩
    have e : x = ftB (kn h) r n s k i := e
    subst e
    unfold w_M_laysFits_L22
    exact ⟨M_K (fr_MS f1 hM.1), fun _ => fin h1 f1, fun z => absurd (loop_le (KS_fr f1 (by decide) (by decide) (by decide) hS).1) z⟩
  · rintro m j ⟨x, h1⟩ hj ⟨e, f1, e2⟩ ih
    have e : x = (trn (gI h 84) r i && allB (okT (kn h) r n k i) j) := e
    have hM1 := fr_Mrc f1 (by decide) (by decide) (by decide) hM
    have hS1 := KS_fr f1 (by decide) (by decide) (by decide) hS
    obtain ⟨t, ht, et⟩ := hS1.2.2 j hj
    have hs20 := hS.2.1
    unfold w_M_laysFits_L22
    refine ⟨M_K hM1.1, fun z => absurd (hS1.1 ▸ z) (nI_ge hj (by omega)), fun _ => ?_⟩
    cases x with
    | false =>
      refine ⟨fun _ => ?_, fun z => absurd rfl z⟩
      have := fin h1 f1
      rw [e2 rfl] at this
      exact this
    | true =>
      have al : ∀ b, okT (kn h) r n k i j = b → (b = (trn (gI h 84) r i && allB (okT (kn h) r n k i) (j + 1))) := by
        rintro b rfl
        rw [allB, ← Bool.and_assoc, ← e, Bool.true_and]
      have ff : okT (kn h) r n k i j = false → ftB (kn h) r n s k i = false := by
        intro z
        unfold ftB
        have : ∀ s, j < s → allB (okT (kn h) r n k i) s = false := by
          intro s
          induction s with
          | zero => intro g; omega
          | succ s ih =>
            intro g
            rw [allB]
            by_cases e3 : j = s
            · rw [← e3, z, Bool.and_false]
            · rw [ih (by omega), Bool.false_and]
        rw [this s hj, Bool.and_false]
      refine ⟨fun z => absurd (show b2i true = 0 from z) (by decide), fun _ => t_M_doesCount hM1.1 (by omega) ⟨fun z => ?_, fun z => ⟨M_K hM1.1, t_M_hasSum hM1 (by omega) ht et (fun h2 f2 => t_M_truth ⟨M_K (fr_MS f2 hM1.1), ?_⟩)⟩⟩⟩
      · rw [nI_1]
        have ok : okT (kn h) r n k i j = true := by
          unfold okT
          rw [fr_I f1 (by decide) (by decide), fr_I f1 (by decide) (by decide)] at z
          rw [show dCt (kn h).2.2.2.2.1 (kn h).2.2.2.2.2 k j = false from z]
          rfl
        exact ih (true, h1) ⟨al true ok, f1, fun z => by cases z⟩
      · have f12 := fr_trans f1 f2
        rw [fr_R f12, fr_K f12, fr_N f12, d1, d3, ix_nI (by omega), fr_I f12 (x := 113) (by decide) (by decide), fr_I f1 (x := 84) (by decide) (by decide), fr_I f1 (x := 111) (by decide) (by decide), fr_I f1 (x := 112) (by decide) (by decide), nI_1]
        rw [fr_I f1 (x := 114) (by decide) (by decide), fr_I f1 (x := 115) (by decide) (by decide)] at z
        have z : dCt (kn h).2.2.2.2.1 (kn h).2.2.2.2.2 k j = true := ntf z
        refine ⟨d2, vp_in_nI (by omega) (by omega), fun y => ?_, fun y => ?_⟩
        · have ok : okT (kn h) r n k i j = true := by
            unfold okT
            rw [z, decide_eq_true (show b2i (hsS (kn h).1 (kn h).2.1 (kn h).2.2.1 r n (tu i) j) = (kn h).2.2.2.1 j from y)]
            rfl
          exact ih (true, h2) ⟨al true ok, f12, fun z => by cases z⟩
        · have ok : okT (kn h) r n k i j = false := by
            unfold okT
            rw [z, decide_eq_false (show ¬ b2i (hsS (kn h).1 (kn h).2.1 (kn h).2.2.1 r n (tu i) j) = (kn h).2.2.2.1 j from y)]
            rfl
          exact ih (false, h2) ⟨al false ok, f12, fun _ => ff ok⟩
theorem t_M_laysFits {r n s : Nat} {k : Int32} {Q : Int32 → Hp → Prop} (hM : Mrc h r n) (hS : KS h s)
    (hq : ∀ h', Fr [88, 116] [] [] [] h h' → (∀ i, i < n + 1 → gI h' 116 i = b2i (ftB (kn h) r n s k i)) → Q (nI (cntB (ftB (kn h) r n s k) (n + 1))) h') : w_M_laysFits 81 k h Q := by
  have hn := hM.2.2.2.2.2
  unfold w_M_laysFits
  have key := loop_0 (fun m i (x : Hp) => w_M_laysFits_L4 Q 81 k m (nI (cntB (ftB (kn h) r n s k) i)) (tu i) x) (fun i x => Fr [88, 116] [] [] [] h x ∧ ∀ j, j < i → gI x 116 j = b2i (ftB (kn h) r n s k j)) (n + 1) h ⟨fr_refl _ _ _ _ _, fun j hj => absurd hj (Nat.not_lt_zero _)⟩ ?_ ?_
  · exact key
  · rintro m h1 ⟨f1, e⟩
    have hM1 := fr_Mrc f1 (by decide) (by decide) (by decide) hM
    unfold w_M_laysFits_L4
    exact ⟨M_K hM1.1, fun _ => hq h1 f1 e, fun z => absurd (loop_le hM1.2.2.1) z⟩
  · rintro m i h1 hi ⟨f1, e⟩ ih
    have hM1 := fr_Mrc f1 (by decide) (by decide) (by decide) hM
    have hS1 := KS_fr f1 (by decide) (by decide) (by decide) hS
    have ek : kn h1 = kn h := kn_fr f1 (by decide) (by decide) (by decide) (by decide) (by decide) (by decide)
    unfold w_M_laysFits_L4
    refine ⟨M_K hM1.1, fun z => absurd (hM1.2.2.1 ▸ z) (tu_ge hi hn), fun _ => t_M_isTurnable hM1 hi (t_M_laysFits_in hM1 hS1 hi (fun h2 f2 e2 e3 => ?_))⟩
    rw [ek] at e3 ⊢
    rw [cntB_s]
    refine ih h2 ⟨fr_trans f1 f2, fun j hj => ?_⟩
    by_cases g : j = i
    · rw [g]; exact e3
    · rw [e2 j g]; exact e j (by omega)
