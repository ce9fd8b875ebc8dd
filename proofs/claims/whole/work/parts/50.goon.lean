/-! The reference's next token -/
variable {h : Hp}
/-- the text that is read -/
def TX (B : Nat → Int32) (N : Nat) (h : Hp) : Prop := N ≤ 700 ∧ gI h 81 2 = nI N ∧ ∀ i, i < N → gI h 82 i = B i ∧ 0 ≤ B i
/-- the token that is looked at -/
def RT (B : Nat → Int32) (N p : Nat) (h : Hp) : Prop := gI h 81 3 = nI (sp B N p) ∧ gI h 81 4 = nI (pl B N p) ∧ gI h 81 5 = nI (kd B N p) ∧ (kd B N p = 2 → gI h 81 6 = vl B N p) ∧ (kd B N p = 1 → gL h 81 11 = lN (pkR (wd B N p)))
theorem TX_fr {B : Nat → Int32} {N : Nat} {as fs js gs : List Nat} {h' : Hp} (o : TX B N h) (f : Fr as fs js gs h h') (h1 : 81 ∉ as) (h2 : 82 ∉ as) (h3 : 2 ∉ fs) : TX B N h' := by
  refine ⟨o.1, (fr_F f h1 h3).trans o.2.1, ?_⟩
  rw [fr_I f (x := 82) h2 (by decide)]
  exact o.2.2
theorem t_M_here {B : Nat → Int32} {N a k : Nat} {Q : Int32 → Hp → Prop} (hM : MS h) (o : TX B N h) (ha : gI h 81 3 = nI a) (hk : a + k < 2000) (hq : Q (ch B N (a + k)) h) : w_M_here 81 (nI k) h Q := by
  obtain ⟨a1, a2, a3⟩ := M_tape hM
  have hN := o.1
  unfold w_M_here
  rw [o.2.1, ha, nI_add, a1, a3]
  refine ⟨M_K hM, fun z => ?_, fun z => ?_⟩
  · rw [ch_ge ((nI_leI (by omega) (by omega)).mp z)] at hq
    exact hq
  · have g : a + k < N := Nat.lt_of_not_le (fun g => z (nI_le g (by omega)))
    rw [ix_nI (by omega), (o.2.2 _ g).1]
    unfold ch at hq
    rw [if_pos g] at hq
    exact ⟨a2, vp_in_nI (by omega) (by omega), hq⟩
theorem t_M_isLetter {c : Int32} {Q : Bool → Hp → Prop} (hq : Q (isLb c) h) : w_M_isLetter c h Q := by
  unfold w_M_isLetter
  unfold isLb at hq
  refine ⟨fun z => ?_, fun z => ⟨fun y => ?_, fun y => ?_⟩⟩
  · rw [decide_eq_false (fun g => g z)] at hq; exact hq
  · rw [decide_eq_false (p := ¬ 122 < c) (fun g => g y), Bool.and_false] at hq; exact hq
  · rw [decide_eq_true (p := ¬ c < 97) z, decide_eq_true (p := ¬ 122 < c) y] at hq; exact hq
theorem t_M_isDigit {c : Int32} {Q : Bool → Hp → Prop} (hq : Q (isDb c) h) : w_M_isDigit c h Q := by
  unfold w_M_isDigit
  unfold isDb at hq
  refine ⟨fun z => ?_, fun z => ⟨fun y => ?_, fun y => ?_⟩⟩
  · rw [decide_eq_false (fun g => g z)] at hq; exact hq
  · rw [decide_eq_false (p := ¬ 57 < c) (fun g => g y), Bool.and_false] at hq; exact hq
  · rw [decide_eq_true (p := ¬ c < 48) z, decide_eq_true (p := ¬ 57 < c) y] at hq; exact hq
theorem t_goOn_L78 {B : Nat → Int32} {N a : Nat} {h0 : Hp} {Q : Hp → Prop} (hM : MS h0) (o : TX B N h0) (f0 : Fr [] [3, 4, 5, 6] [] [11] h0 h) (ha : gI h 81 3 = nI a) (haN : a ≤ N) (h4 : gI h 81 4 = nI a) (hw : gL h 81 11 = 0)
    (hq : ∀ h', Fr [] [3, 4, 5, 6] [] [11] h0 h' → gI h' 81 3 = nI (ru isLb B N a) → gI h' 81 4 = nI a → gI h' 81 5 = nI (if ru isLb B N a - a ≤ 8 then 1 else 5) → (ru isLb B N a - a ≤ 8 → gL h' 81 11 = lN (pkR (wr B a (ru isLb B N a - a)))) → Q h') : ∃ m, w_M_goOn_L78 Q 81 m 0 h := by
  have hN := o.1
  obtain ⟨r1, r2, r3, r4⟩ := ru_sp isL_f (B := B) (N := N) a
  have r2 := r2 haN
  refine loop_0 (fun m n s => w_M_goOn_L78 Q 81 m (nI n) s) (fun n s => Fr [] [3, 4, 5, 6] [] [11] h0 s ∧ gI s 81 3 = nI a ∧ gI s 81 4 = nI a ∧ gL s 81 11 = lN (pkR (wr B a (min n 8)))) (ru isLb B N a - a) _ ⟨f0, ha, h4, hw⟩ ?_ ?_
  · rintro m s ⟨f, e3, e4, ew⟩
    have hM1 := fr_MS f hM
    have o1 := TX_fr o f (by decide) (by decide) (by decide)
    unfold w_M_goOn_L78
    refine ⟨M_K hM1, t_M_here hM1 o1 e3 (by omega) (t_M_isLetter ?_)⟩
    rw [show a + (ru isLb B N a - a) = ru isLb B N a from by omega, r4]
    refine ⟨fun _ => ?_, fun z => absurd rfl z⟩
    have fin : ∀ v, v = nI (if ru isLb B N a - a ≤ 8 then 1 else 5) → w_M_goOn_B131 Q 81 (nI (ru isLb B N a - a)) 81 v s := fun v hv => by
      unfold w_M_goOn_B131
      rw [gI_sI, if_neg (by decide), e3, nI_add, show a + (ru isLb B N a - a) = ru isLb B N a from by omega]
      refine ⟨M_K hM1, M_K hM1, hq _ (fr_trans (fr_trans f (fr_sI _ _ (Or.inr ⟨rfl, by simp⟩))) (fr_sI _ _ (Or.inr ⟨rfl, by simp⟩))) ?_ ?_ ?_ (fun g => ?_)⟩
      · rw [gI_sI, if_pos ⟨rfl, rfl⟩]
      · rw [gI_sI, if_neg (by decide), gI_sI, if_neg (by decide)]; exact e4
      · rw [gI_sI, if_neg (by decide), gI_sI, if_pos ⟨rfl, rfl⟩]; exact hv
      · rw [gL_sI, gL_sI, ew, Nat.min_eq_left g]
    refine ⟨fun z => fin 1 ?_, fun z => fin 5 ?_⟩
    · rw [if_pos ((nI_leI (b := 8) (by omega) (by omega)).mp z)]; rfl
    · rw [if_neg (fun g => z (nI_le (b := 8) g (by omega)))]; rfl
  · rintro m n s hn ⟨f, e3, e4, ew⟩ ih
    have hM1 := fr_MS f hM
    have o1 := TX_fr o f (by decide) (by decide) (by decide)
    have ht := r3 (a + n) (by omega) (by omega)
    have hin := in_N isL_f ht
    unfold w_M_goOn_L78
    refine ⟨M_K hM1, t_M_here hM1 o1 e3 (by omega) (t_M_isLetter ?_)⟩
    rw [ht, nI_1]
    refine ⟨fun z => absurd z (by decide), fun _ => ⟨fun z => ih s ⟨f, e3, e4, ?_⟩, fun z => ⟨M_K hM1, t_M_here hM1 o1 e3 (by omega) ⟨M_K hM1, ih _ ⟨fr_trans f (fr_sL _ _ (Or.inr ⟨rfl, by simp⟩)), ?_, ?_, ?_⟩⟩⟩⟩⟩
    · have := (nI_leI (a := 8) (by omega) (by omega)).mp z
      rw [ew, Nat.min_eq_right (by omega), Nat.min_eq_right (by omega)]
    · rw [gI_sL]; exact e3
    · rw [gI_sL]; exact e4
    · have : ¬ 8 ≤ n := fun g => z (nI_le (a := 8) g (by omega))
      obtain ⟨x, x1, x2, x3, x4⟩ := isLb_nI ht
      rw [gL_sL, if_pos ⟨rfl, rfl⟩, ew, x3, nI_l (by omega), lN_or8 (by omega), Nat.min_eq_left (by omega), Nat.min_eq_left (by omega), wr, pkR]
      unfold ch at x4
      rw [if_pos hin] at x4
      rw [x4]
theorem t_goOn_L148 {B : Nat → Int32} {N a : Nat} {h0 : Hp} {Q : Hp → Prop} (hM : MS h0) (o : TX B N h0) (f0 : Fr [] [3, 4, 5, 6] [] [11] h0 h) (ha : gI h 81 3 = nI a) (haN : a ≤ N) (h4 : gI h 81 4 = nI a) (h6 : gI h 81 6 = 0)
    (hq : ∀ h', Fr [] [3, 4, 5, 6] [] [11] h0 h' → gI h' 81 3 = nI (ru isDb B N a) → gI h' 81 4 = nI a → gI h' 81 5 = nI (if ru isDb B N a - a ≤ 3 ∧ isLb (ch B N (ru isDb B N a)) = false then 2 else 5) → gI h' 81 6 = vdN B a (min 3 (ru isDb B N a - a)) → Q h') : ∃ m, w_M_goOn_L148 Q 81 m 0 h := by
  have hN := o.1
  obtain ⟨r1, r2, r3, r4⟩ := ru_sp isD_f (B := B) (N := N) a
  have r2 := r2 haN
  refine loop_0 (fun m n s => w_M_goOn_L148 Q 81 m (nI n) s) (fun n s => Fr [] [3, 4, 5, 6] [] [11] h0 s ∧ gI s 81 3 = nI a ∧ gI s 81 4 = nI a ∧ gI s 81 6 = vdN B a (min 3 n)) (ru isDb B N a - a) _ ⟨f0, ha, h4, h6⟩ ?_ ?_
  · rintro m s ⟨f, e3, e4, ew⟩
    have hM1 := fr_MS f hM
    have o1 := TX_fr o f (by decide) (by decide) (by decide)
    unfold w_M_goOn_L148
    refine ⟨M_K hM1, t_M_here hM1 o1 e3 (by omega) (t_M_isDigit ?_)⟩
    rw [show a + (ru isDb B N a - a) = ru isDb B N a from by omega, r4]
    refine ⟨fun _ => ?_, fun z => absurd rfl z⟩
    have fin : ∀ v, v = nI (if ru isDb B N a - a ≤ 3 ∧ isLb (ch B N (ru isDb B N a)) = false then 2 else 5) → w_M_goOn_B212 Q 81 (nI (ru isDb B N a - a)) 81 v s := fun v hv => by
      unfold w_M_goOn_B212
      rw [gI_sI, if_neg (by decide), e3, nI_add, show a + (ru isDb B N a - a) = ru isDb B N a from by omega]
      refine ⟨M_K hM1, M_K hM1, hq _ (fr_trans (fr_trans f (fr_sI _ _ (Or.inr ⟨rfl, by simp⟩))) (fr_sI _ _ (Or.inr ⟨rfl, by simp⟩))) ?_ ?_ ?_ ?_⟩
      · rw [gI_sI, if_pos ⟨rfl, rfl⟩]
      · rw [gI_sI, if_neg (by decide), gI_sI, if_neg (by decide)]; exact e4
      · rw [gI_sI, if_neg (by decide), gI_sI, if_pos ⟨rfl, rfl⟩]; exact hv
      · rw [gI_sI, if_neg (by decide), gI_sI, if_neg (by decide)]; exact ew
    unfold w_M_goOn_B207
    refine ⟨fun z => fin 5 ?_, fun z => ⟨M_K hM1, t_M_here hM1 o1 e3 (by omega) (t_M_isLetter ?_)⟩⟩
    · rw [if_neg (fun g => absurd z (nI_nlt (b := ru isDb B N a - a) (a := 3) g.1 (by omega)))]; rfl
    · have g : ru isDb B N a - a ≤ 3 := Nat.le_of_not_lt (fun g => z (nI_lt (a := 3) g (by omega)))
      rw [show a + (ru isDb B N a - a) = ru isDb B N a from by omega]
      refine ⟨fun y => fin 2 ?_, fun y => fin 5 ?_⟩
      · rw [if_pos ⟨g, y⟩]; rfl
      · rw [if_neg (fun g => y g.2)]; rfl
  · rintro m n s hn ⟨f, e3, e4, ew⟩ ih
    have hM1 := fr_MS f hM
    have o1 := TX_fr o f (by decide) (by decide) (by decide)
    have ht := r3 (a + n) (by omega) (by omega)
    have hin := in_N isD_f ht
    unfold w_M_goOn_L148
    refine ⟨M_K hM1, t_M_here hM1 o1 e3 (by omega) (t_M_isDigit ?_)⟩
    rw [ht, nI_1]
    refine ⟨fun z => absurd z (by decide), fun _ => ⟨fun z => ih s ⟨f, e3, e4, ?_⟩, fun z => ⟨M_K hM1, t_M_here hM1 o1 e3 (by omega) ⟨M_K hM1, ih _ ⟨fr_trans f (fr_sI _ _ (Or.inr ⟨rfl, by simp⟩)), ?_, ?_, ?_⟩⟩⟩⟩⟩
    · have := (nI_leI (a := 3) (by omega) (by omega)).mp z
      rw [ew, Nat.min_eq_left (by omega), Nat.min_eq_left (by omega)]
    · rw [gI_sI, if_neg (by decide)]; exact e3
    · rw [gI_sI, if_neg (by decide)]; exact e4
    · have : ¬ 3 ≤ n := fun g => z (nI_le (a := 3) g (by omega))
      rw [gI_sI, if_pos ⟨rfl, rfl⟩, ew, Nat.min_eq_right (by omega), Nat.min_eq_right (by omega), vdN]
      unfold ch
      rw [if_pos hin]
theorem t_M_goOn {B : Nat → Int32} {N p : Nat} {Q : Hp → Prop} (hM : MS h) (o : TX B N h) (hp : gI h 81 3 = nI p) (hpN : p ≤ N) (hq : ∀ h', Fr [] [3, 4, 5, 6] [] [11] h h' → RT B N p h' → Q h') : w_M_goOn 81 h Q := by
  have hN := o.1
  obtain ⟨r1, r2, r3, r4⟩ := ru_sp isW_f (B := B) (N := N) p
  have r2 := r2 hpN
  have e0 : pl B N p = ru isWb B N p := rfl
  rw [← e0] at r1 r2 r3 r4
  unfold w_M_goOn
  refine loop_0 (fun m i s => w_M_goOn_L0 Q 81 m s) (fun i s => Fr [] [3, 4, 5, 6] [] [11] h s ∧ gI s 81 3 = nI (p + i)) (pl B N p - p) _ ⟨fr_refl _ _ _ _ _, hp⟩ ?_ ?_
  · rintro m s ⟨f, e3⟩
    have hM1 := fr_MS f hM
    have o1 := TX_fr o f (by decide) (by decide) (by decide)
    rw [show p + (pl B N p - p) = pl B N p from by omega] at e3
    unfold isWb at r4
    rw [Bool.or_eq_false_iff, decide_eq_false_iff_not, decide_eq_false_iff_not] at r4
    unfold w_M_goOn_L0
    refine ⟨M_K hM1, t_M_here (k := 0) hM1 o1 e3 (by omega) ⟨fun z => absurd z r4.1, fun _ => ⟨M_K hM1, t_M_here (k := 0) hM1 o1 e3 (by omega) ⟨fun z => absurd z r4.2, fun _ => ⟨M_K hM1, ?_⟩⟩⟩⟩⟩
    have f2 : Fr [] [3, 4, 5, 6] [] [11] h (sI (sL (sI s 81 4 (gI s 81 3)) 81 11 0) 81 6 0) := fr_trans f (fr_trans (fr_trans (fr_sI _ _ (Or.inr ⟨rfl, by simp⟩)) (fr_sL _ _ (Or.inr ⟨rfl, by simp⟩))) (fr_sI _ _ (Or.inr ⟨rfl, by simp⟩)))
    have hM2 := fr_MS f2 hM
    have o2 := TX_fr o f2 (by decide) (by decide) (by decide)
    have e32 : gI (sI (sL (sI s 81 4 (gI s 81 3)) 81 11 0) 81 6 0) 81 3 = nI (pl B N p) := by rw [gI_sI, if_neg (by decide), gI_sL, gI_sI, if_neg (by decide)]; exact e3
    have e42 : gI (sI (sL (sI s 81 4 (gI s 81 3)) 81 11 0) 81 6 0) 81 4 = nI (pl B N p) := by rw [gI_sI, if_neg (by decide), gI_sL, gI_sI, if_pos ⟨rfl, rfl⟩]; exact e3
    have e62 : gI (sI (sL (sI s 81 4 (gI s 81 3)) 81 11 0) 81 6 0) 81 6 = 0 := by rw [gI_sI, if_pos ⟨rfl, rfl⟩]
    have e11 : gL (sI (sL (sI s 81 4 (gI s 81 3)) 81 11 0) 81 6 0) 81 11 = 0 := by rw [gL_sI, gL_sL, if_pos ⟨rfl, rfl⟩]
    revert f2 hM2 o2 e32 e42 e62 e11
    generalize sI (sL (sI s 81 4 (gI s 81 3)) 81 11 0) 81 6 0 = s2
    intro f2 hM2 o2 e32 e42 e62 e11
    refine t_M_here (k := 0) hM2 o2 e32 (by omega) ?_
    rw [show pl B N p + 0 = pl B N p from rfl]
    refine ⟨fun z => ⟨M_K hM2, t_M_here (k := 0) hM2 o2 e32 (by omega) (t_M_isLetter ?_)⟩, fun z => ⟨M_K hM2, ?_⟩⟩
    · have g : ¬ N ≤ pl B N p := fun g => by
        rw [ch_ge g] at z
        exact absurd z (by decide)
      rw [show pl B N p + 0 = pl B N p from rfl]
      refine ⟨fun y => ⟨M_K hM2, t_M_here (k := 0) hM2 o2 e32 (by omega) (t_M_isDigit ?_)⟩, fun y => ?_⟩
      · rw [show pl B N p + 0 = pl B N p from rfl]
        refine ⟨fun x => ⟨M_K hM2, t_M_here (k := 0) hM2 o2 e32 (by omega) ?_⟩, fun x => ?_⟩
        · rw [show pl B N p + 0 = pl B N p from rfl]
          have ksp : sp B N p = pl B N p + 1 := by unfold sp; rw [if_neg g, if_neg (by rw [y]; decide), if_neg (by rw [x]; decide)]
          have kkd : kd B N p = if ch B N (pl B N p) = 59 then 3 else if ch B N (pl B N p) = 45 then 4 else 5 := by unfold kd; rw [if_neg g, if_neg (by rw [y]; decide), if_neg (by rw [x]; decide)]
          have fin : ∀ v, v = nI (kd B N p) → kd B N p ≠ 1 → kd B N p ≠ 2 → w_M_goOn_B248 Q 81 81 v s2 := fun v hv hn1 hn2 => by
            unfold w_M_goOn_B248
            rw [gI_sI, if_neg (by decide), e32, nI_1, ← ksp]
            refine ⟨M_K hM2, M_K hM2, hq _ (fr_trans (fr_trans f2 (fr_sI _ _ (Or.inr ⟨rfl, by simp⟩))) (fr_sI _ _ (Or.inr ⟨rfl, by simp⟩))) ⟨?_, ?_, ?_, fun g => absurd g hn2, fun g => absurd g hn1⟩⟩
            · rw [gI_sI, if_pos ⟨rfl, rfl⟩]
            · rw [gI_sI, if_neg (by decide), gI_sI, if_neg (by decide)]; exact e42
            · rw [gI_sI, if_neg (by decide), gI_sI, if_pos ⟨rfl, rfl⟩]; exact hv
          refine ⟨fun c => ?_, fun c => ⟨M_K hM2, t_M_here (k := 0) hM2 o2 e32 (by omega) ⟨fun c2 => ?_, fun c2 => ?_⟩⟩⟩
          · rw [if_pos c] at kkd
            exact fin 3 (by rw [kkd]; rfl) (by omega) (by omega)
          · rw [show pl B N p + 0 = pl B N p from rfl] at c2
            rw [if_neg c, if_pos c2] at kkd
            exact fin 4 (by rw [kkd]; rfl) (by omega) (by omega)
          · rw [show pl B N p + 0 = pl B N p from rfl] at c2
            rw [if_neg c, if_neg c2] at kkd
            exact fin 5 (by rw [kkd]; rfl) (by omega) (by omega)
        · have x := ntf x
          have ksp : sp B N p = eD B N p := by unfold sp; rw [if_neg g, if_neg (by rw [y]; decide), if_pos x]
          have kkd : kd B N p = if eD B N p - pl B N p ≤ 3 ∧ isLb (ch B N (eD B N p)) = false then 2 else 5 := by unfold kd; rw [if_neg g, if_neg (by rw [y]; decide), if_pos x]
          refine t_goOn_L148 hM o f2 e32 r2 e42 e62 (fun h' f' k3 k4 k5 k6 => hq h' f' ⟨?_, k4, ?_, fun g => ?_, fun g => ?_⟩)
          · rw [ksp]; exact k3
          · rw [kkd]; exact k5
          · unfold vl
            rw [ksp]
            exact k6
          · rw [kkd] at g
            split at g <;> omega
      · have y := ntf y
        have ksp : sp B N p = eL B N p := by unfold sp; rw [if_neg g, if_pos y]
        have kkd : kd B N p = if eL B N p - pl B N p ≤ 8 then 1 else 5 := by unfold kd; rw [if_neg g, if_pos y]
        refine t_goOn_L78 hM o f2 e32 r2 e42 e11 (fun h' f' k3 k4 k5 k6 => hq h' f' ⟨?_, k4, ?_, fun g => ?_, fun g => ?_⟩)
        · rw [ksp]; exact k3
        · rw [kkd]; exact k5
        · rw [kkd] at g
          split at g <;> omega
        · unfold wd
          rw [ksp]
          refine k6 ?_
          rw [kkd] at g
          by_cases g2 : eL B N p - pl B N p ≤ 8
          · exact g2
          · rw [if_neg g2] at g; omega
    · have g : N ≤ pl B N p := Nat.le_of_not_lt (fun g => z (by
        unfold ch
        rw [if_pos g]
        exact (o2.2.2 _ g).2))
      have ksp : sp B N p = pl B N p := by unfold sp; rw [if_pos g]
      have kkd : kd B N p = 0 := by unfold kd; rw [if_pos g]
      refine hq _ (fr_trans f2 (fr_sI _ _ (Or.inr ⟨rfl, by simp⟩))) ⟨?_, ?_, ?_, fun g => by omega, fun g => by omega⟩
      · rw [gI_sI, if_neg (by decide), ksp]; exact e32
      · rw [gI_sI, if_neg (by decide)]; exact e42
      · rw [gI_sI, if_pos ⟨rfl, rfl⟩, kkd]; rfl
  · rintro m i s hi ⟨f, e3⟩ ih
    have hM1 := fr_MS f hM
    have o1 := TX_fr o f (by decide) (by decide) (by decide)
    have ht := r3 (p + i) (by omega) (by omega)
    unfold isWb at ht
    rw [Bool.or_eq_true, decide_eq_true_eq, decide_eq_true_eq] at ht
    have nx : w_M_goOn_L0 Q 81 m (sI s 81 3 (gI s 81 3 + 1)) := ih _ ⟨fr_trans f (fr_sI _ _ (Or.inr ⟨rfl, by simp⟩)), by rw [gI_sI, if_pos ⟨rfl, rfl⟩, e3, nI_1]; rfl⟩
    unfold w_M_goOn_L0
    refine ⟨M_K hM1, t_M_here (k := 0) hM1 o1 e3 (by omega) ⟨fun z => ⟨M_K hM1, nx⟩, fun z => ⟨M_K hM1, t_M_here (k := 0) hM1 o1 e3 (by omega) ⟨fun y => ⟨M_K hM1, nx⟩, fun y => absurd (ht.resolve_left z) y⟩⟩⟩⟩
