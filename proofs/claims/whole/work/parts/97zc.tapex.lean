/-! The class's tape: its tokens -/
variable {h : Hp}
/-- the class's name of a kind -/
def kcl (k : Nat) : Nat := match k with
  | 0 => 0
  | 1 => 2
  | 2 => 3
  | 3 => 5
  | 4 => 4
  | _ => 1
/-- the bytes on the tape -/
def TY (B : Nat → Int32) (N : Nat) (h : Hp) : Prop := N ≤ 700 ∧ gI h 17 1 = nI N ∧ ∀ i, i < N → gI h 18 i = B i
/-- the token that is looked at -/
def RY (B : Nat → Int32) (N p : Nat) (h : Hp) : Prop := gI h 17 2 = nI (kcl (kd B N p)) ∧ gI h 17 3 = nI (pl B N p) ∧ gI h 17 4 = nI (sp B N p)
theorem TY_eq {B : Nat → Int32} {N : Nat} {h' : Hp} (o : TY B N h) (e1 : gI h' 17 1 = gI h 17 1) (e2 : gI h' 18 = gI h 18) : TY B N h' := ⟨o.1, e1.trans o.2.1, by rw [e2]; exact o.2.2⟩
theorem t_Tp_isLetter {B : Nat → Int32} {N i : Nat} {Q : Bool → Hp → Prop} (m : XS h) (o : TY B N h) (hi : i < 2000) (hq : Q (isLb (ch B N i)) h) : w_Tp_isLetter 17 (nI i) h Q := by
  have hN := o.1
  unfold w_Tp_isLetter
  rw [o.2.1, X_r17_0 m, X_n18 m]
  refine ⟨X_k17 m, fun z => ?_, fun z => ?_⟩
  · rw [ch_ge ((nI_leI (by omega) (by omega)).mp z), isL_f] at hq
    exact hq
  · have g : i < N := Nat.lt_of_not_le (fun g => z (nI_le g (by omega)))
    rw [ix_nI (by omega), o.2.2 _ g]
    unfold ch at hq
    rw [if_pos g] at hq
    unfold isLb at hq
    refine ⟨X_k18 m, vp_in_nI (by omega) (by omega), fun z => ?_, fun z => ⟨fun y => ?_, fun y => ?_⟩⟩
    · rw [decide_eq_false (fun g => g z)] at hq; exact hq
    · rw [decide_eq_false (p := ¬ 122 < B i) (fun g => g y), Bool.and_false] at hq; exact hq
    · rw [decide_eq_true (p := ¬ B i < 97) z, decide_eq_true (p := ¬ 122 < B i) y] at hq; exact hq
theorem t_Tp_isDigit {B : Nat → Int32} {N i : Nat} {Q : Bool → Hp → Prop} (m : XS h) (o : TY B N h) (hi : i < 2000) (hq : Q (isDb (ch B N i)) h) : w_Tp_isDigit 17 (nI i) h Q := by
  have hN := o.1
  unfold w_Tp_isDigit
  rw [o.2.1, X_r17_0 m, X_n18 m]
  refine ⟨X_k17 m, fun z => ?_, fun z => ?_⟩
  · rw [ch_ge ((nI_leI (by omega) (by omega)).mp z), isD_f] at hq
    exact hq
  · have g : i < N := Nat.lt_of_not_le (fun g => z (nI_le g (by omega)))
    rw [ix_nI (by omega), o.2.2 _ g]
    unfold ch at hq
    rw [if_pos g] at hq
    unfold isDb at hq
    refine ⟨X_k18 m, vp_in_nI (by omega) (by omega), fun z => ?_, fun z => ⟨fun y => ?_, fun y => ?_⟩⟩
    · rw [decide_eq_false (fun g => g z)] at hq; exact hq
    · rw [decide_eq_false (p := ¬ 57 < B i) (fun g => g y), Bool.and_false] at hq; exact hq
    · rw [decide_eq_true (p := ¬ B i < 48) z, decide_eq_true (p := ¬ 57 < B i) y] at hq; exact hq
theorem s17 {j k : Nat} {v : Int32} (hk : k ≠ j) : gI (sI h 17 j v) 17 k = gI h 17 k := by rw [gI_sI, if_neg (fun q => hk q.2)]
theorem s17e {j : Nat} {v : Int32} : gI (sI h 17 j v) 17 j = v := by rw [gI_sI, if_pos ⟨rfl, rfl⟩]
theorem s18 {j : Nat} {v : Int32} : gI (sI h 17 j v) 18 = gI h 18 := by
  funext k
  rw [gI_sI, if_neg (fun q => absurd q.1 (by decide))]
theorem t_Tp_takeWord {B : Nat → Int32} {N a : Nat} {Q : Hp → Prop} (m : XS h) (o : TY B N h) (h3 : gI h 17 3 = nI a) (h4 : gI h 17 4 = nI a) (ha : a ≤ N) (hq : ∀ h', Fx [17] [] h h' → TY B N h' → gI h' 17 3 = nI a → gI h' 17 4 = nI (ru isLb B N a) → gI h' 17 2 = nI (if ru isLb B N a - a ≤ 8 then 2 else 1) → Q h') : w_Tp_takeWord 17 h Q := by
  have hN := o.1
  have fin : ∀ s, Fx [17] [] h s → TY B N s → gI s 17 3 = nI a → gI s 17 4 = nI (ru isLb B N a) → w_Tp_takeWord_B35 Q 17 s := fun s x os e3 e4 => by
    have ms := fx_XS x m
    have b1 := (ru_sp isL_f (B := B) (N := N) a)
    have b2 := b1.2.1 ha
    have b3 := b1.1
    have end_ : ∀ v, v = nI (if ru isLb B N a - a ≤ 8 then 2 else 1) → Q (sI s 17 2 v) := fun v hv => hq _ (fx_trans x (fx_sI _ _ (by simp))) (TY_eq os (s17 (by decide)) s18) ((s17 (by decide)).trans e3) ((s17 (by decide)).trans e4) (s17e.trans hv)
    unfold w_Tp_takeWord_B35
    rw [e3, e4, pk_sub b3]
    refine ⟨X_k17 ms, fun z => end_ _ ?_, fun z => end_ _ ?_⟩
    · rw [if_neg (fun q => absurd z (nI_nlt (a := 8) q (by omega)))]
      rfl
    · rw [if_pos (Nat.le_of_not_lt (fun q => z (nI_lt (a := 8) q (by omega))))]
      rfl
  have go : ∀ k j, N - j = k → a ≤ j → j ≤ N → rn isLb B N k j = ru isLb B N a → ∀ s, Fx [17] [] h s → TY B N s → gI s 17 3 = nI a → gI s 17 4 = nI j → ∃ q, w_Tp_takeWord_L0 Q 17 q s := by
    intro k
    induction k with
    | zero =>
      intro j hj h1 h2 er s x os e3 e4
      have ms := fx_XS x m
      have ej : j = ru isLb B N a := er
      refine ⟨1, ?_⟩
      unfold w_Tp_takeWord_L0
      rw [os.2.1, e4]
      refine ⟨X_k17 ms, fun _ => fin s x os e3 (by rw [e4, ej]), fun z => absurd (nI_le (by omega) (by omega)) z⟩
    | succ k ih =>
      intro j hj h1 h2 er s x os e3 e4
      have ms := fx_XS x m
      cases hP : isLb (ch B N j) with
      | false =>
        rw [rn, hP, if_neg (by decide)] at er
        refine ⟨1, ?_⟩
        unfold w_Tp_takeWord_L0
        rw [os.2.1, e4]
        refine ⟨X_k17 ms, fun z => absurd z (nI_ge (by omega) (by omega)), fun _ => t_Tp_isLetter ms os (by omega) ⟨fun _ => fin s x os e3 (by rw [e4, er]), fun z => absurd hP z⟩⟩
      | true =>
        rw [rn, hP, if_pos rfl] at er
        obtain ⟨q, hq'⟩ := ih (j + 1) (by omega) (by omega) (by omega) er (sI s 17 4 (nI (j + 1))) (fx_trans x (fx_sI _ _ (by simp))) (TY_eq os (s17 (by decide)) s18) ((s17 (by decide)).trans e3) s17e
        refine ⟨q + 1, ?_⟩
        unfold w_Tp_takeWord_L0
        rw [os.2.1, e4]
        refine ⟨X_k17 ms, fun z => absurd z (nI_ge (by omega) (by omega)), fun _ => t_Tp_isLetter ms os (by omega) ⟨fun z => absurd z (by rw [hP]; decide), fun _ => ⟨X_k17 ms, ?_⟩⟩⟩
        rw [e4, nI_1]
        exact hq'
  unfold w_Tp_takeWord
  exact go (N - a) a rfl (Nat.le_refl _) ha rfl h (fx_refl _ _ _) o h3 h4
theorem t_Tp_takeDigits {B : Nat → Int32} {N a : Nat} {Q : Hp → Prop} (m : XS h) (o : TY B N h) (h3 : gI h 17 3 = nI a) (h4 : gI h 17 4 = nI a) (ha : a ≤ N) (hq : ∀ h', Fx [17] [] h h' → TY B N h' → gI h' 17 3 = nI a → gI h' 17 4 = nI (ru isDb B N a) → gI h' 17 2 = nI (if ru isDb B N a - a ≤ 3 ∧ isLb (ch B N (ru isDb B N a)) = false then 3 else 1) → Q h') : w_Tp_takeDigits 17 h Q := by
  have hN := o.1
  have fin : ∀ s, Fx [17] [] h s → TY B N s → gI s 17 3 = nI a → gI s 17 4 = nI (ru isDb B N a) → w_Tp_takeDigits_B35 Q 17 s := fun s x os e3 e4 => by
    have ms := fx_XS x m
    have b1 := (ru_sp isD_f (B := B) (N := N) a)
    have b2 := b1.2.1 ha
    have b3 := b1.1
    have end_ : ∀ v, v = nI (if ru isDb B N a - a ≤ 3 ∧ isLb (ch B N (ru isDb B N a)) = false then 3 else 1) → Q (sI s 17 2 v) := fun v hv => hq _ (fx_trans x (fx_sI _ _ (by simp))) (TY_eq os (s17 (by decide)) s18) ((s17 (by decide)).trans e3) ((s17 (by decide)).trans e4) (s17e.trans hv)
    unfold w_Tp_takeDigits_B35
    rw [e3, e4, pk_sub b3]
    refine ⟨X_k17 ms, fun z => end_ _ ?_, fun z => t_Tp_isLetter ms os (by omega) ⟨fun y => ⟨X_k17 ms, end_ _ ?_⟩, fun y => ⟨X_k17 ms, end_ _ ?_⟩⟩⟩
    · rw [if_neg (fun q => absurd z (nI_nlt (a := 3) q.1 (by omega)))]
      rfl
    · rw [if_pos ⟨Nat.le_of_not_lt (fun q => z (nI_lt (a := 3) q (by omega))), y⟩]
      rfl
    · rw [if_neg (fun q => y q.2)]
      rfl
  have go : ∀ k j, N - j = k → a ≤ j → j ≤ N → rn isDb B N k j = ru isDb B N a → ∀ s, Fx [17] [] h s → TY B N s → gI s 17 3 = nI a → gI s 17 4 = nI j → ∃ q, w_Tp_takeDigits_L0 Q 17 q s := by
    intro k
    induction k with
    | zero =>
      intro j hj h1 h2 er s x os e3 e4
      have ms := fx_XS x m
      have ej : j = ru isDb B N a := er
      refine ⟨1, ?_⟩
      unfold w_Tp_takeDigits_L0
      rw [os.2.1, e4]
      refine ⟨X_k17 ms, fun _ => fin s x os e3 (by rw [e4, ej]), fun z => absurd (nI_le (by omega) (by omega)) z⟩
    | succ k ih =>
      intro j hj h1 h2 er s x os e3 e4
      have ms := fx_XS x m
      cases hP : isDb (ch B N j) with
      | false =>
        rw [rn, hP, if_neg (by decide)] at er
        refine ⟨1, ?_⟩
        unfold w_Tp_takeDigits_L0
        rw [os.2.1, e4]
        refine ⟨X_k17 ms, fun z => absurd z (nI_ge (by omega) (by omega)), fun _ => t_Tp_isDigit ms os (by omega) ⟨fun _ => fin s x os e3 (by rw [e4, er]), fun z => absurd hP z⟩⟩
      | true =>
        rw [rn, hP, if_pos rfl] at er
        obtain ⟨q, hq'⟩ := ih (j + 1) (by omega) (by omega) (by omega) er (sI s 17 4 (nI (j + 1))) (fx_trans x (fx_sI _ _ (by simp))) (TY_eq os (s17 (by decide)) s18) ((s17 (by decide)).trans e3) s17e
        refine ⟨q + 1, ?_⟩
        unfold w_Tp_takeDigits_L0
        rw [os.2.1, e4]
        refine ⟨X_k17 ms, fun z => absurd z (nI_ge (by omega) (by omega)), fun _ => t_Tp_isDigit ms os (by omega) ⟨fun z => absurd z (by rw [hP]; decide), fun _ => ⟨X_k17 ms, ?_⟩⟩⟩
        rw [e4, nI_1]
        exact hq'
  unfold w_Tp_takeDigits
  exact go (N - a) a rfl (Nat.le_refl _) ha rfl h (fx_refl _ _ _) o h3 h4
theorem t_Tp_advance {B : Nat → Int32} {N p : Nat} {Q : Hp → Prop} (m : XS h) (o : TY B N h) (h4 : gI h 17 4 = nI p) (hp : p ≤ N) (hq : ∀ h', Fx [17] [] h h' → TY B N h' → RY B N p h' → Q h') : w_Tp_advance 17 h Q := by
  have hN := o.1
  have b1 := ru_sp isW_f (B := B) (N := N) p
  have b2 : pl B N p ≤ N := b1.2.1 hp
  have fin : ∀ s, Fx [17] [] h s → TY B N s → gI s 17 3 = nI (pl B N p) → w_Tp_advance_B60 Q 17 s := fun s x os e3 => by
    unfold w_Tp_advance_B60
    rw [e3]
    have x1 : Fx [17] [] h (sI s 17 4 (nI (pl B N p))) := fx_trans x (fx_sI _ _ (by simp))
    have o1 : TY B N (sI s 17 4 (nI (pl B N p))) := TY_eq os (s17 (by decide)) s18
    have f3 : gI (sI s 17 4 (nI (pl B N p))) 17 3 = nI (pl B N p) := (s17 (by decide)).trans e3
    have f4 : gI (sI s 17 4 (nI (pl B N p))) 17 4 = nI (pl B N p) := s17e
    generalize sI s 17 4 (nI (pl B N p)) = s1 at x1 o1 f3 f4 ⊢
    have m1 := fx_XS x1 m
    rw [f3, o1.2.1]
    refine ⟨X_k17 (fx_XS x m), fun z => ?_, fun z => ?_⟩
    · have lt : ¬ N ≤ pl B N p := fun q => absurd z (nI_nlt q (by omega))
      refine t_Tp_isLetter m1 o1 (by omega) ⟨fun zl => ⟨X_k17 m1, ?_⟩, fun zl => ⟨X_k17 m1, t_Tp_takeWord m1 o1 f3 f4 b2 (fun h' x' o' g3 g4 g2 => hq h' (fx_trans x1 x') o' ⟨?_, g3, ?_⟩)⟩⟩
      · have il : ¬ isLb (ch B N (pl B N p)) = true := fun q => by rw [q] at zl; cases zl
        rw [f3]
        refine t_Tp_isDigit m1 o1 (by omega) ⟨fun zd => ⟨X_k17 m1, ?_⟩, fun zd => ⟨X_k17 m1, t_Tp_takeDigits m1 o1 f3 f4 b2 (fun h' x' o' g3 g4 g2 => hq h' (fx_trans x1 x') o' ⟨?_, g3, ?_⟩)⟩⟩
        · have idg : ¬ isDb (ch B N (pl B N p)) = true := fun q => by rw [q] at zd; cases zd
          have ec : ch B N (pl B N p) = B (pl B N p) := if_pos (by omega)
          have es : sp B N p = pl B N p + 1 := by unfold sp; rw [if_neg lt, if_neg il, if_neg idg]
          rw [X_r17_0 m1, X_n18 m1, f3, nI_1]
          have x2 : Fx [17] [] h (sI s1 17 4 (nI (pl B N p + 1))) := fx_trans x1 (fx_sI _ _ (by simp))
          have o2 : TY B N (sI s1 17 4 (nI (pl B N p + 1))) := TY_eq o1 (s17 (by decide)) s18
          have q3 : gI (sI s1 17 4 (nI (pl B N p + 1))) 17 3 = nI (pl B N p) := (s17 (by decide)).trans f3
          have q4 : gI (sI s1 17 4 (nI (pl B N p + 1))) 17 4 = nI (pl B N p + 1) := s17e
          generalize sI s1 17 4 (nI (pl B N p + 1)) = s2 at x2 o2 q3 q4 ⊢
          rw [q3, ix_nI (by omega), o2.2.2 _ (by omega)]
          have end_ : ∀ v, v = nI (kcl (kd B N p)) → Q (sI s2 17 2 v) := fun v hv => hq _ (fx_trans x2 (fx_sI _ _ (by simp))) (TY_eq o2 (s17 (by decide)) s18) ⟨s17e.trans hv, (s17 (by decide)).trans q3, (s17 (by decide)).trans (by rw [q4, es])⟩
          have ek : kd B N p = if B (pl B N p) = 59 then 3 else if B (pl B N p) = 45 then 4 else 5 := by unfold kd; rw [if_neg lt, if_neg il, if_neg idg, ec]
          refine ⟨X_k18 m1, vp_in_nI (by omega) (by omega), fun y => end_ _ ?_, fun y => ⟨fun y2 => end_ _ ?_, fun y2 => end_ _ ?_⟩⟩
          · rw [ek, y, if_neg (by decide), if_pos rfl]; rfl
          · rw [ek, y2, if_pos rfl]; rfl
          · rw [ek, if_neg y2, if_neg y]; rfl
        · have idg := ntf zd
          rw [g2]
          unfold kd eD
          rw [if_neg lt, if_neg il, if_pos idg]
          by_cases g : ru isDb B N (pl B N p) - pl B N p ≤ 3 ∧ isLb (ch B N (ru isDb B N (pl B N p))) = false
          · rw [if_pos g, if_pos g]; rfl
          · rw [if_neg g, if_neg g]; rfl
        · rw [g4]
          unfold sp eD
          rw [if_neg lt, if_neg il, if_pos (ntf zd)]
      · have il := ntf zl
        rw [g2]
        unfold kd eL
        rw [if_neg lt, if_pos il]
        by_cases g : ru isLb B N (pl B N p) - pl B N p ≤ 8
        · rw [if_pos g, if_pos g]; rfl
        · rw [if_neg g, if_neg g]; rfl
      · rw [g4]
        unfold sp eL
        rw [if_neg lt, if_pos (ntf zl)]
    · have ge : N ≤ pl B N p := Nat.le_of_not_lt (fun q => z (nI_lt q (by omega)))
      refine hq _ (fx_trans x1 (fx_sI _ _ (by simp))) (TY_eq o1 (s17 (by decide)) s18) ⟨s17e.trans ?_, (s17 (by decide)).trans f3, (s17 (by decide)).trans ?_⟩
      · unfold kd
        rw [if_pos ge]
        rfl
      · rw [f4]
        unfold sp
        rw [if_pos ge]
  have go : ∀ k j, N - j = k → p ≤ j → j ≤ N → rn isWb B N k j = pl B N p → ∀ s, Fx [17] [] h s → TY B N s → gI s 17 3 = nI j → ∃ q, w_Tp_advance_L8 Q 17 q s := by
    intro k
    induction k with
    | zero =>
      intro j hj h1 h2 er s x os e3
      have ms := fx_XS x m
      have ej : j = pl B N p := er
      refine ⟨1, ?_⟩
      unfold w_Tp_advance_L8
      rw [os.2.1, e3]
      refine ⟨X_k17 ms, fun _ => fin s x os (by rw [e3, ej]), fun z => absurd (nI_le (by omega) (by omega)) z⟩
    | succ k ih =>
      intro j hj h1 h2 er s x os e3
      have ms := fx_XS x m
      have ec : ch B N j = B j := if_pos (by omega)
      cases hP : isWb (ch B N j) with
      | false =>
        rw [rn, hP, if_neg (by decide)] at er
        rw [ec] at hP
        unfold isWb at hP
        rw [Bool.or_eq_false_iff, decide_eq_false_iff_not, decide_eq_false_iff_not] at hP
        refine ⟨1, ?_⟩
        unfold w_Tp_advance_L8
        rw [os.2.1, e3, X_r17_0 ms, X_n18 ms, ix_nI (by omega), os.2.2 _ (by omega)]
        exact ⟨X_k17 ms, fun z => absurd z (nI_ge (by omega) (by omega)), fun _ => ⟨X_k18 ms, vp_in_nI (by omega) (by omega), fun z => absurd z hP.1, fun _ => ⟨fun z => absurd z hP.2, fun _ => fin s x os (by rw [e3, er])⟩⟩⟩
      | true =>
        rw [rn, hP, if_pos rfl] at er
        obtain ⟨q, hq'⟩ := ih (j + 1) (by omega) (by omega) (by omega) er (sI s 17 3 (nI (j + 1))) (fx_trans x (fx_sI _ _ (by simp))) (TY_eq os (s17 (by decide)) s18) s17e
        rw [ec] at hP
        unfold isWb at hP
        rw [Bool.or_eq_true, decide_eq_true_eq, decide_eq_true_eq] at hP
        refine ⟨q + 1, ?_⟩
        unfold w_Tp_advance_L8
        rw [os.2.1, e3, X_r17_0 ms, X_n18 ms, ix_nI (by omega), os.2.2 _ (by omega), nI_1]
        exact ⟨X_k17 ms, fun z => absurd z (nI_ge (by omega) (by omega)), fun _ => ⟨X_k18 ms, vp_in_nI (by omega) (by omega), fun _ => hq', fun z => ⟨fun _ => hq', fun z2 => absurd hP (fun g => g.elim z z2)⟩⟩⟩
  unfold w_Tp_advance
  rw [h4]
  exact ⟨X_k17 m, go (N - p) p rfl (Nat.le_refl _) hp rfl (sI h 17 3 (nI p)) (fx_sI _ _ (by simp)) (TY_eq o (s17 (by decide)) s18) s17e⟩
theorem t_Tp_value {B : Nat → Int32} {N p : Nat} {Q : Int32 → Hp → Prop} (m : XS h) (o : TY B N h) (r : RY B N p h) (hk : kd B N p = 2) (hq : Q (vl B N p) h) : w_Tp_value 17 h Q := by
  have hN := o.1
  have b := sp_gt (B := B) (N := N) (p := p) (by omega)
  unfold w_Tp_value
  rw [r.2.1]
  refine ⟨X_k17 m, ?_⟩
  refine loop_0 (fun q i (_ : Unit) => w_Tp_value_L7 Q 17 q (vdN B (pl B N p) i) (nI (pl B N p + i)) h) (fun _ _ => True) (min 3 (sp B N p - pl B N p)) () trivial ?_ ?_
  · rintro q _ _
    unfold w_Tp_value_L7
    rw [r.2.2, o.2.1, r.2.1, show (3 : Int32) = nI 3 from rfl, nI_add]
    refine ⟨X_k17 m, fun _ => hq, fun z => ⟨fun _ => hq, fun _ => ⟨fun _ => hq, fun z3 => ?_⟩⟩⟩
    by_cases g : sp B N p - pl B N p ≤ 3
    · exact absurd (nI_le (by omega) (by omega)) z
    · exact absurd (nI_le (by omega) (by omega)) z3
  · rintro q i _ hi _ ih
    unfold w_Tp_value_L7
    rw [r.2.2, o.2.1, r.2.1, show (3 : Int32) = nI 3 from rfl, nI_add, X_r17_0 m, X_n18 m, ix_nI (by omega), o.2.2 _ (by omega), nI_1, show vdN B (pl B N p) i * 10 + B (pl B N p + i) - 48 = vdN B (pl B N p) (i + 1) from by rw [vdN, Int32.mul_comm]]
    exact ⟨X_k17 m, fun z => absurd z (nI_ge (by omega) (by omega)), fun _ => ⟨fun z => absurd z (nI_ge (by omega) (by omega)), fun _ => ⟨fun z => absurd z (nI_ge (by omega) (by omega)), fun _ => ⟨X_k18 m, vp_in_nI (by omega) (by omega), ih () trivial⟩⟩⟩⟩
