/-! The class's reader: numbers, names -/
variable {h : Hp}
theorem kd_0 {B : Nat → Int32} {N p : Nat} (hk : kd B N p = 0) : N ≤ pl B N p := by
  by_cases g : N ≤ pl B N p
  · exact g
  · unfold kd at hk
    rw [if_neg g] at hk
    by_cases g2 : isLb (ch B N (pl B N p)) = true
    · rw [if_pos g2] at hk
      split at hk <;> omega
    · rw [if_neg g2] at hk
      by_cases g3 : isDb (ch B N (pl B N p)) = true
      · rw [if_pos g3] at hk
        split at hk <;> omega
      · rw [if_neg g3] at hk
        split at hk
        · omega
        · split at hk <;> omega
theorem sp_le {B : Nat → Int32} {N p : Nat} (hp : p ≤ N) : sp B N p ≤ N := by
  by_cases g : kd B N p = 0
  · have ge := kd_0 g
    unfold sp
    rw [if_pos ge]
    exact (ru_sp isW_f (B := B) (N := N) p).2.1 hp
  · exact (sp_gt g).2.2
/-- the draft as a text's lines so far made it -/
def DR (B : Nat → Int32) (N : Nat) (s : PSt) (h : Hp) : Prop := (∀ k, k < 44 → gI h 25 k = s.2.1 k) ∧ gI h 24 1 = nI s.2.2.1 ∧ gI h 24 2 = nI s.2.2.2.1.length ∧ (∀ c, c < s.2.2.2.1.length → ∃ a e, a ≤ e ∧ e ≤ N ∧ gI h 26 c = nI a ∧ gI h 27 c = nI e ∧ s.2.2.2.1.getD c [] = wr B a (e - a) ∧ ∀ i, i < e - a → isLb (B (a + i)) = true) ∧ gI h 23 4 = b2i s.2.2.2.2.2.1 ∧ gI h 23 5 = b2i s.2.2.2.2.2.2 ∧ gI h 23 6 = 0 ∧ gI h 23 7 = -1
def AY (B : Nat → Int32) (N : Nat) (h0 : Hp) (s : PSt) (h : Hp) : Prop := dS B N s ∧ Fx [17, 23, 24, 25, 26, 27] [] h0 h ∧ TY B N h ∧ DR B N s h ∧ RY B N s.1 h
def EE (e : ER) (h0 h : Hp) : Prop := Fx [17, 23, 24, 25, 26, 27] [] h0 h ∧ gI h 23 6 = nI e.1 ∧ gI h 23 7 = nI e.2
theorem DR_fx {B : Nat → Int32} {N : Nat} {s : PSt} {as js : List Nat} {h' : Hp} (d : DR B N s h) (x : Fx as js h h') (h3 : 23 ∉ as) (h4 : 24 ∉ as) (h5 : 25 ∉ as) (h6 : 26 ∉ as) (h7 : 27 ∉ as) : DR B N s h' := by
  unfold DR
  rw [fx_I x h3, fx_I x h4, fx_I x h5, fx_I x h6, fx_I x h7]
  exact d
theorem t_Rd_fail {B : Nat → Int32} {N k : Nat} {h0 : Hp} {s : PSt} {Q : Bool → Hp → Prop} (m0 : XS h0) (a : AY B N h0 s h) (hq : ∀ h', EE (er B N s.1 k) h0 h' → Q false h') : w_Rd_fail 23 (nI k) h Q := by
  obtain ⟨ds, x, o, d, r⟩ := a
  have m := fx_XS x m0
  have end_ : ∀ v, v = nI (if kd B N s.1 = 5 then 1 else k) → Q false (sI (sI h 23 6 v) 23 7 (gI (sI h 23 6 v) 17 3)) := fun v hv => by
    refine hq _ ⟨fx_trans x (fx_trans (fx_sI _ _ (by simp)) (fx_sI _ _ (by simp))), ?_, ?_⟩
    · rw [gI_sI, if_neg (by decide), gI_sI, if_pos ⟨rfl, rfl⟩]
      exact hv
    · rw [gI_sI, if_pos ⟨rfl, rfl⟩, gI_sI, if_neg (by decide)]
      exact r.2.1
  unfold w_Rd_fail
  rw [X_r23_0 m, r.1]
  refine ⟨X_k23 m, X_k17 m, fun z => end_ _ ?_, fun z => end_ _ ?_⟩
  · rw [if_pos ((kcl_eq (k := 5) (by decide)).mp z)]
    rfl
  · rw [if_neg (fun q => z ((kcl_eq (k := 5) (by decide)).mpr q))]
theorem t_Rd_adv {B : Nat → Int32} {N : Nat} {h0 : Hp} {s : PSt} {Q : Hp → Prop} (m0 : XS h0) (a : AY B N h0 s h) (hq : ∀ h', Fx [17] [] h h' → AY B N h0 (sp B N s.1, s.2) h' → Q h') : w_Tp_advance 17 h Q := by
  obtain ⟨ds, x, o, d, r⟩ := a
  have m := fx_XS x m0
  have le := sp_le (B := B) (N := N) ds.1
  refine t_Tp_advance m o r.2.2 le (fun h' x' o' r' => hq h' x' ⟨⟨le, ds.2⟩, fx_trans x (fx_mono x' (by simp) (by simp)), o', ?_, r'⟩)
  exact DR_fx (s := s) d x' (by decide) (by decide) (by decide) (by decide) (by decide)
theorem t_Rd_isNumber {B : Nat → Int32} {N : Nat} {lo hi : Int32} {h0 : Hp} {s : PSt} {Q : Bool → Hp → Prop} (m0 : XS h0) (a : AY B N h0 s h) (hq0 : ∀ e h', nIn B N s.1 lo hi = .error e → EE e h0 h' → Q false h') (hq : nIn B N s.1 lo hi = .ok (vl B N s.1, sp B N s.1) → Q true h) : w_Rd_isNumber 23 lo hi h Q := by
  have a0 := a
  obtain ⟨ds, x, o, d, r⟩ := a
  have m := fx_XS x m0
  unfold w_Rd_isNumber
  rw [X_r23_0 m, r.1]
  refine ⟨X_k23 m, X_k17 m, fun z => ?_, fun z => ?_⟩
  · have hk : kd B N s.1 = 2 := (kcl_eq (k := 2) (by decide)).mp z
    have bad : ¬ (decide (lo ≤ vl B N s.1) && decide (vl B N s.1 ≤ hi)) = true → w_Rd_isNumber_B35 Q 23 h := fun g => by
      unfold w_Rd_isNumber_B35
      refine ⟨X_k23 m, t_Rd_fail (k := 4) m0 a0 (fun h' e => ⟨fun _ => hq0 _ h' ?_ e, fun z => absurd rfl z⟩)⟩
      unfold nIn
      rw [if_pos hk, if_neg g]
    refine t_Tp_value m o r hk ⟨fun z1 => bad (fun g => ?_), fun z1 => ⟨fun z2 => hq ?_, fun z2 => bad (fun g => ?_)⟩⟩
    · rw [Bool.and_eq_true, decide_eq_true_eq] at g
      exact absurd z1 (Int32.not_lt.mpr g.1)
    · unfold nIn
      rw [if_pos hk, if_pos (by rw [decide_eq_true (Int32.not_lt.mp z1), decide_eq_true z2]; rfl)]
    · rw [Bool.and_eq_true, decide_eq_true_eq, decide_eq_true_eq] at g
      exact z2 g.2
  · refine t_Rd_fail (k := 2) m0 a0 (fun h' e => hq0 _ h' ?_ e)
    unfold nIn
    rw [if_neg (fun q => z ((kcl_eq (k := 2) (by decide)).mpr q))]
theorem t_Rd_signed28 {B : Nat → Int32} {N slot : Nat} {most : Int32} {neg : Bool} {h0 : Hp} {s : PSt} {Q : Bool → Hp → Prop} (m0 : XS h0) (a : AY B N h0 s h) (hs : slot < 44) (hq0 : ∀ e h', nIn B N s.1 0 most = .error e → EE e h0 h' → Q false h') (hq : ∀ h', nIn B N s.1 0 most = .ok (vl B N s.1, sp B N s.1) → Fx [17, 24, 25] [] h h' → AY B N h0 (sp B N s.1, upd s.2.1 slot (if neg = true then -(vl B N s.1) else vl B N s.1), s.2.2) h' → Q true h') : w_Rd_readSigned_B28 Q 23 (nI slot) most (b2i neg) h := by
  have a0 := a
  obtain ⟨ds, x, o, d, r⟩ := a
  have m := fx_XS x m0
  unfold w_Rd_readSigned_B28
  refine ⟨X_k23 m, t_Rd_isNumber m0 a0 (fun e h' he ee => ⟨fun _ => hq0 e h' he ee, fun z => absurd rfl z⟩) (fun ok => ⟨fun z => absurd z (by decide), fun _ => ⟨X_k23 m, ?_⟩⟩)⟩
  have hk := (nIn_sp ok).1
  have put : ∀ v, v = (if neg = true then -(vl B N s.1) else vl B N s.1) → w_Rd_readSigned_B66 Q 23 24 (nI slot) v h := fun v hv => by
    unfold w_Rd_readSigned_B66
    refine ⟨X_k24 m, t_Co_put (CO_24 m) hs ?_⟩
    have x1 : Fx [24, 25] [] h (sI (sI h (24 + 1) slot v) 24 3 (gI h 24 3 + 1)) := fx_trans (fx_sI _ _ (by simp)) (fx_sI _ _ (by simp))
    have a1 : AY B N h0 (s.1, upd s.2.1 slot v, s.2.2) (sI (sI h (24 + 1) slot v) 24 3 (gI h 24 3 + 1)) := by
      refine ⟨ds, fx_trans x (fx_mono x1 (by simp) (by simp)), TY_eq o (by rw [fx_I x1 (by decide)]) (fx_I x1 (by decide)), ⟨fun k hk => ?_, ?_, ?_, ?_, ?_⟩, ?_⟩
      · rw [gI_sI, if_neg (by omega), gI_sI]
        show (if 25 = 24 + 1 ∧ k = slot then v else gI h 25 k) = upd s.2.1 slot v k
        by_cases g : k = slot
        · rw [if_pos ⟨rfl, g⟩, g, pk_us]
        · rw [if_neg (fun q => g q.2), pk_un g]
          exact d.1 k hk
      · rw [gI_sI, if_neg (by decide), gI_sI, if_neg (fun q => absurd q.1 (by decide))]
        exact d.2.1
      · rw [gI_sI, if_neg (by decide), gI_sI, if_neg (fun q => absurd q.1 (by decide))]
        exact d.2.2.1
      · rw [fx_I x1 (x := 26) (by decide), fx_I x1 (x := 27) (by decide)]
        exact d.2.2.2.1
      · rw [fx_I x1 (x := 23) (by decide)]
        exact d.2.2.2.2
      · unfold RY
        rw [fx_I x1 (x := 17) (by decide)]
        exact r
    generalize sI (sI h (24 + 1) slot v) 24 3 (gI h 24 3 + 1) = h1 at x1 a1 ⊢
    have m1 := fx_XS a1.2.1 m0
    rw [X_r23_0 m1]
    refine ⟨X_k23 m1, X_k17 m1, t_Rd_adv m0 a1 (fun h' x' a' => hq h' ok (fx_trans (fx_mono x1 (by simp) (by simp)) (fx_mono x' (by simp) (by simp))) ?_)⟩
    rw [← hv]
    exact a'
  rw [X_r23_0 m, X_r23_1 m]
  cases neg with
  | false => exact ⟨fun _ => ⟨X_k17 m, t_Tp_value m o r hk (put _ rfl)⟩, fun z => absurd rfl z⟩
  | true => exact ⟨fun z => absurd z (by decide), fun _ => ⟨X_k17 m, t_Tp_value m o r hk (put _ rfl)⟩⟩
theorem t_Rd_readSigned {B : Nat → Int32} {N slot : Nat} {most : Int32} {h0 : Hp} {s : PSt} {Q : Bool → Hp → Prop} (m0 : XS h0) (a : AY B N h0 s h) (hs : slot < 44) (hq0 : ∀ e h', sgn B N s.1 most = .error e → EE e h0 h' → Q false h') (hq : ∀ y h', sgn B N s.1 most = .ok y → Fx [17, 24, 25] [] h h' → AY B N h0 (y.2, upd s.2.1 slot y.1, s.2.2) h' → Q true h') : w_Rd_readSigned 23 (nI slot) most h Q := by
  have a0 := a
  obtain ⟨ds, x, o, d, r⟩ := a
  have m := fx_XS x m0
  unfold w_Rd_readSigned
  rw [X_r23_0 m, r.1]
  refine ⟨X_k23 m, X_k17 m, fun z => ?_, fun z => ?_⟩
  · have hk : kd B N s.1 = 4 := (kcl_eq (k := 4) (by decide)).mp z
    unfold w_Rd_readSigned_B16
    rw [X_r23_0 m]
    refine ⟨fun z => absurd z (by decide), fun _ => ⟨X_k23 m, X_k17 m, t_Rd_adv m0 a0 (fun h1 x1 a1 => ?_)⟩⟩
    refine t_Rd_signed28 (neg := true) m0 a1 hs (fun e h' he ee => hq0 e h' ?_ ee) (fun h' ok x' a' => hq (-(vl B N (sp B N s.1)), sp B N (sp B N s.1)) h' ?_ (fx_trans (fx_mono x1 (by simp) (by simp)) x') a')
    · unfold sgn
      rw [if_pos hk, he]
    · unfold sgn
      rw [if_pos hk, ok]
  · have hk : ¬ kd B N s.1 = 4 := fun q => z ((kcl_eq (k := 4) (by decide)).mpr q)
    unfold w_Rd_readSigned_B16
    refine ⟨fun _ => ?_, fun z => absurd rfl z⟩
    refine t_Rd_signed28 (neg := false) m0 a0 hs (fun e h' he ee => hq0 e h' ?_ ee) (fun h' ok x' a' => hq (vl B N s.1, sp B N s.1) h' ?_ x' a')
    · unfold sgn
      rw [if_neg hk, he]
    · unfold sgn
      rw [if_neg hk, ok]
theorem t_Rd_isReserved {B : Nat → Int32} {N : Nat} {h0 : Hp} {s : PSt} {Q : Bool → Hp → Prop} (m0 : XS h0) (a : AY B N h0 s h) (hk : kd B N s.1 = 1) (hq : Q (decide (wd B N s.1 ∈ wAll)) h) : w_Rd_isReserved 23 h Q := by
  obtain ⟨ds, x, o, d, r⟩ := a
  have m := fx_XS x m0
  have is : ∀ v, v < 5 → isK B N s.1 (wAll.getD v []) = true → wd B N s.1 ∈ wAll := fun v hv q => by
    unfold isK at q
    rw [Bool.and_eq_true, decide_eq_true_eq, decide_eq_true_eq] at q
    rw [q.2]
    exact getD_mem (l := wAll) (d := []) hv
  have yes : ∀ v, v < 5 → isK B N s.1 (wAll.getD v []) = true → Q true h := fun v hv q => by
    rw [decide_eq_true (is v hv q)] at hq
    exact hq
  have ns : ∀ v, v < 5 → isK B N s.1 (wAll.getD v []) = false → wd B N s.1 ≠ wAll.getD v [] := fun v hv q g => by
    unfold isK at q
    rw [decide_eq_true hk, decide_eq_true g] at q
    cases q
  unfold w_Rd_isReserved
  rw [X_r23_0 m]
  refine ⟨X_k23 m, X_k17 m, t_Tp_isWord m o r (v := 0) (by decide) ⟨fun z0 => ⟨X_k23 m, ?_⟩, fun z => yes 0 (by decide) (ntf z)⟩⟩
  rw [X_r23_0 m]
  refine ⟨X_k17 m, t_Tp_isWord m o r (v := 1) (by decide) ⟨fun z1 => ⟨X_k23 m, ?_⟩, fun z => yes 1 (by decide) (ntf z)⟩⟩
  rw [X_r23_0 m]
  refine ⟨X_k17 m, t_Tp_isWord m o r (v := 2) (by decide) ⟨fun z2 => ⟨X_k23 m, ?_⟩, fun z => yes 2 (by decide) (ntf z)⟩⟩
  rw [X_r23_0 m]
  refine ⟨X_k17 m, t_Tp_isWord m o r (v := 3) (by decide) ⟨fun z3 => ⟨X_k23 m, ?_⟩, fun z => yes 3 (by decide) (ntf z)⟩⟩
  rw [X_r23_0 m]
  refine ⟨X_k17 m, t_Tp_isWord m o r (v := 4) (by decide) ⟨fun z4 => ?_, fun z => yes 4 (by decide) (ntf z)⟩⟩
  rw [decide_eq_false (fun g => ?_)] at hq
  · exact hq
  · obtain ⟨v, hv, e⟩ := mem_getD (d := []) g
    have hv : v < 5 := hv
    match v, hv with
    | 0, _ => exact ns 0 (by decide) z0 e.symm
    | 1, _ => exact ns 1 (by decide) z1 e.symm
    | 2, _ => exact ns 2 (by decide) z2 e.symm
    | 3, _ => exact ns 3 (by decide) z3 e.symm
    | 4, _ => exact ns 4 (by decide) z4 e.symm
theorem t_Rd_isNewName {B : Nat → Int32} {N : Nat} {h0 : Hp} {s : PSt} {Q : Bool → Hp → Prop} (m0 : XS h0) (a : AY B N h0 s h) (hq2 : (kd B N s.1 ≠ 1 ∨ wd B N s.1 ∈ wAll) → ∀ h', EE (er B N s.1 2) h0 h' → Q false h') (hq3 : ¬ (kd B N s.1 ≠ 1 ∨ wd B N s.1 ∈ wAll) → wd B N s.1 ∈ s.2.2.2.1 → ∀ h', EE (er B N s.1 3) h0 h' → Q false h') (hq : ¬ (kd B N s.1 ≠ 1 ∨ wd B N s.1 ∈ wAll) → ¬ wd B N s.1 ∈ s.2.2.2.1 → Q true h) : w_Rd_isNewName 23 h Q := by
  have a0 := a
  obtain ⟨ds, x, o, d, r⟩ := a
  have m := fx_XS x m0
  have hl := ds.2.2.2.1
  have hN := o.1
  have b18 : (kd B N s.1 ≠ 1 ∨ wd B N s.1 ∈ wAll) → w_Rd_isNewName_B18 Q 23 h := fun g => by
    unfold w_Rd_isNewName_B18
    exact ⟨X_k23 m, t_Rd_fail (k := 2) m0 a0 (fun h' e => hq2 g h' e)⟩
  unfold w_Rd_isNewName
  rw [X_r23_0 m, r.1]
  refine ⟨X_k23 m, X_k17 m, fun z => ?_, fun z => b18 (Or.inl (fun q => z ((kcl_eq (k := 1) (by decide)).mpr q)))⟩
  have hk : kd B N s.1 = 1 := (kcl_eq (k := 1) (by decide)).mp z
  refine t_Rd_isReserved m0 a0 hk ⟨fun z2 => ?_, fun z2 => b18 (Or.inr (of_decide_eq_true (ntf z2)))⟩
  have g2 : ¬ (kd B N s.1 ≠ 1 ∨ wd B N s.1 ∈ wAll) := fun q => q.elim (fun q => q hk) (of_decide_eq_false z2)
  have go : ∀ k c, c + k = s.2.2.2.1.length → (∀ c', c' < c → wd B N s.1 ≠ s.2.2.2.1.getD c' []) → ∃ q, w_Rd_isNewName_L26 Q 23 q (nI c) h := by
    intro k
    induction k with
    | zero =>
      intro c hc all
      refine ⟨1, ?_⟩
      unfold w_Rd_isNewName_L26
      rw [X_r23_1 m, d.2.2.1]
      refine ⟨X_k23 m, X_k24 m, fun _ => hq g2 (fun q => ?_), fun z => absurd (nI_le (by omega) (by omega)) z⟩
      obtain ⟨c', hc', e⟩ := mem_getD (d := []) q
      exact all c' (by omega) e.symm
    | succ k ih =>
      intro c hc all
      obtain ⟨a, e, q1, q2, q3, q4, q5, q6⟩ := d.2.2.2.1 c (by omega)
      by_cases g : wd B N s.1 = s.2.2.2.1.getD c []
      · refine ⟨1, ?_⟩
        unfold w_Rd_isNewName_L26
        rw [X_r23_1 m, X_r23_2 m, X_r23_3 m, X_r23_0 m, d.2.2.1, X_n26 m, X_n27 m, ix_nI (by omega), q3, q4]
        refine ⟨X_k23 m, X_k24 m, fun z => absurd z (nI_ge (by omega) (by omega)), fun _ => ⟨X_k26 m, vp_in_nI (by omega) (by omega), X_k27 m, vp_in_nI (by omega) (by omega), X_k17 m, t_Tp_isSameAs m o r hk q1 q2 q6 ?_⟩⟩
        rw [decide_eq_true (by rw [g, q5])]
        refine ⟨fun z => absurd z (by decide), fun _ => ⟨X_k23 m, t_Rd_fail (k := 3) m0 a0 (fun h' e => hq3 g2 ?_ h' e)⟩⟩
        rw [g]
        exact getD_mem (by omega)
      · obtain ⟨q, hq'⟩ := ih (c + 1) (by omega) (fun c' hc' => by
          by_cases e : c' = c
          · rw [e]; exact g
          · exact all c' (by omega))
        refine ⟨q + 1, ?_⟩
        unfold w_Rd_isNewName_L26
        rw [X_r23_1 m, X_r23_2 m, X_r23_3 m, X_r23_0 m, d.2.2.1, X_n26 m, X_n27 m, ix_nI (by omega), q3, q4]
        refine ⟨X_k23 m, X_k24 m, fun z => absurd z (nI_ge (by omega) (by omega)), fun _ => ⟨X_k26 m, vp_in_nI (by omega) (by omega), X_k27 m, vp_in_nI (by omega) (by omega), X_k17 m, t_Tp_isSameAs m o r hk q1 q2 q6 ?_⟩⟩
        rw [decide_eq_false (fun q => g (by rw [q, q5])), nI_1]
        exact ⟨fun _ => hq', fun z => absurd rfl z⟩
  exact go s.2.2.2.1.length 0 (by omega) (fun c' hc' => absurd hc' (Nat.not_lt_zero _))
theorem t_Rd_endLine {B : Nat → Int32} {N : Nat} {h0 : Hp} {s x : PSt} {Q : Bool → Hp → Prop} (m0 : XS h0) (a : AY B N h0 x h) (hb : bodL B N s = .ok x) (hqE : ∀ e h', lineL B N s = .error e → EE e h0 h' → Q false h') (hqO : ∀ s' h', lineL B N s = .ok s' → AY B N h0 s' h' → Q true h') : w_Rd_endLine 23 h Q := by
  have a0 := a
  obtain ⟨ds, xx, o, d, r⟩ := a
  have m := fx_XS xx m0
  unfold w_Rd_endLine
  rw [X_r23_0 m, r.1]
  refine ⟨X_k23 m, X_k17 m, fun z => ?_, fun z => ?_⟩
  · have hk : kd B N x.1 = 3 := (kcl_eq (k := 3) (by decide)).mp z
    refine t_Rd_adv m0 a0 (fun h' x' a' => hqO (sp B N x.1, x.2.1, x.2.2.1, x.2.2.2.1, true, x.2.2.2.2.2.1, x.2.2.2.2.2.2) h' ?_ a')
    unfold lineL
    rw [hb]
    dsimp only
    rw [if_pos hk]
  · refine t_Rd_fail (k := 2) m0 a0 (fun h' e => hqE _ h' ?_ e)
    unfold lineL
    rw [hb]
    dsimp only
    rw [if_neg (fun q => z ((kcl_eq (k := 3) (by decide)).mpr q))]
