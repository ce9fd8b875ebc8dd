/-! The class asks -/
variable {h : Hp}
theorem cn0 : ∀ u, u < 512 → cnS (bS u) 9 = 0 → u = 0 := by decide +kernel
theorem vy_toInt : ∀ y, y < 41 → (vy y).toInt = (y : Int) - 20 := by decide
theorem leaves_eq {M N : Nat} (hN : N ≤ M) (hM : M ≤ 9) : gt (nI N) (nI M - nI N) = nI (max N (M - N)) := by
  rw [nI_subN hN]
  unfold gt
  by_cases g : N ≤ M - N
  · rw [if_pos (nI_le g (by omega)), show max N (M - N) = M - N from by omega]
  · rw [if_neg (fun z => absurd z (nI_ge (by omega) (by omega))), show max N (M - N) = N from by omega]
theorem cntB_and {F G : Nat → Bool} : ∀ n, cntB (fun i => F i && G i) n ≤ cntB F n := by
  intro n
  induction n with
  | zero => exact Nat.le_refl _
  | succ n ih =>
    show cntB (fun i => F i && G i) n + (if (F n && G n) then 1 else 0) ≤ cntB F n + (if F n then 1 else 0)
    cases F n with
    | true => cases G n <;> simp <;> omega
    | false => simp; exact ih
/-- a mask over what fits and more -/
theorem MF_and {K : KT} {r n s : Nat} {k x y : Int32} {G : Nat → Bool} (hn : n ≤ 8) (a : MF K r n s k x) (e : ∀ i, i ≤ n → bt y i = G i) : ∃ u, u < 512 ∧ y &&& x = nI u ∧ cnS (bS u) 9 = cntB (fun i => ftB K r n s k i && G i) (n + 1) := by
  have b : ∀ i, bt (y &&& x) i = (decide (i ≤ n) && (ftB K r n s k i && G i)) := fun i => by
    rw [bt_and, a i]
    by_cases g : i ≤ n
    · rw [e i g, decide_eq_true g, Bool.true_and, Bool.true_and, Bool.and_comm]
    · rw [decide_eq_false g, Bool.false_and, Bool.false_and, Bool.and_false]
  obtain ⟨u, h1, h2, h3⟩ := bt_ex (x := y &&& x) (fun i hi => by rw [b i, decide_eq_false (by omega), Bool.false_and])
  have h4 : ∀ i, u.testBit i = (decide (i ≤ n) && (ftB K r n s k i && G i)) := fun i => (h3 i).trans (b i)
  refine ⟨u, h1, h2, ?_⟩
  rw [cnS_cnt]
  have := cntB_cut (F := fun i => ftB K r n s k i && G i) (G := bS u) (n := n) h4 (8 - n)
  rw [show n + 1 + (8 - n) = 9 from by omega] at this
  exact this
theorem aks_1 {M : Nat} {N : Nat → Nat} : ∀ y, 0 < y → y ≤ 41 → ¬ (aks M N y).1 = -1000001 := by
  have vne : ∀ y, y < 41 → ¬ vy y = -1000001 := by decide
  intro y
  induction y with
  | zero => intro h; exact absurd h (by decide)
  | succ y ih =>
    intro _ hy
    unfold aks akS
    by_cases g : (aks M N y).1 = -1000001 ∨ gt (nI (N y)) (nI M - nI (N y)) < (aks M N y).2
    · rw [if_pos g]
      exact vne y (by omega)
    · rw [if_neg g]
      exact fun e => g (Or.inl e)
theorem t_Kn_chooseAsk {K : KT} {r n s t : Nat} {k x : Int32} {Q : Hp → Prop} (c0 : CTd K.1 r n h) (ht : t ≤ 8) (a : MF K r n s k x)
    (hq : ∀ h', Fx [71, 75] [] h h' → (∀ j, j ≠ 8 → j ≠ 9 → gI h' 71 j = gI h 71 j) → gI h' 71 8 = (aks (cntB (ftB K r n s k) (n + 1)) (askN K r n s t k) 41).1 → gI h' 71 9 = (aks (cntB (ftB K r n s k) (n + 1)) (askN K r n s t k) 41).2 → Q h') : w_Kn_chooseAsk 71 (nI t) x h Q := by
  have hn := c0.2.1.2.2.2.2.2
  have m := c0.1
  have hM := cntB_le (ftB K r n s k) (n + 1)
  unfold w_Kn_chooseAsk
  refine ⟨X_k71 m, t_Kn_reachRow c0 ht (fun h1 x1 ra => ?_)⟩
  obtain ⟨u, u1, u2, u3, u4⟩ := MF_nat hn a
  have m1 := fx_XS x1 m
  have bx : x = nI u := u2
  rw [bx]
  refine t_bitCount u1 ⟨X_k71 m1, ?_⟩
  rw [u4, nI_1, ← bx]
  have b81 : bs2 t ≤ 81 := by unfold bs2; omega
  refine loop_0 (fun f y s2 => w_Kn_chooseAsk_L24 Q 71 x (nI (bs2 t)) (nI (cntB (ftB K r n s k) (n + 1))) f (vy y) s2) (fun y s2 => Fx [71] [] h1 s2 ∧ (∀ j, j ≠ 8 → j ≠ 9 → gI s2 71 j = gI h1 71 j) ∧ (y = 0 → gI s2 71 9 = nI (cntB (ftB K r n s k) (n + 1) + 1)) ∧ (0 < y → gI s2 71 8 = (aks (cntB (ftB K r n s k) (n + 1)) (askN K r n s t k) y).1 ∧ gI s2 71 9 = (aks (cntB (ftB K r n s k) (n + 1)) (askN K r n s t k) y).2)) 41 _ ⟨fx_sI _ _ (by simp), fun j _ h9 => by rw [gI_sI, if_neg (fun z => h9 z.2)], fun _ => by rw [gI_sI, if_pos ⟨rfl, rfl⟩], fun g => absurd g (Nat.lt_irrefl _)⟩ ?_ ?_
  · rintro f s2 ⟨y1, y2, -, y4⟩
    unfold w_Kn_chooseAsk_L24
    have y4 := y4 (by omega)
    exact ⟨fun _ => hq s2 (fx_trans (fx_mono x1 (by simp) (by simp)) (fx_mono y1 (by simp) (by simp))) (fun j j8 j9 => by rw [y2 j j8 j9, fx_I x1 (x := 71) (by decide)]) y4.1 y4.2, fun z => absurd (by decide) z⟩
  · rintro f y s2 hy ⟨y1, y2, y3, y4⟩ ih
    have m2 := fx_XS y1 m1
    have ei : nI (bs2 t) + 40 + vy y = nI (bs2 t + (20 + y)) := by
      rw [← nI_add, ← nI_add]
      unfold vy
      show nI (bs2 t) + 40 + (nI y - 20) = nI (bs2 t) + (20 + nI y)
      grind
    unfold w_Kn_chooseAsk_L24
    rw [ei, X_r71_5 m2, X_n75 m2, ix_nI (by omega), fx_I y1 (x := 75) (by decide)]
    refine ⟨fun z => absurd z (vy_in y hy), fun _ => ⟨X_k71 m2, X_k75 m2, vp_in_nI (by omega) (by omega), ?_⟩⟩
    obtain ⟨w, w1, w2, w3⟩ := MF_and (y := gI h1 75 (bs2 t + (20 + y))) (G := fun i => hF K.1 n t i (vy y)) hn a (fun i hi => by
      rw [ra (20 + y) i (by omega) hi, hF_rs hn hi c0.2.2.2.1 ht, vy_toInt y hy]
      congr 1
      omega)
    rw [w2]
    refine t_bitCount w1 (t_max ?_)
    have eN : cnS (bS w) 9 = askN K r n s t k y := w3
    have hN : askN K r n s t k y ≤ cntB (ftB K r n s k) (n + 1) := cntB_and (n + 1)
    rw [eN, vy_s]
    have lv := leaves_eq hN (show cntB (ftB K r n s k) (n + 1) ≤ 9 by omega)
    have ak : aks (cntB (ftB K r n s k) (n + 1)) (askN K r n s t k) (y + 1) = akS (cntB (ftB K r n s k) (n + 1)) (askN K r n s t k) y (aks (cntB (ftB K r n s k) (n + 1)) (askN K r n s t k) y) := rfl
    refine ⟨X_k71 m2, fun z => ?_, fun z => ?_⟩
    · have hy0 : 0 < y := by
        by_cases g : y = 0
        · rw [y3 g, lv] at z
          exact absurd z (nI_ge (by omega) (by omega))
        · omega
      have y4 := y4 hy0
      refine ih _ ⟨y1, y2, fun g => absurd g (by omega), fun _ => ?_⟩
      rw [ak]
      unfold akS
      rw [y4.2] at z
      rw [if_neg (fun g => ?_)]
      · exact y4
      · rcases g with g | g
        · exact aks_1 y hy0 (by omega) g
        · exact absurd g (Int32.not_lt.mpr z)
    · refine ih _ ⟨fx_trans y1 (fx_trans (fx_sI _ _ (by simp)) (fx_sI _ _ (by simp))), fun j j8 j9 => ?_, fun g => absurd g (by omega), fun _ => ?_⟩
      · rw [gI_sI, if_neg (fun q => j8 q.2), gI_sI, if_neg (fun q => j9 q.2)]
        exact y2 j j8 j9
      · rw [ak]
        unfold akS
        have tk : (aks (cntB (ftB K r n s k) (n + 1)) (askN K r n s t k) y).1 = -1000001 ∨ gt (nI (askN K r n s t k y)) (nI (cntB (ftB K r n s k) (n + 1)) - nI (askN K r n s t k y)) < (aks (cntB (ftB K r n s k) (n + 1)) (askN K r n s t k) y).2 := by
          by_cases g : y = 0
          · subst g
            exact Or.inl rfl
          · rw [(y4 (by omega)).2] at z
            exact Or.inr (Int32.not_le.mp z)
        rw [if_pos tk]
        refine ⟨?_, ?_⟩
        · rw [gI_sI, if_pos ⟨rfl, rfl⟩]
        · rw [gI_sI, if_neg (by decide), gI_sI, if_pos ⟨rfl, rfl⟩]
theorem t_X_ask {K : KT} {r n s : Nat} {v w k : Int32} {Q : Int32 → Hp → Prop} (c0 : CTd K.1 r n h) (kx : KX K r n s h)
    (hq0 : ((decide (0 ≤ v) && decide (v ≤ 8)) && (decide (0 ≤ w) && decide (w ≤ 1))) = false → Q (-1000001) h)
    (hq1 : cntB (ftB K r n s k) (n + 1) = 0 → Q (-1000001) h)
    (hq : ∀ h' t, t ≤ 8 → v = nI t → (decide (0 ≤ w) && decide (w ≤ 1)) = true → cntB (ftB K r n s k) (n + 1) ≠ 0 → Fx [71, 75] [] h h' → (∀ j, j ≠ 8 → j ≠ 9 → gI h' 71 j = gI h 71 j) → Q (if w = 0 then (aks (cntB (ftB K r n s k) (n + 1)) (askN K r n s t k) 41).1 else (aks (cntB (ftB K r n s k) (n + 1)) (askN K r n s t k) 41).2) h') : w_X_ask 16 v w k h Q := by
  have m := c0.1
  have hn := c0.2.1.2.2.2.2.2
  unfold w_X_ask
  refine t_X_isSeenLength ⟨fun z => hq0 (by rw [z]; rfl), fun z => ⟨fun z2 => hq0 ?_, fun z2 => ⟨fun z3 => hq0 ?_, fun z3 => ⟨X_k16 m, ?_⟩⟩⟩⟩
  · rw [decide_eq_false (p := 0 ≤ w) (Int32.not_le.mpr z2), Bool.false_and, Bool.and_false]
  · rw [decide_eq_false (p := w ≤ 1) (Int32.not_le.mpr z3), Bool.and_false, Bool.and_false]
  have w1 : (decide (0 ≤ w) && decide (w ≤ 1)) = true := by
    rw [decide_eq_true (p := 0 ≤ w) (Int32.not_lt.mp z2), decide_eq_true (p := w ≤ 1) (Int32.not_lt.mp z3)]
    rfl
  obtain ⟨t, ht, rfl⟩ := in_nI (k := 8) rfl z
  rw [X_r16_13 m]
  refine ⟨X_k71 m, t_Kn_fitting c0 kx (fun x a => ?_)⟩
  obtain ⟨u, u1, u2, u3, u4⟩ := MF_nat hn a
  refine ⟨fun z4 => hq1 ?_, fun z4 => ⟨X_k16 m, ?_⟩⟩
  · rw [u2] at z4
    have : u = 0 := (nI_eq (b := 0) (by omega) (by omega)).mp z4
    rw [← u4, this]
    rfl
  have c1 : cntB (ftB K r n s k) (n + 1) ≠ 0 := fun e => z4 (by rw [u2, cn0 u u1 (u4.trans e)]; rfl)
  rw [X_r16_13 m]
  refine ⟨X_k71 m, t_Kn_fitting c0 kx (fun x2 a2 => ⟨X_k71 m, t_Kn_chooseAsk c0 ht a2 (fun h2 y1 y2 y3 y4 => ?_)⟩)⟩
  have m2 := fx_XS y1 m
  have fin := hq h2 t ht rfl w1 c1 y1 y2
  rw [X_r16_13 m2]
  refine ⟨fun z5 => ⟨X_k16 m2, X_k71 m2, ?_⟩, fun z5 => ⟨X_k16 m2, X_k71 m2, ?_⟩⟩
  · rw [if_pos z5] at fin
    rw [y3]
    exact fin
  · rw [if_neg z5] at fin
    rw [y4]
    exact fin
