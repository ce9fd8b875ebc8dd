/-! The class: seen, untell, later -/
variable {h : Hp}
/-- what is known behind one more sight -/
def kS (K : KT) (s : Nat) (t a b c : Int32) (d : Bool) (tm : Int32) : KT := (K.1, up K.2.1 s t, (fun j => if j = 3 * s + 2 then c else if j = 3 * s + 1 then b else if j = 3 * s then a else K.2.2.1 j), up K.2.2.2.1 s (b2i d), up K.2.2.2.2.1 s tm, up K.2.2.2.2.2 s (-1))
theorem t_X_isSeenLength {v : Int32} {Q : Bool → Hp → Prop} (hq : Q (decide (0 ≤ v) && decide (v ≤ 8)) h) : w_X_isSeenLength v h Q := by
  unfold w_X_isSeenLength
  refine ⟨fun z => ?_, fun z => ⟨fun z2 => ?_, fun z2 => ?_⟩⟩
  · rw [decide_eq_false (p := 0 ≤ v) (Int32.not_le.mpr z), Bool.false_and] at hq
    exact hq
  · rw [decide_eq_false (p := v ≤ 8) (Int32.not_le.mpr z2), Bool.and_false] at hq
    exact hq
  · rw [decide_eq_true (p := 0 ≤ v) (Int32.not_lt.mp z), decide_eq_true (p := v ≤ 8) (Int32.not_lt.mp z2)] at hq
    exact hq
theorem t_X_isSeenSum {v : Int32} {Q : Bool → Hp → Prop} (hq : Q (far v) h) : w_X_isSeenSum v h Q := by
  unfold far at hq
  unfold w_X_isSeenSum
  refine ⟨fun z => ?_, fun z => ⟨fun z2 => ?_, fun z2 => ?_⟩⟩
  · rw [decide_eq_false (p := -80 ≤ v) (Int32.not_le.mpr z), Bool.false_and] at hq
    exact hq
  · rw [decide_eq_false (p := v ≤ 80) (Int32.not_le.mpr z2), Bool.and_false] at hq
    exact hq
  · rw [decide_eq_true (p := -80 ≤ v) (Int32.not_lt.mp z), decide_eq_true (p := v ≤ 80) (Int32.not_lt.mp z2)] at hq
    exact hq
theorem hsS_old {K : KT} {r n s j i : Nat} {t a b c tm : Int32} {d : Bool} (hr : r ≤ 3) (hj : j < s) : hsS (kS K s t a b c d tm).1 (kS K s t a b c d tm).2.1 (kS K s t a b c d tm).2.2.1 r n (tu i) j = hsS K.1 K.2.1 K.2.2.1 r n (tu i) j := by
  unfold hsS
  have e1 : (kS K s t a b c d tm).2.1 j = K.2.1 j := by
    show up K.2.1 s t j = _
    unfold up
    rw [if_neg (by omega)]
  rw [e1]
  congr 1
  funext p
  unfold isS
  refine allB_congr (fun k hk => ?_)
  have e2 : (kS K s t a b c d tm).2.2.1 (3 * j + k) = K.2.2.1 (3 * j + k) := by
    show (if 3 * j + k = 3 * s + 2 then c else if 3 * j + k = 3 * s + 1 then b else if 3 * j + k = 3 * s then a else K.2.2.1 (3 * j + k)) = _
    rw [if_neg (by omega), if_neg (by omega), if_neg (by omega)]
  rw [e2]
  rfl
theorem hsS_new {K : KT} {r n s i t : Nat} {a b c tm : Int32} {d : Bool} {tg : Nat → Int32} (hn : n ≤ 8) (hr : r ≤ 3) (hZ : ZB K.1 r) (ht : t ≤ 8) (h0 : tg 0 = a) (h1 : 1 < r → tg 1 = b) (h1' : ¬ 1 < r → tg 1 = 0) (h2 : 2 < r → tg 2 = c) (h2' : ¬ 2 < r → tg 2 = 0) (r1 : 1 ≤ r) : hsS (kS K s (nI t) a b c d tm).1 (kS K s (nI t) a b c d tm).2.1 (kS K s (nI t) a b c d tm).2.2.1 r n (tu i) s = RV K.1 n t tg i := by
  unfold hsS RV
  have e1 : (kS K s (nI t) a b c d tm).2.1 s = nI t := by
    show up K.2.1 s (nI t) s = _
    unfold up
    rw [if_pos rfl]
  rw [e1, ix_nI (by omega)]
  have e3 : ∀ p ∈ PL n t, isS (kS K s (nI t) a b c d tm).1 (kS K s (nI t) a b c d tm).2.2.1 r n s (tu i) p = ldP (vT K.1 (tu i)) 0 tg p := fun p hp => by
    refine (ld_turn (f := K.1) hn hr hZ (fun j hj => ?_) (fun j hj hj3 => ?_) hp).symm
    · show _ = (if 3 * s + j = 3 * s + 2 then c else if 3 * s + j = 3 * s + 1 then b else if 3 * s + j = 3 * s then a else K.2.2.1 (3 * s + j))
      match j, (show j < 3 by omega) with
      | 0, _ => rw [if_neg (by omega), if_neg (by omega), if_pos (Nat.add_zero _)]; exact h0
      | 1, _ => rw [if_neg (by omega), if_pos rfl]; exact h1 hj
      | 2, _ => rw [if_pos rfl]; exact h2 hj
    · match j, hj3 with
      | 0, _ => omega
      | 1, _ => exact h1' (by omega)
      | 2, _ => exact h2' (by omega)
  have go : ∀ l : List (List Nat), (∀ p ∈ l, p ∈ PL n t) → l.any (isS (kS K s (nI t) a b c d tm).1 (kS K s (nI t) a b c d tm).2.2.1 r n s (tu i)) = l.any (ldP (vT K.1 (tu i)) 0 tg) := by
    intro l
    induction l with
    | nil => intro _; rfl
    | cons p l ih =>
      intro hl
      rw [List.any_cons, List.any_cons, e3 p (hl p List.mem_cons_self), ih (fun q hq => hl q (List.mem_cons_of_mem _ hq))]
  exact go _ (fun p hp => hp)
theorem t_X_seen {K : KT} {r n s : Nat} {t a b c : Int32} {d : Bool} {Q : Int32 → Hp → Prop} (c0 : CTd K.1 r n h) (kx : KX K r n s h)
    (hq0 : ((decide (0 ≤ t) && decide (t ≤ 8)) && (far a && (far b && (far c && decide (s ≠ 20))))) = false → ∀ h', Fx [76] [] h h' → Q (-1) h')
    (hq : ((decide (0 ≤ t) && decide (t ≤ 8)) && (far a && (far b && (far c && decide (s ≠ 20))))) = true → ∀ h', Fx [35, 36, 37, 38, 39, 40, 41, 71, 72, 73, 74, 76] [] h h' → gI h' 71 7 = gI h 71 7 → KX (kS K s t a b c d (gI h 71 7)) r n (s + 1) h' → Q (nI s) h') : w_X_seen 16 t a b c (b2i d) h Q := by
  have m := c0.1
  obtain ⟨C, e1, e2, r1, hr, hn⟩ := c0.2.1
  have hZ := c0.2.2.2.2.1
  have kx0 := kx
  obtain ⟨k1, k2, k3⟩ := kx
  unfold w_X_seen
  refine t_X_isSeenLength ⟨fun z => hq0 (by rw [z]; rfl) h (fx_refl _ _ _), fun z => t_X_isSeenSum ⟨fun z2 => hq0 (by rw [z2, Bool.false_and, Bool.and_false]) h (fx_refl _ _ _), fun z2 => t_X_isSeenSum ⟨fun z3 => hq0 (by rw [z3, Bool.false_and, Bool.and_false, Bool.and_false]) h (fx_refl _ _ _), fun z3 => t_X_isSeenSum ⟨fun z4 => hq0 (by rw [z4, Bool.false_and, Bool.and_false, Bool.and_false, Bool.and_false]) h (fx_refl _ _ _), fun z4 => ?_⟩⟩⟩⟩
  rw [ntf z, ntf z2, ntf z3, ntf z4, Bool.true_and, Bool.true_and, Bool.true_and, Bool.true_and] at hq0 hq
  obtain ⟨tt, ht, rfl⟩ := in_nI (k := 8) rfl z
  have B82 : ∀ y v, Fx [76] [] h y → gI y 76 0 = a → (1 < r → gI y 76 1 = b) → (¬ 1 < r → gI y 76 1 = 0) → (2 < r → v = c) → (¬ 2 < r → v = 0) → w_X_seen_B82 Q 16 (nI tt) (b2i d) 76 2 v y := by
    intro y v x g0 g1 g1' g2 g2'
    have my := fx_XS x m
    unfold w_X_seen_B82
    rw [X_n76 my, show ix (2 : Int32) = 2 from rfl, X_r16_13 my, X_r16_14 my]
    have x2 : Fx [76] [] h (sI y 76 2 v) := fx_trans x (fx_sI _ _ (by simp))
    have f0 : gI (sI y 76 2 v) 76 0 = a := by rw [gI_sI, if_neg (by decide)]; exact g0
    have f1 : gI (sI y 76 2 v) 76 1 = gI y 76 1 := by rw [gI_sI, if_neg (by decide)]
    have f2 : gI (sI y 76 2 v) 76 2 = v := by rw [gI_sI, if_pos ⟨rfl, rfl⟩]
    refine ⟨X_k76 my, vp_in_nI (n := 2) (by omega) (by omega), X_k16 my, X_k71 my, ?_⟩
    revert x2 f0 f1 f2
    generalize sI y 76 2 v = y2
    intro x2 f0 f1 f2
    have c2 := CTd_fx c0 x2 (by decide) (by decide)
    have e71 : gI y2 71 = gI h 71 := fx_I x2 (by decide)
    refine t_Kn_tell c2 (by rw [e71]; exact k1) k2 ht (fun g => hq0 (decide_eq_false (fun q => q g)) y2 x2) (fun g h' mm x3 a1 a2 a3 a4 a5 a6 => hq (decide_eq_true (by omega)) h' (fx_trans (fx_mono x2 (by simp) (by simp)) (fx_mono x3 (by simp) (by simp))) (by rw [a2, e71]) ⟨a1, by omega, fun j hj => ?_⟩)
    have kK := k3
    rw [a4, a5, a6, e71, fx_I x2 (x := 72) (by decide), fx_I x2 (x := 73) (by decide), fx_I x2 (x := 74) (by decide)]
    by_cases g0 : j = s
    · subst g0
      rw [if_pos rfl, if_pos rfl, if_pos rfl]
      refine ⟨?_, ?_, fun i hi => ?_⟩
      · show _ = up K.2.2.2.2.1 j (gI h 71 7) j
        unfold up
        rw [if_pos rfl]
      · show _ = up K.2.2.2.2.2 j (-1) j
        unfold up
        rw [if_pos rfl]
      · rw [a3 i hi, hsS_new (tg := gI y2 76) hn hr hZ ht f0 (fun q => by rw [f1]; exact g1 q) (fun q => by rw [f1]; exact g1' q) (fun q => by rw [f2]; exact g2 q) (fun q => by rw [f2]; exact g2' q) r1]
        show _ = decide (_ = up K.2.2.2.1 j (b2i d) j)
        unfold up
        rw [if_pos rfl]
    · obtain ⟨b1, b2, b3⟩ := k3 j (by omega)
      rw [if_neg g0, if_neg g0, if_neg g0]
      refine ⟨?_, ?_, fun i hi => ?_⟩
      · show _ = up K.2.2.2.2.1 s (gI h 71 7) j
        unfold up
        rw [if_neg g0]
        exact b1
      · show _ = up K.2.2.2.2.2 s (-1) j
        unfold up
        rw [if_neg g0]
        exact b2
      · rw [b3 i hi, hsS_old hr (by omega)]
        show _ = decide (_ = up K.2.2.2.1 s (b2i d) j)
        unfold up
        rw [if_neg g0]
  have B59 : ∀ y v, Fx [76] [] h y → gI y 76 0 = a → (1 < r → v = b) → (¬ 1 < r → v = 0) → w_X_seen_B59 Q 16 (nI tt) c (b2i d) 76 1 v y := by
    intro y v x g0 g1 g1'
    have my := fx_XS x m
    unfold w_X_seen_B59
    rw [X_n76 my, show ix (1 : Int32) = 1 from rfl, X_r16_1 my, X_r16_14 my]
    have x2 : Fx [76] [] h (sI y 76 1 v) := fx_trans x (fx_sI _ _ (by simp))
    have f0 : gI (sI y 76 1 v) 76 0 = a := by rw [gI_sI, if_neg (by decide)]; exact g0
    have f1 : gI (sI y 76 1 v) 76 1 = v := by rw [gI_sI, if_pos ⟨rfl, rfl⟩]
    have f2 : gI (sI y 76 1 v) 19 1 = nI r := by rw [fx_I x2 (x := 19) (by decide)]; exact e1
    rw [f2]
    refine ⟨X_k76 my, vp_in_nI (n := 1) (by omega) (by omega), X_k16 my, X_k19 my, fun q => B82 _ _ x2 f0 (fun g => by rw [f1]; exact g1 g) (fun g => by rw [f1]; exact g1' g) (fun g => ?_) (fun _ => rfl), fun q => B82 _ _ x2 f0 (fun g => by rw [f1]; exact g1 g) (fun g => by rw [f1]; exact g1' g) (fun _ => rfl) (fun g => ?_)⟩
    · exact absurd q (nI_ge (b := r) (a := 2) (by omega) (by omega))
    · exact absurd (nI_le (a := r) (b := 2) (by omega) (by omega)) q
  rw [X_r16_14 m, X_r16_1 m, X_n76 m, show ix (0 : Int32) = 0 from rfl]
  have x2 : Fx [76] [] h (sI h 76 0 a) := fx_sI _ _ (by simp)
  have f0 : gI (sI h 76 0 a) 76 0 = a := by rw [gI_sI, if_pos ⟨rfl, rfl⟩]
  have f2 : gI (sI h 76 0 a) 19 1 = nI r := by rw [gI_sI, if_neg (fun q => absurd q.1 (by decide))]; exact e1
  rw [f2]
  refine ⟨X_k16 m, X_k76 m, vp_in_nI (n := 0) (by omega) (by omega), X_k19 m, fun q => B59 _ _ x2 f0 (fun g => ?_) (fun _ => rfl), fun q => B59 _ _ x2 f0 (fun _ => rfl) (fun g => ?_)⟩
  · exact absurd q (nI_ge (b := r) (a := 1) (by omega) (by omega))
  · exact absurd (nI_le (a := r) (b := 1) (by omega) (by omega)) q
theorem t_X_untell {K : KT} {r n s : Nat} {v : Int32} {Q : Bool → Hp → Prop} (m : XS h) (kx : KX K r n s h) (hq0 : inb v s = false → Q false h)
    (hq : ∀ j, j < s → v = nI j → (K.2.2.2.2.2 j = -1 → Q true (sI h 74 j (gI h 71 7))) ∧ (¬ K.2.2.2.2.2 j = -1 → Q false h)) : w_X_untell 16 v h Q := by
  obtain ⟨k1, k2, k3⟩ := kx
  unfold w_X_untell
  rw [X_r16_13 m]
  refine ⟨X_k16 m, X_k71 m, ?_⟩
  unfold w_Kn_takeAway
  rw [k1, X_r71_4 m, X_n74 m]
  refine ⟨fun z => hq0 (neg_inb z), fun z => ⟨X_k71 m, fun z2 => hq0 ((ge_inb (by omega) z).mp z2), fun z2 => ?_⟩⟩
  have : inb v s = true := by
    cases e : inb v s with
    | true => rfl
    | false => exact absurd ((ge_inb (by omega) z).mpr e) z2
  obtain ⟨j, hj, rfl⟩ := inb_ex (by omega) this
  rw [ix_nI (by omega), (k3 j hj).2.1]
  exact ⟨X_k74 m, vp_in_nI (by omega) (by omega), hq j hj rfl⟩
theorem t_X_later {v : Int32} {Q : Int32 → Hp → Prop} (m : XS h) (hq0 : (decide (0 ≤ v) && decide (v ≤ 1000)) = false → Q (-1) h)
    (hq : (decide (0 ≤ v) && decide (v ≤ 1000)) = true → (gI h 71 7 + v ≤ 100000 → Q (gI h 71 7 + v) (sI h 71 7 (gI h 71 7 + v))) ∧ (¬ gI h 71 7 + v ≤ 100000 → Q (-1) h)) : w_X_later 16 v h Q := by
  unfold w_X_later
  rw [X_r16_13 m]
  refine ⟨fun z => hq0 ?_, fun z => ⟨fun z2 => hq0 ?_, fun z2 => ⟨X_k16 m, X_k71 m, ?_⟩⟩⟩
  · rw [decide_eq_false (p := 0 ≤ v) (Int32.not_le.mpr z), Bool.false_and]
  · rw [decide_eq_false (p := v ≤ 1000) (Int32.not_le.mpr z2), Bool.and_false]
  · have := hq (by rw [decide_eq_true (p := 0 ≤ v) (Int32.not_lt.mp z), decide_eq_true (p := v ≤ 1000) (Int32.not_lt.mp z2)]; rfl)
    rw [gI_sI (h := h), if_pos ⟨rfl, rfl⟩]
    exact this
