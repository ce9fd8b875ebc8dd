/-! The class's face: small questions, draws -/
variable {h : Hp}
theorem t_X_number {f : Nat → Int32} {r n : Nat} {c k : Int32} {Q : Int32 → Hp → Prop} (c0 : CN f r n h) (hq : Q (if inb c n && inb k r then f (3 * ix c + ix k) else -1000001) h) : w_X_number 16 c k h Q := by
  have m := c0.1
  obtain ⟨C, e1, e2, r1, hr, hn⟩ := c0.2.1
  unfold w_X_number
  rw [X_r16_2 m]
  refine ⟨X_k16 m, X_k21 m, t_Co_hasColumn (X_k21 m) e2 hn ⟨fun z => by rw [z, Bool.false_and] at hq; exact hq, fun z => ⟨X_k16 m, ?_⟩⟩⟩
  rw [ntf z, Bool.true_and] at hq
  obtain ⟨i, hi, rfl⟩ := inb_ex (by omega) (ntf z)
  rw [X_r16_2 m]
  refine ⟨X_k21 m, t_Co_hasRow (X_k21 m) e1 (by omega) ⟨fun z2 => by rw [z2] at hq; exact hq, fun z2 => ⟨X_k16 m, ?_⟩⟩⟩
  rw [ntf z2, if_pos rfl] at hq
  obtain ⟨j, hj, rfl⟩ := inb_ex (by omega) (ntf z2)
  rw [ix_nI (n := i) (by omega), ix_nI (n := j) (by omega)] at hq
  rw [X_r16_2 m]
  refine ⟨X_k21 m, t_Co_numberOf C (by omega) ?_⟩
  show Q (gI h 22 (3 * i + j)) h
  rw [c0.2.2.1]
  exact hq
theorem t_X_gain {f : Nat → Int32} {r n : Nat} {c : Int32} {Q : Int32 → Hp → Prop} (c0 : CN f r n h) (hq : Q (if inb c n then f (24 + ix c) else -1000001) h) : w_X_gain 16 c h Q := by
  have m := c0.1
  obtain ⟨C, e1, e2, r1, hr, hn⟩ := c0.2.1
  unfold w_X_gain
  rw [X_r16_2 m]
  refine ⟨X_k16 m, X_k21 m, t_Co_hasColumn (X_k21 m) e2 hn ⟨fun z => by rw [z] at hq; exact hq, fun z => ⟨X_k16 m, ?_⟩⟩⟩
  rw [ntf z, if_pos rfl] at hq
  obtain ⟨i, hi, rfl⟩ := inb_ex (by omega) (ntf z)
  rw [ix_nI (by omega)] at hq
  rw [X_r16_2 m]
  refine ⟨X_k21 m, t_Co_gainOf C (by omega) ?_⟩
  show Q (gI h 22 (24 + i)) h
  rw [c0.2.2.1]
  exact hq
theorem t_X_need {f : Nat → Int32} {r n : Nat} {c : Int32} {Q : Int32 → Hp → Prop} (c0 : CN f r n h) (hq : Q (if inb c r then f (32 + ix c) else -1000001) h) : w_X_need 16 c h Q := by
  have m := c0.1
  obtain ⟨C, e1, e2, r1, hr, hn⟩ := c0.2.1
  unfold w_X_need
  rw [X_r16_2 m]
  refine ⟨X_k16 m, X_k21 m, t_Co_hasRow (X_k21 m) e1 (by omega) ⟨fun z => by rw [z] at hq; exact hq, fun z => ⟨X_k16 m, ?_⟩⟩⟩
  rw [ntf z, if_pos rfl] at hq
  obtain ⟨i, hi, rfl⟩ := inb_ex (by omega) (ntf z)
  rw [ix_nI (by omega)] at hq
  rw [X_r16_2 m]
  refine ⟨X_k21 m, t_Co_needOf C (by omega) ?_⟩
  show Q (gI h 22 (32 + i)) h
  rw [c0.2.2.1]
  exact hq
theorem t_X_fault {v : Int32} {Q : Int32 → Hp → Prop} (m : XS h) (hq : Q (if v = 0 then gI h 23 6 else if v = 1 then gI h 23 7 else -1) h) : w_X_fault 16 v h Q := by
  unfold w_X_fault
  rw [X_r16_3 m]
  refine ⟨fun z => ⟨X_k16 m, X_k23 m, ?_⟩, fun z => ⟨fun z2 => ⟨X_k16 m, X_k23 m, ?_⟩, fun z2 => ?_⟩⟩
  · rw [if_pos z] at hq; exact hq
  · rw [if_neg z, if_pos z2] at hq; exact hq
  · rw [if_neg z, if_neg z2] at hq; exact hq
theorem drw_0 {f : Nat → Int32} {r n : Nat} {T : Int32} {seed j : Nat} (hj : r ≤ j) : ∀ k, (drw f r n T seed k).2.2.2 j = 0 := by
  intro k
  induction k with
  | zero => rfl
  | succ k ih =>
    show adR (drw f r n T seed k).2.2.2 f _ r j = 0
    unfold adR
    rw [if_neg (by omega)]
    exact ih
theorem drw_ad {f : Nat → Int32} {r n : Nat} {T : Int32} {seed j : Nat} {g : Nat → Int32} (hZ : ZB f r) (k : Nat) (c : Nat) (hc : c < 8) (hj : j < 3) (hg : g j = (drw f r n T seed k).2.2.2 j) : adT g f c 1 3 j = adR (drw f r n T seed k).2.2.2 f c r j := by
  unfold adT adR
  rw [if_pos hj, hg, Int32.one_mul]
  by_cases e : j < r
  · rw [if_pos e]
  · rw [if_neg e, (hZ j (by omega) hj).2 c hc, Int32.add_zero]
theorem nSt_3x {f : Nat → Int32} {r : Nat} {S S' : Nat → Int32} {k t : Int32} (hr : r ≤ 3) (hZ : ZB f r) (h0 : ∀ j, r ≤ j → j < 3 → S j = 0) (he : ∀ j, j < 3 → S' j = S j) : mx (fun j => ab (t * S' j - k * f (32 + j))) 3 = nSt f r S k t := by
  unfold nSt
  rw [mx_ext hr (fun j h1 h2 => by rw [he j h2, h0 j h1 h2, (hZ j h1 h2).1, Int32.mul_zero, Int32.mul_zero]; decide)]
  exact mx_congr (fun j hj => by rw [he j (by omega)])
theorem dr_jr {x : Nat} (hx : x < 10007) : jrem (nI x * 137 + 71) 10007 = nI ((137 * x + 71) % 10007) := by
  rw [show (137 : Int32) = nI 137 from rfl, show (71 : Int32) = nI 71 from rfl, show (10007 : Int32) = nI 10007 from rfl, pk_mul, nI_add, jr_nI (by omega) (by omega) (by omega), Nat.mul_comm x 137]
theorem t_X_drawnStray {f : Nat → Int32} {r n seed t : Nat} {Q : Int32 → Hp → Prop} (c0 : CN f r n h) (h0 : 0 < n) (hs : seed < 10007) (ht : t ≤ 12) (hq : ∀ h', Fx [76] [] h h' → Q (drw f r n (nI t) seed t).2.1 h') : w_X_drawnStray 16 (nI seed) (nI t) h Q := by
  have m := c0.1
  have hn := c0.2.1.2.2.2.2.2
  have hr := c0.2.1.2.2.2.2.1
  have hZ := c0.2.2.2.2.2.2.1
  unfold w_X_drawnStray
  rw [X_r16_14 m]
  refine ⟨X_k16 m, t_fill (X_k76 m) (X_n76 m) (by omega) ?_⟩
  refine loop_0 (fun q k s => w_X_drawnStray_L13 Q 16 (nI t) q (nI (drw f r n (nI t) seed k).1) (drw f r n (nI t) seed k).2.1 (nI (k + 1)) s) (fun k s => Fx [76] [] h s ∧ ∀ j, j < 3 → gI s 76 j = (drw f r n (nI t) seed k).2.2.2 j) t (sA h 76 (fl (gI h 76) 3 0)) ⟨fx_sA _ _ (by simp), fun j hj => ?_⟩ ?_ ?_
  · rw [gI_sA, if_pos rfl]
    unfold fl
    rw [if_pos hj]
    rfl
  · rintro q s ⟨x, e⟩
    unfold w_X_drawnStray_L13
    exact ⟨fun _ => hq s x, fun z => absurd (nI_lt (Nat.lt_succ_self t) (by omega)) z⟩
  · rintro q k s hk ⟨x, e⟩ ih
    have cs := CN_fx c0 x (by decide) (by decide)
    have ms := cs.1
    have en : gI s 21 2 = nI n := cs.2.1.2.2.1
    have lt := drw_lt f r n (nI t) hs k
    have hy : (137 * (drw f r n (nI t) seed k).1 + 71) % 10007 < 10007 := Nat.mod_lt _ (by decide)
    have hc : (137 * (drw f r n (nI t) seed k).1 + 71) % 10007 % n < n := Nat.mod_lt _ h0
    unfold w_X_drawnStray_L13 w_X_draw
    rw [X_r16_2 ms, en, dr_jr lt]
    refine ⟨fun z => absurd z (nI_nlt (by omega) (by omega)), fun _ => ⟨X_k16 ms, X_k21 ms, fun z => absurd z (nI_ge (b := n) (a := 0) h0 (by omega)), fun _ => ⟨X_k16 ms, ?_⟩⟩⟩
    rw [X_r16_2 ms, X_r16_14 ms, en, jr_nI (by omega) h0 (by omega)]
    refine ⟨X_k21 ms, nI_ned h0 (by omega), t_Co_addTo (CO_21 ms) (by omega) (X_k76 ms) (X_n76 ms) (by decide) ?_⟩
    have x2 : Fx [76] [] s (sA s 76 (adT (gI s 76) (gI s (21 + 1)) ((137 * (drw f r n (nI t) seed k).1 + 71) % 10007 % n) 1 3)) := fx_sA _ _ (by simp)
    have e2 : ∀ j, j < 3 → gI (sA s 76 (adT (gI s 76) (gI s (21 + 1)) ((137 * (drw f r n (nI t) seed k).1 + 71) % 10007 % n) 1 3)) 76 j = (drw f r n (nI t) seed (k + 1)).2.2.2 j := fun j hj => by
      rw [gI_sA, if_pos rfl, show gI s (21 + 1) = f from cs.2.2.1]
      exact drw_ad hZ k _ (by omega) hj (e j hj)
    generalize sA s 76 (adT (gI s 76) (gI s (21 + 1)) ((137 * (drw f r n (nI t) seed k).1 + 71) % 10007 % n) 1 3) = s2 at x2 e2 ⊢
    have c2 := CN_fx cs x2 (by decide) (by decide)
    have m2 := c2.1
    rw [X_r16_2 m2, X_r16_14 m2]
    refine ⟨X_k16 m2, X_k21 m2, t_Co_strayAt (CO_21 m2) (X_k76 m2) (X_n76 m2) (t_max ?_)⟩
    rw [show gI s2 (21 + 1) = f from c2.2.2.1, nSt_3x (S := (drw f r n (nI t) seed (k + 1)).2.2.2) hr hZ (fun j h1 _ => drw_0 h1 (k + 1)) e2, nI_1]
    exact ih s2 ⟨fx_trans x x2, e2⟩
theorem t_X_drawSums {f : Nat → Int32} {r n seed t : Nat} {Q : Int32 → Hp → Prop} (c0 : CN f r n h) (h0 : 0 < n) (hs : seed < 10007) (ht : t ≤ 12) (hq : ∀ h', Fx [76] [] h h' → (∀ j, j < 3 → gI h' 76 j = (drw f r n (nI t) seed t).2.2.2 j) → Q (drw f r n (nI t) seed t).2.2.1 h') : w_X_drawSums 16 (nI seed) (nI t) h Q := by
  have m := c0.1
  have hn := c0.2.1.2.2.2.2.2
  have hr := c0.2.1.2.2.2.2.1
  have hZ := c0.2.2.2.2.2.2.1
  unfold w_X_drawSums
  rw [X_r16_14 m]
  refine ⟨X_k16 m, t_fill (X_k76 m) (X_n76 m) (by omega) ?_⟩
  refine loop_0 (fun q k s => w_X_drawSums_L13 Q 16 (nI t) q (nI (drw f r n (nI t) seed k).1) (drw f r n (nI t) seed k).2.2.1 (nI k) s) (fun k s => Fx [76] [] h s ∧ ∀ j, j < 3 → gI s 76 j = (drw f r n (nI t) seed k).2.2.2 j) t (sA h 76 (fl (gI h 76) 3 0)) ⟨fx_sA _ _ (by simp), fun j hj => ?_⟩ ?_ ?_
  · rw [gI_sA, if_pos rfl]
    unfold fl
    rw [if_pos hj]
    rfl
  · rintro q s ⟨x, e⟩
    unfold w_X_drawSums_L13
    exact ⟨fun _ => hq s x e, fun z => absurd (Int32.le_refl _) z⟩
  · rintro q k s hk ⟨x, e⟩ ih
    have cs := CN_fx c0 x (by decide) (by decide)
    have ms := cs.1
    have en : gI s 21 2 = nI n := cs.2.1.2.2.1
    have lt := drw_lt f r n (nI t) hs k
    have hy : (137 * (drw f r n (nI t) seed k).1 + 71) % 10007 < 10007 := Nat.mod_lt _ (by decide)
    have hc : (137 * (drw f r n (nI t) seed k).1 + 71) % 10007 % n < n := Nat.mod_lt _ h0
    unfold w_X_drawSums_L13 w_X_draw
    rw [X_r16_2 ms, en, dr_jr lt]
    refine ⟨fun z => absurd z (nI_ge hk (by omega)), fun _ => ⟨X_k16 ms, X_k21 ms, fun z => absurd z (nI_ge (b := n) (a := 0) h0 (by omega)), fun _ => ⟨X_k16 ms, ?_⟩⟩⟩
    rw [X_r16_2 ms, X_r16_14 ms, en, jr_nI (by omega) h0 (by omega)]
    refine ⟨X_k21 ms, nI_ned h0 (by omega), t_Co_addTo (CO_21 ms) (by omega) (X_k76 ms) (X_n76 ms) (by decide) ?_⟩
    have x2 : Fx [76] [] s (sA s 76 (adT (gI s 76) (gI s (21 + 1)) ((137 * (drw f r n (nI t) seed k).1 + 71) % 10007 % n) 1 3)) := fx_sA _ _ (by simp)
    have e2 : ∀ j, j < 3 → gI (sA s 76 (adT (gI s 76) (gI s (21 + 1)) ((137 * (drw f r n (nI t) seed k).1 + 71) % 10007 % n) 1 3)) 76 j = (drw f r n (nI t) seed (k + 1)).2.2.2 j := fun j hj => by
      rw [gI_sA, if_pos rfl, show gI s (21 + 1) = f from cs.2.2.1]
      exact drw_ad hZ k _ (by omega) hj (e j hj)
    generalize sA s 76 (adT (gI s 76) (gI s (21 + 1)) ((137 * (drw f r n (nI t) seed k).1 + 71) % 10007 % n) 1 3) = s2 at x2 e2 ⊢
    have c2 := CN_fx cs x2 (by decide) (by decide)
    have m2 := c2.1
    rw [X_r16_2 m2]
    refine ⟨X_k16 m2, X_k21 m2, t_Co_gainOf (CO_21 m2) (by omega) ?_⟩
    rw [show gI s2 (21 + 1) = f from c2.2.2.1, nI_1]
    exact ih s2 ⟨fx_trans x x2, e2⟩
theorem t_X_drawn {f : Nat → Int32} {r n : Nat} {s t w : Int32} {Q : Int32 → Hp → Prop} (c0 : CN f r n h)
    (hq0 : ((decide (0 ≤ s) && decide (s ≤ 9999)) && ((decide (0 ≤ t) && decide (t ≤ 12)) && ((decide (0 ≤ w) && decide (w ≤ 2)) && decide (n ≠ 0)))) = false → Q (-1000001) h)
    (hq : ∀ h' s' t', s' ≤ 9999 → t' ≤ 12 → s = nI s' → t = nI t' → n ≠ 0 → (decide (0 ≤ w) && decide (w ≤ 2)) = true → Fx [76] [] h h' → Q (drW f r (drw f r n (nI t') s' t') w) h') : w_X_drawn 16 s t w h Q := by
  have m := c0.1
  have hn := c0.2.1.2.2.2.2.2
  have hr := c0.2.1.2.2.2.2.1
  have hZ := c0.2.2.2.2.2.2.1
  unfold w_X_drawn
  refine ⟨fun z => hq0 (by rw [decide_eq_false (p := 0 ≤ s) (Int32.not_le.mpr z)]; rfl), fun z => ⟨fun z2 => hq0 (by rw [decide_eq_false (p := s ≤ 9999) (Int32.not_le.mpr z2), Bool.and_false]; rfl), fun z2 => t_X_isLength ⟨fun z3 => hq0 (by rw [z3, Bool.false_and, Bool.and_false]), fun z3 => ⟨X_k16 m, ?_⟩⟩⟩⟩
  rw [X_r16_2 m, show gI h 21 2 = nI n from c0.2.1.2.2.1]
  obtain ⟨s', hs', rfl⟩ := in_nI (k := 9999) (v := s) (M := 9999) rfl (by rw [decide_eq_true (Int32.not_lt.mp z), decide_eq_true (Int32.not_lt.mp z2)]; decide)
  obtain ⟨t', ht', rfl⟩ := in_nI (k := 12) (v := t) (M := 12) rfl z3
  refine ⟨X_k21 m, fun z4 => hq0 ?_, fun z4 => ⟨fun z5 => hq0 (by rw [decide_eq_false (p := 0 ≤ w) (Int32.not_le.mpr z5), Bool.false_and, Bool.false_and, Bool.and_false, Bool.and_false]), fun z5 => ⟨fun z6 => ?_, fun z6 => hq0 (by rw [decide_eq_false z6, Bool.and_false, Bool.false_and, Bool.and_false, Bool.and_false])⟩⟩⟩
  · have : n = 0 := by
      by_cases g : 1 ≤ n
      · exact absurd z4 (nI_nlt (b := 1) g (by omega))
      · omega
    rw [decide_eq_false (p := n ≠ 0) (fun q => q this), Bool.and_false, Bool.and_false, Bool.and_false]
  · have h0 : 0 < n := by
      by_cases g : n < 1
      · exact absurd (nI_lt (b := 1) g (by omega)) z4
      · omega
    have hq := fun h' x => hq h' s' t' hs' ht' rfl rfl (by omega) (by rw [decide_eq_true (Int32.not_lt.mp z5), decide_eq_true z6]; rfl) x
    unfold drW at hq
    refine ⟨fun z7 => t_X_drawnStray c0 h0 (by omega) ht' (fun h' x => ?_), fun z7 => t_X_drawSums c0 h0 (by omega) ht' (fun h' x e => ⟨fun z8 => ?_, fun z8 => ?_⟩)⟩
    · have := hq h' x
      rw [if_pos z7] at this
      exact this
    · have := hq h' x
      rw [if_neg z7, if_pos z8] at this
      exact this
    · have := hq h' x
      rw [if_neg z7, if_neg z8] at this
      have c' := CN_fx c0 x (by decide) (by decide)
      have m' := c'.1
      rw [X_r16_2 m', X_r16_14 m']
      refine ⟨X_k16 m', X_k21 m', t_Co_farFromNeed (CO_21 m') (X_k76 m') (X_n76 m') ?_⟩
      rw [show gI h' (21 + 1) = f from c'.2.2.1, sm_ext (r := r) hr (fun j h1 h2 => by rw [e j h2, drw_0 h1 t', (hZ j h1 h2).1]; decide), show sm (fun j => ab (gI h' 76 j - f (32 + j))) r = sm (fun j => ab ((drw f r n (nI t') s' t').2.2.2 j - f (32 + j))) r from sm_congr (fun j hj => by rw [e j (by omega)])]
      exact this
theorem t_X_chance {f : Nat → Int32} {r n : Nat} {t w : Int32} {Q : Int32 → Hp → Prop} (c0 : CN f r n h)
    (hq0 : (((decide (0 ≤ t) && decide (t ≤ 12)) && (decide (0 ≤ w) && decide (w ≤ 12))) && decide (n ≠ 0)) = false → Q (-1) h)
    (hq : ∀ h' t' w', t' ≤ 12 → w' ≤ 12 → t = nI t' → w = nI w' → n ≠ 0 → Fx [76] [] h h' → Q (sm (fun s => b2i (decide (¬ nI w' * nI t' < (drw f r n (nI t') s t').2.1))) 100) h') : w_X_chance 16 t w h Q := by
  have m := c0.1
  have hn := c0.2.1.2.2.2.2.2
  unfold w_X_chance
  refine t_X_isStrip ⟨fun z => hq0 (by unfold isSt at z; rw [z]; rfl), fun z => ⟨X_k16 m, ?_⟩⟩
  obtain ⟨t', w', ht, hw, rfl, rfl⟩ := isStrip_nI z
  rw [X_r16_2 m, show gI h 21 2 = nI n from c0.2.1.2.2.1]
  refine ⟨X_k21 m, fun z4 => ?_, fun z4 => hq0 ?_⟩
  · have h0 : 0 < n := by
      have := (nI_leI (a := 1) (by omega) (by omega)).mp z4
      omega
    refine loop_0 (fun q i (x : Hp) => w_X_chance_L26 Q 16 (nI t') (nI w') q (sm (fun s => b2i (decide (¬ nI w' * nI t' < (drw f r n (nI t') s t').2.1))) i) (nI i) x) (fun i x => Fx [76] [] h x) 100 h (fx_refl _ _ _) ?_ ?_
    · rintro q x fx
      unfold w_X_chance_L26
      exact ⟨fun _ => hq x t' w' ht hw rfl rfl (by omega) fx, fun z => absurd (Int32.le_refl _) z⟩
    · rintro q i x hi fx ih
      have cx := CN_fx c0 fx (by decide) (by decide)
      unfold w_X_chance_L26
      refine ⟨fun z => absurd z (nI_ge (b := 100) hi (by omega)), fun _ => ⟨X_k16 cx.1, t_X_drawnStray cx h0 (by omega) ht (fun h' x' => ?_)⟩⟩
      have := ih h' (fx_trans fx x')
      rw [sm] at this
      rw [nI_1]
      refine ⟨fun z => ?_, fun z => ?_⟩
      · rw [decide_eq_false (fun g => g z), show b2i false = 0 from rfl, Int32.add_zero] at this
        exact this
      · rw [decide_eq_true z, show b2i true = 1 from rfl] at this
        exact this
  · have : n = 0 := by
      by_cases g : 1 ≤ n
      · exact absurd (nI_le (a := 1) g (by omega)) z4
      · omega
    rw [decide_eq_false (p := n ≠ 0) (fun q => q this), Bool.and_false]
