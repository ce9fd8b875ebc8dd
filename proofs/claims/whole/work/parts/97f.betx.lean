/-! The class betters what is held -/
variable {h : Hp}
theorem t_Ac_keepShifts_L14 {f : Nat → Int32} {n q : Nat} {d : CT} {Q : Hp → Prop} (m : XS h) (e : EX f n (xS n 4) h) (hn : n ≤ 8) (y : YB f n h (some d)) (h1 : d.2.2.1 < xS n 4) (h2 : d.2.2.2 < xS n 4) (hq2 : q < 20) (hq : ∀ h', Fx [34] [] h h' → (∀ p c, p < 20 → p ≠ q → c < 8 → gI h' 34 (8 * p + c) = gI h 34 (8 * p + c)) → (∀ c, c < 8 → gI h' 34 (8 * q + c) = nI (xT (xM n d.2.2.2) c) - nI (xT (xM n d.2.2.1) c)) → Q h') : ∃ k, w_Ac_keepShifts_L14 Q 30 60 (nI q) k 0 h := by
  refine loop_0 (fun k i s => w_Ac_keepShifts_L14 Q 30 60 (nI q) k (nI i) s) (fun i s => Fx [34] [] h s ∧ (∀ p c, p < 20 → p ≠ q → c < 8 → gI s 34 (8 * p + c) = gI h 34 (8 * p + c)) ∧ ∀ c, c < i → gI s 34 (8 * q + c) = nI (xT (xM n d.2.2.2) c) - nI (xT (xM n d.2.2.1) c)) 8 _ ⟨fx_refl _ _ _, fun p c _ _ _ => rfl, fun c hc => absurd hc (Nat.not_lt_zero _)⟩ ?_ ?_
  · rintro k s ⟨x, e1, e2⟩
    unfold w_Ac_keepShifts_L14
    exact ⟨fun _ => hq s x e1 e2, fun z => absurd (Int32.le_refl _) z⟩
  · rintro k i s hi ⟨x, e1, e2⟩ ih
    have ms := fx_XS x m
    have ys : YB f n s (some d) := by
      have : gI s 60 = gI h 60 := fx_I x (by decide)
      unfold YB
      rw [this]
      exact y
    unfold w_Ac_keepShifts_L14
    refine ⟨fun z => absurd z (nI_ge (b := 8) hi (by omega)), fun _ => ⟨X_k30 ms, X_k60 ms, t_Ex_shiftOf ms (EX_fx e x (by decide) (by decide) (by decide)) hn ys h1 h2 hi ?_⟩⟩
    rw [X_r30_3 ms, X_n34 ms, show (8 : Int32) = nI 8 from rfl, pk_mul, nI_add, ix_nI (n := q * 8 + i) (by omega), nI_1]
    refine ⟨X_k34 ms, vp_in_nI (by omega) (by omega), ih _ ⟨fx_trans x (fx_sI _ _ (by simp)), fun p c hp hpq hc => ?_, fun c hc => ?_⟩⟩
    · rw [gI_sI, if_neg (fun g => absurd g.2 (by omega)), e1 p c hp hpq hc]
    · rw [gI_sI]
      by_cases g : c = i
      · rw [if_pos ⟨rfl, by omega⟩, g]
      · rw [if_neg (fun y => absurd y.2 (by omega)), e2 c (by omega)]
theorem t_X_better {f : Nat → Int32} {g : Nat → Nat → Int32} {r n fi A U b : Nat} {v : Int32} {x : XT} {Q : Int32 → Hp → Prop} (c0 : CN f r n h) (hB : HB f n) (a : AR g n fi A U h) (gA : g A = f) (hb : gI h 21 3 = nI b) (hb2 : b < 2 ^ 31) (ke : KE f r n b h) (hx : x.1 = 0 ∧ x.2.1 = -1)
    (hq0 : (decide (1 ≤ v) && decide (v ≤ 3)) = false → Q (-1000001) h)
    (hq1 : ∀ mo h1, 1 ≤ mo → mo ≤ 3 → v = nI mo → (exA f r n mo x (mo + 1)).1 ≤ 0 → Fx [60, 61, 62, 63, 64] [] h h1 → KE f r n b h1 → Q (-1000001) h1)
    (hq : ∀ mo h1 h2, 1 ≤ mo → mo ≤ 3 → v = nI mo → ¬ (exA f r n mo x (mo + 1)).1 ≤ 0 → Fx [60, 61, 62, 63, 64] [] h h1 → KE f r n b h1 → (∃ d, okX f r n mo d ∧ btF f n (exA f r n mo x (mo + 1)) = fun j => if 36 ≤ j ∧ j < 36 + n then f j + (nI (xT (xM n d.2.2.2) (j - 36)) - nI (xT (xM n d.2.2.1) (j - 36))) else f j) → TH (btF f n (exA f r n mo x (mo + 1))) (gN' g A (btF f n (exA f r n mo x (mo + 1)))) n (fiN fi A) (A1 A + 1) 0 b h1 h2 → Q (sm (fun c => btF f n (exA f r n mo x (mo + 1)) (36 + c) * btF f n (exA f r n mo x (mo + 1)) (24 + c)) n) h2) : w_X_better 16 v h Q := by
  have hn := c0.2.1.2.2.2.2.2
  have hA : A ≤ 20 := by have := a.2.2.2.2.1; omega
  unfold w_X_better
  rw [X_r16_11 c0.1]
  refine ⟨X_k16 c0.1, X_k60 c0.1, t_Ex_find c0 hB hb hb2 ke (fun z => ⟨fun _ => hq0 ?_, fun y => absurd rfl y⟩) (fun h1 mo m1 m3 ev x1 ve k1 => ?_)⟩
  · rcases z with z | z
    · rw [decide_eq_false (p := 1 ≤ v) (Int32.not_le.mpr z), Bool.false_and]
    · rw [decide_eq_false (p := v ≤ 3) (Int32.not_le.mpr z), Bool.and_false]
  have c1 := CN_fx c0 x1 (by decide) (by decide)
  have a1 := AR_fx hn a x1 (by decide) (by decide) (by decide) (by decide) (by decide)
  have mm := c1.1
  have gn := ex_gain (x := x) hn m3 hx ve
  refine ⟨fun z => hq1 mo h1 m1 m3 ev ?_ x1 k1, fun z => ?_⟩
  · rw [← gn]
    have := of_decide_eq_false z
    exact Decidable.not_not.mp this
  · have z1 : ¬ gI h1 60 8 ≤ 0 := of_decide_eq_true (ntf z)
    obtain ⟨o, y, rx, bs⟩ := ex_same (x := x) hn m3 hx ve
    have fin := hq mo h1
    rw [← gn] at fin
    cases o with
    | none =>
      have y0 : gI h1 60 8 = 0 := y
      exact absurd (by rw [y0]; exact Int32.le_refl _) z1
    | some d =>
      have ok := bs.1
      have u1 := xS_mo n hn 4 (by omega) (d.1 + 1) (by have := ok.1; omega)
      have u2 := xS_mo n hn 4 (by omega) (d.2.1 + 1) (by have := ok.2.1; omega)
      have i1 := ok.2.2.1.2
      have i2 := ok.2.2.2.1.2
      have n0 : 0 < n := by
        by_cases g0 : n = 0
        · subst g0
          exact absurd (by rw [y.1]; show (0 : Int32) - 0 ≤ 0; decide) z1
        · omega
      have eF : btF f n (exA f r n mo x (mo + 1)) = fun j => if 36 ≤ j ∧ j < 36 + n then f j + (nI (xT (xM n d.2.2.2) (j - 36)) - nI (xT (xM n d.2.2.1) (j - 36))) else f j := by
        funext j
        unfold btF
        rw [rx.2.2.2.1, rx.2.2.2.2]
        by_cases g0 : 36 ≤ j ∧ j < 36 + n
        · rw [if_pos g0, if_pos g0]
          dsimp only
          rw [xP_get (by omega), xP_get (by omega)]
        · rw [if_neg g0, if_neg g0]
      have fin2 := fun h2 => fin h2 m1 m3 ev z1 x1 k1 ⟨d, ok, eF⟩
      clear fin hq hq0 hq1
      revert fin2 eF
      generalize btF f n (exA f r n mo x (mo + 1)) = F
      intro eF fin2
      rw [X_r16_6 mm, X_r16_11 mm]
      refine ⟨X_k16 mm, X_k30 mm, ?_⟩
      unfold w_Ac_keepShifts
      refine ⟨X_k30 mm, t_Ac_keep mm a1.1 a1.2.1 a1.2.2.1 hA (fun h2 k => ?_)⟩
      have x2 := k.1
      have mm2 := fx_XS x2 mm
      have y2 : YB f n h2 (some d) := by
        have : gI h2 60 = gI h1 60 := fx_I x2 (by decide)
        unfold YB
        rw [this]
        exact y
      refine ⟨X_k30 mm2, t_Ac_latest mm2 k.2.1 (fiN_lt a1.2.1) k.2.2.1 (A1_lt hA) (t_Ac_keepShifts_L14 mm2 (EX_fx ve.1 x2 (by decide) (by decide) (by decide)) hn y2 (by omega) (by omega) (rg_lt _ _) (fun h3 x3 s1 s2 => ?_))⟩
      have mm3 := fx_XS x3 mm2
      have c3 := CN_fx (CN_fx c1 x2 (by decide) (by decide)) x3 (by decide) (by decide)
      have at3 : AT n (qN fi A) (g A) F h3 := by
        refine Or.inr ⟨?_, n0, fun j => ?_⟩
        · rw [fx_I x3 (x := 31) (by decide), k.2.2.2.2.1, if_pos rfl]
        · rw [eF, gA]
          dsimp only
          by_cases g0 : 36 ≤ j ∧ j < 36 + n
          · rw [if_pos g0, if_pos g0]
            unfold qN
            rw [s2 (j - 36) (by omega)]
          · rw [if_neg g0, if_neg g0]
      have b3 : gI h3 21 3 = nI b := by
        rw [fx_I x3 (x := 21) (by decide), fx_I x2 (x := 21) (by decide), fx_I x1 (x := 21) (by decide)]
        exact hb
      rw [X_r16_6 mm3, X_r16_2 mm3]
      refine ⟨X_k16 mm3, X_k30 mm3, t_Ac_latest mm3 (by rw [fx_I x3 (x := 30) (by decide)]; exact k.2.1) (fiN_lt a1.2.1) (by rw [fx_I x3 (x := 30) (by decide)]; exact k.2.2.1) (A1_lt hA) ⟨X_k30 mm3, t_Ac_apply mm3 hn (rg_lt _ _) at3 b3 c3.2.1.2.2.1 (c3.2.2.1.trans gA.symm) (fun h4 w => ?_)⟩⟩
      have mm4 := fx_XS w.1 mm3
      have x34 := fx_trans (fx_mono x3 (as' := [21, 22, 34]) (js' := []) (by simp) (by simp)) (fx_mono w.1 (by simp) (by simp))
      have Crc4 : Crc h4 21 r n := ⟨CO_21 mm4, by rw [w.2.2.2 1 (by decide)]; exact c3.2.1.2.1, by rw [w.2.2.2 2 (by decide)]; exact c3.2.1.2.2.1, c3.2.1.2.2.2⟩
      rw [X_r16_2 mm4]
      refine ⟨X_k16 mm4, X_k21 mm4, t_Co_heldGain Crc4 ?_⟩
      have e22 : gI h4 (21 + 1) = F := w.2.1
      rw [e22]
      refine fin2 h4 ⟨fx_trans (fx_mono x2 (by simp) (by simp)) (fx_mono x34 (by simp) (by simp)), w.2.1, w.2.2.1, fun j hj => ?_, AR_new hn a1 k x34 (fun p c hp hpq hc => ?_) (AT_eq hn at3 ?_ ?_ ?_ (fun c _ => ?_))⟩
      · rw [w.2.2.2 j hj, fx_I x3 (x := 21) (by decide), fx_I x2 (x := 21) (by decide)]
      · rw [fx_I w.1 (x := 34) (by decide), s1 p c hp hpq hc, fx_I x2 (x := 34) (by decide)]
      · rw [fx_I w.1 (x := 31) (by decide)]
      · rw [fx_I w.1 (x := 32) (by decide)]
      · rw [fx_I w.1 (x := 33) (by decide)]
      · rw [fx_I w.1 (x := 34) (by decide)]
theorem hs3_lt {g f : Nat → Int32} {n k : Nat} (hk : k < 3) : hs3 g f n k = sm (fun c => f (36 + c) * f (3 * c + k)) n := by
  unfold hs3
  rw [if_pos hk]
theorem t_X_held {f : Nat → Int32} {r n : Nat} {c : Int32} {Q : Int32 → Hp → Prop} (c0 : CN f r n h) (hq : Q (if inb c n then f (36 + ix c) else -1) h) : w_X_held 16 c h Q := by
  have m := c0.1
  obtain ⟨C, e1, e2, r1, hr, hn⟩ := c0.2.1
  unfold w_X_held
  rw [X_r16_2 m]
  refine ⟨X_k16 m, X_k21 m, t_Co_hasColumn (X_k21 m) e2 hn ⟨fun z => by rw [z] at hq; exact hq, fun z => ⟨X_k16 m, ?_⟩⟩⟩
  rw [ntf z] at hq
  obtain ⟨i, hi, rfl⟩ := inb_ex (by omega) (ntf z)
  rw [ix_nI (by omega)] at hq
  rw [X_r16_2 m]
  refine ⟨X_k21 m, t_Co_heldOf C (by omega) ?_⟩
  show Q (gI h 22 (36 + i)) h
  rw [c0.2.2.1]
  exact hq
theorem t_X_holding {f : Nat → Int32} {r n : Nat} {w : Int32} {Q : Int32 → Hp → Prop} (c0 : CN f r n h) (hq : ∀ h', Fx [76] [] h h' → Q (hdg f r n w) h') : w_X_holding 16 w h Q := by
  have m := c0.1
  have C0 := c0.2.1
  obtain ⟨C, e1, e2, r1, hr, hn⟩ := c0.2.1
  have h22 : gI h (21 + 1) = f := c0.2.2.1
  have ZBf := c0.2.2.2.2.2.2.1
  have B45 : ∀ e : w = 5 ∨ (∃ j, j < r ∧ w = nI j), w_X_holding_B45 Q 16 w h := by
    intro e
    unfold w_X_holding_B45
    rw [X_r16_2 m, X_r16_14 m]
    refine ⟨X_k16 m, X_k21 m, t_Co_heldSums C0 (X_k76 m) (X_n76 m) (by decide) (by decide) ?_⟩
    have fin := hq (sA h 76 (hs3 (gI h 76) f n)) (fx_sA _ _ (by simp))
    rw [h22]
    have x1 : Fx [76] [] h (sA h 76 (hs3 (gI h 76) f n)) := fx_sA _ _ (by simp)
    have e76 : gI (sA h 76 (hs3 (gI h 76) f n)) 76 = hs3 (gI h 76) f n := by
      funext k
      rw [gI_sA, if_pos rfl]
    revert fin x1 e76
    generalize sA h 76 (hs3 (gI h 76) f n) = h1
    intro fin x1 e76
    have m1 := fx_XS x1 m
    unfold hdg at fin
    rw [X_r16_2 m1, X_r16_14 m1]
    refine ⟨fun z => ⟨X_k16 m1, X_k21 m1, t_Co_farFromNeed (CO_21 m1) (X_k76 m1) (X_n76 m1) ?_⟩, fun z => ⟨X_k16 m1, X_k76 m1, ?_⟩⟩
    · rw [z, if_neg (by decide), if_neg (by decide), if_neg (by decide), if_pos rfl] at fin
      rw [e76, show gI h1 (21 + 1) = f from (fx_I x1 (by decide)).trans c0.2.2.1]
      have e3 : sm (fun j => ab (hs3 (gI h 76) f n j - f (32 + j))) 3 = sm (fun k => ab (sm (fun c => f (36 + c) * f (3 * c + k)) n - f (32 + k))) 3 := sm_congr (fun i hi => by rw [hs3_lt hi])
      rw [e3, sm_ext hr (fun i h1 h2 => ?_)]
      · exact fin
      · rw [(ZBf i h1 h2).1, sm_0 (fun c hc => by rw [(ZBf i h1 h2).2 c (by omega), Int32.mul_zero])]
        rfl
    · rcases e with e | ⟨j, hj, e⟩
      · exact absurd e z
      · subst e
        rw [X_n76 m1, ix_nI (by omega), e76, hs3_lt (by omega)]
        refine ⟨vp_in_nI (by omega) (by omega), ?_⟩
        rw [decide_eq_true (show (0 : Int32) ≤ nI j from nI_le (a := 0) (b := j) (by omega) (by omega)), decide_eq_true (show nI j ≤ (2 : Int32) from nI_le (a := j) (b := 2) (by omega) (by omega)), if_pos (show (true && true) = true from rfl), inb_nI (by omega) hj, ix_nI (by omega)] at fin
        exact fin
  have fin := hq h (fx_refl _ _ _)
  unfold hdg at fin
  unfold w_X_holding
  rw [X_r16_2 m]
  refine ⟨fun z => ⟨X_k16 m, X_k21 m, t_Co_heldGain C0 ?_⟩, fun z => ⟨fun z2 => ⟨X_k16 m, X_k21 m, t_Co_heldSteps C0 ?_⟩, fun z2 => ⟨fun z3 => B45 (Or.inl z3), fun z3 => ⟨X_k16 m, X_k21 m, t_Co_hasRow (X_k21 m) e1 (by omega) ⟨fun z4 => ?_, fun z4 => B45 (Or.inr (inb_ex (by omega) (ntf z4)))⟩⟩⟩⟩⟩
  · rw [z, if_neg (by decide), if_pos rfl] at fin
    rw [h22]
    exact fin
  · rw [z2, if_neg (by decide), if_neg (by decide), if_pos rfl] at fin
    rw [h22]
    exact fin
  · by_cases g : (decide (0 ≤ w) && decide (w ≤ 2)) = true
    · rw [if_pos g, z4, if_neg (by decide)] at fin
      exact fin
    · rw [if_neg g, if_neg z, if_neg z2, if_neg z3] at fin
      exact fin
