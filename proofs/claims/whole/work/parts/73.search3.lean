/-! The class's search of plans: all of it -/
variable {h : Hp}
theorem fdS_le {en : Nat} {v : Nat → Nat → Int32} {gn : Nat → Int32} {c : Nat} {R : Nat → Int32} {p : List Nat} {g : Int32} : ∀ (l : List (List Nat)) (st : ST), st.1 ≤ en → (fdS en v gn c R p g l st).1 ≤ en := by
  intro l
  induction l with
  | nil => intro st h; exact h
  | cons q l ih =>
    intro st h
    have h2 : (fdP en v gn c R p g st q).1 ≤ en := by
      unfold fdP
      split
      · exact tkS_le h
      · exact h
    have := ih _ h2
    unfold fdS at this ⊢
    rw [List.foldl_cons]
    exact this
/-- in the midst of a search -/
def PD (cc n en : Nat) (v : Nat → Nat → Int32) (gn : Nat → Int32) (h0 h : Hp) (c : Nat) (R : Nat → Int32) (p : List Nat) (st : ST) : Prop := Fx [35, 36, 37, 38] [] h0 h ∧ gR h = gR h0 ∧ (∀ j, j < 3 → gI h 36 j = R j) ∧ (∀ i, i < c → gI h 37 i = nI (p.getD i 0)) ∧ SP n en st h
theorem t_Ps_ch {cc n en : Nat} {v : Nat → Nat → Int32} {gn : Nat → Int32} {h0 : Hp} (ph : PH cc n v gn h0) (hen : en < 2 ^ 31) : ∀ (k c fuel left : Nat) (R : Nat → Int32) (p : List Nat) (g : Int32) (st : ST) (h : Hp) (Q : Hp → Prop), c + k = n → k + 1 ≤ fuel → left ≤ 12 → p.length = c → st.1 < en → PD cc n en v gn h0 h c R p st → (∀ h', PD cc n en v gn h0 h' c R p (fdS en v gn c R p g (PL k left) st) → Q h') → w_Ps_ch fuel 35 (nI c) (nI left) g h Q := by
  intro k
  induction k with
  | zero =>
    intro c fuel left R p g st h Q hk hf hl hp hlt pd hq
    obtain ⟨q1, q2, q3, q4, q5⟩ := pd
    have ph1 := PH_fx ph q1 (by rw [q2])
    obtain ⟨p1, p2, p3, p4, p5, p6, p7, p8, p9⟩ := ph1
    obtain ⟨m, rfl⟩ : ∃ m, fuel = m + 1 := ⟨fuel - 1, by omega⟩
    unfold w_Ps_ch w_Ps_choose
    rw [p2, p4]
    refine ⟨X_k35 p1, p3.1, fun z => absurd z (nI_nlt (by omega) (by omega)), fun _ => ⟨fun z => ?_, fun z => ?_⟩⟩
    · have l0 : left = 0 := (nI_eq (b := 0) (by omega) (by omega)).mp z
      have e0 : PL 0 left = [[]] := by unfold PL; rw [if_pos l0]
      rw [e0] at hq
      have nol : (∃ j, j < 3 ∧ R j ≠ 0) → Q h := fun ⟨j, hj, hne⟩ => by
        refine hq h ⟨q1, q2, q3, q4, ?_⟩
        have : fdS en v gn c R p g [[]] st = st := fdS_no _ _ (fun q hq => by
          rw [List.mem_singleton] at hq
          rw [hq]
          cases e : ldP v c R []
          · rfl
          · have := allB_true.mp e j hj
            rw [decide_eq_true_eq] at this
            exact absurd this hne)
        rw [this]
        exact q5
      rw [X_r35_0 p1, X_k36 p1, X_n36 p1, show ix (0 : Int32) = 0 from rfl, show ix (1 : Int32) = 1 from rfl, show ix (2 : Int32) = 2 from rfl, q3 0 (by omega), q3 1 (by omega), q3 2 (by omega)]
      refine ⟨rfl, vp_in_nI (n := 0) (by omega) (by omega), fun y0 => ⟨vp_in_nI (n := 1) (by omega) (by omega), fun y1 => ⟨vp_in_nI (n := 2) (by omega) (by omega), fun y2 => ?_, fun y2 => nol ⟨2, by omega, y2⟩⟩, fun y1 => nol ⟨1, by omega, y1⟩⟩, fun y0 => nol ⟨0, by omega, y0⟩⟩
      have ld : ldP v c R [] = true := allB_true.mpr (fun j hj => by
        match j, hj with
        | 0, _ => exact decide_eq_true y0
        | 1, _ => exact decide_eq_true y1
        | 2, _ => exact decide_eq_true y2)
      refine t_Ps_take ⟨p1, p2, p3, p4, p5, p6, p7, p8, p9⟩ q5 hen hlt (fun i hi => q4 i (by omega)) (fun h' f' g' s' => hq h' ⟨fx_trans q1 (fx_mono f' (by simp) (by simp)), g'.trans q2, ?_, ?_, ?_⟩)
      · rw [fx_I f' (x := 36) (by decide)]; exact q3
      · rw [fx_I f' (x := 37) (by decide)]; exact q4
      · have : fdS en v gn c R p g [[]] st = tkS en st p g := by
          show fdP en v gn c R p g st [] = _
          unfold fdP
          rw [if_pos ld, List.append_nil, gq, Int32.add_zero]
        rw [this]
        exact s'
    · have e0 : PL 0 left = [] := by unfold PL; rw [if_neg (fun g => z (by rw [g]; rfl))]
      rw [e0] at hq
      exact hq h ⟨q1, q2, q3, q4, q5⟩
  | succ k ih =>
    intro c fuel left R p g st h Q hk hf hl hp hlt pd hq
    obtain ⟨q1, q2, q3, q4, q5⟩ := pd
    have ph1 := PH_fx ph q1 (by rw [q2])
    have p2 := ph1.2.1
    have p4 := ph1.2.2.2.1
    have p5 := ph1.2.2.2.2.1
    obtain ⟨m, rfl⟩ : ∃ m, fuel = m + 1 := ⟨fuel - 1, by omega⟩
    unfold w_Ps_ch w_Ps_choose
    rw [p2, p4]
    refine ⟨X_k35 ph1.1, ph1.2.2.1.1, fun _ => ?_, fun z => absurd (nI_lt (by omega) (by omega)) z⟩
    refine t_Ps_isOutOfReach (k := k + 1) ph1 hk (by omega) hl q3 (fun b hb => ⟨fun z => ⟨X_k35 ph1.1, ?_⟩, fun z => ?_⟩)
    · -- the shares
      have loop : ∀ (least e : Nat), least ≤ 12 → (∀ i, i < e → least ≤ left - i) → (e ≤ left → left - e < least) → e ≤ left + 1 → fdS en v gn c R p g (shL k left e) st = fdS en v gn c R p g (PL (k + 1) left) st → ∃ x, w_Ps_share_L23 (fun c0 c1 c2 c3 h7 Q7 => w_Ps_ch m c0 c1 c2 c3 h7 Q7) Q 35 (nI c) (nI left) g (nI least) x (nI left) h := by
        intro least e h5 h1 h2 h3 h4
        have := loop_0 (fun x i s => w_Ps_share_L23 (fun c0 c1 c2 c3 h7 Q7 => w_Ps_ch m c0 c1 c2 c3 h7 Q7) Q 35 (nI c) (nI left) g (nI least) x (nI left - nI i) s) (fun i s => PD cc n en v gn h0 s c R p (fdS en v gn c R p g (shL k left i) st)) e h ⟨q1, q2, q3, q4, q5⟩ ?_ ?_
        · rw [show nI left - nI 0 = nI left from Int32.sub_zero _] at this
          exact this
        · rintro x s pds
          unfold w_Ps_share_L23
          refine ⟨fun _ => hq s (by rw [← h4]; exact pds), fun z => absurd ?_ z⟩
          by_cases g1 : e ≤ left
          · rw [pk_sub g1]; exact nI_lt (h2 g1) (by omega)
          · have g2 := pk_sneg (a := left) (b := e) (by omega) (by omega)
            rw [Int32.lt_iff_toInt_lt] at g2 ⊢
            have e1 : (nI least).toInt = (least : Int) := nI_toInt (by omega)
            have e2 : (0 : Int32).toInt = 0 := rfl
            omega
        · rintro x i s hi pds ih2
          have his : i ≤ left := by omega
          obtain ⟨r1, r2, r3, r4, r5⟩ := pds
          have phs := PH_fx ph r1 (by rw [r2])
          have le1 := r5.2.2.2.2
          unfold w_Ps_share_L23
          rw [pk_sub his]
          refine ⟨fun z => absurd z (nI_nlt (h1 i hi) (by omega)), fun _ => ⟨X_k35 phs.1, ?_⟩⟩
          rw [r5.1, r5.2.1]
          refine ⟨fun z => hq s ⟨r1, r2, r3, r4, ?_⟩, fun z => ?_⟩
          · have := fdS_more (e := left + 1 - i) ((nI_leI (by omega) (by omega)).mp z)
            rw [show i + (left + 1 - i) = left + 1 from by omega, ← shL_PL] at this
            rw [this]
            exact r5
          · have lt : (fdS en v gn c R p g (shL k left i) st).1 < en := Nat.lt_of_not_le (fun y => z (nI_le y (by omega)))
            rw [X_r35_1 phs.1, X_k37 phs.1, X_n37 phs.1, ix_nI (n := c) (by omega)]
            have f1 : Fx [36, 37] [] s (sI s 37 c (nI (left - i))) := fx_sI _ _ (by simp)
            have f01 : Fx [35, 36, 37, 38] [] h0 (sI s 37 c (nI (left - i))) := fx_trans r1 (fx_mono f1 (by simp) (by simp))
            have ph2 := PH_fx (h' := sI s 37 c (nI (left - i))) ph f01 (by rw [gR_sI, r2])
            refine ⟨rfl, vp_in_nI (by omega) (by omega), t_Ps_shiftRest (R := R) ph2 (by omega) (fun j hj => by rw [gI_sI, if_neg (fun y => absurd y.1 (by decide))]; exact r3 j hj) (fun s3 f3 g3 e3 => ?_)⟩
            have f03 : Fx [35, 36, 37, 38] [] h0 s3 := fx_trans f01 (fx_mono f3 (by simp) (by simp))
            have ph3 := PH_fx ph f03 (by rw [g3, gR_sI, r2])
            rw [ph3.2.1]
            refine ⟨X_k35 ph3.1, ph3.2.2.1.1, t_Co_gainOf ph3.2.2.1 (by omega) ⟨X_k35 ph3.1, ?_⟩⟩
            rw [ph3.2.2.2.2.2.2.2.1 c (by omega), nI_1, pk_sub (by omega), show left - (left - i) = i from by omega]
            refine ih (c + 1) m i (rsR v c (left - i) R) (p ++ [left - i]) (g + nI (left - i) * gn c) _ s3 _ (by omega) (by omega) (by omega) (by rw [List.length_append, hp]; rfl) lt ⟨f03, by rw [g3, gR_sI, r2], e3, fun i' hi' => ?_, ?_⟩ (fun s4 pd4 => ?_)
            · rw [fx_I f3 (x := 37) (by decide), gI_sI, getD_app, hp]
              by_cases g1 : i' = c
              · rw [if_pos ⟨rfl, g1⟩, if_pos g1]
              · rw [if_neg (fun y => g1 y.2), if_neg g1]; exact r4 i' (by omega)
            · exact SP_fx (SP_fx r5 f1) (fx_mono f3 (by simp) (by simp))
            · obtain ⟨t1, t2, t3, t4, t5⟩ := pd4
              have ph4 := PH_fx ph t1 (by rw [t2])
              refine ⟨X_k35 ph4.1, t_Ps_shiftRest ph4 (by omega) t3 (fun s5 f5 g5 e5 => ?_)⟩
              rw [← fdS_sh] at t5
              have := ih2 s5 ⟨fx_trans t1 (fx_mono f5 (by simp) (by simp)), g5.trans t2, fun j hj => ?_, fun i' hi' => ?_, SP_fx t5 (fx_mono f5 (by simp) (by simp))⟩
              · have e6 : nI left - nI (i + 1) = nI (left - i) + -1 := by
                  rw [← nI_add, ← pk_sub his, show nI 1 = 1 from rfl, Int32.sub_eq_add_neg, Int32.sub_eq_add_neg, Int32.neg_add, Int32.add_assoc, Int32.sub_eq_add_neg]
                rw [e6] at this
                exact this
              · rw [e5 j hj]
                unfold rsR
                rw [Int32.neg_mul, Int32.add_assoc, Int32.add_left_neg, Int32.add_zero]
              · rw [fx_I f5 (x := 37) (by decide), t4 i' (by omega), getD_app, if_neg (by omega)]
      unfold w_Ps_share
      dsimp only
      rw [p2, p4]
      refine ⟨X_k35 ph1.1, ph1.2.2.1.1, fun z2 => ?_, fun z2 => ?_⟩
      · have k0 : k = 0 := by
          obtain ⟨n', hn'⟩ : ∃ n', n = n' + 1 := ⟨n - 1, by omega⟩
          rw [hn', nI_s1] at z2
          have := (nI_eq (by omega) (by omega)).mp z2
          omega
        subst k0
        refine loop left 1 (by omega) (fun i hi => by omega) (fun h1 => by omega) (by omega) ?_
        have := fdS_last (en := en) (v := v) (gn := gn) (c := c) (left := left) (R := R) (p := p) (g := g) (st := st) left
        rw [shL_PL, Nat.add_comm left 1, this]
      · exact loop 0 (left + 1) (by omega) (fun i hi => Nat.zero_le _) (fun h1 => by omega) (Nat.le_refl _) rfl
    · have hb := hb (ntf z)
      refine hq h ⟨q1, q2, q3, q4, ?_⟩
      rw [fdS_no _ _ hb]
      exact q5
