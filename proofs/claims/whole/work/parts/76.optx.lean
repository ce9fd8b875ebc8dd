/-! The class's best plan -/
variable {h : Hp}
/-- the best plan so far, as the class has it -/
def OP (n : Nat) (o : Option (List Nat × Int32 × Nat)) (h : Hp) : Prop := match o with
  | none => gI h 50 10 = 0
  | some x => gI h 50 10 = 1 ∧ gI h 50 11 = x.2.1 ∧ gI h 50 12 = nI x.2.2 ∧ ∀ j, j < n → gI h 51 j = nI (x.1.getD j 0)
theorem OP_fx {n : Nat} {o : Option (List Nat × Int32 × Nat)} {as js : List Nat} {h' : Hp} (a : OP n o h) (f : Fx as js h h') (h1 : 50 ∉ as) (h2 : 51 ∉ as) : OP n o h' := by
  unfold OP at a ⊢
  rw [fx_I f h1, fx_I f h2]
  exact a
/-- the class's columns that are now -/
def CN (f : Nat → Int32) (r n : Nat) (h : Hp) : Prop := XS h ∧ Crc h 21 r n ∧ gI h 22 = f ∧ FB f n ∧ NB f ∧ GB f n ∧ ZB f r ∧ 81 ≤ gX h
theorem CN_fx {f : Nat → Int32} {r n : Nat} {as js : List Nat} {h' : Hp} (a : CN f r n h) (x : Fx as js h h') (h1 : 21 ∉ as) (h2 : 22 ∉ as) : CN f r n h' := by
  obtain ⟨a1, a2, a3, a4, a5, a6, a7, a8⟩ := a
  exact ⟨fx_XS x a1, fx_Crc x (by decide) h1 a2, by rw [fx_I x h2]; exact a3, a4, a5, a6, a7, by rw [x.2.2.1]; exact a8⟩
/-- a run of the search over the columns that are now -/
theorem t_run_now {f : Nat → Int32} {r n t ta en : Nat} {Q : Hp → Prop} (c : CN f r n h) (ht : t ≤ 12) (hen : en < 2 ^ 31) (hen1 : 0 < en) (hta : ta = 54 ∨ ta = 76) (htg : ∀ j, j < 3 → gI h ta j = f (32 + j)) (hq : ∀ h', Fx [35, 36, 37, 38, 39, 40, 41] [] h h' → SP n en (fdS en (vT f (-1)) (fun c => f (24 + c)) 0 (fun j => f (32 + j)) [] 0 (PL n t) (0, 0, [])) h' → Q h') : w_Ps_run 35 21 (-1) (nI t) ta (nI en) h Q := by
  obtain ⟨a1, a2, a3, a4, a5, a6, a7, a8⟩ := c
  refine t_Ps_run a1 a2.1 a2.2.2.1 a2.2.2.2.2.2 (Or.inr rfl) a3 a4 a8 ht hen hen1 ?_ htg hq
  rcases hta with e | e
  · rw [e]; exact ⟨X_k54 a1, X_n54 a1, by decide⟩
  · rw [e]; exact ⟨X_k76 a1, X_n76 a1, by decide⟩
theorem cnt_lead {f : Nat → Int32} {r n t : Nat} (hn : n ≤ 8) (hr : r ≤ 3) (hZ : ZB f r) : ((PL n t).filter (ldP (vT f (-1)) 0 (fun j => f (32 + j)))).length = cntL f r n (PL n t) := by
  unfold cntL
  congr 1
  exact List.filter_congr (fun p hp => ld_lead hn hr hZ hp)
theorem t_Op_findPlan {f : Nat → Int32} {r n s : Nat} {Q : Hp → Prop} (c : CN f r n h) (hs : f 35 = nI s) (hs2 : s ≤ 12) (hq : ∀ h', Fx [35, 36, 37, 38, 39, 40, 41, 50, 51, 54] [] h h' → gI h' 50 8 = gI h 50 8 → gI h' 50 9 = gI h 50 9 → OP n (opR f r n (s + 1)) h' → Q h') : w_Op_findPlan 50 h Q := by
  have a1 := c.1
  have hn := c.2.1.2.2.2.2.2
  have hr := c.2.1.2.2.2.2.1
  have hZ := c.2.2.2.2.2.2.1
  unfold w_Op_findPlan
  refine ⟨X_k50 a1, ?_⟩
  refine loop_0 (fun m t x => w_Op_findPlan_L7 Q 50 m (nI t) x) (fun t x => Fx [35, 36, 37, 38, 39, 40, 41, 50, 51, 54] [] h x ∧ gI x 50 8 = gI h 50 8 ∧ gI x 50 9 = gI h 50 9 ∧ OP n (opR f r n t) x) (s + 1) (sI h 50 10 0) ⟨fx_sI _ _ (by simp), ?_, ?_, ?_⟩ ?_ ?_
  · rw [gI_sI, if_neg (by decide)]
  · rw [gI_sI, if_neg (by decide)]
  · show gI (sI h 50 10 0) 50 10 = 0
    rw [gI_sI, if_pos ⟨rfl, rfl⟩]
  · rintro m x ⟨fx, k8, k9, op⟩
    have cx := CN_fx c fx (by decide) (by decide)
    unfold w_Op_findPlan_L7
    rw [X_r50_0 cx.1]
    refine ⟨X_k50 cx.1, cx.2.1.1.1, t_Co_steps cx.2.1.1 ⟨fun _ => hq x fx k8 k9 op, fun z => absurd ?_ z⟩⟩
    show gI x 22 35 < _
    rw [cx.2.2.1, hs]
    exact nI_lt (by omega) (by omega)
  · rintro m t x ht ⟨fx, k8, k9, op⟩ ih
    have cx := CN_fx c fx (by decide) (by decide)
    unfold w_Op_findPlan_L7
    rw [X_r50_0 cx.1]
    refine ⟨X_k50 cx.1, cx.2.1.1.1, t_Co_steps cx.2.1.1 ⟨fun z => absurd z ?_, fun _ => ?_⟩⟩
    · show ¬ gI x 22 35 < _
      rw [cx.2.2.1, hs]
      exact nI_nlt (by omega) (by omega)
    · refine loop_0 (fun m' j y => w_Op_findPlan_L20 Q (w_Op_findPlan_L7 Q 50 m) 50 (nI t) m' (nI j) y) (fun j y => Fx [54] [] x y ∧ ∀ j', j' < j → gI y 54 j' = f (32 + j')) 3 x ⟨fx_refl _ _ _, fun j' hj' => absurd hj' (Nat.not_lt_zero _)⟩ ?_ ?_
      · rintro m' y ⟨fy, ey⟩
        have cy := CN_fx cx fy (by decide) (by decide)
        unfold w_Op_findPlan_L20
        rw [X_r50_0 cy.1, X_r50_1 cy.1, X_r50_5 cy.1]
        refine ⟨fun _ => ⟨X_k50 cy.1, X_k35 cy.1, t_run_now (en := 1000000) cy (by omega) (by decide) (by decide) (Or.inl rfl) ey (fun z fz sz => ?_)⟩, fun z => absurd (Int32.le_refl _) z⟩
        have cz := CN_fx cy fz (by decide) (by decide)
        have fxz : Fx [35, 36, 37, 38, 39, 40, 41, 50, 51, 54] [] h z := fx_trans fx (fx_trans (fx_mono fy (by simp) (by simp)) (fx_mono fz (by simp) (by simp)))
        have e50 : gI z 50 = gI x 50 := by rw [fx_I fz (by decide), fx_I fy (by decide)]
        have opz : OP n (opR f r n t) z := OP_fx (OP_fx op fy (by decide) (by decide)) fz (by decide) (by decide)
        have len := PL_le (n := n) (t := t) hn (by omega)
        have fo := fd_op (en := 1000000) (r := r) (n := n) (t := t) (f := f) hn hr hZ (PL n t) (0, 0, []) (fun q hq => hq) (by show 0 + _ ≤ _; omega)
        have step : opR f r n (t + 1) = match toO t (fdS 1000000 (vT f (-1)) (fun c => f (24 + c)) 0 (fun j => f (32 + j)) [] 0 (PL n t) (0, 0, [])) with
          | none => opR f r n t
          | some b => match opR f r n t with
            | none => some b
            | some a => if b.2.1 ≤ a.2.1 then some a else some b := by
          rw [fo]
          exact op_merge (PL n t) (opR f r n t)
        have cn := fd_cnt (en := 1000000) (v := vT f (-1)) (gn := fun c => f (24 + c)) (R := fun j => f (32 + j)) (c := 0) (p := []) (g := 0) (PL n t) (0, 0, []) (by decide)
        have fl := List.length_filter_le (ldP (vT f (-1)) 0 (fun j => f (32 + j))) (PL n t)
        revert sz step cn
        generalize fdS 1000000 (vT f (-1)) (fun c => f (24 + c)) 0 (fun j => f (32 + j)) [] 0 (PL n t) (0, 0, []) = st
        intro sz step cn
        have small : st.1 ≤ 50388 := by
          rw [cn]
          show min 1000000 (0 + _) ≤ 50388
          omega
        have next : opR f r n (t + 1) = opR f r n t → w_Op_findPlan_L7 Q 50 m (nI t + 1) z := fun e => by
          rw [nI_1]
          exact ih z ⟨fxz, by rw [e50]; exact k8, by rw [e50]; exact k9, by rw [e]; exact opz⟩
        have take : st.1 ≠ 0 → opR f r n (t + 1) = some (st.2.2, st.2.1, t) → w_Op_findPlan_B95 Q (w_Op_findPlan_L7 Q 50 m) 50 (nI t) z := fun h0 e => by
          unfold w_Op_findPlan_B95
          rw [X_r50_1 cz.1, X_r50_2 cz.1, X_r35_2 cz.1, X_k50 cz.1, X_k35 cz.1, X_k38 cz.1, X_k51 cz.1, X_n38 cz.1, X_n51 cz.1, show ix (0 : Int32) = 0 from rfl, show ix (8 : Int32) = 8 from rfl, nI_1]
          refine ⟨rfl, rfl, rfl, rfl, by decide, by decide, ih _ ⟨fx_trans fxz (fx_trans (fx_trans (fx_trans (fx_sI _ _ (by simp)) (fx_sI _ _ (by simp))) (fx_sI _ _ (by simp))) (fx_sA _ _ (by simp))), ?_, ?_, ?_⟩⟩
          · rw [gI_sA, if_neg (by decide), gI_sI, if_neg (by decide), gI_sI, if_neg (by decide), gI_sI, if_neg (by decide), e50]; exact k8
          · rw [gI_sA, if_neg (by decide), gI_sI, if_neg (by decide), gI_sI, if_neg (by decide), gI_sI, if_neg (by decide), e50]; exact k9
          · rw [e]
            refine ⟨?_, ?_, ?_, fun j hj => ?_⟩
            · rw [gI_sA, if_neg (by decide), gI_sI, if_neg (by decide), gI_sI, if_neg (by decide), gI_sI, if_pos ⟨rfl, rfl⟩]
            · rw [gI_sA, if_neg (by decide), gI_sI, if_neg (by decide), gI_sI, if_pos ⟨rfl, rfl⟩, gI_sI, if_neg (by decide)]; exact sz.2.2.1
            · rw [gI_sA, if_neg (by decide), gI_sI, if_pos ⟨rfl, rfl⟩]
            · rw [gI_sA, if_pos rfl]
              unfold va_cpy
              rw [if_pos (by omega), show 0 + (j - 0) = j from by omega, gI_sI, if_neg (fun y => absurd y.1 (by decide)), gI_sI, if_neg (fun y => absurd y.1 (by decide)), gI_sI, if_neg (fun y => absurd y.1 (by decide))]
              exact sz.2.2.2.1 h0 j hj
        rw [X_r50_1 cz.1, sz.2.1, sz.2.2.1]
        refine ⟨X_k50 cz.1, X_k35 cz.1, fun y => next ?_, fun y => ?_⟩
        · have e0 : st.1 = 0 := by
            by_cases g : st.1 = 0
            · exact g
            · exact absurd y (nI_nle (by omega) (by omega))
          rw [step]
          unfold toO
          rw [if_pos e0]
        · have e0 : st.1 ≠ 0 := fun g => y (by rw [g]; exact Int32.le_refl _)
          have et : toO t st = some (st.2.2, st.2.1, t) := by unfold toO; rw [if_neg e0]
          rw [et] at step
          dsimp only at step
          cases eo : opR f r n t with
          | none =>
            rw [eo] at step opz
            have o1 : gI z 50 10 = 0 := opz
            refine ⟨fun _ => take e0 step, fun w => absurd o1 w⟩
          | some a =>
            rw [eo] at step opz
            obtain ⟨o1, o2, o3, o4⟩ := opz
            dsimp only at step
            rw [o1, o2]
            refine ⟨fun w => absurd w (by decide), fun _ => ⟨fun w => next ?_, fun w => take e0 ?_⟩⟩
            · rw [if_pos w] at step; rw [step, eo]
            · rw [if_neg w] at step; exact step
      · rintro m' j y hj ⟨fy, ey⟩ ih2
        have cy := CN_fx cx fy (by decide) (by decide)
        unfold w_Op_findPlan_L20
        refine ⟨fun z => absurd z (nI_ge (b := 3) hj (by omega)), fun _ => ?_⟩
        rw [X_r50_0 cy.1, X_r50_5 cy.1]
        refine ⟨X_k50 cy.1, cy.2.1.1.1, t_Co_needOf cy.2.1.1 hj ?_⟩
        rw [X_k54 cy.1, X_n54 cy.1, ix_nI (by omega), nI_1]
        refine ⟨rfl, vp_in_nI (by omega) (by omega), ih2 _ ⟨fx_trans fy (fx_sI _ _ (by simp)), fun j' hj' => ?_⟩⟩
        rw [gI_sI]
        by_cases g : j' = j
        · rw [if_pos ⟨rfl, g⟩, g]
          show gI y 22 (32 + j) = _
          rw [cy.2.2.1]
        · rw [if_neg (fun y => g y.2)]; exact ey j' (by omega)
/-- how many plans, up to so many -/
theorem t_X_countPlans {f : Nat → Int32} {r n t en : Nat} {Q : Int32 → Hp → Prop} (c : CN f r n h) (ht : t ≤ 12) (hen : en < 2 ^ 31) (hen1 : 0 < en) (hq : ∀ h', Fx [35, 36, 37, 38, 39, 40, 41, 76] [] h h' → Q (nI (min en (cntL f r n (PL n t)))) h') : w_X_countPlans 16 (nI t) (nI en) h Q := by
  have hn := c.2.1.2.2.2.2.2
  have hr := c.2.1.2.2.2.2.1
  have hZ := c.2.2.2.2.2.2.1
  unfold w_X_countPlans
  refine loop_0 (fun m j y => w_X_countPlans_L2 Q 16 (nI t) (nI en) m (nI j) y) (fun j y => Fx [76] [] h y ∧ ∀ j', j' < j → gI y 76 j' = f (32 + j')) 3 h ⟨fx_refl _ _ _, fun j' hj' => absurd hj' (Nat.not_lt_zero _)⟩ ?_ ?_
  · rintro m y ⟨fy, ey⟩
    have cy := CN_fx c fy (by decide) (by decide)
    unfold w_X_countPlans_L2
    rw [X_r16_2 cy.1, X_r16_7 cy.1, X_r16_14 cy.1]
    refine ⟨fun _ => ⟨X_k16 cy.1, X_k35 cy.1, t_run_now cy ht hen hen1 (Or.inr rfl) ey (fun z fz sz => ?_)⟩, fun z => absurd (Int32.le_refl _) z⟩
    have cz := CN_fx cy fz (by decide) (by decide)
    have cn := fd_cnt (en := en) (v := vT f (-1)) (gn := fun c => f (24 + c)) (R := fun j => f (32 + j)) (c := 0) (p := []) (g := 0) (PL n t) (0, 0, []) (Nat.zero_le _)
    rw [X_r16_7 cz.1, sz.2.1, cn, cnt_lead hn hr hZ]
    refine ⟨X_k16 cz.1, X_k35 cz.1, ?_⟩
    have := hq z (fx_trans (fx_mono fy (by simp) (by simp)) (fx_mono fz (by simp) (by simp)))
    rw [show (0, (0 : Int32), ([] : List Nat)).1 + cntL f r n (PL n t) = cntL f r n (PL n t) from Nat.zero_add _]
    exact this
  · rintro m j y hj ⟨fy, ey⟩ ih2
    have cy := CN_fx c fy (by decide) (by decide)
    unfold w_X_countPlans_L2
    refine ⟨fun z => absurd z (nI_ge (b := 3) hj (by omega)), fun _ => ?_⟩
    rw [X_r16_2 cy.1, X_r16_14 cy.1]
    refine ⟨X_k16 cy.1, cy.2.1.1.1, t_Co_needOf cy.2.1.1 hj ?_⟩
    rw [X_k76 cy.1, X_n76 cy.1, ix_nI (by omega), nI_1]
    refine ⟨rfl, vp_in_nI (by omega) (by omega), ih2 _ ⟨fx_trans fy (fx_sI _ _ (by simp)), fun j' hj' => ?_⟩⟩
    rw [gI_sI]
    by_cases g : j' = j
    · rw [if_pos ⟨rfl, g⟩, g]
      show gI y 22 (32 + j) = _
      rw [cy.2.2.1]
    · rw [if_neg (fun y => g y.2)]; exact ey j' (by omega)
