/-! The class's corners: a set is solved -/
variable {h : Hp}
/-- the members stand -/
def MB (S : Nat → Bool) (n : Nat) (h : Hp) : Prop := gI h 56 4 = nI (cnS S n) ∧ ∀ i, i < cnS S n → gI h 58 i = nI (mb S n i)
theorem t_Cr_fill {f : Nat → Int32} {r n s lines : Nat} {Q : Hp → Prop} (c0 : CN f r n h) (hs : s < 256) (hl : lines = 3 ∨ lines = 4) (hm : cnS (bS s) n ≤ lines) (hq : ∀ h', Fx [56, 58] [57] h h' → (∀ k, k ≠ 4 → gI h' 56 k = gI h 56 k) → MB (bS s) n h' → CL (M3 f (if lines = 4 then fun _ => 0 else bN f) (bS s) n) 4 (cnS (bS s) n) h' → Q h') : w_Cr_fill 56 (nI s) (nI lines) h Q := by
  have m := c0.1
  have hn := c0.2.1.2.2.2.2.2
  unfold w_Cr_fill
  refine ⟨X_k56 m, ?_⟩
  refine loop_0 (fun a c y => w_Cr_fill_L7 Q 56 (nI s) (nI lines) a (nI c) y) (fun c y => Fx [56, 58] [57] h y ∧ (∀ k, k ≠ 4 → gI y 56 k = gI h 56 k) ∧ MB (bS s) c y ∧ ∀ o i, o < 4 → i < cnS (bS s) c → gL y 57 (5 * o + i) = lI (aZ f o (mb (bS s) c i))) n (sI h 56 4 0) ⟨fx_sI _ _ (by simp), fun k hk => by rw [gI_sI, if_neg (fun y => hk y.2)], ⟨by rw [gI_sI, if_pos ⟨rfl, rfl⟩]; rfl, fun i hi => absurd hi (Nat.not_lt_zero _)⟩, fun o i _ hi => absurd hi (Nat.not_lt_zero _)⟩ ?_ ?_
  · rintro a y ⟨fy, ky, my, ey⟩
    have cy := CN_fx c0 fy (by decide) (by decide)
    unfold w_Cr_fill_L7
    rw [X_r56_0 cy.1, cy.2.1.2.2.1]
    refine ⟨X_k56 cy.1, cy.2.1.1.1, fun _ => ?_, fun z => absurd (Int32.le_refl _) z⟩
    refine loop_0 (fun a o z => w_Cr_fill_L107 Q 56 (nI lines) a (nI o) z) (fun o z => Fx [] [57] y z ∧ ∀ jj, gL z 57 jj = if ∃ o', o' < o ∧ jj = 5 * o' + cnS (bS s) n then lI ((if lines = 4 then fun _ => 0 else bN f) ((jj - cnS (bS s) n) / 5)) else gL y 57 jj) 3 y ⟨fx_refl _ _ _, fun jj => by rw [if_neg (fun ⟨o', ho', _⟩ => Nat.not_lt_zero _ ho')]⟩ ?_ ?_
    · rintro a z ⟨fz, ez⟩
      have cz := CN_fx cy fz (by decide) (by decide)
      have m4 : gI z 56 4 = nI (cnS (bS s) n) := by rw [fx_I fz (x := 56) (by decide)]; exact my.1
      unfold w_Cr_fill_L107
      refine ⟨fun _ => ?_, fun w => absurd (Int32.le_refl _) w⟩
      rw [X_r56_1 cz.1, X_k57 cz.1, X_n57 cz.1, m4, show (15 : Int32) = nI 15 from rfl, nI_add, ix_nI (by omega)]
      refine ⟨X_k56 cz.1, rfl, vp_in_nI (by omega) (by omega), hq _ (fx_trans fy (fx_trans (fx_mono fz (by simp) (by simp)) (fx_sL _ _ (by simp)))) (fun k hk => ?_) ⟨?_, fun i hi => ?_⟩ (fun o t ho ht => ?_)⟩
      · rw [gI_sL, fx_I fz (x := 56) (by decide)]; exact ky k hk
      · rw [gI_sL]; exact m4
      · rw [gI_sL, fx_I fz (x := 58) (by decide)]; exact my.2 i hi
      · rw [gL_sL]
        unfold M3
        by_cases g1 : t < cnS (bS s) n
        · rw [if_neg (fun y => by have := y.2; omega), if_pos g1, ez, if_neg (fun ⟨o', h1, h2⟩ => by omega)]
          exact ey o t ho g1
        · have et : t = cnS (bS s) n := by omega
          rw [if_neg g1, et]
          unfold bZ
          by_cases g2 : o = 3
          · rw [g2, if_pos ⟨rfl, by omega⟩, if_neg (by decide)]
            rfl
          · rw [if_neg (fun y => by have := y.2; omega), if_pos (show o < 3 by omega), ez, if_pos ⟨o, by omega, rfl⟩, show (5 * o + cnS (bS s) n - cnS (bS s) n) / 5 = o from by omega]
    · rintro a o z ho ⟨fz, ez⟩ ih
      have cz := CN_fx cy fz (by decide) (by decide)
      have m4 : gI z 56 4 = nI (cnS (bS s) n) := by rw [fx_I fz (x := 56) (by decide)]; exact my.1
      have fin : ∀ v : Int64, v = lI ((if lines = 4 then fun _ => 0 else bN f) o) → w_Cr_fill_L107 Q 56 (nI lines) a (nI (o + 1)) (sL z 57 (5 * o + cnS (bS s) n) v) := fun v hv => by
        refine ih _ ⟨fx_trans fz (fx_sL _ _ (by simp)), fun jj => ?_⟩
        rw [gL_sL]
        by_cases g1 : jj = 5 * o + cnS (bS s) n
        · rw [if_pos ⟨rfl, g1⟩, if_pos ⟨o, by omega, g1⟩, g1, show (5 * o + cnS (bS s) n - cnS (bS s) n) / 5 = o from by omega]
          exact hv
        · rw [if_neg (fun y => g1 y.2), ez]
          by_cases g2 : ∃ o', o' < o ∧ jj = 5 * o' + cnS (bS s) n
          · rw [if_pos g2]
            obtain ⟨o', h1, h2⟩ := g2
            rw [if_pos (show ∃ o', o' < o + 1 ∧ jj = 5 * o' + cnS (bS s) n from ⟨o', by omega, h2⟩)]
          · rw [if_neg g2, if_neg (fun ⟨o', h1, h2⟩ => g2 ⟨o', by
              by_cases g3 : o' = o
              · rw [g3] at h2; exact absurd h2 g1
              · omega, h2⟩)]
      unfold w_Cr_fill_L107
      refine ⟨fun w => absurd w (nI_ge (b := 3) ho (by omega)), fun _ => ⟨X_k56 cz.1, ?_⟩⟩
      rw [X_r56_0 cz.1, X_r56_1 cz.1, X_k57 cz.1, X_n57 cz.1, m4, show (5 : Int32) = nI 5 from rfl, pk_mul, nI_add, nI_1, show o * 5 + cnS (bS s) n = 5 * o + cnS (bS s) n from by omega, ix_nI (n := 5 * o + cnS (bS s) n) (by omega)]
      refine ⟨fun w => ⟨rfl, vp_in_nI (by omega) (by omega), fin 0 ?_⟩, fun w => ⟨cz.2.1.1.1, t_Co_needOf cz.2.1.1 ho ?_⟩⟩
      · have : lines = 4 := (nI_eq (b := 4) (by omega) (by omega)).mp w
        rw [if_pos this]
        rfl
      · have : ¬ lines = 4 := fun g => w (by rw [g]; rfl)
        rw [X_k57 cz.1, X_n57 cz.1]
        refine ⟨rfl, vp_in_nI (by omega) (by omega), fin _ ?_⟩
        rw [if_neg this, i_l]
        show lI (gI z 22 (32 + o)).toInt = _
        rw [cz.2.2.1]
        rfl
  · rintro a c y hc ⟨fy, ky, my, ey⟩ ih
    have cy := CN_fx c0 fy (by decide) (by decide)
    have cl := cnS_le (bS s) c
    have cm := cnS_mono (S := bS s) (show c + 1 ≤ n by omega)
    have bt := bit_nI s hs c (by omega)
    unfold w_Cr_fill_L7
    rw [X_r56_0 cy.1, cy.2.1.2.2.1]
    refine ⟨X_k56 cy.1, cy.2.1.1.1, fun z => absurd z (nI_ge hc (by omega)), fun _ => ?_⟩
    rw [bt, nI_1]
    refine ⟨fun z => ?_, fun z => ?_⟩
    · have hS : bS s c = false := by
        unfold bS
        cases g : s.testBit c
        · rfl
        · rw [g] at z; exact absurd z (by decide)
      refine ih y ⟨fy, ky, ⟨by rw [cnS_f hS]; exact my.1, fun i hi => ?_⟩, fun o i ho hi => ?_⟩
      · rw [cnS_f hS] at hi; rw [mb_f hS]; exact my.2 i hi
      · rw [cnS_f hS] at hi; rw [mb_f hS]; exact ey o i ho hi
    · have hS : bS s c = true := by
        unfold bS
        cases g : s.testBit c
        · rw [g] at z; exact absurd rfl z
        · rfl
      rw [cnS_t hS] at cm
      rw [X_r56_2 cy.1, X_k58 cy.1, X_n58 cy.1, my.1, ix_nI (n := cnS (bS s) c) (by omega)]
      refine ⟨rfl, vp_in_nI (by omega) (by omega), ?_⟩
      refine loop_0 (fun a' o z => w_Cr_fill_L39 Q (w_Cr_fill_L7 Q 56 (nI s) (nI lines) a) 56 (nI s) (nI lines) (nI c) a' (nI o) z) (fun o z => Fx [] [57] (sI y 58 (cnS (bS s) c) (nI c)) z ∧ ∀ jj, gL z 57 jj = if ∃ o', o' < o ∧ jj = 5 * o' + cnS (bS s) c then lI (aZ f ((jj - cnS (bS s) c) / 5) c) else gL y 57 jj) 3 _ ⟨fx_refl _ _ _, fun jj => by rw [gL_sI, if_neg (fun ⟨o', ho', _⟩ => Nat.not_lt_zero _ ho')]⟩ ?_ ?_
      · rintro a' z ⟨fz, ez⟩
        have f1 : Fx [56, 58] [57] h z := fx_trans fy (fx_trans (fx_sI _ _ (by simp)) (fx_mono fz (by simp) (by simp)))
        have cz := CN_fx c0 f1 (by decide) (by decide)
        have m4 : gI z 56 4 = nI (cnS (bS s) c) := by rw [fx_I fz (x := 56) (by decide), gI_sI, if_neg (fun y => absurd y.1 (by decide))]; exact my.1
        unfold w_Cr_fill_L39
        refine ⟨fun _ => ?_, fun w => absurd (Int32.le_refl _) w⟩
        rw [X_r56_1 cz.1, X_k57 cz.1, X_n57 cz.1, m4, show (15 : Int32) = nI 15 from rfl, nI_add, ix_nI (by omega), gI_sL, m4, nI_1, nI_1]
        refine ⟨X_k56 cz.1, rfl, vp_in_nI (by omega) (by omega), ih _ ⟨fx_trans f1 (fx_trans (fx_sL _ _ (by simp)) (fx_sI _ _ (by simp))), fun k hk => ?_, ⟨?_, fun i hi => ?_⟩, fun o i ho hi => ?_⟩⟩
        · rw [gI_sI, if_neg (fun y => hk y.2), gI_sL, fx_I fz (x := 56) (by decide), gI_sI, if_neg (fun y => absurd y.1 (by decide))]; exact ky k hk
        · rw [gI_sI, if_pos ⟨rfl, rfl⟩, cnS_t hS]
        · rw [cnS_t hS] at hi
          rw [gI_sI, if_neg (fun y => absurd y.1 (by decide)), gI_sL, fx_I fz (x := 58) (by decide), gI_sI, mb_t hS]
          by_cases g : i = cnS (bS s) c
          · rw [if_pos ⟨rfl, g⟩, if_pos g]
          · rw [if_neg (fun y => g y.2), if_neg g]; exact my.2 i (by omega)
        · rw [cnS_t hS] at hi
          rw [gL_sI, gL_sL, mb_t hS]
          by_cases g : i = cnS (bS s) c
          · rw [if_pos g]
            by_cases g2 : o = 3
            · rw [if_pos ⟨rfl, by omega⟩, g2]
              rfl
            · rw [if_neg (fun y => by have := y.2; omega), ez, if_pos ⟨o, by omega, by omega⟩, show (5 * o + i - cnS (bS s) c) / 5 = o from by omega]
          · rw [if_neg (fun y => by have := y.2; omega), if_neg g, ez, if_neg (fun ⟨o', h1, h2⟩ => by omega)]
            exact ey o i ho (by omega)
      · rintro a' o z ho ⟨fz, ez⟩ ih2
        have f1 : Fx [56, 58] [57] h z := fx_trans fy (fx_trans (fx_sI _ _ (by simp)) (fx_mono fz (by simp) (by simp)))
        have cz := CN_fx c0 f1 (by decide) (by decide)
        have m4 : gI z 56 4 = nI (cnS (bS s) c) := by rw [fx_I fz (x := 56) (by decide), gI_sI, if_neg (fun y => absurd y.1 (by decide))]; exact my.1
        unfold w_Cr_fill_L39
        refine ⟨fun w => absurd w (nI_ge (b := 3) ho (by omega)), fun _ => ?_⟩
        rw [X_r56_0 cz.1, X_r56_1 cz.1, m4]
        refine ⟨X_k56 cz.1, cz.2.1.1.1, t_Co_numberOf cz.2.1.1 (by omega) ?_⟩
        rw [X_k57 cz.1, X_n57 cz.1, show (5 : Int32) = nI 5 from rfl, pk_mul, nI_add, nI_1, show o * 5 + cnS (bS s) c = 5 * o + cnS (bS s) c from by omega, ix_nI (n := 5 * o + cnS (bS s) c) (by omega)]
        refine ⟨rfl, vp_in_nI (by omega) (by omega), ih2 _ ⟨fx_trans fz (fx_sL _ _ (by simp)), fun jj => ?_⟩⟩
        rw [gL_sL]
        by_cases g1 : jj = 5 * o + cnS (bS s) c
        · rw [if_pos ⟨rfl, g1⟩, if_pos ⟨o, by omega, g1⟩, g1, show (5 * o + cnS (bS s) c - cnS (bS s) c) / 5 = o from by omega, i_l]
          unfold aZ
          rw [if_pos ho]
          show lI (gI z 22 (3 * c + o)).toInt = _
          rw [cz.2.2.1]
        · rw [if_neg (fun y => g1 y.2), ez]
          by_cases g2 : ∃ o', o' < o ∧ jj = 5 * o' + cnS (bS s) c
          · rw [if_pos g2]
            obtain ⟨o', h1, h2⟩ := g2
            rw [if_pos ⟨o', by omega, h2⟩]
          · rw [if_neg g2, if_neg (fun ⟨o', h1, h2⟩ => g2 ⟨o', by
              by_cases g3 : o' = o
              · rw [g3] at h2; exact absurd h2 g1
              · omega, h2⟩)]
