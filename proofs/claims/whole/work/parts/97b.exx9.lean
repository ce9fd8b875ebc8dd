/-! The class tells of its exchange: what is asked -/
variable {h : Hp}
theorem t_X_exchange {f : Nat → Int32} {r n b : Nat} {v w : Int32} {x : XT} {Q : Int32 → Hp → Prop} (c0 : CN f r n h) (hB : HB f n) (hb : gI h 21 3 = nI b) (hb2 : b < 2 ^ 31) (ke : KE f r n b h) (hx : x.1 = 0 ∧ x.2.1 = -1)
    (hq0 : ∀ h', Fx [60, 61, 62, 63, 64] [] h h' → KE f r n b h' → ((decide (1 ≤ v) && decide (v ≤ 3)) && ((decide (0 ≤ w) && decide (w ≤ 2)) || inb (w - 10) n)) = false → Q (-1000001) h')
    (hq : ∀ h' mo, 1 ≤ mo → mo ≤ 3 → v = nI mo → ((decide (0 ≤ w) && decide (w ≤ 2)) || inb (w - 10) n) = true → Fx [60, 61, 62, 63, 64] [] h h' → KE f r n b h' → Q (if (exA f r n mo x (mo + 1)).1 ≤ 0 then -1000001 else exW (exA f r n mo x (mo + 1)) w) h') : w_X_exchange 16 v w h Q := by
  have hn := c0.2.1.2.2.2.2.2
  unfold w_X_exchange
  rw [X_r16_11 c0.1]
  refine ⟨X_k16 c0.1, X_k60 c0.1, t_Ex_find c0 hB hb hb2 ke (fun z => ⟨fun _ => hq0 h (fx_refl _ _ _) ke ?_, fun y => absurd rfl y⟩) (fun h2 mo m1 m3 ev f2 ve k2 => ?_)⟩
  · rcases z with z | z
    · rw [decide_eq_false (p := 1 ≤ v) (Int32.not_le.mpr z), Bool.false_and, Bool.false_and]
    · rw [decide_eq_false (p := v ≤ 3) (Int32.not_le.mpr z), Bool.and_false, Bool.false_and]
  have c2 := CN_fx c0 f2 (by decide) (by decide)
  have m2 := c2.1
  have gn := ex_gain (x := x) hn m3 hx ve
  have no : ((decide (0 ≤ w) && decide (w ≤ 2)) || inb (w - 10) n) = false → Q (-1000001) h2 := fun g => hq0 h2 f2 k2 (by rw [g, Bool.and_false])
  have fin := fun g => hq h2 mo m1 m3 ev g f2 k2
  refine ⟨fun z => ?_, fun z => ?_⟩
  · have z1 : gI h2 60 8 ≤ 0 := by
      by_cases g : gI h2 60 8 ≤ 0
      · exact g
      · rw [decide_eq_true g] at z
        cases z
    cases g : ((decide (0 ≤ w) && decide (w ≤ 2)) || inb (w - 10) n) with
    | false => exact no g
    | true =>
      have := fin g
      rw [← gn, if_pos z1] at this
      exact this
  · have z1 : ¬ gI h2 60 8 ≤ 0 := by
      have := ntf z
      rw [decide_eq_true_eq] at this
      exact this
    obtain ⟨o, y, rx, bs⟩ := ex_same (x := x) hn m3 hx ve
    rw [← gn, if_neg z1] at fin
    cases o with
    | none =>
      have y0 : gI h2 60 8 = 0 := y
      exact absurd (by rw [y0]; exact Int32.le_refl _) z1
    | some d =>
      have ok := bs.1
      have u1 := xS_mo n hn 4 (by omega) (d.1 + 1) (by have := ok.1; omega)
      have u2 := xS_mo n hn 4 (by omega) (d.2.1 + 1) (by have := ok.2.1; omega)
      have i1 := ok.2.2.1.2
      have i2 := ok.2.2.2.1.2
      unfold exW at fin
      rw [rx.1, rx.2.1, rx.2.2.1, rx.2.2.2.1, rx.2.2.2.2] at fin
      have lit : ∀ k : Nat, k ≤ 2 → w.toInt = (k : Int) → w = nI k := fun k hk e => by
        rw [← Int32.toInt_inj, nI_toInt (by omega), e]
      have inn : ∀ k : Nat, k ≤ 2 → w = nI k → ((decide (0 ≤ w) && decide (w ≤ 2)) || inb (w - 10) n) = true := fun k hk e => by
        rw [e, decide_eq_true (show (0 : Int32) ≤ nI k from nI_le (a := 0) (by omega) (by omega)), decide_eq_true (show nI k ≤ (2 : Int32) from nI_le (a := k) (b := 2) (by omega) (by omega))]
        rfl
      have out : w.toInt < 0 ∨ 2 < w.toInt → (decide (0 ≤ w) && decide (w ≤ 2)) = false := fun g => by
        rcases g with g | g
        · rw [decide_eq_false (p := 0 ≤ w) (fun e => absurd (Int32.le_iff_toInt_le.mp e) (by rw [show (0 : Int32).toInt = 0 from rfl]; omega)), Bool.false_and]
        · rw [decide_eq_false (p := w ≤ 2) (fun e => absurd (Int32.le_iff_toInt_le.mp e) (by rw [show (2 : Int32).toInt = 2 from rfl]; omega)), Bool.and_false]
      rw [X_r16_11 m2, X_r16_2 m2, y.1, y.2.1, y.2.2.1]
      refine ⟨fun g => ⟨fun g2 => no ?_, fun g2 => ⟨X_k16 m2, c2.2.1.1.1, t_Co_hasColumn c2.2.1.1.1 c2.2.1.2.2.1 hn ⟨fun g3 => no ?_, fun g3 => ?_⟩⟩⟩, fun g => ⟨X_k16 m2, X_k60 m2, ?_⟩, fun g => ⟨X_k16 m2, X_k60 m2, ?_⟩, fun g => ⟨X_k16 m2, X_k60 m2, ?_⟩⟩
      · rw [out g, Bool.false_or]
        cases e : inb (w - 10) n with
        | false => rfl
        | true =>
          obtain ⟨c, hc, ec⟩ := inb_ex (by omega) e
          have e2 : w = nI (c + 10) := by
            rw [← nI_add, ← ec]
            show w = w - 10 + 10
            grind
          rw [e2] at g2
          exact absurd g2 (nI_nlt (a := c + 10) (b := 10) (by omega) (by omega))
      · rw [out g, Bool.false_or, g3]
      · have g4 := ntf g3
        obtain ⟨c, hc, ec⟩ := inb_ex (by omega) g4
        have f4 := fin (by rw [g4, Bool.or_true])
        have ne : ∀ k : Nat, k ≤ 2 → ¬ w = nI k := fun k hk e => by
          have e3 := congrArg Int32.toInt e
          rw [nI_toInt (by omega)] at e3
          omega
        rw [if_neg (show ¬ w = 0 from ne 0 (by omega)), if_neg (show ¬ w = 1 from ne 1 (by omega)), if_neg (show ¬ w = 2 from ne 2 (by omega)), ec, ix_nI (by omega)] at f4
        dsimp only at f4
        rw [xP_get hc, xP_get hc] at f4
        rw [X_r16_11 m2, ec]
        exact ⟨X_k16 m2, X_k60 m2, t_Ex_shiftOf m2 ve.1 hn y (by omega) (by omega) (by omega) f4⟩
      · have e := lit 0 (by omega) g
        have f4 := fin (inn 0 (by omega) e)
        rw [if_pos (show w = 0 from e)] at f4
        exact f4
      · have e := lit 1 (by omega) g
        have f4 := fin (inn 1 (by omega) e)
        rw [if_neg (by rw [e]; decide), if_pos (show w = 1 from e)] at f4
        exact f4
      · have e := lit 2 (by omega) g
        have f4 := fin (inn 2 (by omega) e)
        rw [if_neg (by rw [e]; decide), if_neg (by rw [e]; decide), if_pos (show w = 2 from e)] at f4
        exact f4
