/-! The class's exchange: what has place, one pair of sizes -/
variable {h : Hp}
theorem xK_le (c : Nat) : ∀ k m, xK k m c ≤ k := by
  intro k
  induction k with
  | zero => intro m; exact Nat.le_refl _
  | succ k ih =>
    intro m
    have := ih (m / 16)
    unfold xK
    by_cases e : m % 16 = c + 1
    · rw [if_pos e]; omega
    · rw [if_neg e]; omega
/-- whether a plan that comes for another has place -/
def plB (f : Nat → Int32) (n : Nat) (p q : List Nat) : Bool := allB (fun c => decide (¬ 99 < f (36 + c) - nI (p.getD c 0) + nI (q.getD c 0))) n
theorem t_Ex_hasPlace {f : Nat → Int32} {r n i j : Nat} {Q : Bool → Hp → Prop} (c0 : CN f r n h) (hB : HB f n) (e : EX f n (xS n 4) h) (hi : i < xS n 4) (hj : j < xS n 4) (hq : Q (plB f n (xP n (xM n i)) (xP n (xM n j))) h) : w_Ex_hasPlace 60 (nI i) (nI j) h Q := by
  have m := c0.1
  have hn := c0.2.1.2.2.2.2.2
  have l4 := xS_le n hn 4 (by omega)
  have hc : plB f n (xP n (xM n i)) (xP n (xM n j)) = hdB (fun c => decide (f (36 + c) + (nI (xT (xM n j) c) - nI (xT (xM n i) c)) ≤ 99)) 3 (xM n j) := by
    rw [Bool.eq_iff_iff, hdB_iff 3 _ (dg_ok n hn j hj)]
    unfold plB
    rw [allB_true]
    have sw : ∀ a b c : Int32, a + (b - c) = a - c + b := fun a b c => by grind
    constructor
    · intro g c hc _
      have := g c hc
      rw [decide_eq_true_eq, xP_get hc, xP_get hc] at this
      rw [decide_eq_true_eq, sw]
      exact Int32.not_lt.mp this
    · intro g c hc
      rw [decide_eq_true_eq, xP_get hc, xP_get hc, Int32.not_lt]
      by_cases e0 : xK 3 (xM n j) c = 0
      · have b1 := hB c hc
        have b2 := xK_le c 3 (xM n i)
        unfold xT
        have e1 : (nI (xK 3 (xM n i) c)).toInt = (xK 3 (xM n i) c : Int) := nI_toInt (by omega)
        have e2 : (f (36 + c) - nI (xK 3 (xM n i) c)).toInt = (f (36 + c)).toInt - (xK 3 (xM n i) c : Int) := by rw [Jvm.Kit.i32_sub (by rw [e1]; omega) (by rw [e1]; omega), e1]
        rw [e0, show nI 0 = 0 from rfl, Int32.add_zero, Int32.le_iff_toInt_le, e2, show (99 : Int32).toInt = 99 from rfl]
        omega
      · have := g c hc e0
        rw [decide_eq_true_eq, sw] at this
        exact this
  rw [hc] at hq
  unfold w_Ex_hasPlace
  rw [X_r60_2 m, X_n62 m, ix_nI (by omega), (e j hj).1]
  refine ⟨X_k60 m, X_k62 m, vp_in_nI (by omega) (by omega), ?_⟩
  have key : ∀ k x, x < 16 ^ k → k ≤ 3 → dg n k x = true → Q (hdB (fun c => decide (f (36 + c) + (nI (xT (xM n j) c) - nI (xT (xM n i) c)) ≤ 99)) k x) h → w_Ex_hasPlace_L7 Q 60 (nI i) (nI j) (k + 1) (nI x) h := by
    intro k
    induction k with
    | zero =>
      intro x hx _ _ hq
      have x0 : x = 0 := by
        have : x < 1 := hx
        omega
      subst x0
      unfold w_Ex_hasPlace_L7
      exact ⟨fun _ => hq, fun z => absurd (Int32.le_refl _) z⟩
    | succ k ih =>
      intro x hx hk hd hq
      have x4 : x < 4096 := Nat.lt_of_lt_of_le hx (Nat.pow_le_pow_right (by decide) hk)
      have xd : x / 16 < 16 ^ k := by
        rw [Nat.pow_succ] at hx
        omega
      unfold dg at hd
      unfold hdB at hq
      unfold w_Ex_hasPlace_L7
      by_cases x0 : x = 0
      · subst x0
        exact ⟨fun _ => hq, fun z => absurd (Int32.le_refl _) z⟩
      · rw [decide_eq_false x0, Bool.false_or] at hd hq
        rw [Bool.and_eq_true, Bool.and_eq_true, decide_eq_true_eq, decide_eq_true_eq] at hd
        obtain ⟨⟨d1, d2⟩, d3⟩ := hd
        obtain ⟨c, ec⟩ : ∃ c, x % 16 = c + 1 := ⟨x % 16 - 1, by omega⟩
        rw [xd_and x x4, xd_shr x x4, ec, show nI (c + 1) - 1 = nI c from by rw [← nI_1]; grind]
        rw [ec, Nat.add_sub_cancel] at hq
        refine ⟨fun z => absurd z (nI_nle (by omega) (by omega)), fun _ => ⟨X_k60 m, t_Ex_times m e hn l4 hj (by omega) ⟨X_k60 m, t_Ex_times m e hn l4 hi (by omega) ?_⟩⟩⟩
        rw [X_r60_0 m]
        refine ⟨X_k60 m, c0.2.1.1.1, t_Co_heldOf c0.2.1.1 (by omega) ?_⟩
        rw [show gI h (21 + 1) = f from c0.2.2.1]
        refine ⟨fun y => ?_, fun y => ?_⟩
        · rw [decide_eq_true y, Bool.true_and] at hq
          exact ih (x / 16) xd (by omega) d3 hq
        · rw [decide_eq_false y, Bool.false_and] at hq
          exact hq
  exact ⟨3 + 1, key 3 (xM n j) (xM_c n hn j (by omega)) (by omega) (dg_ok n hn j hj) hq⟩
