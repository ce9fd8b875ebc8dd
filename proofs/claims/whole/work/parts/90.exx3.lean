/-! The class's exchange: what is held, what has place -/
variable {h : Hp}
/-- what is held stays in its bounds -/
def HB (f : Nat → Int32) (n : Nat) : Prop := ∀ c, c < n → 0 ≤ (f (36 + c)).toInt ∧ (f (36 + c)).toInt ≤ 99
theorem pS_bd {f : Nat → Int32} {n t j : Nat} {p : List Nat} (hF : FB f n) (hp : p ∈ PL n t) (ht : t ≤ 12) (hj : j < 3) : ((pS f p n j).toInt).natAbs ≤ 5 * t := by
  have hpm := PL_mem hp
  have h3 := sD_len p
  rw [hpm.1] at h3
  have hs : ∀ k, k ≤ n → sD p k ≤ t := fun k hk => by
    have h2 := sD_mono p hk
    omega
  have sb : ∀ k, k ≤ n → ((sm (fun c => nI (p.getD c 0) * f (3 * c + j)) k).toInt).natAbs ≤ 5 * sD p k := by
    intro k
    induction k with
    | zero => intro _; exact Nat.zero_le _
    | succ k ih =>
      intro hk
      have h1 := ih (by omega)
      have h2 := hs (k + 1) hk
      have h3 : sD p (k + 1) = sD p k + p.getD k 0 := rfl
      have h4 := hF k j (by omega) hj
      have h5 := mul_bd (p.getD k 0) h4.1 h4.2
      have e1 : (nI (p.getD k 0)).toInt = (p.getD k 0 : Int) := nI_toInt (by omega)
      have e2 : (nI (p.getD k 0) * f (3 * k + j)).toInt = (p.getD k 0 : Int) * (f (3 * k + j)).toInt := by rw [Jvm.Kit.i32_mul (by rw [e1]; omega) (by rw [e1]; omega), e1]
      rw [sm, Jvm.Kit.i32_add (by rw [e2]; omega) (by rw [e2]; omega), e2]
      omega
  have h1 := sb n (Nat.le_refl _)
  have h2 := hs n (Nat.le_refl _)
  unfold pS
  omega
theorem ky_int {a b c : Int32} (ha : a.toInt.natAbs ≤ 15) (hb : b.toInt.natAbs ≤ 15) (hc : c.toInt.natAbs ≤ 15) : ((a * 64 + b) * 64 + c).toInt = (a.toInt * 64 + b.toInt) * 64 + c.toInt := by
  have e : (64 : Int32).toInt = 64 := rfl
  have e1 : (a * 64).toInt = a.toInt * 64 := by rw [Jvm.Kit.i32_mul (by rw [e]; omega) (by rw [e]; omega), e]
  have e2 : (a * 64 + b).toInt = a.toInt * 64 + b.toInt := by rw [Jvm.Kit.i32_add (by rw [e1]; omega) (by rw [e1]; omega), e1]
  have e3 : ((a * 64 + b) * 64).toInt = (a.toInt * 64 + b.toInt) * 64 := by rw [Jvm.Kit.i32_mul (by rw [e, e2]; omega) (by rw [e, e2]; omega), e, e2]
  rw [Jvm.Kit.i32_add (by rw [e3]; omega) (by rw [e3]; omega), e3]
theorem ky_eq {f : Nat → Int32} {r n s t a b : Nat} (hn : n ≤ 8) (hr : r ≤ 3) (hF : FB f n) (hZ : ZB f r) (ha : xP n a ∈ PL n s) (hb : xP n b ∈ PL n t) (hs : s ≤ 3) (ht : t ≤ 3) : (ky f n a = ky f n b) ↔ allB (fun k => decide (pS f (xP n a) n k = pS f (xP n b) n k)) r = true := by
  have A := fun j (hj : j < 3) => pS_bd (j := j) hF ha (by omega) hj
  have B := fun j (hj : j < 3) => pS_bd (j := j) hF hb (by omega) hj
  have z : ∀ (p : List Nat) k, r ≤ k → k < 3 → pS f p n k = 0 := fun p k h1 h2 => sm_0 (fun c hc => by
    show nI (p.getD c 0) * f (3 * c + k) = 0
    rw [(hZ k h1 h2).2 c (by omega)]
    exact Int32.mul_zero)
  rw [← allB_ext (n := 3) hr (fun i h1 h2 => by rw [z _ i h1 h2, z _ i h1 h2]; rfl), allB_true]
  unfold ky
  rw [← Int32.toInt_inj, ky_int (by have := A 0 (by omega); omega) (by have := A 1 (by omega); omega) (by have := A 2 (by omega); omega), ky_int (by have := B 0 (by omega); omega) (by have := B 1 (by omega); omega) (by have := B 2 (by omega); omega)]
  have a0 := A 0 (by omega)
  have a1 := A 1 (by omega)
  have a2 := A 2 (by omega)
  have b0 := B 0 (by omega)
  have b1 := B 1 (by omega)
  have b2 := B 2 (by omega)
  constructor
  · intro e i hi
    rw [decide_eq_true_eq, ← Int32.toInt_inj]
    match i, hi with
    | 0, _ => omega
    | 1, _ => omega
    | 2, _ => omega
  · intro e
    have e0 := e 0 (by omega)
    have e1 := e 1 (by omega)
    have e2 := e 2 (by omega)
    rw [decide_eq_true_eq] at e0 e1 e2
    rw [e0, e1, e2]
/-- the digits of a small plan are columns -/
def dg (n : Nat) : Nat → Nat → Bool
  | 0, _ => true
  | k + 1, m => decide (m = 0) || (decide (1 ≤ m % 16) && decide (m % 16 ≤ n) && dg n k (m / 16))
theorem dg_ok : ∀ n, n ≤ 8 → ∀ i, i < xS n 4 → dg n 3 (xM n i) = true := by decide +kernel
def hdB (F : Nat → Bool) : Nat → Nat → Bool
  | 0, _ => true
  | k + 1, m => decide (m = 0) || (F (m % 16 - 1) && hdB F k (m / 16))
theorem xK_0 (c : Nat) : ∀ k, xK k 0 c = 0 := by
  intro k
  induction k with
  | zero => rfl
  | succ k ih => unfold xK; rw [show 0 / 16 = 0 from rfl, ih]; rfl
theorem hdB_iff {F : Nat → Bool} {n : Nat} : ∀ k m, dg n k m = true → (hdB F k m = true ↔ ∀ c, c < n → xK k m c ≠ 0 → F c = true) := by
  intro k
  induction k with
  | zero => intro m _; exact ⟨fun _ c _ g => absurd rfl g, fun _ => rfl⟩
  | succ k ih =>
    intro m hd
    unfold dg at hd
    unfold hdB
    by_cases e : m = 0
    · subst e
      exact ⟨fun _ c _ g => absurd (xK_0 c (k + 1)) g, fun _ => rfl⟩
    · rw [decide_eq_false e, Bool.false_or] at hd ⊢
      rw [Bool.and_eq_true, Bool.and_eq_true, decide_eq_true_eq, decide_eq_true_eq] at hd
      rw [Bool.and_eq_true, ih (m / 16) hd.2]
      constructor
      · rintro ⟨a, b⟩ c hc g
        unfold xK at g
        by_cases e2 : m % 16 = c + 1
        · rw [e2] at a
          exact a
        · rw [if_neg e2, Nat.zero_add] at g
          exact b c hc g
      · intro g
        refine ⟨g _ (by omega) ?_, fun c hc g2 => g c hc ?_⟩
        · unfold xK
          rw [if_pos (by omega)]
          omega
        · unfold xK
          omega
theorem t_Ex_isHeld {f : Nat → Int32} {r n i : Nat} {Q : Bool → Hp → Prop} (c0 : CN f r n h) (hB : HB f n) (e : EX f n (xS n 4) h) (hi : i < xS n 4) (hq : Q (canG f n (xP n (xM n i))) h) : w_Ex_isHeld 60 (nI i) h Q := by
  have m := c0.1
  have hn := c0.2.1.2.2.2.2.2
  have l4 := xS_le n hn 4 (by omega)
  have hc : canG f n (xP n (xM n i)) = hdB (fun c => decide (nI (xT (xM n i) c) ≤ f (36 + c))) 3 (xM n i) := by
    rw [Bool.eq_iff_iff, hdB_iff 3 _ (dg_ok n hn i hi)]
    unfold canG
    rw [allB_true]
    constructor
    · intro g c hc _
      have := g c hc
      rw [decide_eq_true_eq, xP_get hc] at this
      rw [decide_eq_true_eq]
      exact Int32.not_lt.mp this
    · intro g c hc
      rw [decide_eq_true_eq, xP_get hc, Int32.not_lt]
      by_cases e0 : xK 3 (xM n i) c = 0
      · unfold xT
        rw [e0, Int32.le_iff_toInt_le]
        exact (hB c hc).1
      · have := g c hc e0
        rw [decide_eq_true_eq] at this
        exact this
  rw [hc] at hq
  unfold w_Ex_isHeld
  rw [X_r60_2 m, X_n62 m, ix_nI (by omega), (e i hi).1]
  refine ⟨X_k60 m, X_k62 m, vp_in_nI (by omega) (by omega), ?_⟩
  have key : ∀ k x, x < 16 ^ k → k ≤ 3 → dg n k x = true → Q (hdB (fun c => decide (nI (xT (xM n i) c) ≤ f (36 + c))) k x) h → w_Ex_isHeld_L7 Q 60 (nI i) (k + 1) (nI x) h := by
    intro k
    induction k with
    | zero =>
      intro x hx _ _ hq
      have x0 : x = 0 := by
        have : x < 1 := hx
        omega
      subst x0
      unfold w_Ex_isHeld_L7
      exact ⟨fun _ => hq, fun z => absurd (Int32.le_refl _) z⟩
    | succ k ih =>
      intro x hx hk hd hq
      have x4 : x < 4096 := Nat.lt_of_lt_of_le hx (Nat.pow_le_pow_right (by decide) hk)
      have xd : x / 16 < 16 ^ k := by
        rw [Nat.pow_succ] at hx
        omega
      unfold dg at hd
      unfold hdB at hq
      unfold w_Ex_isHeld_L7
      by_cases x0 : x = 0
      · subst x0
        exact ⟨fun _ => hq, fun z => absurd (Int32.le_refl _) z⟩
      · rw [decide_eq_false x0, Bool.false_or] at hd hq
        rw [Bool.and_eq_true, Bool.and_eq_true, decide_eq_true_eq, decide_eq_true_eq] at hd
        obtain ⟨⟨d1, d2⟩, d3⟩ := hd
        obtain ⟨c, ec⟩ : ∃ c, x % 16 = c + 1 := ⟨x % 16 - 1, by omega⟩
        rw [xd_and x x4, xd_shr x x4, ec, show nI (c + 1) - 1 = nI c from by rw [← nI_1]; grind, X_r60_0 m]
        rw [ec, Nat.add_sub_cancel] at hq
        refine ⟨fun z => absurd z (nI_nle (by omega) (by omega)), fun _ => ⟨X_k60 m, c0.2.1.1.1, t_Co_heldOf c0.2.1.1 (by omega) ⟨X_k60 m, t_Ex_times m e hn l4 hi (by omega) ?_⟩⟩⟩
        rw [show gI h (21 + 1) = f from c0.2.2.1]
        refine ⟨fun y => ?_, fun y => ?_⟩
        · rw [decide_eq_true y, Bool.true_and] at hq
          exact ih (x / 16) xd (by omega) d3 hq
        · rw [decide_eq_false y, Bool.false_and] at hq
          exact hq
  exact ⟨3 + 1, key 3 (xM n i) (xM_c n hn i (by omega)) (by omega) (dg_ok n hn i hi) hq⟩
