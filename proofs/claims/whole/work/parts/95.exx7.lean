/-! The class's exchange that is kept -/
variable {h : Hp}
def VE (f : Nat → Int32) (r n mo : Nat) (h : Hp) : Prop := EX f n (xS n 4) h ∧ ∃ o, YB f n h o ∧ Bst (gm f n) (okX f r n mo) o
def KE (f : Nat → Int32) (r n b : Nat) (h : Hp) : Prop := gI h 60 5 = 0 ∨ ∃ a mo, a ≤ b ∧ mo ≤ 3 ∧ gI h 60 6 = nI a ∧ gI h 60 7 = nI mo ∧ (a = b → VE f r n mo h)
theorem t_Ex_find {f : Nat → Int32} {r n b : Nat} {v : Int32} {Q : Bool → Hp → Prop} (c0 : CN f r n h) (hB : HB f n) (hb : gI h 21 3 = nI b) (hb2 : b < 2 ^ 31) (ke : KE f r n b h) (hq0 : (v < 1 ∨ 3 < v) → Q false h) (hq : ∀ h' mo, 1 ≤ mo → mo ≤ 3 → v = nI mo → Fx [60, 61, 62, 63, 64] [] h h' → VE f r n mo h' → KE f r n b h' → Q (decide (¬ gI h' 60 8 ≤ 0)) h') : w_Ex_find 60 v h Q := by
  have m := c0.1
  have b71 : ∀ h', XS h' → Q (decide (¬ gI h' 60 8 ≤ 0)) h' → w_Ex_find_B71 Q 60 h' := fun h' m' hq => by
    unfold w_Ex_find_B71
    refine ⟨X_k60 m', fun z => ?_, fun z => ?_⟩
    · rw [decide_eq_false (fun g => g z)] at hq
      exact hq
    · rw [decide_eq_true z] at hq
      exact hq
  unfold w_Ex_find
  refine ⟨fun z => hq0 (Or.inl z), fun z => ⟨fun z2 => ?_, fun z2 => hq0 (Or.inr (Int32.not_le.mp z2))⟩⟩
  obtain ⟨mo, mo1, mo3, rfl⟩ := in13 (v := v) (by rw [decide_eq_true (Int32.not_lt.mp z), decide_eq_true z2]; rfl)
  have b41 : w_Ex_find_B41 Q 60 (nI mo) h := by
    unfold w_Ex_find_B41
    rw [X_r60_0 m]
    refine ⟨X_k60 m, c0.2.1.1.1, ?_⟩
    rw [gI_sI, if_neg (fun g => absurd g.1 (by decide)), hb]
    have f1 : Fx [60, 61, 62, 63, 64] [] h (sI (sI (sI h 60 5 1) 60 6 (nI b)) 60 7 (nI mo)) := fx_trans (fx_sI _ _ (by simp)) (fx_trans (fx_sI _ _ (by simp)) (fx_sI _ _ (by simp)))
    have g5 : gI (sI (sI (sI h 60 5 1) 60 6 (nI b)) 60 7 (nI mo)) 60 6 = nI b := rfl
    have g7 : gI (sI (sI (sI h 60 5 1) 60 6 (nI b)) 60 7 (nI mo)) 60 7 = nI mo := rfl
    revert f1 g5 g7
    generalize sI (sI (sI h 60 5 1) 60 6 (nI b)) 60 7 (nI mo) = h1
    intro f1 g5 g7
    have c1 := CN_fx c0 f1 (by decide) (by decide)
    refine t_Ex_listPlans c1 (fun h2 f2 ex es => ?_)
    have c2 := CN_fx c1 f2 (by decide) (by decide)
    refine ⟨X_k60 c2.1, t_Ex_findBest c2 hB ex es mo3 (fun h3 o f3 k3 yb bs => ?_)⟩
    have e2 : gI h2 60 = gI h1 60 := fx_I f2 (by decide)
    have ve : VE f r n mo h3 := ⟨EX_fx ex f3 (by decide) (by decide) (by decide), o, yb, bs⟩
    refine b71 h3 (fx_XS f3 c2.1) (hq h3 mo mo1 mo3 rfl (fx_trans f1 (fx_trans (fx_mono f2 (by simp) (by simp)) (fx_mono f3 (by simp) (by simp)))) ve (Or.inr ⟨b, mo, Nat.le_refl _, mo3, ?_, ?_, fun _ => ve⟩))
    · rw [k3 6 (by omega), e2, g5]
    · rw [k3 7 (by omega), e2, g7]
  rw [X_r60_0 m, hb]
  refine ⟨X_k60 m, fun _ => b41, fun y => ⟨c0.2.1.1.1, fun y2 => ⟨fun y3 => ?_, fun _ => b41⟩, fun _ => b41⟩⟩
  rcases ke with ke | ⟨a, mo', a1, a2, a3, a4, a5⟩
  · exact absurd ke y
  · rw [a3] at y2
    rw [a4] at y3
    have ea := (nI_eq (by omega) (by omega)).mp y2
    have em := (nI_eq (by omega) (by omega)).mp y3
    subst em
    exact b71 h m (hq h mo' mo1 mo3 rfl (fx_refl _ _ _) (a5 ea) (Or.inr ⟨a, mo', a1, a2, a3, a4, a5⟩))
theorem KE_fx {f : Nat → Int32} {r n b : Nat} {as js : List Nat} {h' : Hp} (k : KE f r n b h) (x : Fx as js h h') (h0 : 60 ∉ as) (h1 : 62 ∉ as) (h2 : 63 ∉ as) (h3 : 64 ∉ as) : KE f r n b h' := by
  have e60 := fx_I x h0
  unfold KE at k ⊢
  rw [e60]
  rcases k with k | ⟨a, mo, a1, a2, a3, a4, a5⟩
  · exact Or.inl k
  · refine Or.inr ⟨a, mo, a1, a2, a3, a4, fun e => ?_⟩
    obtain ⟨v1, o, v2, v3⟩ := a5 e
    refine ⟨EX_fx v1 x h1 h2 h3, o, ?_, v3⟩
    cases o with
    | none => unfold YB at v2 ⊢; rw [e60]; exact v2
    | some c => unfold YB at v2 ⊢; rw [e60]; exact v2
