/-! The class: change, worth, want, allow, hold, undo, redo -/
variable {h : Hp}
/-- a heap behind an act: what is now is f', the acts have become g' -/
def TH (f' : Nat → Int32) (g' : Nat → Nat → Int32) (n fi A U b : Nat) (h h' : Hp) : Prop := Fx [21, 22, 30, 31, 32, 33, 34] [] h h' ∧ gI h' 22 = f' ∧ (∃ b', b < b' ∧ b' ≤ b + 8 ∧ gI h' 21 3 = nI b') ∧ (∀ k, k ≠ 3 → gI h' 21 k = gI h 21 k) ∧ AR g' n fi A U h'
theorem t_X_turn {f : Nat → Int32} {g : Nat → Nat → Int32} {r n fi A U b s : Nat} {v lo hi : Int32} {Q : Int32 → Hp → Prop} (c0 : CN f r n h) (a : AR g n fi A U h) (gA : g A = f) (hb : gI h 21 3 = nI b) (hs : s < 44) (hq0 : v < lo ∨ hi < v ∨ f s = v → Q (-1000001) h) (hq : ¬ v < lo → ¬ hi < v → ¬ f s = v → ∀ h', TH (up f s v) (gN' g A (up f s v)) n (fiN fi A) (A1 A + 1) 0 b h h' → Q (f s) h') : w_X_turn 16 (nI s) v lo hi h Q := by
  have m := c0.1
  have hn := c0.2.1.2.2.2.2.2
  have h22 := c0.2.2.1
  have hA : A ≤ 20 := by have := a.2.2.2.2.1; omega
  unfold w_X_turn
  rw [X_r16_2 m]
  refine ⟨X_k16 m, X_k21 m, t_Co_get (CO_21 m) hs ?_⟩
  show (v < lo → _) ∧ _
  rw [h22]
  refine ⟨fun z => hq0 (Or.inl z), fun z1 => ⟨fun z => hq0 (Or.inr (Or.inl z)), fun z2 => ⟨fun z => hq0 (Or.inr (Or.inr z.symm)), fun z3 => ⟨X_k16 m, ?_⟩⟩⟩⟩
  rw [X_r16_2 m]
  refine ⟨X_k21 m, t_Co_put (CO_21 m) hs ?_⟩
  have w := NW_put (s := s) (v := v) h22 hb
  revert w
  generalize sI (sI h (21 + 1) s v) 21 3 (gI h 21 3 + 1) = h1
  intro w
  have m1 := fx_XS w.1 m
  have a1 := AR_fx hn a w.1 (by decide) (by decide) (by decide) (by decide) (by decide)
  rw [X_r16_6 m1]
  refine ⟨X_k16 m1, X_k30 m1, t_Ac_keep m1 a1.1 a1.2.1 a1.2.2.1 hA (fun h2 k => hq z1 z2 (fun z => z3 z.symm) h2 ?_)⟩
  have x2 := k.1
  refine ⟨fx_trans (fx_mono w.1 (by simp) (by simp)) (fx_mono x2 (by simp) (by simp)), ?_, ?_, fun j hj => ?_, AR_new hn a1 k (fx_refl _ _ _) (fun p c _ _ _ => ?_) (Or.inl ⟨s, hs, ?_, ?_, ?_, fun j hj => ?_⟩)⟩
  · rw [fx_I x2 (x := 22) (by decide)]; exact w.2.1
  · rw [fx_I x2 (x := 21) (by decide)]; exact w.2.2.1
  · rw [fx_I x2 (x := 21) (by decide)]; exact w.2.2.2 j hj
  · rw [fx_I x2 (x := 34) (by decide)]
  · rw [k.2.2.2.2.1, if_pos rfl]
  · rw [k.2.2.2.2.2.1, if_pos rfl, gA]
  · rw [k.2.2.2.2.2.2, if_pos rfl]
    unfold up
    rw [if_pos rfl]
  · rw [gA]
    unfold up
    rw [if_neg hj]
/-- one slot turned: none where nothing would change -/
def TC (f : Nat → Int32) (g : Nat → Nat → Int32) (n fi A b : Nat) (h : Hp) (s : Nat) (v e : Int32) (Q : Int32 → Hp → Prop) : Prop := (f s = v → Q e h) ∧ (¬ f s = v → ∀ h', TH (up f s v) (gN' g A (up f s v)) n (fiN fi A) (A1 A + 1) 0 b h h' → Q (f s) h')
theorem t_X_turn2 {f : Nat → Int32} {g : Nat → Nat → Int32} {r n fi A U b s : Nat} {v lo hi : Int32} {Q : Int32 → Hp → Prop} (c0 : CN f r n h) (a : AR g n fi A U h) (gA : g A = f) (hb : gI h 21 3 = nI b) (hs : s < 44) (hq0 : (decide (lo ≤ v) && decide (v ≤ hi)) = false → Q (-1000001) h) (hq : (decide (lo ≤ v) && decide (v ≤ hi)) = true → TC f g n fi A b h s v (-1000001) Q) : w_X_turn 16 (nI s) v lo hi h Q := by
  have ok : ¬ v < lo → ¬ hi < v → (decide (lo ≤ v) && decide (v ≤ hi)) = true := fun z1 z2 => by
    rw [decide_eq_true (Int32.not_lt.mp z1), decide_eq_true (Int32.not_lt.mp z2)]; rfl
  refine t_X_turn c0 a gA hb hs (fun z => ?_) (fun z1 z2 z3 h' t => (hq (ok z1 z2)).2 z3 h' t)
  by_cases z1 : v < lo
  · exact hq0 (by rw [decide_eq_false (p := lo ≤ v) (Int32.not_le.mpr z1), Bool.false_and])
  · by_cases z2 : hi < v
    · exact hq0 (by rw [decide_eq_false (p := v ≤ hi) (Int32.not_le.mpr z2), Bool.and_false])
    · rcases z with z | z | z
      · exact absurd z z1
      · exact absurd z z2
      · exact (hq (ok z1 z2)).1 z
theorem t_X_change {f : Nat → Int32} {g : Nat → Nat → Int32} {r n fi A U b : Nat} {c k v : Int32} {Q : Int32 → Hp → Prop} (c0 : CN f r n h) (a : AR g n fi A U h) (gA : g A = f) (hb : gI h 21 3 = nI b)
    (hq0 : (inb c n && (inb k r && (decide (-5 ≤ v) && decide (v ≤ 5)))) = false → Q (-1000001) h)
    (hq : ∀ i j, i < n → j < r → c = nI i → k = nI j → (decide (-5 ≤ v) && decide (v ≤ 5)) = true → TC f g n fi A b h (3 * i + j) v (-1000001) Q) : w_X_change 16 c k v h Q := by
  have m := c0.1
  obtain ⟨C, e1, e2, r1, hr, hn⟩ := c0.2.1
  unfold w_X_change
  rw [X_r16_2 m]
  refine ⟨X_k16 m, X_k21 m, t_Co_hasColumn (X_k21 m) e2 hn ⟨fun z => hq0 (by rw [z]; rfl), fun z => ⟨X_k16 m, ?_⟩⟩⟩
  rw [X_r16_2 m]
  refine ⟨X_k21 m, t_Co_hasRow (X_k21 m) e1 (by omega) ⟨fun z2 => hq0 (by rw [z2, Bool.false_and, Bool.and_false]), fun z2 => ⟨X_k16 m, ?_⟩⟩⟩
  obtain ⟨i, hi, rfl⟩ := inb_ex (by omega) (ntf z)
  obtain ⟨j, hj, rfl⟩ := inb_ex (by omega) (ntf z2)
  rw [show (3 : Int32) = nI 3 from rfl, pk_mul, nI_add, show i * 3 + j = 3 * i + j from by omega]
  exact t_X_turn2 c0 a gA hb (by omega) (fun z3 => hq0 (by rw [z3, Bool.and_false, Bool.and_false])) (fun z3 => hq i j hi hj rfl rfl z3)
theorem t_X_worth {f : Nat → Int32} {g : Nat → Nat → Int32} {r n fi A U b : Nat} {c v : Int32} {Q : Int32 → Hp → Prop} (c0 : CN f r n h) (a : AR g n fi A U h) (gA : g A = f) (hb : gI h 21 3 = nI b)
    (hq0 : (inb c n && (decide (-99 ≤ v) && decide (v ≤ 99))) = false → Q (-1000001) h)
    (hq : ∀ i, i < n → c = nI i → (decide (-99 ≤ v) && decide (v ≤ 99)) = true → TC f g n fi A b h (24 + i) v (-1000001) Q) : w_X_worth 16 c v h Q := by
  have m := c0.1
  obtain ⟨C, e1, e2, r1, hr, hn⟩ := c0.2.1
  unfold w_X_worth
  rw [X_r16_2 m]
  refine ⟨X_k16 m, X_k21 m, t_Co_hasColumn (X_k21 m) e2 hn ⟨fun z => hq0 (by rw [z]; rfl), fun z => ⟨X_k16 m, ?_⟩⟩⟩
  obtain ⟨i, hi, rfl⟩ := inb_ex (by omega) (ntf z)
  rw [show (24 : Int32) + nI i = nI (24 + i) from nI_add 24 i]
  exact t_X_turn2 c0 a gA hb (by omega) (fun z3 => hq0 (by rw [z3, Bool.and_false])) (fun z3 => hq i hi rfl z3)
theorem t_X_want {f : Nat → Int32} {g : Nat → Nat → Int32} {r n fi A U b : Nat} {c v : Int32} {Q : Int32 → Hp → Prop} (c0 : CN f r n h) (a : AR g n fi A U h) (gA : g A = f) (hb : gI h 21 3 = nI b)
    (hq0 : (inb c r && (decide (-20 ≤ v) && decide (v ≤ 20))) = false → Q (-1000001) h)
    (hq : ∀ i, i < r → c = nI i → (decide (-20 ≤ v) && decide (v ≤ 20)) = true → TC f g n fi A b h (32 + i) v (-1000001) Q) : w_X_want 16 c v h Q := by
  have m := c0.1
  obtain ⟨C, e1, e2, r1, hr, hn⟩ := c0.2.1
  unfold w_X_want
  rw [X_r16_2 m]
  refine ⟨X_k16 m, X_k21 m, t_Co_hasRow (X_k21 m) e1 (by omega) ⟨fun z => hq0 (by rw [z]; rfl), fun z => ⟨X_k16 m, ?_⟩⟩⟩
  obtain ⟨i, hi, rfl⟩ := inb_ex (by omega) (ntf z)
  rw [show (32 : Int32) + nI i = nI (32 + i) from nI_add 32 i]
  exact t_X_turn2 c0 a gA hb (by omega) (fun z3 => hq0 (by rw [z3, Bool.and_false])) (fun z3 => hq i hi rfl z3)
theorem t_X_allow {f : Nat → Int32} {g : Nat → Nat → Int32} {r n fi A U b : Nat} {v : Int32} {Q : Int32 → Hp → Prop} (c0 : CN f r n h) (a : AR g n fi A U h) (gA : g A = f) (hb : gI h 21 3 = nI b)
    (hq0 : (decide (1 ≤ v) && decide (v ≤ 12)) = false → Q (-1000001) h)
    (hq : (decide (1 ≤ v) && decide (v ≤ 12)) = true → TC f g n fi A b h 35 v (-1000001) Q) : w_X_allow 16 v h Q := by
  have m := c0.1
  unfold w_X_allow
  exact ⟨X_k16 m, t_X_turn2 (s := 35) c0 a gA hb (by omega) hq0 hq⟩
theorem t_X_hold {f : Nat → Int32} {g : Nat → Nat → Int32} {r n fi A U b : Nat} {c v : Int32} {Q : Int32 → Hp → Prop} (c0 : CN f r n h) (a : AR g n fi A U h) (gA : g A = f) (hb : gI h 21 3 = nI b) (hB : HB f n)
    (hq0 : (inb c n && (decide (0 ≤ v) && decide (v ≤ 99))) = false → Q (-1) h)
    (hq : ∀ i, i < n → c = nI i → (decide (0 ≤ v) && decide (v ≤ 99)) = true → TC f g n fi A b h (36 + i) v (-1) Q) : w_X_hold 16 c v h Q := by
  have m := c0.1
  obtain ⟨C, e1, e2, r1, hr, hn⟩ := c0.2.1
  unfold w_X_hold
  rw [X_r16_2 m]
  refine ⟨X_k16 m, X_k21 m, t_Co_hasColumn (X_k21 m) e2 hn ⟨fun z => hq0 (by rw [z]; rfl), fun z => ⟨X_k16 m, ?_⟩⟩⟩
  obtain ⟨i, hi, rfl⟩ := inb_ex (by omega) (ntf z)
  rw [show (36 : Int32) + nI i = nI (36 + i) from nI_add 36 i]
  have ne : ¬ f (36 + i) = -1000001 := fun e => by
    have := (hB i hi).1
    rw [e] at this
    exact absurd this (by decide)
  refine t_X_turn2 c0 a gA hb (by omega) (fun z3 => ⟨fun _ => hq0 (by rw [z3, Bool.and_false]), fun y => absurd rfl y⟩) (fun z3 => ?_)
  have t := hq i hi rfl z3
  exact ⟨fun y => ⟨fun _ => t.1 y, fun y2 => absurd rfl y2⟩, fun y h' th => ⟨fun y2 => absurd y2 ne, fun _ => t.2 y h' th⟩⟩
theorem t_X_undo {f : Nat → Int32} {g : Nat → Nat → Int32} {r n fi A U b : Nat} {Q : Bool → Hp → Prop} (c0 : CN f r n h) (a : AR g n fi A U h) (gA : g A = f) (hb : gI h 21 3 = nI b)
    (hq0 : A = 0 → Q false h) (hq : ∀ h' k, A = k + 1 → TH (g k) g n fi k (U + 1) b h h' → Q true h') : w_X_undo 16 h Q := by
  have m := c0.1
  obtain ⟨C, e1, e2, r1, hr, hn⟩ := c0.2.1
  obtain ⟨a1, a2, a3, a4, a5, a6⟩ := a
  unfold w_X_undo
  rw [X_r16_6 m, X_r16_2 m]
  refine ⟨X_k16 m, X_k30 m, ?_⟩
  unfold w_Ac_takeBack
  rw [a3]
  refine ⟨X_k30 m, fun z => ?_, fun z => hq0 ?_⟩
  · have z1 : 1 ≤ A := by
      by_cases g0 : A = 0
      · rw [g0] at z
        exact absurd z (by decide)
      · omega
    obtain ⟨k, rfl⟩ : ∃ k, A = k + 1 := ⟨A - 1, by omega⟩
    refine t_Ac_latest m a1 a2 a3 (by omega) ⟨X_k30 m, t_Ac_applyM m hn (rg_lt _ _) (a6 k (by omega)) hb e2 (c0.2.2.1.trans gA.symm) (fun h1 w => ?_)⟩
    have e5 : gI h1 30 5 = nI (k + 1) := by rw [fx_I w.1 (x := 30) (by decide)]; exact a3
    have e6 : gI h1 30 6 = nI U := by rw [fx_I w.1 (x := 30) (by decide)]; exact a4
    rw [e5, nI_s1, gI_sI (h := h1), if_neg (by decide), e6, nI_1]
    have x2 : Fx [30] [] h1 (sI (sI h1 30 5 (nI k)) 30 6 (nI (U + 1))) := fx_trans (fx_sI _ _ (by simp)) (fx_sI _ _ (by simp))
    have x3 := fx_trans (fx_mono w.1 (as' := [21, 22, 30]) (js' := []) (by simp) (by simp)) (fx_mono x2 (by simp) (by simp))
    refine ⟨X_k30 (fx_XS w.1 m), hq _ k rfl ⟨fx_mono x3 (by simp) (by simp), ?_, ?_, fun j hj => ?_, ?_, a2, ?_, ?_, by omega, fun j hj => AT_eq hn (a6 j (by omega)) ?_ ?_ ?_ (fun c _ => ?_)⟩⟩
    · rw [fx_I x2 (x := 22) (by decide)]; exact w.2.1
    · rw [fx_I x2 (x := 21) (by decide)]; exact w.2.2.1
    · rw [fx_I x2 (x := 21) (by decide)]; exact w.2.2.2 j hj
    · rw [gI_sI, if_neg (by decide), gI_sI, if_neg (by decide), fx_I w.1 (x := 30) (by decide)]; exact a1
    · rw [gI_sI, if_neg (by decide), gI_sI, if_pos ⟨rfl, rfl⟩]
    · rw [gI_sI, if_pos ⟨rfl, rfl⟩]
    · rw [fx_I x3 (x := 31) (by decide)]
    · rw [fx_I x3 (x := 32) (by decide)]
    · rw [fx_I x3 (x := 33) (by decide)]
    · rw [fx_I x3 (x := 34) (by decide)]
  · by_cases g0 : A = 0
    · exact g0
    · exact absurd (nI_le (a := 1) (b := A) (by omega) (by omega)) z
theorem t_X_redo {f : Nat → Int32} {g : Nat → Nat → Int32} {r n fi A U b : Nat} {Q : Bool → Hp → Prop} (c0 : CN f r n h) (a : AR g n fi A U h) (gA : g A = f) (hb : gI h 21 3 = nI b)
    (hq0 : U = 0 → Q false h) (hq : ∀ h' k, U = k + 1 → TH (g (A + 1)) g n fi (A + 1) k b h h' → Q true h') : w_X_redo 16 h Q := by
  have m := c0.1
  obtain ⟨C, e1, e2, r1, hr, hn⟩ := c0.2.1
  obtain ⟨a1, a2, a3, a4, a5, a6⟩ := a
  unfold w_X_redo
  rw [X_r16_6 m, X_r16_2 m]
  refine ⟨X_k16 m, X_k30 m, ?_⟩
  unfold w_Ac_doAgain
  rw [a4, a3, nI_1]
  refine ⟨X_k30 m, fun z => ?_, fun z => hq0 ?_⟩
  · have z1 : 1 ≤ U := by
      by_cases g0 : U = 0
      · rw [g0] at z
        exact absurd z (by decide)
      · omega
    obtain ⟨k, rfl⟩ : ∃ k, U = k + 1 := ⟨U - 1, by omega⟩
    have e6 : gI (sI h 30 5 (nI (A + 1))) 30 6 - 1 = nI k := by rw [gI_sI, if_neg (by decide), a4, nI_s1]
    rw [e6]
    have x2 : Fx [30] [] h (sI (sI h 30 5 (nI (A + 1))) 30 6 (nI k)) := fx_trans (fx_sI _ _ (by simp)) (fx_sI _ _ (by simp))
    have f4 : gI (sI (sI h 30 5 (nI (A + 1))) 30 6 (nI k)) 30 4 = nI fi := by rw [gI_sI, if_neg (by decide), gI_sI, if_neg (by decide)]; exact a1
    have f5 : gI (sI (sI h 30 5 (nI (A + 1))) 30 6 (nI k)) 30 5 = nI (A + 1) := by rw [gI_sI, if_neg (by decide), gI_sI, if_pos ⟨rfl, rfl⟩]
    have f6 : gI (sI (sI h 30 5 (nI (A + 1))) 30 6 (nI k)) 30 6 = nI k := by rw [gI_sI, if_pos ⟨rfl, rfl⟩]
    revert x2 f4 f5 f6
    generalize sI (sI h 30 5 (nI (A + 1))) 30 6 (nI k) = h1
    intro x2 f4 f5 f6
    have m1 := fx_XS x2 m
    have t1 : AT n (rg fi A) (g A) (g (A + 1)) h1 := AT_eq hn (a6 A (by omega)) (by rw [fx_I x2 (x := 31) (by decide)]) (by rw [fx_I x2 (x := 32) (by decide)]) (by rw [fx_I x2 (x := 33) (by decide)]) (fun c _ => by rw [fx_I x2 (x := 34) (by decide)])
    refine t_Ac_latest m1 f4 a2 f5 (by omega) ⟨X_k30 m1, t_Ac_apply m1 hn (rg_lt _ _) t1 (by rw [fx_I x2 (x := 21) (by decide)]; exact hb) (by rw [fx_I x2 (x := 21) (by decide)]; exact e2) (by rw [fx_I x2 (x := 22) (by decide), gA]; exact c0.2.2.1) (fun h2 w => hq h2 k rfl ?_)⟩
    have x3 := fx_trans (fx_mono x2 (as' := [21, 22, 30]) (js' := []) (by simp) (by simp)) (fx_mono w.1 (by simp) (by simp))
    refine ⟨fx_mono x3 (by simp) (by simp), w.2.1, w.2.2.1, fun j hj => ?_, ?_, a2, ?_, ?_, by omega, fun j hj => AT_eq hn (a6 j (by omega)) ?_ ?_ ?_ (fun c _ => ?_)⟩
    · rw [w.2.2.2 j hj, fx_I x2 (x := 21) (by decide)]
    · rw [fx_I w.1 (x := 30) (by decide)]; exact f4
    · rw [fx_I w.1 (x := 30) (by decide)]; exact f5
    · rw [fx_I w.1 (x := 30) (by decide)]; exact f6
    · rw [fx_I x3 (x := 31) (by decide)]
    · rw [fx_I x3 (x := 32) (by decide)]
    · rw [fx_I x3 (x := 33) (by decide)]
    · rw [fx_I x3 (x := 34) (by decide)]
  · by_cases g0 : U = 0
    · exact g0
    · exact absurd (nI_le (a := 1) (b := U) (by omega) (by omega)) z
