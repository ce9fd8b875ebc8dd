/-! The class's strip: a cell is reached -/
variable {h : Hp}
/-- the tables of the strip stand, for so many cells -/
def RM (ρ a : Nat) (h : Hp) : Prop := (gR h 42 7 = a ∧ gR h 42 8 = a + 1 ∧ gR h 42 9 = a + 2 ∧ gR h 42 10 = a + 3) ∧ (gK h a = 21 ∧ gK h (a + 1) = 20 ∧ gK h (a + 2) = 20 ∧ gK h (a + 3) = 21) ∧ (gN h a = 2 * ρ ∧ gN h (a + 1) = 2 * ρ ∧ gN h (a + 2) = 2 * ρ ∧ (0 < ρ → gN h (a + 3) = 13 * ρ / 16 + 1)) ∧ gI h 42 6 = nI ρ ∧ (a = 46 ∨ 120 ≤ a)
theorem RM_fx {ρ a : Nat} {as js : List Nat} {h' : Hp} (r : RM ρ a h) (x : Fx as js h h') (e : gI h' 42 6 = gI h 42 6) : RM ρ a h' := by
  unfold RM
  rw [fx_R x (x := 42) (k := 7) (by decide), fx_R x (x := 42) (k := 8) (by decide), fx_R x (x := 42) (k := 9) (by decide), fx_R x (x := 42) (k := 10) (by decide), fx_K x, fx_N x, e]
  exact r
theorem ni2 {a x : Nat} (ha : a = 46 ∨ 120 ≤ a) (hx : x < 46 ∨ 50 ≤ x ∧ x < 120) : x ∉ [a + 1, a + 2] := by
  simp
  omega
theorem nl2 {a x : Nat} (ha : a = 46 ∨ 120 ≤ a) (hx : x < 46 ∨ 50 ≤ x ∧ x < 120) : x ∉ [a, a + 3] := by
  simp
  omega

theorem and1n : ∀ l, l < 20 → (nI l &&& 1) = nI (l % 2) := by decide
def chP (a : Nat) (h : Hp) (p : Nat) : Nat := nib (gL h (a + 3) (p / 16)) (p % 16)
theorem t_St_choiceAt {ρ a k x : Nat} {Q : Int32 → Hp → Prop} (m : XS h) (rm : RM ρ a h) (hρ : ρ ≤ 15625) (hk : k ≤ 12) (hx : x < ρ) (hq : Q (nI (chP a h (k * ρ + x))) h) : w_St_choiceAt 42 (nI k) (nI x) h Q := by
  obtain ⟨⟨r1, r2, r3, r4⟩, ⟨k1, k2, k3, k4⟩, ⟨n1, n2, n3, n4⟩, e6, ha⟩ := rm
  replace n4 := n4 (by omega)
  have b : k * ρ ≤ 12 * ρ := Nat.mul_le_mul_right _ hk
  unfold w_St_choiceAt
  rw [r4, k4, n4, e6, pk_mul, nI_add, show (16 : Int32) = nI 16 from rfl, pk_div (by omega) (by omega) (by omega), ix_nI (by omega)]
  unfold jrem
  rw [pk_rem (by omega) (by omega) (by omega), show (4 : Int32) = nI 4 from rfl, pk_mul, Nat.mul_comm _ 4]
  refine ⟨X_k42 m, rfl, vp_in_nI (by omega) (by omega), ?_⟩
  rw [nib_rd (Nat.mod_lt _ (by decide))]
  exact hq
theorem t_St_choose {ρ a k x c : Nat} {Q : Hp → Prop} (m : XS h) (rm : RM ρ a h) (hρ : ρ ≤ 15625) (hk : k ≤ 12) (hx : x < ρ) (hc : c < 16) (hq : ∀ h', Fx [] [a + 3] h h' → (∀ p, chP a h' p = if p = k * ρ + x then c else chP a h p) → Q h') : w_St_choose 42 (nI k) (nI x) (nI c) h Q := by
  obtain ⟨⟨r1, r2, r3, r4⟩, ⟨k1, k2, k3, k4⟩, ⟨n1, n2, n3, n4⟩, e6, ha⟩ := rm
  replace n4 := n4 (by omega)
  have b : k * ρ ≤ 12 * ρ := Nat.mul_le_mul_right _ hk
  unfold w_St_choose
  rw [r4, k4, n4, e6, pk_mul, nI_add, show (16 : Int32) = nI 16 from rfl, pk_div (by omega) (by omega) (by omega), ix_nI (by omega)]
  unfold jrem
  rw [pk_rem (by omega) (by omega) (by omega), show (4 : Int32) = nI 4 from rfl, pk_mul, Nat.mul_comm _ 4]
  refine ⟨X_k42 m, rfl, vp_in_nI (by omega) (by omega), hq _ (fx_sL _ _ (by simp)) (fun p => ?_)⟩
  unfold chP
  rw [gL_sL]
  by_cases g : p / 16 = (k * ρ + x) / 16
  · rw [if_pos ⟨rfl, g⟩, nib_wr (Nat.mod_lt _ (by decide)) (Nat.mod_lt _ (by decide)) hc, g]
    by_cases g2 : p = k * ρ + x
    · rw [if_pos (by rw [g2]), if_pos g2]
    · rw [if_neg (by omega), if_neg g2]
  · rw [if_neg (fun q => g q.2), if_neg (fun q => g (by rw [q]))]
/-- whether the new way is taken -/
def tkW (W : Int64) (mo g : Int32) (c ch : Nat) : Prop := W = 0 ∨ mo < g ∨ g = mo ∧ c < ch
theorem t_St_reach {f : Nat → Int32} {r n ρ a k x S c : Nat} {Q : Bool → Hp → Prop} (c0 : CN f r n h) (rm : RM ρ a h) (hρ : ρ ≤ 15625) (hk : k ≤ 12) (hx : x < ρ) (hS : S < 2 * ρ) (hne : S ≠ k % 2 * ρ + x) (hc : c < n)
    (hq : ∀ h', Fx [a + 1] [a, a + 3] h h' → (∀ y, gL h' a y = if y = k % 2 * ρ + x then gL h a y + gL h a S else gL h a y) → (∀ y, y ≠ k % 2 * ρ + x → gI h' (a + 1) y = gI h (a + 1) y) → (∀ p, p ≠ k * ρ + x → chP a h' p = chP a h p) → (tkW (gL h a (k % 2 * ρ + x)) (gI h (a + 1) (k % 2 * ρ + x)) (gI h (a + 1) S + f (24 + c)) c (chP a h (k * ρ + x)) → gI h' (a + 1) (k % 2 * ρ + x) = gI h (a + 1) S + f (24 + c) ∧ chP a h' (k * ρ + x) = c) → (¬ tkW (gL h a (k % 2 * ρ + x)) (gI h (a + 1) (k % 2 * ρ + x)) (gI h (a + 1) S + f (24 + c)) c (chP a h (k * ρ + x)) → gI h' (a + 1) (k % 2 * ρ + x) = gI h (a + 1) (k % 2 * ρ + x) ∧ chP a h' (k * ρ + x) = chP a h (k * ρ + x)) → Q (decide (gL h a (k % 2 * ρ + x) = 0)) h') : w_St_reach 42 (nI k) (nI x) (nI S) (nI c) h Q := by
  have m := c0.1
  have hn := c0.2.1.2.2.2.2.2
  have rm0 := rm
  obtain ⟨⟨r1, r2, r3, r4⟩, ⟨k1, k2, k3, k4⟩, ⟨n1, n2, n3, n4⟩, e6, ha⟩ := rm
  have q1 : k % 2 * ρ ≤ 1 * ρ := Nat.mul_le_mul_right _ (by omega)
  have chl : chP a h (k * ρ + x) < 16 := nib_lt _ _
  have B107 : ∀ (b : Bool) h1, Fx [a + 1] [a + 3] h h1 → (Q b (sL h1 a (k % 2 * ρ + x) (gL h a (k % 2 * ρ + x) + gL h a S))) → w_St_reach_B107 Q 42 (nI S) (nI (k % 2 * ρ + x)) (b2i b) h1 := by
    intro b h1 x1 hq1
    unfold w_St_reach_B107
    rw [fx_R x1 (x := 42) (k := 7) (by decide), r1, fx_K x1, fx_N x1, k1, n1, ix_nI (by omega), ix_nI (by omega), fx_L x1 (x := a) (by simp)]
    have ib : isB (b2i b) ∧ i2b (b2i b) = b := by cases b <;> exact ⟨by unfold isB; decide, rfl⟩
    rw [ib.2]
    exact ⟨X_k42 m, rfl, vp_in_nI (by omega) (by omega), vp_in_nI (by omega) (by omega), ib.1, hq1⟩
  have ways : ∀ h1, Fx [a + 1] [a + 3] h h1 → ∀ y, gL (sL h1 a (k % 2 * ρ + x) (gL h a (k % 2 * ρ + x) + gL h a S)) a y = if y = k % 2 * ρ + x then gL h a y + gL h a S else gL h a y := by
    intro h1 x1 y
    rw [gL_sL, fx_L x1 (x := a) (by simp)]
    by_cases g : y = k % 2 * ρ + x
    · rw [if_pos ⟨rfl, g⟩, if_pos g, g]
    · rw [if_neg (fun q => g q.2), if_neg g]
  have frm : ∀ h1, Fx [a + 1] [a + 3] h h1 → Fx [a + 1] [a, a + 3] h (sL h1 a (k % 2 * ρ + x) (gL h a (k % 2 * ρ + x) + gL h a S)) := fun h1 x1 => fx_trans (fx_mono x1 (by simp) (by simp)) (fx_sL _ _ (by simp))
  have chS : ∀ h1 p v, chP a (sL h1 a (k % 2 * ρ + x) v) p = chP a h1 p := fun h1 p v => by
    unfold chP
    rw [gL_sL, if_neg (fun q => absurd q.1 (by omega))]
  have keep : ∀ b : Bool, b = decide (gL h a (k % 2 * ρ + x) = 0) → ¬ tkW (gL h a (k % 2 * ρ + x)) (gI h (a + 1) (k % 2 * ρ + x)) (gI h (a + 1) S + f (24 + c)) c (chP a h (k * ρ + x)) → w_St_reach_B107 Q 42 (nI S) (nI (k % 2 * ρ + x)) (b2i b) h := by
    intro b hb nt
    have x0 : Fx [a + 1] [a + 3] h h := fx_refl _ _ _
    refine B107 b h x0 ?_
    rw [hb]
    exact hq _ (frm h x0) (ways h x0) (fun y _ => rfl) (fun p _ => chS _ _ _) (fun tk => absurd tk nt) (fun _ => ⟨rfl, chS _ _ _⟩)
  have take : ∀ b : Bool, b = decide (gL h a (k % 2 * ρ + x) = 0) → tkW (gL h a (k % 2 * ρ + x)) (gI h (a + 1) (k % 2 * ρ + x)) (gI h (a + 1) S + f (24 + c)) c (chP a h (k * ρ + x)) → w_St_reach_B90 Q 42 (nI k) (nI x) (nI S) (nI c) (nI (k % 2 * ρ + x)) (gI h (a + 1) S + f (24 + c)) (b2i b) h := by
    intro b hb tk
    unfold w_St_reach_B90
    rw [r2, k2, n2, ix_nI (by omega)]
    have x1 : Fx [a + 1] [a + 3] h (sI h (a + 1) (k % 2 * ρ + x) (gI h (a + 1) S + f (24 + c))) := fx_sI _ _ (by simp)
    have e6' : gI (sI h (a + 1) (k % 2 * ρ + x) (gI h (a + 1) S + f (24 + c))) 42 6 = gI h 42 6 := by rw [gI_sI, if_neg (fun q => absurd q.1 (by omega))]
    refine ⟨X_k42 m, rfl, vp_in_nI (by omega) (by omega), t_St_choose (fx_XS x1 m) (RM_fx rm0 x1 e6') hρ hk hx (by omega) (fun h2 x2 ch => ?_)⟩
    have x12 : Fx [a + 1] [a + 3] h h2 := fx_trans x1 (fx_mono x2 (by simp) (by simp))
    have mo : ∀ y, gI h2 (a + 1) y = if y = k % 2 * ρ + x then gI h (a + 1) S + f (24 + c) else gI h (a + 1) y := fun y => by
      rw [fx_I x2 (x := a + 1) (by simp), gI_sI]
      by_cases g : y = k % 2 * ρ + x
      · rw [if_pos ⟨rfl, g⟩, if_pos g]
      · rw [if_neg (fun q => g q.2), if_neg g]
    refine B107 b h2 x12 ?_
    rw [hb]
    refine hq _ (frm h2 x12) (ways h2 x12) (fun y hy => ?_) (fun p hp => ?_) (fun _ => ⟨?_, ?_⟩) (fun nt => absurd tk nt)
    · rw [gI_sL, mo y, if_neg hy]
    · rw [chS, ch p, if_neg hp]
      rfl
    · rw [gI_sL, mo, if_pos rfl]
    · rw [chS, ch, if_pos rfl]
  unfold w_St_reach w_St_layer
  rw [and1n k (by omega)]
  dsimp only
  rw [r2, k2, n2, X_r42_0 m, e6, pk_mul, nI_add]
  refine ⟨X_k42 m, rfl, vp_in_nI (by omega) (by omega), X_k21 m, t_Co_gainOf (CO_21 m) (by omega) ⟨X_k42 m, ?_⟩⟩
  rw [r1, k1, n1, ix_nI (n := k % 2 * ρ + x) (by omega), ix_nI (n := S) (by omega), show gI h (21 + 1) = f from c0.2.2.1]
  refine ⟨rfl, vp_in_nI (by omega) (by omega), fun z => ?_, fun z => ?_⟩
  · unfold w_St_reach_B48
    exact ⟨fun y => absurd y (by decide), fun _ => take true (by rw [decide_eq_true z]) (Or.inl z)⟩
  · unfold w_St_reach_B48
    have hb : false = decide (gL h a (k % 2 * ρ + x) = 0) := by rw [decide_eq_false z]
    rw [r2, k2, n2, ix_nI (n := k % 2 * ρ + x) (by omega)]
    refine ⟨fun _ => ⟨X_k42 m, rfl, vp_in_nI (by omega) (by omega), fun z1 => take false hb (Or.inr (Or.inl z1)), fun z1 => ⟨fun z2 => t_St_choiceAt m rm0 hρ hk hx ⟨fun z3 => keep false hb ?_, fun z3 => take false hb (Or.inr (Or.inr ⟨z2, ?_⟩))⟩, fun z2 => keep false hb ?_⟩⟩, fun y => absurd rfl y⟩
    · rintro (q | q | q)
      · exact z q
      · exact z1 q
      · exact absurd z3 (nI_ge q.2 (by omega))
    · by_cases g : c < chP a h (k * ρ + x)
      · exact g
      · exact absurd (nI_le (by omega) (by omega)) z3
    · rintro (q | q | q)
      · exact z q
      · exact z1 q
      · exact z2 q.1
