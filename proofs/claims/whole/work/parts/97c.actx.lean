/-! The class's acts -/
variable {h : Hp}
def rg (fi k : Nat) : Nat := (fi + k) % 20
theorem rg_lt (fi k : Nat) : rg fi k < 20 := Nat.mod_lt _ (by decide)
/-- an act kept at q leads from u to v -/
def AT (n q : Nat) (u v : Nat → Int32) (h : Hp) : Prop :=
  (∃ s, s < 44 ∧ gI h 31 q = nI s ∧ gI h 32 q = u s ∧ gI h 33 q = v s ∧ ∀ j, j ≠ s → v j = u j) ∨
  (gI h 31 q = -1 ∧ 0 < n ∧ ∀ j, v j = if 36 ≤ j ∧ j < 36 + n then u j + gI h 34 (8 * q + (j - 36)) else u j)
def AR (g : Nat → Nat → Int32) (n fi A U : Nat) (h : Hp) : Prop := gI h 30 4 = nI fi ∧ fi < 20 ∧ gI h 30 5 = nI A ∧ gI h 30 6 = nI U ∧ A + U ≤ 20 ∧ ∀ k, k < A + U → AT n (rg fi k) (g k) (g (k + 1)) h
theorem AT_eq {n q : Nat} {u v : Nat → Int32} {h' : Hp} (hn : n ≤ 8) (a : AT n q u v h) (e1 : gI h' 31 q = gI h 31 q) (e2 : gI h' 32 q = gI h 32 q) (e3 : gI h' 33 q = gI h 33 q) (e4 : ∀ c, c < 8 → gI h' 34 (8 * q + c) = gI h 34 (8 * q + c)) : AT n q u v h' := by
  rcases a with ⟨s, a1, a2, a3, a4, a5⟩ | ⟨a1, a0, a2⟩
  · exact Or.inl ⟨s, a1, by rw [e1]; exact a2, by rw [e2]; exact a3, by rw [e3]; exact a4, a5⟩
  · refine Or.inr ⟨by rw [e1]; exact a1, a0, fun j => ?_⟩
    rw [a2 j]
    by_cases g : 36 ≤ j ∧ j < 36 + n
    · rw [if_pos g, if_pos g, e4 (j - 36) (by omega)]
    · rw [if_neg g, if_neg g]
theorem AR_fx {g : Nat → Nat → Int32} {n fi A U : Nat} {as js : List Nat} {h' : Hp} (hn : n ≤ 8) (a : AR g n fi A U h) (x : Fx as js h h') (h0 : 30 ∉ as) (h1 : 31 ∉ as) (h2 : 32 ∉ as) (h3 : 33 ∉ as) (h4 : 34 ∉ as) : AR g n fi A U h' := by
  obtain ⟨a1, a2, a3, a4, a5, a6⟩ := a
  refine ⟨by rw [fx_I x h0]; exact a1, a2, by rw [fx_I x h0]; exact a3, by rw [fx_I x h0]; exact a4, a5, fun k hk => AT_eq hn (a6 k hk) ?_ ?_ ?_ (fun c _ => ?_)⟩
  · rw [fx_I x h1]
  · rw [fx_I x h2]
  · rw [fx_I x h3]
  · rw [fx_I x h4]
theorem t_Ac_latest {fi a : Nat} {Q : Int32 → Hp → Prop} (m : XS h) (h4 : gI h 30 4 = nI fi) (hf : fi < 20) (h5 : gI h 30 5 = nI (a + 1)) (ha : a < 20) (hq : Q (nI (rg fi a)) h) : w_Ac_latest 30 h Q := by
  unfold w_Ac_latest
  refine ⟨X_k30 m, ?_⟩
  rw [h4, h5, nI_add, show (20 : Int32) = nI 20 from rfl, nI_add, show fi + (a + 1) + 20 = (fi + a + 20) + 1 from by omega, nI_s1]
  unfold jrem
  rw [pk_rem (by omega) (by omega) (by omega), show (fi + a + 20) % 20 = rg fi a from by unfold rg; omega]
  exact hq
def dA (A : Nat) : Nat := if A = 20 then 1 else 0
theorem dA_A1 {A : Nat} (hA : A ≤ 20) : A1 A + dA A = A := by
  unfold A1 dA
  split <;> omega
theorem A1_lt {A : Nat} (hA : A ≤ 20) : A1 A < 20 := by
  unfold A1
  split <;> omega
def fiN (fi A : Nat) : Nat := if A = 20 then (fi + 1) % 20 else fi
theorem fiN_lt {fi A : Nat} (hf : fi < 20) : fiN fi A < 20 := by
  unfold fiN
  split <;> omega
theorem rg_fiN {fi A k : Nat} (hf : fi < 20) : rg (fiN fi A) k = rg fi (k + dA A) := by
  unfold rg fiN dA
  split <;> omega
theorem rg_inj {fi k l : Nat} (hk : k < 20) (hl : l < 20) (e : rg fi k = rg fi l) : k = l := by
  unfold rg at e
  omega
/-- the place of the next act -/
def qN (fi A : Nat) : Nat := rg (fiN fi A) (A1 A)
/-- a heap as one more kept act leaves it -/
def AKp (fi A : Nat) (s u v : Int32) (h h' : Hp) : Prop := Fx [30, 31, 32, 33] [] h h' ∧ gI h' 30 4 = nI (fiN fi A) ∧ gI h' 30 5 = nI (A1 A + 1) ∧ gI h' 30 6 = 0 ∧ (∀ j, gI h' 31 j = if j = qN fi A then s else gI h 31 j) ∧ (∀ j, gI h' 32 j = if j = qN fi A then u else gI h 32 j) ∧ (∀ j, gI h' 33 j = if j = qN fi A then v else gI h 33 j)
theorem t_Ac_keep_B40 {h0 : Hp} {fi A : Nat} {s u v : Int32} {Q : Hp → Prop} (m : XS h) (hf : fi < 20) (hA : A ≤ 20) (x : Fx [30] [] h0 h) (h4 : gI h 30 4 = nI (fiN fi A)) (h5 : gI h 30 5 = nI (A1 A + 1)) (h6 : gI h 30 6 = 0) (hq : ∀ h', AKp fi A s u v h0 h' → Q h') : w_Ac_keep_B40 Q 30 s u v h := by
  have q20 : qN fi A < 20 := rg_lt _ _
  unfold w_Ac_keep_B40
  refine ⟨X_k30 m, t_Ac_latest m h4 (fiN_lt hf) h5 (A1_lt hA) ?_⟩
  rw [X_r30_0 m, X_r30_1 m, X_r30_2 m, show rg (fiN fi A) (A1 A) = qN fi A from rfl, ix_nI (by omega), X_n31 m, X_n32 m, X_n33 m]
  refine ⟨X_k30 m, X_k31 m, vp_in_nI (by omega) (by omega), X_k32 m, vp_in_nI (by omega) (by omega), X_k33 m, vp_in_nI (by omega) (by omega), hq _ ⟨fx_trans (fx_mono x (by simp) (by simp)) (fx_trans (fx_trans (fx_sI _ _ (by simp)) (fx_sI _ _ (by simp))) (fx_sI _ _ (by simp))), h4, h5, h6, fun j => ?_, fun j => ?_, fun j => ?_⟩⟩
  · rw [gI_sI, if_neg (fun y => absurd y.1 (by decide)), gI_sI, if_neg (fun y => absurd y.1 (by decide)), gI_sI, fx_I x (x := 31) (by decide)]
    by_cases g : j = qN fi A
    · rw [if_pos ⟨rfl, g⟩, if_pos g]
    · rw [if_neg (fun y => g y.2), if_neg g]
  · rw [gI_sI, if_neg (fun y => absurd y.1 (by decide)), gI_sI]
    by_cases g : j = qN fi A
    · rw [if_pos ⟨rfl, g⟩, if_pos g]
    · rw [if_neg (fun y => g y.2), if_neg g, gI_sI, if_neg (fun y => absurd y.1 (by decide)), fx_I x (x := 32) (by decide)]
  · rw [gI_sI]
    by_cases g : j = qN fi A
    · rw [if_pos ⟨rfl, g⟩, if_pos g]
    · rw [if_neg (fun y => g y.2), if_neg g, gI_sI, if_neg (fun y => absurd y.1 (by decide)), gI_sI, if_neg (fun y => absurd y.1 (by decide)), fx_I x (x := 33) (by decide)]
theorem t_Ac_keep {fi A : Nat} {s u v : Int32} {Q : Hp → Prop} (m : XS h) (h4 : gI h 30 4 = nI fi) (hf : fi < 20) (h5 : gI h 30 5 = nI A) (hA : A ≤ 20) (hq : ∀ h', AKp fi A s u v h h' → Q h') : w_Ac_keep 30 s u v h Q := by
  have x1 : Fx [30] [] h (sI h 30 6 0) := fx_sI _ _ (by simp)
  have e5 : gI (sI h 30 6 0) 30 5 = nI A := by rw [gI_sI, if_neg (by decide)]; exact h5
  have e4 : gI (sI h 30 6 0) 30 4 = nI fi := by rw [gI_sI, if_neg (by decide)]; exact h4
  unfold w_Ac_keep
  rw [e5, e4]
  refine ⟨X_k30 m, fun z => ?_, fun z => ?_⟩
  · have hA2 : A = 20 := by
      by_cases g : A < 20
      · exact absurd z (nI_ge (b := 20) g (by omega))
      · omega
    have x2 : Fx [30] [] h (sI (sI h 30 6 0) 30 4 (jrem (nI fi + 1) 20)) := fx_trans x1 (fx_sI _ _ (by simp))
    refine t_Ac_keep_B40 (fx_XS x2 m) hf hA x2 ?_ ?_ ?_ hq
    · rw [gI_sI, if_pos ⟨rfl, rfl⟩, nI_1, show (20 : Int32) = nI 20 from rfl]
      unfold jrem fiN
      rw [pk_rem (by omega) (by omega) (by omega), if_pos hA2]
    · rw [gI_sI, if_neg (by decide), e5]
      unfold A1
      rw [if_pos hA2, hA2]
    · rw [gI_sI, if_neg (by decide), gI_sI, if_pos ⟨rfl, rfl⟩]
  · have hA2 : A ≠ 20 := fun g => z (by rw [g]; exact Int32.le_refl _)
    have x2 : Fx [30] [] h (sI (sI h 30 6 0) 30 5 (nI A + 1)) := fx_trans x1 (fx_sI _ _ (by simp))
    refine t_Ac_keep_B40 (fx_XS x2 m) hf hA x2 ?_ ?_ ?_ hq
    · rw [gI_sI, if_neg (by decide), e4]
      unfold fiN
      rw [if_neg hA2]
    · rw [gI_sI, if_pos ⟨rfl, rfl⟩, nI_1]
      unfold A1
      rw [if_neg hA2]
    · rw [gI_sI, if_neg (by decide), gI_sI, if_pos ⟨rfl, rfl⟩]
/-- the states behind one more act -/
def gN' (g : Nat → Nat → Int32) (A : Nat) (v : Nat → Int32) : Nat → Nat → Int32 := fun k => if k ≤ A1 A then g (k + dA A) else v
theorem gN_A {g : Nat → Nat → Int32} {A : Nat} {v : Nat → Int32} : gN' g A v (A1 A + 1) = v := if_neg (by omega)
theorem AR_new {g : Nat → Nat → Int32} {n fi A U : Nat} {h' : Hp} {v : Nat → Int32} {s a b : Int32} {h2 : Hp} (hn : n ≤ 8) (r : AR g n fi A U h) (k : AKp fi A s a b h h2) (x : Fx [21, 22, 34] [] h2 h') (e4 : ∀ p c, p < 20 → p ≠ qN fi A → c < 8 → gI h' 34 (8 * p + c) = gI h 34 (8 * p + c)) (t : AT n (qN fi A) (g A) v h') : AR (gN' g A v) n (fiN fi A) (A1 A + 1) 0 h' := by
  obtain ⟨r1, r2, r3, r4, r5, r6⟩ := r
  obtain ⟨k1, k2, k3, k4, k5, k6, k7⟩ := k
  have a1 := A1_lt (A := A) (by omega)
  have a2 := dA_A1 (A := A) (by omega)
  refine ⟨by rw [fx_I x (x := 30) (by decide)]; exact k2, fiN_lt r2, by rw [fx_I x (x := 30) (by decide)]; exact k3, by rw [fx_I x (x := 30) (by decide)]; exact k4, by omega, fun j hj => ?_⟩
  by_cases g1 : j = A1 A
  · subst g1
    unfold gN'
    rw [if_pos (Nat.le_refl _), if_neg (by omega), a2]
    exact t
  · unfold gN'
    rw [if_pos (by omega), if_pos (by omega), show j + 1 + dA A = j + dA A + 1 from by omega]
    have ne : rg (fiN fi A) j ≠ qN fi A := fun e => g1 (rg_inj (by omega) (by omega) e)
    have lt := rg_lt (fiN fi A) j
    have t1 := r6 (j + dA A) (by omega)
    rw [← rg_fiN (A := A) r2] at t1
    refine AT_eq hn t1 ?_ ?_ ?_ (fun c hc => e4 _ c lt ne hc)
    · rw [fx_I x (x := 31) (by decide), k5, if_neg ne]
    · rw [fx_I x (x := 32) (by decide), k6, if_neg ne]
    · rw [fx_I x (x := 33) (by decide), k7, if_neg ne]
