/-! The class's order of the best plan -/
variable {h : Hp}
/-- a plan stands with its strides -/
def OW (n c : Nat) (p : List Nat) (h : Hp) : Prop := (∀ j, j < n → gI h 51 j = nI (p.getD j 0)) ∧ (∀ j, j < c → gI h 52 j = nI (wt p j)) ∧ (∀ j, p.getD j 0 ≤ 12) ∧ wt p n ≤ 1296 ∧ p.length = n
theorem OW_fx {n c : Nat} {p : List Nat} {as js : List Nat} {h' : Hp} (a : OW n c p h) (f : Fx as js h h') (h1 : 51 ∉ as) (h2 : 52 ∉ as) : OW n c p h' := by
  unfold OW
  rw [fx_I f h1, fx_I f h2]
  exact a
theorem t_Op_takenAt {n N c : Nat} {p : List Nat} {Q : Int32 → Hp → Prop} (m : XS h) (o : OW n n p h) (hn : n ≤ 8) (hc : c < n) (hN : N < 2 ^ 30) (hq : Q (nI (tk p N c)) h) : w_Op_takenAt 50 (nI N) (nI c) h Q := by
  have hw := wt_pos p c
  have hw2 := wt_mono p (show c ≤ n by omega)
  have o4 := o.2.2.2.1
  have o3 := o.2.2.1 c
  unfold w_Op_takenAt
  rw [X_r50_2 m, X_r50_3 m, X_k50 m, X_k51 m, X_k52 m, X_n51 m, X_n52 m, ix_nI (n := c) (by omega), o.1 c hc, o.2.1 c hc, nI_1]
  refine ⟨rfl, rfl, vp_in_nI (by omega) (by omega), rfl, vp_in_nI (by omega) (by omega), fun z => absurd z (Int32.not_lt.mpr (nI_le (a := 1) hw (by omega))), fun _ => ⟨fun _ => ⟨nI_ne0 hw (by omega), nI_ne0 (by omega) (by omega), ?_⟩, fun z => absurd (nI_le (a := 1) (b := p.getD c 0 + 1) (by omega) (by omega)) z⟩⟩
  rw [pk_div (by omega) hw (by omega)]
  unfold jrem
  have : N / wt p c ≤ N := Nat.div_le_self _ _
  rw [pk_rem (by omega) (by omega) (by omega)]
  exact hq
theorem t_Op_leastBehind {f : Nat → Int32} {r n N : Nat} {p : List Nat} {g : Nat → Int32} {Q : Int32 → Hp → Prop} (c0 : CN f r n h) (o : OW n n p h) (hN : N < wt p n) (hg : ∀ M, N < M → M < wt p n → gI h 55 M = g M ∧ 0 ≤ g M ∧ g M ≤ 999999999) (hq : ∀ v, ((∀ c, c < n → ¬ tk p N c < p.getD c 0) → v = -1) → ((∃ c, c < n ∧ tk p N c < p.getD c 0) → v = lsl p g N 1000000000 n) → Q v h) : w_Op_leastBehind 50 (nI N) h Q := by
  have m := c0.1
  have hn := c0.2.1.2.2.2.2.2
  have hW := o.2.2.2.1
  unfold w_Op_leastBehind
  refine loop_0 (fun x c (s : Int32) => w_Op_leastBehind_L4 Q 50 (nI N) x s (nI c) h) (fun c s => ((∀ c', c' < c → ¬ tk p N c' < p.getD c' 0) → s = -1) ∧ ((∃ c', c' < c ∧ tk p N c' < p.getD c' 0) → s = lsl p g N 1000000000 c ∧ 0 ≤ s)) n (-1) ⟨fun _ => rfl, fun ⟨c', hc', _⟩ => absurd hc' (Nat.not_lt_zero _)⟩ ?_ ?_
  · rintro x s ⟨e1, e2⟩
    unfold w_Op_leastBehind_L4
    rw [X_r50_0 m, c0.2.1.2.2.1]
    exact ⟨X_k50 m, c0.2.1.1.1, fun _ => hq s e1 (fun e => (e2 e).1), fun z => absurd (Int32.le_refl _) z⟩
  · rintro x c s hc ⟨e1, e2⟩ ih
    have oc := o.2.2.1 c
    have tl : tk p N c ≤ p.getD c 0 := by
      have := Nat.mod_lt (N / wt p c) (show 0 < p.getD c 0 + 1 by omega)
      unfold tk
      omega
    unfold w_Op_leastBehind_L4
    rw [X_r50_0 m, c0.2.1.2.2.1]
    refine ⟨X_k50 m, c0.2.1.1.1, fun z => absurd z (nI_ge hc (by omega)), fun _ => t_Op_takenAt m o hn hc (by omega) ⟨X_k50 m, ?_⟩⟩
    rw [X_r50_2 m, X_r50_3 m, X_r50_6 m, X_k51 m, X_k52 m, X_k55 m, X_n51 m, X_n52 m, X_n55 m, ix_nI (n := c) (by omega), o.1 c hc, o.2.1 c hc, nI_add, nI_1]
    have eq : ∀ v : Int32, lsl p g N v (c + 1) = if tk p N c < p.getD c 0 then ls2 (lsl p g N v c) (g (N + wt p c)) else lsl p g N v c := fun v => rfl
    refine ⟨rfl, vp_in_nI (by omega) (by omega), fun z => ih s ⟨fun e => e1 (fun c' hc' => e c' (by omega)), fun e => ?_⟩, fun z => ?_⟩
    · have z : ¬ tk p N c < p.getD c 0 := by
        have := (nI_leI (by omega) (by omega)).mp z
        omega
      rw [eq, if_neg z]
      refine e2 ?_
      obtain ⟨c', h1, h2⟩ := e
      refine ⟨c', ?_, h2⟩
      by_cases g1 : c' = c
      · rw [g1] at h2; exact absurd h2 z
      · omega
    · have z : tk p N c < p.getD c 0 := Nat.lt_of_not_le (fun y => z (nI_le y (by omega)))
      have lt := tk_lt z hc hN
      have wp := wt_pos p c
      obtain ⟨g1, g2, g3⟩ := hg (N + wt p c) (by omega) lt
      rw [ix_nI (n := N + wt p c) (by omega), g1]
      have h9 : (g (N + wt p c)) ≤ 1000000000 := Int32.le_trans g3 (by decide)
      refine ⟨rfl, vp_in_nI (by omega) (by omega), rfl, vp_in_nI (by omega) (by omega), fun y => ih _ ⟨fun e => absurd z (e c (by omega)), fun _ => ⟨?_, g2⟩⟩, fun y => t_min (ih _ ⟨fun e => absurd z (e c (by omega)), fun _ => ?_⟩)⟩
      · have none_ : ∀ c', c' < c → ¬ tk p N c' < p.getD c' 0 := fun c' hc' y2 => by
          have := (e2 ⟨c', hc', y2⟩).2
          rw [y] at this
          exact absurd this (by decide)
        have l0 : ∀ k, k ≤ c → lsl p g N 1000000000 k = 1000000000 := by
          intro k
          induction k with
          | zero => intro _; rfl
          | succ k ih2 =>
            intro hk
            show (if tk p N k < p.getD k 0 then _ else lsl p g N 1000000000 k) = _
            rw [if_neg (none_ k (by omega))]
            exact ih2 (by omega)
        rw [eq, if_pos z, l0 c (Nat.le_refl _)]
        unfold ls2
        rw [if_pos h9]
      · have ex : ∃ c', c' < c ∧ tk p N c' < p.getD c' 0 := by
          by_cases e : ∃ c', c' < c ∧ tk p N c' < p.getD c' 0
          · exact e
          · exact absurd (e1 (fun c' hc' y2 => e ⟨c', hc', y2⟩)) y
        obtain ⟨k1, k2⟩ := e2 ex
        rw [eq, if_pos z, ← k1]
        refine ⟨rfl, ?_⟩
        unfold ls2
        split
        · exact g2
        · exact k2
theorem t_Op_strayAtPart {f : Nat → Int32} {r n N T : Nat} {p : List Nat} {Q : Int32 → Hp → Prop} (c0 : CN f r n h) (o : OW n n p h) (hN : N < wt p n) (hT : gI h 50 12 = nI T) (hq : ∀ h', Fx [54] [] h h' → Q (stN f r n p (nI T) N) h') : w_Op_strayAtPart 50 (nI N) h Q := by
  have m := c0.1
  have hn := c0.2.1.2.2.2.2.2
  have hr := c0.2.1.2.2.2.2.1
  have hZ := c0.2.2.2.2.2.2.1
  have hW := o.2.2.2.1
  unfold w_Op_strayAtPart
  rw [X_r50_5 m]
  refine ⟨X_k50 m, t_fill (X_k54 m) (X_n54 m) (by decide) ?_⟩
  refine loop_0 (fun x c (s : Int32 × Hp) => w_Op_strayAtPart_L12 Q 50 (nI N) x s.1 (nI c) s.2) (fun c s => Fx [54] [] h s.2 ∧ s.1 = sm (fun c => nI (tk p N c)) c ∧ ∀ j, j < 3 → gI s.2 54 j = sm (fun c => nI (tk p N c) * f (3 * c + j)) c) n (0, sA h 54 (fl (gI h 54) 3 0)) ⟨fx_sA _ _ (by simp), rfl, fun j hj => ?_⟩ ?_ ?_
  · dsimp only
    rw [gI_sA, if_pos rfl]
    unfold fl
    rw [if_pos hj]
    rfl
  · rintro x ⟨k, y⟩ ⟨fy, ek, ey⟩
    dsimp only at fy ek ey ⊢
    have cy := CN_fx c0 fy (by decide) (by decide)
    unfold w_Op_strayAtPart_L12
    rw [X_r50_0 cy.1, X_r50_5 cy.1, cy.2.1.2.2.1]
    refine ⟨X_k50 cy.1, cy.2.1.1.1, fun _ => t_Co_strayAt cy.2.1.1 (X_k54 cy.1) (X_n54 cy.1) ?_, fun z => absurd (Int32.le_refl _) z⟩
    have := hq y fy
    have e : mx (fun j => ab (gI y 50 12 * gI y 54 j - k * gI y (21 + 1) (32 + j))) 3 = stN f r n p (nI T) N := by
      rw [mx_ext hr (fun j h1 h2 => ?_)]
      · unfold stN
        refine mx_congr (fun j hj => ?_)
        show ab (gI y 50 12 * gI y 54 j - k * gI y 22 (32 + j)) = _
        rw [cy.2.2.1, fx_I fy (x := 50) (by decide), hT, ey j (by omega), ek]
      · show ab (gI y 50 12 * gI y 54 j - k * gI y 22 (32 + j)) = 0
        rw [cy.2.2.1, ey j h2, (hZ j h1 h2).1, sm_0 (fun c hc => by rw [(hZ j h1 h2).2 c (by omega), Int32.mul_zero]), Int32.mul_zero, Int32.mul_zero]
        rfl
    rw [e]
    exact this
  · rintro x c ⟨k, y⟩ hc ⟨fy, ek, ey⟩ ih
    dsimp only at fy ek ey ⊢
    have cy := CN_fx c0 fy (by decide) (by decide)
    have oy := OW_fx o fy (by decide) (by decide)
    unfold w_Op_strayAtPart_L12
    rw [X_r50_0 cy.1, cy.2.1.2.2.1]
    refine ⟨X_k50 cy.1, cy.2.1.1.1, fun z => absurd z (nI_ge hc (by omega)), fun _ => t_Op_takenAt cy.1 oy hn hc (by omega) ?_⟩
    rw [X_r50_0 cy.1, X_r50_5 cy.1, nI_1]
    refine ⟨X_k50 cy.1, cy.2.1.1.1, t_Co_addTo cy.2.1.1 (by omega) (X_k54 cy.1) (X_n54 cy.1) (by decide) (ih (k + nI (tk p N c), _) ⟨fx_trans fy (fx_sA _ _ (by simp)), ?_, fun j hj => ?_⟩)⟩
    · rw [ek]; rfl
    · show gI (sA y 54 (adT (gI y 54) (gI y (21 + 1)) c (nI (tk p N c)) 3)) 54 j = _
      rw [gI_sA, if_pos rfl]
      unfold adT
      rw [if_pos hj, ey j hj]
      show _ + nI (tk p N c) * gI y 22 (3 * c + j) = _
      rw [cy.2.2.1]
      rfl
