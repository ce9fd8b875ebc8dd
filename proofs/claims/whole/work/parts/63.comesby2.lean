/-! Whether a set of columns comes to the aim -/
variable {h : Hp}
theorem fpv_le {M : Mx} {i lines : Nat} (hi : i ≤ lines) : fpv M i lines ≤ lines ∧ i ≤ fpv M i lines := by
  unfold fpv
  by_cases e : ∃ o, i ≤ o ∧ o < i + (lines - i) ∧ (fun o => decide (M o i ≠ 0)) o = true
  · obtain ⟨a, b, c, d⟩ := fnd_sp (F := fun o => decide (M o i ≠ 0)) (lines - i) i e
    omega
  · rw [fnd_no (lines - i) i (fun o h1 h2 => by
      cases g : (fun o => decide (M o i ≠ 0)) o
      · exact g
      · exact absurd ⟨o, h1, h2, g⟩ e)]
    omega
theorem fpv_lo {M : Mx} {i lines o : Nat} (hi : i ≤ lines) (h1 : i ≤ o) (h2 : o < fpv M i lines) : M o i = 0 := by
  by_cases g : fpv M i lines < lines
  · exact (fpv_sp (by omega) g).2.2 o h1 h2
  · exact fpv_no g o h1 (by have := (fpv_le (M := M) hi).1; omega)
theorem elR_mono {M : Mx} {rows k : Nat} (h : elR M rows k = none) : ∀ j, elR M rows (k + j) = none := by
  intro j
  induction j with
  | zero => exact h
  | succ j ih => rw [← Nat.add_assoc, elR, ih]
/-- a row is cleared by another, all of them -/
theorem t_cb_clear {x : Mx} {r n k K : Nat} {v2 : Int32} {Q : Bool → Hp → Prop} {k164 : Int32 → Hp → Prop} (hM : Mrc h r n) (g : GR x r h) (hk : k < r) (hb : ∀ o t, o < r → t < 5 → (x o t).natAbs ≤ K) (hK : K ≤ 1280000) (hq : ∀ h', Fr [] [] [100] [] h h' → GR (stpB x 1 k) r h' → k164 (nI (k + 1)) h') : ∃ m, w_M_comesBy_L224 Q k164 81 v2 (nI k) m 0 h := by
  have hr := hM.2.2.2.2.1
  refine loop_0 (fun m o s => w_M_comesBy_L224 Q k164 81 v2 (nI k) m (nI o) s) (fun o s => Fr [] [] [100] [] h s ∧ GR (fun o' t => if o' < o then stpB x 1 k o' t else x o' t) r s) r _ ⟨fr_refl _ _ _ _ _, GR_congr g (fun o t _ _ => by rw [if_neg (Nat.not_lt_zero _)])⟩ ?_ ?_
  · rintro m s ⟨f, e⟩
    have hM1 := fr_Mrc f (by decide) (by decide) (by decide) hM
    unfold w_M_comesBy_L224
    rw [nI_1]
    exact ⟨M_K hM1.1, fun _ => hq s f (GR_congr e (fun o t ho _ => by rw [if_pos ho])), fun z => absurd (loop_le hM1.2.1) z⟩
  · rintro m o s ho ⟨f, e⟩ ih
    have hM1 := fr_Mrc f (by decide) (by decide) (by decide) hM
    have hKK : K * K ≤ 1280000 * 1280000 := Nat.mul_le_mul hK hK
    unfold w_M_comesBy_L224
    rw [nI_1 k, nI_1 o]
    refine ⟨M_K hM1.1, fun z => absurd (hM1.2.1 ▸ z) (nI_ge ho (by omega)), fun _ => ⟨fun z => ih s ⟨f, GR_congr e (fun o' t ho' ht => ?_)⟩, fun z => ?_⟩⟩
    · have z := (nI_eq (by omega) (by omega)).mp z
      by_cases g1 : o' < o
      · rw [if_pos g1, if_pos (by omega)]
      · rw [if_neg g1]
        by_cases g2 : o' < o + 1
        · rw [if_pos g2]
          unfold stpB
          rw [if_pos (by omega)]
        · rw [if_neg g2]
    · have hne : o ≠ k := fun g => z (by rw [g])
      have e2 : GR (fun o' t => if o' < o ∧ o' ≠ k then stpB x 1 k o' t else x o' t) r s := GR_congr e (fun o' t ho' ht => by
        by_cases g1 : o' < o
        · rw [if_pos g1]
          by_cases g2 : o' = k
          · rw [if_neg (fun y => y.2 g2)]
            unfold stpB
            rw [if_pos g2]
          · rw [if_pos ⟨g1, g2⟩]
        · rw [if_neg g1, if_neg (fun y => g1 y.1)])
      obtain ⟨a1, a2, a3⟩ := M_grid hM1.1
      have m1 : ∀ t, t < 5 → (x o t * x k k).natAbs ≤ K * K := fun t ht => mulA (hb o t ho ht) (hb k k hk (by omega))
      have m2 : ∀ t, t < 5 → (x k t * x o k).natAbs ≤ K * K := fun t ht => mulA (hb k t hk ht) (hb o k ho (by omega))
      have eo : ∀ t, t < 5 → gL s 100 (5 * o + t) = lI (x o t) := fun t ht => by
        have := e2 o t ho ht
        dsimp only at this
        rw [if_neg (fun y => Nat.lt_irrefl _ y.1)] at this
        exact this
      have ek : ∀ t, t < 5 → gL s 100 (5 * k + t) = lI (x k t) := fun t ht => by
        have := e2 k t hk ht
        dsimp only at this
        rw [if_neg (fun y => y.2 rfl)] at this
        exact this
      have st : ∀ t, stpB x 1 k o t = x o t * x k k - x k t * x o k := fun t => by
        unfold stpB
        rw [if_neg hne, Int.ediv_one]
        grind
      unfold w_M_clears
      rw [a1, a3, show (5 : Int32) = nI 5 from rfl, pk_mul, pk_mul, nI_add, nI_add, ix_nI (n := 5 * k + k) (by omega), ix_nI (n := 5 * o + k) (by omega), ek k (by omega), eo k (by omega)]
      refine ⟨M_K hM1.1, a2, vp_in_nI (by omega) (by omega), vp_in_nI (by omega) (by omega), ?_⟩
      refine loop_0 (fun m q s' => w_M_clears_L27 (fun h31 => w_M_comesBy_L224 Q k164 81 v2 (nI k) _ (nI (o + 1)) h31) 81 (nI o) (nI k) (lI (x k k)) (lI (x o k)) m (nI q) s') (fun q s' => Fr [] [] [100] [] s s' ∧ ∀ j, gL s' 100 j = if 5 * o ≤ j ∧ j < 5 * o + q then lI (stpB x 1 k o (j - 5 * o)) else gL s 100 j) 5 _ ⟨fr_refl _ _ _ _ _, fun j => by rw [if_neg (by omega)]⟩ ?_ ?_
      · rintro m' s' ⟨f', e'⟩
        unfold w_M_clears_L27
        refine ⟨fun _ => ih s' ⟨fr_trans f f', fun o' t ho' ht => ?_⟩, fun z => absurd (Int32.le_refl _) z⟩
        rw [e']
        by_cases g1 : o' = o
        · rw [if_pos (by omega), show 5 * o' + t - 5 * o = t from by omega]
          dsimp only
          rw [if_pos (by omega), g1]
        · rw [if_neg (by omega), e o' t ho' ht]
          dsimp only
          by_cases g2 : o' < o
          · rw [if_pos g2, if_pos (by omega)]
          · rw [if_neg g2, if_neg (by omega)]
      · rintro m' q s' hq' ⟨f', e'⟩ ih'
        have b1 := hb o q ho (by omega)
        have b2 := hb k k hk (by omega)
        have b3 := hb k q hk (by omega)
        have b4 := hb o k ho (by omega)
        have n1 := m1 q (by omega)
        have n2 := m2 q (by omega)
        unfold w_M_clears_L27
        refine ⟨fun z => absurd z (nI_ge (b := 5) hq' (by omega)), fun _ => ?_⟩
        rw [fr_R f', fr_K f', fr_N f', a1, a3, show (5 : Int32) = nI 5 from rfl, pk_mul, pk_mul, nI_add, nI_add, nI_1, ix_nI (n := 5 * o + q) (by omega), ix_nI (n := 5 * k + q) (by omega), e', e', if_neg (by omega), if_neg (by omega), eo q (by omega), ek q (by omega), lI_mul (by omega) (by omega) (by omega), lI_mul (by omega) (by omega) (by omega), lI_sub (by omega) (by omega), ← st q]
        refine ⟨M_K hM1.1, a2, vp_in_nI (by omega) (by omega), vp_in_nI (by omega) (by omega), ih' _ ⟨fr_trans f' (fr_sL _ _ (Or.inl (by simp))), fun j => ?_⟩⟩
        rw [gL_sL]
        by_cases g1 : j = 5 * o + q
        · rw [if_pos ⟨rfl, g1⟩, if_pos (by omega), show j - 5 * o = q from by omega]
        · rw [if_neg (fun y => g1 y.2), e']
          by_cases g2 : 5 * o ≤ j ∧ j < 5 * o + q
          · rw [if_pos g2, if_pos (by omega)]
          · rw [if_neg g2, if_neg (by omega)]
