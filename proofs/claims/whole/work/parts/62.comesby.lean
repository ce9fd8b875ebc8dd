/-! The reference's rows of a set -/
variable {h : Hp}
theorem bit_nI : ∀ s, s < 256 → ∀ c, c < 8 → (jshr (nI s) (nI c) &&& 1) = nI (if s.testBit c then 1 else 0) := by decide +kernel
/-- the grid holds so much -/
def GR (x : Mx) (r : Nat) (h : Hp) : Prop := ∀ o t, o < r → t < 5 → gL h 100 (5 * o + t) = lI (x o t)
theorem GR_congr {x y : Mx} {r : Nat} (a : GR x r h) (e : ∀ o t, o < r → t < 5 → x o t = y o t) : GR y r h := fun o t ho ht => by rw [← e o t ho ht]; exact a o t ho ht
theorem t_M_swapsRows {x : Mx} {r a b : Nat} {Q : Hp → Prop} (hM : MS h) (g : GR x r h) (hr : r ≤ 3) (ha : a < r) (hb : b < r) (hq : ∀ h', Fr [] [] [100] [] h h' → GR (swp x a b) r h' → Q h') : w_M_swapsRows 81 (nI a) (nI b) h Q := by
  obtain ⟨a1, a2, a3⟩ := M_grid hM
  unfold w_M_swapsRows
  refine loop_0 (fun m k s => w_M_swapsRows_L2 Q 81 (nI a) (nI b) m (nI k) s) (fun k s => Fr [] [] [100] [] h s ∧ GR (fun o t => if t < k then swp x a b o t else x o t) r s) 5 _ ⟨fr_refl _ _ _ _ _, GR_congr g (fun o t _ _ => by rw [if_neg (Nat.not_lt_zero _)])⟩ ?_ ?_
  · rintro m s ⟨f, e⟩
    unfold w_M_swapsRows_L2
    exact ⟨fun _ => hq s f (GR_congr e (fun o t _ ht => by rw [if_pos ht])), fun z => absurd (Int32.le_refl _) z⟩
  · rintro m k s hk ⟨f, e⟩ ih
    have hM1 := fr_MS f hM
    have ea := e a k ha (by omega)
    have eb := e b k hb (by omega)
    dsimp only at ea eb
    rw [if_neg (Nat.lt_irrefl _)] at ea eb
    unfold w_M_swapsRows_L2
    refine ⟨fun z => absurd z (nI_ge (b := 5) hk (by omega)), fun _ => ?_⟩
    rw [fr_R f, fr_K f, fr_N f, a1, a3, show (5 : Int32) = nI 5 from rfl, pk_mul, pk_mul, nI_add, nI_add, nI_1, ix_nI (n := 5 * a + k) (by omega), ix_nI (n := 5 * b + k) (by omega), ea, eb]
    refine ⟨M_K hM, a2, vp_in_nI (by omega) (by omega), vp_in_nI (by omega) (by omega), ih _ ⟨fr_trans f (fr_trans (fr_sL _ _ (Or.inl (by simp))) (fr_sL _ _ (Or.inl (by simp)))), fun o t ho ht => ?_⟩⟩
    rw [gL_sL, gL_sL]
    have e0 := e o t ho ht
    dsimp only at e0 ⊢
    by_cases g1 : t = k
    · rw [g1, if_pos (show k < k + 1 by omega)]
      unfold swp
      by_cases g2 : o = b
      · rw [if_pos ⟨rfl, by rw [g2]⟩]
        by_cases g3 : o = a
        · rw [if_pos g3, ← g2, g3]
        · rw [if_neg g3, if_pos g2]
      · rw [if_neg (fun y => by have := y.2; omega)]
        by_cases g3 : o = a
        · rw [if_pos ⟨rfl, by rw [g3]⟩, if_pos g3]
        · rw [if_neg (fun y => by have := y.2; omega), if_neg g3, if_neg g2]
          rw [g1, if_neg (Nat.lt_irrefl _)] at e0
          exact e0
    · rw [if_neg (fun y => by have := y.2; omega), if_neg (fun y => by have := y.2; omega), e0]
      by_cases g2 : t < k
      · rw [if_pos g2, if_pos (by omega)]
      · rw [if_neg g2, if_neg (by omega)]
theorem t_M_clears {x : Mx} {r a i K : Nat} {Q : Hp → Prop} (hM : MS h) (g : GR x r h) (hr : r ≤ 3) (ha : a < r) (hi : i < r) (hne : a ≠ i) (hb : ∀ o t, o < r → t < 5 → (x o t).natAbs ≤ K) (hK : K ≤ 1280000) (hq : ∀ h', Fr [] [] [100] [] h h' → GR (fun o t => if o = a then stpB x 1 i o t else x o t) r h' → Q h') : w_M_clears 81 (nI a) (nI i) (nI i) h Q := by
  obtain ⟨a1, a2, a3⟩ := M_grid hM
  have hKK : K * K ≤ 1280000 * 1280000 := Nat.mul_le_mul hK hK
  have st : ∀ t, stpB x 1 i a t = x a t * x i i - x i t * x a i := fun t => by
    unfold stpB
    rw [if_neg hne, Int.ediv_one]
    grind
  unfold w_M_clears
  rw [a1, a3, show (5 : Int32) = nI 5 from rfl, pk_mul, pk_mul, nI_add, nI_add, ix_nI (n := 5 * i + i) (by omega), ix_nI (n := 5 * a + i) (by omega), g i i hi (by omega), g a i ha (by omega)]
  refine ⟨M_K hM, a2, vp_in_nI (by omega) (by omega), vp_in_nI (by omega) (by omega), ?_⟩
  refine loop_0 (fun m k s => w_M_clears_L27 Q 81 (nI a) (nI i) (lI (x i i)) (lI (x a i)) m (nI k) s) (fun k s => Fr [] [] [100] [] h s ∧ GR (fun o t => if o = a ∧ t < k then stpB x 1 i o t else x o t) r s) 5 _ ⟨fr_refl _ _ _ _ _, GR_congr g (fun o t _ _ => by rw [if_neg (fun y => Nat.not_lt_zero _ y.2)])⟩ ?_ ?_
  · rintro m s ⟨f, e⟩
    unfold w_M_clears_L27
    refine ⟨fun _ => hq s f (GR_congr e (fun o t _ ht => ?_)), fun z => absurd (Int32.le_refl _) z⟩
    by_cases g1 : o = a
    · rw [if_pos ⟨g1, ht⟩, if_pos g1]
    · rw [if_neg (fun y => g1 y.1), if_neg g1]
  · rintro m k s hk ⟨f, e⟩ ih
    have ea := e a k ha (by omega)
    have ei := e i k hi (by omega)
    dsimp only at ea ei
    rw [if_neg (fun y => Nat.lt_irrefl _ y.2)] at ea
    rw [if_neg (fun y => hne y.1.symm)] at ei
    have m1 := mulA (hb a k ha (by omega)) (hb i i hi (by omega))
    have m2 := mulA (hb i k hi (by omega)) (hb a i ha (by omega))
    have b1 := hb a k ha (by omega)
    have b2 := hb i i hi (by omega)
    have b3 := hb i k hi (by omega)
    have b4 := hb a i ha (by omega)
    unfold w_M_clears_L27
    refine ⟨fun z => absurd z (nI_ge (b := 5) hk (by omega)), fun _ => ?_⟩
    rw [fr_R f, fr_K f, fr_N f, a1, a3, show (5 : Int32) = nI 5 from rfl, pk_mul, pk_mul, nI_add, nI_add, nI_1, ix_nI (n := 5 * a + k) (by omega), ix_nI (n := 5 * i + k) (by omega), ea, ei, lI_mul (by omega) (by omega) (by omega), lI_mul (by omega) (by omega) (by omega), lI_sub (by omega) (by omega), ← st k]
    refine ⟨M_K hM, a2, vp_in_nI (by omega) (by omega), vp_in_nI (by omega) (by omega), ih _ ⟨fr_trans f (fr_sL _ _ (Or.inl (by simp))), fun o t ho ht => ?_⟩⟩
    rw [gL_sL]
    have e0 := e o t ho ht
    dsimp only at e0 ⊢
    by_cases g1 : o = a ∧ t = k
    · rw [if_pos ⟨rfl, by rw [g1.1, g1.2]⟩, if_pos ⟨g1.1, by omega⟩, g1.1, g1.2]
    · rw [if_neg (fun y => by have := y.2; omega), e0]
      by_cases g2 : o = a ∧ t < k
      · rw [if_pos g2, if_pos ⟨g2.1, by omega⟩]
      · rw [if_neg g2, if_neg (by omega)]
theorem cm_gcd {Q : Int64 → Hp → Prop} : ∀ (b a : Nat), a < 2 ^ 62 → b < 2 ^ 62 → Q (lN (Nat.gcd a b)) h → ∃ m, w_M_common_L28 Q m (lN a) (lN b) h := by
  intro b
  induction b using Nat.strongRecOn with
  | _ b ih =>
    intro a ha hb hq
    by_cases e : b = 0
    · subst e
      rw [Nat.gcd_zero_right] at hq
      refine ⟨1, ?_⟩
      unfold w_M_common_L28
      exact ⟨fun _ => hq, fun z => absurd rfl z⟩
    · have lt := Nat.mod_lt a (Nat.pos_of_ne_zero e)
      obtain ⟨m, hm⟩ := ih (a % b) lt b hb (by omega) (by
        rw [Nat.gcd_comm, ← Nat.gcd_rec, Nat.gcd_comm]
        exact hq)
      refine ⟨m + 1, ?_⟩
      unfold w_M_common_L28
      have ne : ¬ lN b = 0 := fun z => e ((lN_e0 (by omega)).mp z)
      refine ⟨fun z => absurd z ne, fun _ => ⟨ne, ?_⟩⟩
      unfold jlrem
      rw [pk_lRem (by omega) (by omega) (by omega)]
      exact hm
theorem t_M_common {a b : Int} {Q : Int64 → Hp → Prop} (ha : a.natAbs < 2 ^ 61) (hb : b.natAbs < 2 ^ 61) (hq : Q (lI ((Nat.gcd a.natAbs b.natAbs : Nat) : Int)) h) : w_M_common (lI a) (lI b) h Q := by
  have fin : ∀ u v, u = lN a.natAbs → v = lN b.natAbs → ∃ m, w_M_common_L28 Q m u v h := fun u v hu hv => by
    rw [hu, hv]
    exact cm_gcd b.natAbs a.natAbs (by omega) (by omega) (by rw [lI_N]; exact hq)
  have pos : ∀ {x : Int}, 0 ≤ x → lI x = lN x.natAbs := fun h => by rw [lI_N]; congr 1; omega
  have neg : ∀ {x : Int}, x.natAbs < 2 ^ 61 → ¬ 0 ≤ x → -(lI x) = lN x.natAbs := fun hx h => by rw [lI_neg hx, lI_N]; congr 1; omega
  have mid : ∀ u, u = lN a.natAbs → w_M_common_B12 Q (lI b) u h := fun u hu => by
    unfold w_M_common_B12
    rw [lI_0le (by omega)]
    exact ⟨fun z => fin _ _ hu (pos z), fun z => fin _ _ hu (neg hb z)⟩
  unfold w_M_common
  rw [lI_0le (by omega)]
  exact ⟨fun z => mid _ (pos z), fun z => mid _ (neg ha z)⟩
