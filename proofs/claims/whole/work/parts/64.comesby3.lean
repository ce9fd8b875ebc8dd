/-! Whether a set of columns comes to the aim: all of it -/
variable {h : Hp}
def bS (s : Nat) : Nat → Bool := fun c => s.testBit c
/-- the last part: fractions are laid out -/
theorem t_cb_end {f : Nat → Int32} {b : Nat → Int} {S : Nat → Bool} {n r : Nat} {x : Mx} {h1 : Hp} {Q : Bool → Hp → Prop} (hM : Mrc h1 r n) (hF : FB f n) (hb : ∀ o, o < 3 → (b o).natAbs ≤ 20) (hZ : ZB f r) (hb0 : ∀ o, r ≤ o → o < 3 → b o = 0) (hcr : cnS S n ≤ r) (hx : elR (Mm f b S n) r (cnS S n) = some x) (hx4 : ∀ o, o < r → cnS S n ≤ o → x o 4 = 0) (f1 : Fr [] [] [100] [] h1 h) (g : GR x r h) (c0 : ∀ c, c < n → gL h1 101 c = 0 ∧ gL h1 102 c = 1) (ch : ∀ i, i < cnS S n → gI h1 105 i = nI (mb S n i))
    (hq0 : ∀ h', Fr [] [] [100, 101, 102] [] h1 h' → barS f b S n 3 = none → Q false h') (hq1 : ∀ w h', Fr [] [] [100, 101, 102] [] h1 h' → barS f b S n 3 = some w → (∀ c, c < n → gL h' 101 c = lI (rdU (w.1 c) w.2) ∧ gL h' 102 c = lI (rdL (w.1 c) w.2)) → Q true h') : ∃ m, w_M_comesBy_L294 Q 81 (nI (cnS S n)) m 0 h := by
  have hr := hM.2.2.2.2.1
  have hn := hM.2.2.2.2.2
  obtain ⟨el1, el2⟩ := el_eq hF hb hr hcr hn hZ hb0
  have bd : ∀ o t, o < r → t < 5 → (Mm f b S n o t).natAbs ≤ 20 := fun o t ho ht => by
    unfold Mm
    split
    · rename_i g
      unfold aZ
      rw [if_pos (by omega)]
      have := hF (mb S n t) o (mb_sp g).1 (by omega)
      omega
    · split
      · exact hb o (by omega)
      · decide
  obtain ⟨s1, s2, s3, s4⟩ := elR_sp hr bd _ hcr x hx
  have xb : ∀ o t, o < r → t < 5 → (x o t).natAbs ≤ 3276800000000 := fun o t ho ht => by
    have h1 := s4 o t ho ht
    have h2 : KB (cnS S n) ≤ 3276800000000 := by
      unfold KB
      split <;> omega
    omega
  refine loop_0 (fun m k s => w_M_comesBy_L294 Q 81 (nI (cnS S n)) m (nI k) s) (fun k s => Fr [] [] [100, 101, 102] [] h1 s ∧ GR x r s ∧ (∀ k', k' < k → x k' 4 ≠ 0 ∧ (0 < x k' 4 ↔ 0 < x k' k')) ∧ ∀ c, c < n → gL s 101 c = (if S c = true ∧ cnS S c < k then lI (rdU (((x (cnS S c) 4).natAbs : Nat) : Int) (((x (cnS S c) (cnS S c)).natAbs : Nat) : Int)) else 0) ∧ gL s 102 c = (if S c = true ∧ cnS S c < k then lI (rdL (((x (cnS S c) 4).natAbs : Nat) : Int) (((x (cnS S c) (cnS S c)).natAbs : Nat) : Int)) else 1)) (cnS S n) _ ⟨fr_mono f1 (by simp) (by simp) (by simp) (by simp), g, fun k' hk' => absurd hk' (Nat.not_lt_zero _), fun c hc => ?_⟩ ?_ ?_
  · rw [if_neg (fun y => Nat.not_lt_zero _ y.2), if_neg (fun y => Nat.not_lt_zero _ y.2), fr_L f1 (x := 101) (by decide) (by decide), fr_L f1 (x := 102) (by decide) (by decide)]
    exact c0 c hc
  · rintro m s ⟨fs, gs, ks, cs⟩
    obtain ⟨w, hw, hw2⟩ := el1 x hx ⟨hx4, ks⟩
    obtain ⟨w1, w2, w3, -⟩ := barS_some hF hb (by omega) (by omega) hw
    unfold w_M_comesBy_L294
    refine ⟨fun _ => hq1 w s fs hw (fun c hc => ?_), fun z => absurd (Int32.le_refl _) z⟩
    obtain ⟨q1, q2⟩ := cs c hc
    by_cases e : S c = true
    · obtain ⟨m1, m2⟩ := mb_at hc e
      rw [if_pos ⟨e, m2⟩] at q1 q2
      have hk := hw2 _ m2
      rw [m1] at hk
      obtain ⟨k1, k2⟩ := ks _ m2
      have k3 := s3 _ m2
      have hy := w2.2.1 c hc e
      have hz := w2.1
      have eq : (((x (cnS S c) 4).natAbs : Nat) : Int) * w.2 = w.1 c * (((x (cnS S c) (cnS S c)).natAbs : Nat) : Int) := by
        have := congrArg Int.natAbs hk
        rw [Int.natAbs_mul, Int.natAbs_mul] at this
        have e1 : ((w.1 c).natAbs : Int) = w.1 c := by omega
        have e2 : (w.2.natAbs : Int) = w.2 := by omega
        rw [← e1, ← e2, ← Int.natCast_mul, ← Int.natCast_mul]
        congr 1
        rw [← this]
        exact Nat.mul_comm _ _
      obtain ⟨r1, r2⟩ := rd_eq (show (0 : Int) < (((x (cnS S c) (cnS S c)).natAbs : Nat) : Int) by omega) hz eq
      rw [q1, q2, r1, r2]
      exact ⟨rfl, rfl⟩
    · rw [if_neg (fun y => e y.1)] at q1 q2
      obtain ⟨r1, r2⟩ := rd_0 w2.1
      rw [q1, q2, w3 c (fun y => e y.2), r1, r2]
      exact ⟨rfl, rfl⟩
  · rintro m k s hk ⟨fs, gs, ks, cs⟩ ih
    have hMs := fr_MS fs hM.1
    obtain ⟨a1, a2, a3⟩ := M_grid hMs
    obtain ⟨u1, u2, u3⟩ := M_upper hMs
    obtain ⟨l1, l2, l3⟩ := M_lower hMs
    obtain ⟨d1, d2, d3⟩ := M_chosen hMs
    have xa := xb k 4 (by omega) (by omega)
    have xd := xb k k (by omega) (by omega)
    have k3 := s3 k hk
    obtain ⟨m1, m2, m3⟩ := mb_sp hk
    have bad : ¬ (x k 4 ≠ 0 ∧ (0 < x k 4 ↔ 0 < x k k)) → Q false s := fun hno => hq0 s fs (el2 (Or.inr ⟨x, hx, fun y => hno (y.2 k hk)⟩))
    have ech : gI s 105 k = nI (mb S n k) := by
      rw [fr_I fs (x := 105) (by decide) (by decide)]
      exact ch k hk
    have good : x k 4 ≠ 0 → (0 < x k 4 ↔ 0 < x k k) → ∀ v9, v9 = lI ((Nat.gcd (x k 4).natAbs (x k k).natAbs : Nat) : Int) → ∀ va, va = lI (((x k 4).natAbs : Nat) : Int) → w_M_comesBy_B393 Q (w_M_comesBy_L294 Q 81 (nI (cnS S n)) m) 81 (nI (cnS S n)) (nI k) (lI (x k k)) v9 101 (nI (mb S n k)) va s := by
      intro hne hsg v9 h9 va hva
      have gp : 0 < Nat.gcd (x k 4).natAbs (x k k).natAbs := Nat.gcd_pos_of_pos_right _ (by omega)
      have gl : Nat.gcd (x k 4).natAbs (x k k).natAbs ≤ (x k k).natAbs := Nat.gcd_le_right _ (by omega)
      obtain ⟨-, ru, rl, -, -⟩ := rd_sp (a := (((x k 4).natAbs : Nat) : Int)) (b := (((x k k).natAbs : Nat) : Int)) (by omega)
      rw [Int.natAbs_natCast, Int.natAbs_natCast] at ru rl
      have qa : lI (((x k 4).natAbs : Nat) : Int) / lI ((Nat.gcd (x k 4).natAbs (x k k).natAbs : Nat) : Int) = lI (rdU (((x k 4).natAbs : Nat) : Int) (((x k k).natAbs : Nat) : Int)) := lI_div (by omega) (by omega) (by omega) ru.symm
      have qd : lI (((x k k).natAbs : Nat) : Int) / lI ((Nat.gcd (x k 4).natAbs (x k k).natAbs : Nat) : Int) = lI (rdL (((x k 4).natAbs : Nat) : Int) (((x k k).natAbs : Nat) : Int)) := lI_div (by omega) (by omega) (by omega) rl.symm
      have fin : w_M_comesBy_L294 Q 81 (nI (cnS S n)) m (nI (k + 1)) (sL (sL s 101 (mb S n k) (lI (rdU (((x k 4).natAbs : Nat) : Int) (((x k k).natAbs : Nat) : Int)))) 102 (mb S n k) (lI (rdL (((x k 4).natAbs : Nat) : Int) (((x k k).natAbs : Nat) : Int)))) := by
        refine ih _ ⟨fr_trans (fr_trans fs (fr_sL _ _ (Or.inl (by simp)))) (fr_sL _ _ (Or.inl (by simp))), fun o t ho ht => ?_, fun k' hk' => ?_, fun c hc => ?_⟩
        · rw [gL_sL, if_neg (fun y => absurd y.1 (by decide)), gL_sL, if_neg (fun y => absurd y.1 (by decide))]
          exact gs o t ho ht
        · by_cases e : k' = k
          · rw [e]; exact ⟨hne, hsg⟩
          · exact ks k' (by omega)
        · have v1 : ∀ a d : Int64, gL (sL (sL s 101 (mb S n k) a) 102 (mb S n k) d) 101 c = if c = mb S n k then a else gL s 101 c := fun a d => by
            rw [gL_sL, if_neg (fun y => absurd y.1 (by decide)), gL_sL]
            by_cases e : c = mb S n k
            · rw [if_pos ⟨rfl, e⟩, if_pos e]
            · rw [if_neg (fun y => e y.2), if_neg e]
          have v2 : ∀ a d : Int64, gL (sL (sL s 101 (mb S n k) a) 102 (mb S n k) d) 102 c = if c = mb S n k then d else gL s 102 c := fun a d => by
            rw [gL_sL]
            by_cases e : c = mb S n k
            · rw [if_pos ⟨rfl, e⟩, if_pos e]
            · rw [if_neg (fun y => e y.2), if_neg e, gL_sL, if_neg (fun y => absurd y.1 (by decide))]
          rw [v1, v2]
          by_cases e : c = mb S n k
          · rw [if_pos e, if_pos e, e, if_pos ⟨m2, by omega⟩, if_pos ⟨m2, by omega⟩, m3]
            exact ⟨rfl, rfl⟩
          · rw [if_neg e, if_neg e]
            have := cs c hc
            by_cases g2 : S c = true ∧ cnS S c < k
            · rw [if_pos g2, if_pos g2] at this
              rw [if_pos ⟨g2.1, by omega⟩, if_pos ⟨g2.1, by omega⟩]
              exact this
            · have g3 : ¬ (S c = true ∧ cnS S c < k + 1) := fun y => by
                have : cnS S c = k := by
                  have : ¬ cnS S c < k := fun z => g2 ⟨y.1, z⟩
                  have := y.2
                  omega
                exact e (by rw [← this, (mb_at hc y.1).1])
              rw [if_neg g2, if_neg g2] at this
              rw [if_neg g3, if_neg g3]
              exact this
      unfold w_M_comesBy_B393
      rw [d1, d3, l1, l3, u3, ix_nI (n := mb S n k) (by omega), ix_nI (n := k) (by omega), gI_sL, ech, h9, hva, qa, nI_1, ix_nI (n := mb S n k) (by omega)]
      refine ⟨fun y => ?_, u2, vp_in_nI (by omega) (by omega), M_K hMs, d2, vp_in_nI (by omega) (by omega), fun y => ⟨l2, vp_in_nI (by omega) (by omega), ?_⟩, fun y => ⟨l2, vp_in_nI (by omega) (by omega), ?_⟩⟩
      · have := (lI_e0 (by omega)).mp y
        omega
      · have y := (lI_0le (by omega)).mp y
        rw [show lI (x k k) = lI (((x k k).natAbs : Nat) : Int) from by congr 1; omega, qd]
        exact fin
      · have y : ¬ 0 ≤ x k k := fun z => y ((lI_0le (by omega)).mpr z)
        rw [lI_neg (by omega), show lI (-(x k k)) = lI (((x k k).natAbs : Nat) : Int) from by congr 1; omega, qd]
        exact fin
    have eq : ∀ s0 s1 : Int32, (s0 = s1 ↔ (0 < x k 4 ↔ 0 < x k k)) → x k 4 ≠ 0 → w_M_comesBy_B354 Q (w_M_comesBy_L294 Q 81 (nI (cnS S n)) m) 81 (nI (cnS S n)) (nI k) (lI (x k 4)) (lI (x k k)) s0 s1 s := by
      intro s0 s1 hs hne
      unfold w_M_comesBy_B354
      refine ⟨fun z => t_M_common (by omega) (by omega) ?_, fun z => bad (fun y => z (hs.mpr y.2))⟩
      rw [d1, d3, u1, ix_nI (n := k) (by omega), ech]
      refine ⟨M_K hMs, d2, vp_in_nI (by omega) (by omega), fun y => ?_, fun y => ?_⟩
      · have y := (lI_0le (by omega)).mp y
        exact good hne (hs.mp z) _ rfl _ (by congr 1; omega)
      · have y : ¬ 0 ≤ x k 4 := fun z => y ((lI_0le (by omega)).mpr z)
        exact good hne (hs.mp z) _ rfl _ (by rw [lI_neg (by omega)]; congr 1; omega)
    have ed : ∀ s0 : Int32, x k 4 ≠ 0 → (s0 = 0 ∧ x k 4 ≤ 0 ∨ s0 = 1 ∧ 0 < x k 4) → w_M_comesBy_B342 Q (w_M_comesBy_L294 Q 81 (nI (cnS S n)) m) 81 (nI (cnS S n)) (nI k) (lI (x k 4)) (lI (x k k)) s0 s := by
      intro s0 hne h0
      unfold w_M_comesBy_B342
      refine ⟨fun z => eq s0 0 ?_ hne, fun z => eq s0 1 ?_ hne⟩
      · have z := (lI_le0 (by omega)).mp z
        rcases h0 with ⟨h0, h1⟩ | ⟨h0, h1⟩
        · rw [h0]; exact ⟨fun _ => by omega, fun _ => rfl⟩
        · rw [h0]; exact ⟨fun y => absurd y (by decide), fun y => by omega⟩
      · have z : ¬ x k k ≤ 0 := fun y => z ((lI_le0 (by omega)).mpr y)
        rcases h0 with ⟨h0, h1⟩ | ⟨h0, h1⟩
        · rw [h0]; exact ⟨fun y => absurd y (by decide), fun y => by omega⟩
        · rw [h0]; exact ⟨fun _ => by omega, fun _ => rfl⟩
    unfold w_M_comesBy_L294
    rw [a1, a3, show (5 : Int32) = nI 5 from rfl, show (4 : Int32) = nI 4 from rfl, pk_mul, nI_add, nI_add, ix_nI (n := 5 * k + 4) (by omega), ix_nI (n := 5 * k + k) (by omega), gs k 4 (by omega) (by omega), gs k k (by omega) (by omega)]
    refine ⟨fun z => absurd z (nI_ge hk (by omega)), fun _ => ⟨M_K hMs, a2, vp_in_nI (by omega) (by omega), vp_in_nI (by omega) (by omega), fun z => bad (fun y => y.1 ((lI_e0 (by omega)).mp z)), fun z => ?_⟩⟩
    have hne : x k 4 ≠ 0 := fun y => z ((lI_e0 (by omega)).mpr y)
    refine ⟨fun y => ed 0 hne (Or.inl ⟨rfl, (lI_le0 (by omega)).mp y⟩), fun y => ed 1 hne (Or.inr ⟨rfl, ?_⟩)⟩
    have : ¬ x k 4 ≤ 0 := fun z => y ((lI_le0 (by omega)).mpr z)
    omega
