/-! The class lays out which numbers a row can have -/
variable {h : Hp}
theorem nI_addz {x : Nat} {v : Int32} (hx : x < 1000) (h1 : -5 ≤ v.toInt) (h2 : v.toInt ≤ 5) (h3 : 0 ≤ (x : Int) + v.toInt) : nI x + v = nI ((x : Int) + v.toInt).toNat := by
  rw [← Int32.toInt_inj, nI_toInt (by omega), Jvm.Kit.i32_add (by rw [nI_toInt (by omega)]; omega) (by rw [nI_toInt (by omega)]; omega), nI_toInt (by omega)]
  omega
/-- one row is shifted onto the other -/
def SH (a b : Nat) (y : Int) (w : Int32) (h h' : Hp) : Prop := Fx [75] [] h h' ∧ (∀ p, p < 81 → gI h' 75 (a + p) = gI h 75 (a + p)) ∧ ∀ q, q < 81 → gI h' 75 (b + q) = if 0 ≤ (q : Int) - y ∧ (q : Int) - y < 81 then gI h 75 (b + q) ||| (gI h 75 (a + ((q : Int) - y).toNat) &&& w) else gI h 75 (b + q)
theorem t_Kn_shiftRow {a b : Nat} {v w : Int32} {Q : Hp → Prop} (m : XS h) (hab : (a = 0 ∧ b = 81) ∨ (a = 81 ∧ b = 0)) (h1 : -5 ≤ v.toInt) (h2 : v.toInt ≤ 5) (hq : ∀ h', SH a b v.toInt w h h' → Q h') : w_Kn_shiftRow 71 (nI a) (nI b) v w h Q := by
  unfold w_Kn_shiftRow
  refine t_max ?_
  obtain ⟨z, hz, ez⟩ : ∃ z : Nat, (z : Int) = max 0 (-v.toInt) ∧ gt 0 (-v) = nI z := by
    refine ⟨(max 0 (-v.toInt)).toNat, by omega, ?_⟩
    have en : (-v).toInt = -v.toInt := Jvm.Kit.i32_neg (by omega)
    unfold gt
    rw [← Int32.toInt_inj, nI_toInt (by omega)]
    by_cases g : (0 : Int32) ≤ -v
    · rw [if_pos g, en]
      have := Int32.le_iff_toInt_le.mp g
      rw [en, show (0 : Int32).toInt = 0 from rfl] at this
      omega
    · rw [if_neg g]
      have : ¬ (0 ≤ -v.toInt) := fun e => g (Int32.le_iff_toInt_le.mpr (by rw [en]; exact e))
      show (0 : Int) = _
      omega
  rw [ez]
  obtain ⟨E, hE⟩ : ∃ E : Nat, (E : Int) = min 81 (81 - v.toInt) - z := ⟨(min 81 (81 - v.toInt) - z).toNat, by omega⟩
  refine loop_0 (fun k i s => w_Kn_shiftRow_L8 Q 71 (nI a) (nI b) v w k (nI (z + i)) s) (fun i s => Fx [75] [] h s ∧ (∀ p, p < 81 → gI s 75 (a + p) = gI h 75 (a + p)) ∧ ∀ q, q < 81 → gI s 75 (b + q) = if (z : Int) ≤ (q : Int) - v.toInt ∧ (q : Int) - v.toInt < z + i then gI h 75 (b + q) ||| (gI h 75 (a + ((q : Int) - v.toInt).toNat) &&& w) else gI h 75 (b + q)) E h ⟨fx_refl _ _ _, fun _ _ => rfl, fun q _ => by rw [if_neg (by omega)]⟩ ?_ ?_
  · rintro k s ⟨x, e1, e2⟩
    have fin : Q s := hq s ⟨x, e1, fun q hq2 => by
      rw [e2 q hq2]
      by_cases g : 0 ≤ (q : Int) - v.toInt ∧ (q : Int) - v.toInt < 81
      · rw [if_pos g, if_pos (by omega)]
      · rw [if_neg g, if_neg (by omega)]⟩
    unfold w_Kn_shiftRow_L8
    refine ⟨fun _ => fin, fun g => ⟨fun _ => fin, fun g2 => ?_⟩⟩
    have g' : z + E < 81 := by
      by_cases g0 : z + E < 81
      · exact g0
      · exact absurd (nI_le (a := 81) (b := z + E) (by omega) (by omega)) g
    rw [nI_addz (by omega) h1 h2 (by omega)] at g2
    exact absurd (nI_le (a := 81) (by omega) (by omega)) g2
  · rintro k i s hi ⟨x, e1, e2⟩ ih
    have ms := fx_XS x m
    unfold w_Kn_shiftRow_L8
    rw [nI_addz (x := z + i) (by omega) h1 h2 (by omega), X_r71_5 ms, X_n75 ms, nI_add, nI_add, nI_addz (x := b + (z + i)) (by omega) h1 h2 (by omega), ix_nI (by omega), ix_nI (by omega), nI_1, Nat.add_assoc z i 1]
    refine ⟨fun g => absurd g (nI_ge (b := 81) (by omega) (by omega)), fun _ => ⟨fun g => absurd g (nI_ge (b := 81) (by omega) (by omega)), fun _ => ⟨X_k71 ms, X_k75 ms, vp_in_nI (by omega) (by omega), vp_in_nI (by omega) (by omega), ih _ ⟨fx_trans x (fx_sI _ _ (by simp)), fun p hp => ?_, fun q hq2 => ?_⟩⟩⟩⟩
    · rw [gI_sI, if_neg (fun g => absurd g.2 (by omega))]
      exact e1 p hp
    · rw [gI_sI]
      by_cases g : (q : Int) = (z + i : Nat) + v.toInt
      · have gb : ((((b + (z + i) : Nat)) : Int) + v.toInt).toNat = b + q := by omega
        rw [if_pos ⟨rfl, gb.symm⟩, gb, if_pos (by omega), e2 q hq2, if_neg (by omega), e1 (z + i) (by omega), show ((q : Int) - v.toInt).toNat = z + i from by omega]
      · rw [if_neg (fun g2 => absurd g2.2 (by omega)), e2 q hq2]
        by_cases g2 : (z : Int) ≤ (q : Int) - v.toInt ∧ (q : Int) - v.toInt < z + i
        · rw [if_pos g2, if_pos (by omega)]
        · rw [if_neg g2, if_neg (by omega)]
def bs2 (k : Nat) : Nat := 81 * (k % 2)
theorem bs2_s (k : Nat) : (81 : Int32) - nI (bs2 k) = nI (bs2 (k + 1)) := by
  rw [show (81 : Int32) = nI 81 from rfl]
  unfold bs2
  rcases Nat.mod_two_eq_zero_or_one k with e | e
  · rw [e, show (k + 1) % 2 = 1 from by omega]
    decide
  · rw [e, show (k + 1) % 2 = 0 from by omega]
    decide
theorem bs2_ab (k : Nat) : (bs2 k = 0 ∧ bs2 (k + 1) = 81) ∨ (bs2 k = 81 ∧ bs2 (k + 1) = 0) := by
  unfold bs2
  rcases Nat.mod_two_eq_zero_or_one k with e | e
  · exact Or.inl (by omega)
  · exact Or.inr (by omega)
/-- a row holds which numbers walks of k steps have -/
def RA (g : Nat → Int32) (n k base : Nat) (h : Hp) : Prop := ∀ q i, q < 81 → i ≤ n → bt (gI h 75 (base + q)) i = rsB (fT g i) n k ((q : Int) - 40)
theorem row_step {g : Nat → Int32} {n k c q i : Nat} {o f w1 w2 : Int32} (hn : n ≤ 8) (hG : FB g n) (hk : k < 8) (hc : c < n) (hi : i ≤ n) (hq : q < 81) {R : Nat → Int32} (hR : ∀ p, p < 81 → bt (R p) i = rsB (fT g i) n k ((p : Int) - 40))
    (e1 : w1 = if 0 ≤ (q : Int) - (g (3 * c)).toInt ∧ (q : Int) - (g (3 * c)).toInt < 81 then o ||| (R ((q : Int) - (g (3 * c)).toInt).toNat &&& (jshl 2 (nI c) ^^^ -1)) else o)
    (e2 : w2 = if 0 ≤ (q : Int) - (-(g (3 * c)).toInt) ∧ (q : Int) - (-(g (3 * c)).toInt) < 81 then w1 ||| (R ((q : Int) - (-(g (3 * c)).toInt)).toNat &&& jshl 2 (nI c)) else w1) : bt w2 i = (bt o i || rsB (fT g i) n k ((q : Int) - 40 - (fT g i (3 * c)).toInt)) := by
  have hb := hG c 0 hc (by omega)
  rw [Nat.add_zero] at hb
  have en : (-(g (3 * c))).toInt = -(g (3 * c)).toInt := Jvm.Kit.i32_neg (by omega)
  have far : ∀ v : Int, 40 < v.natAbs → rsB (fT g i) n k v = false := fun v hv => by
    cases e : rsB (fT g i) n k v with
    | false => rfl
    | true => have := rs_bd (fT_FB hG) k v e; omega
  have b1 : bt w1 i = (bt o i || (!(decide (i = c + 1)) && rsB (fT g i) n k ((q : Int) - 40 - (g (3 * c)).toInt))) := by
    rw [e1]
    by_cases g1 : 0 ≤ (q : Int) - (g (3 * c)).toInt ∧ (q : Int) - (g (3 * c)).toInt < 81
    · rw [if_pos g1, bt_or, bt_and, bt_not (by omega), bt_sh2 (by omega), hR _ (by omega), show ((((q : Int) - (g (3 * c)).toInt).toNat : Nat) : Int) - 40 = (q : Int) - 40 - (g (3 * c)).toInt from by omega, Bool.and_comm]
    · rw [if_neg g1, far _ (by omega), Bool.and_false, Bool.or_false]
  have b2 : bt w2 i = (bt w1 i || (decide (i = c + 1) && rsB (fT g i) n k ((q : Int) - 40 + (g (3 * c)).toInt))) := by
    rw [e2]
    by_cases g1 : 0 ≤ (q : Int) - (-(g (3 * c)).toInt) ∧ (q : Int) - (-(g (3 * c)).toInt) < 81
    · rw [if_pos g1, bt_or, bt_and, bt_sh2 (by omega), hR _ (by omega), show ((((q : Int) - (-(g (3 * c)).toInt)).toNat : Nat) : Int) - 40 = (q : Int) - 40 + (g (3 * c)).toInt from by omega, Bool.and_comm (rsB _ _ _ _)]
    · rw [if_neg g1, far _ (by omega), Bool.and_false, Bool.or_false]
  rw [b2, b1, fT_at]
  by_cases g2 : i = c + 1
  · rw [decide_eq_true g2, if_pos g2, en, Bool.not_true, Bool.false_and, Bool.or_false, Bool.true_and, show (q : Int) - 40 - -(g (3 * c)).toInt = (q : Int) - 40 + (g (3 * c)).toInt from by omega]
  · rw [decide_eq_false g2, if_neg g2, Bool.not_false, Bool.true_and, Bool.false_and, Bool.or_false]
theorem t_Kn_reachRow {g : Nat → Int32} {r n t : Nat} {Q : Int32 → Hp → Prop} (c0 : CTd g r n h) (ht : t ≤ 8) (hq : ∀ h', Fx [75] [] h h' → RA g n t (bs2 t) h' → Q (nI (bs2 t)) h') : w_Kn_reachRow 71 (nI t) h Q := by
  have m := c0.1
  have hn := c0.2.1.2.2.2.2.2
  have hG := c0.2.2.2.1
  unfold w_Kn_reachRow
  rw [X_r71_5 m]
  refine ⟨X_k71 m, t_fill (X_k75 m) (X_n75 m) (by omega) ?_⟩
  have x1 : Fx [75] [] h (sA h 75 (fl (gI h 75) 162 0)) := fx_sA _ _ (by simp)
  have m1 := fx_XS x1 m
  rw [X_r71_5 m1, X_n75 m1, show ix (40 : Int32) = 40 from rfl]
  refine ⟨X_k71 m1, X_k75 m1, vp_in_nI (n := 40) (by omega) (by omega), ?_⟩
  have x2 : Fx [75] [] h (sI (sA h 75 (fl (gI h 75) 162 0)) 75 40 (-1)) := fx_trans x1 (fx_sI _ _ (by simp))
  have r2 : RA g n 0 (bs2 0) (sI (sA h 75 (fl (gI h 75) 162 0)) 75 40 (-1)) := by
    intro q i hq2 hi
    show bt (gI (sI (sA h 75 (fl (gI h 75) 162 0)) 75 40 (-1)) 75 (0 + q)) i = decide ((q : Int) - 40 = 0)
    rw [Nat.zero_add, gI_sI]
    by_cases e : q = 40
    · rw [if_pos ⟨rfl, e⟩, bt_m1 (by omega), decide_eq_true (by omega)]
    · rw [if_neg (fun z => e z.2), gI_sA, if_pos rfl]
      unfold fl
      rw [if_pos (by omega), bt_0, decide_eq_false (by omega)]
  revert x2 r2
  generalize sI (sA h 75 (fl (gI h 75) 162 0)) 75 40 (-1) = h0
  intro x2 r2
  refine loop_0 (fun f k (s : Int32 × Hp) => w_Kn_reachRow_L20 Q 71 (nI t) f s.1 (nI k) s.2) (fun k s => s.1 = nI (bs2 k) ∧ Fx [75] [] h s.2 ∧ RA g n k (bs2 k) s.2) t (0, h0) ⟨rfl, x2, r2⟩ ?_ ?_
  · rintro f ⟨b, s⟩ ⟨eb, x, ra⟩
    show w_Kn_reachRow_L20 Q 71 (nI t) (f + 1) b (nI t) s
    unfold w_Kn_reachRow_L20
    have eb : b = nI (bs2 t) := eb
    rw [eb]
    exact ⟨fun _ => hq s x ra, fun z => absurd (Int32.le_refl _) z⟩
  · rintro f k ⟨b, s⟩ hk ⟨eb, x, ra⟩ ih
    show w_Kn_reachRow_L20 Q 71 (nI t) (f + 1) b (nI k) s
    have eb : b = nI (bs2 k) := eb
    have x : Fx [75] [] h s := x
    have ra : RA g n k (bs2 k) s := ra
    have ab := bs2_ab k
    unfold w_Kn_reachRow_L20
    rw [eb, bs2_s]
    refine ⟨fun z => absurd z (nI_ge hk (by omega)), fun _ => ?_⟩
    refine loop_0 (fun f2 j s2 => w_Kn_reachRow_L35 Q (w_Kn_reachRow_L20 Q 71 (nI t) f) 71 (nI t) (nI (bs2 k)) (nI k) (nI (bs2 (k + 1))) f2 (nI (bs2 (k + 1) + j)) s2) (fun j s2 => Fx [75] [] s s2 ∧ (∀ p, p < 81 → gI s2 75 (bs2 k + p) = gI s 75 (bs2 k + p)) ∧ ∀ p, p < j → gI s2 75 (bs2 (k + 1) + p) = 0) 81 s ⟨fx_refl _ _ _, fun _ _ => rfl, fun p hp => absurd hp (Nat.not_lt_zero _)⟩ ?_ ?_
    · rintro f2 s2 ⟨y, e1, e2⟩
      unfold w_Kn_reachRow_L35
      rw [show nI (bs2 (k + 1)) + (81 : Int32) = nI (bs2 (k + 1) + 81) from nI_add _ 81]
      refine ⟨fun _ => ?_, fun z => absurd (Int32.le_refl _) z⟩
      refine loop_0 (fun f3 c s3 => w_Kn_reachRow_L62 Q (w_Kn_reachRow_L20 Q 71 (nI t) f) 71 (nI t) (nI (bs2 k)) (nI k) (nI (bs2 (k + 1))) f3 (nI c) s3) (fun c s3 => Fx [75] [] s s3 ∧ (∀ p, p < 81 → gI s3 75 (bs2 k + p) = gI s 75 (bs2 k + p)) ∧ ∀ q i, q < 81 → i ≤ n → bt (gI s3 75 (bs2 (k + 1) + q)) i = anyB (fun c => rsB (fT g i) n k ((q : Int) - 40 - (fT g i (3 * c)).toInt)) c) n s2 ⟨y, e1, fun q i hq2 _ => by rw [e2 q hq2, bt_0]; rfl⟩ ?_ ?_
      · rintro f3 s3 ⟨u, a1, a2⟩
        have u2 := fx_trans x u
        have m3 := fx_XS u2 m
        unfold w_Kn_reachRow_L62
        rw [X_r71_0 m3, (CTd_fx c0 u2 (by decide) (by decide)).2.1.2.2.1, nI_1]
        exact ⟨X_k71 m3, X_k19 m3, fun _ => ih (nI (bs2 (k + 1)), s3) ⟨rfl, u2, fun q i hq2 hi => a2 q i hq2 hi⟩, fun z => absurd (Int32.le_refl _) z⟩
      · rintro f3 c s3 hc ⟨u, a1, a2⟩ ih3
        have u2 := fx_trans x u
        have c3 := CTd_fx c0 u2 (by decide) (by decide)
        have m3 := c3.1
        have hb := hG c 0 hc (by omega)
        rw [Nat.add_zero] at hb
        have en : (-(g (3 * c))).toInt = -(g (3 * c)).toInt := Jvm.Kit.i32_neg (by omega)
        unfold w_Kn_reachRow_L62
        rw [X_r71_0 m3, c3.2.1.2.2.1]
        refine ⟨X_k71 m3, X_k19 m3, fun z => absurd z (nI_ge hc (by omega)), fun _ => t_Co_numberOf (k := 0) (CO_19 m3) (by omega) ?_⟩
        rw [show gI s3 (19 + 1) (3 * c + 0) = g (3 * c) from by rw [show gI s3 (19 + 1) = g from c3.2.2.1]; rfl]
        refine ⟨X_k71 m3, t_Kn_shiftRow m3 ab (by omega) (by omega) (fun s4 v4 => ⟨X_k71 (fx_XS v4.1 m3), t_Kn_shiftRow (fx_XS v4.1 m3) ab (by omega) (by omega) (fun s5 v5 => ?_)⟩)⟩
        rw [nI_1]
        refine ih3 s5 ⟨fx_trans u (fx_trans v4.1 v5.1), fun p hp => ?_, fun q i hq2 hi => ?_⟩
        · rw [v5.2.1 p hp, v4.2.1 p hp, a1 p hp]
        · have e5 := v5.2.2 q hq2
          have e4 := v4.2.2 q hq2
          rw [en] at e5
          have st := row_step (i := i) (o := gI s3 75 (bs2 (k + 1) + q)) (f := 0) (w1 := gI s4 75 (bs2 (k + 1) + q)) (w2 := gI s5 75 (bs2 (k + 1) + q)) hn hG (show k < 8 by omega) hc hi hq2 (R := fun p => gI s 75 (bs2 k + p)) (fun p hp => ra p i hp hi) ?_ ?_
          · rw [st, a2 q i hq2 hi]
            rfl
          · rw [e4]
            by_cases g1 : 0 ≤ (q : Int) - (g (3 * c)).toInt ∧ (q : Int) - (g (3 * c)).toInt < 81
            · rw [if_pos g1, if_pos g1, a1 _ (by omega)]
            · rw [if_neg g1, if_neg g1]
          · rw [e5]
            by_cases g1 : 0 ≤ (q : Int) - (-(g (3 * c)).toInt) ∧ (q : Int) - (-(g (3 * c)).toInt) < 81
            · rw [if_pos g1, if_pos g1, v4.2.1 _ (by omega), a1 _ (by omega)]
            · rw [if_neg g1, if_neg g1]
    · rintro f2 j s2 hj ⟨y, e1, e2⟩ ih2
      have m2 := fx_XS (fx_trans x y) m
      unfold w_Kn_reachRow_L35
      rw [show nI (bs2 (k + 1)) + (81 : Int32) = nI (bs2 (k + 1) + 81) from nI_add _ 81, X_r71_5 m2, X_n75 m2, ix_nI (by omega), nI_1, Nat.add_assoc]
      refine ⟨fun z => absurd z (nI_ge (by omega) (by omega)), fun _ => ⟨X_k71 m2, X_k75 m2, vp_in_nI (by omega) (by omega), ih2 _ ⟨fx_trans y (fx_sI _ _ (by simp)), fun p hp => ?_, fun p hp => ?_⟩⟩⟩
      · rw [gI_sI, if_neg (fun z => absurd z.2 (by omega))]
        exact e1 p hp
      · rw [gI_sI]
        by_cases e : p = j
        · rw [if_pos ⟨rfl, by rw [e]⟩]
        · rw [if_neg (fun z => absurd z.2 (by omega)), e2 p (by omega)]
