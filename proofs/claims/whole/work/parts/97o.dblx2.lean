/-! The class doubles sums: level by level -/
variable {h : Hp}
theorem gD_mem {l : List Nat} {i : Nat} (hi : i < l.length) : l.getD i 0 ∈ l := by
  rw [List.getD_eq_getElem?_getD, List.getElem?_eq_getElem hi]
  exact List.getElem_mem _
theorem ediv_low (T : Nat) (a : Int) (hT : 1 ≤ T) (ha : -20 ≤ a) : -20 ≤ a / (T : Int) := Int.le_ediv_of_mul_le (by omega) (by omega)
theorem and1 : ∀ l, l < 6 → (nI l &&& 1) = nI (l % 2) := by decide
theorem t_Db_beginLevel {f : Nat → Int32} {r n w e : Nat} {Q : Hp → Prop} (c0 : CN f r n h) (hw : w ≤ 3) (he : e ≤ 4) (hq : ∀ h', Fx [65, 67, 68, 69] [] h h' → (∀ k, k ≠ 6 → gI h' 65 k = gI h 65 k) → (∀ b, DV f w (2 ^ e) b [] h') → Q h') : w_Db_beginLevel 65 (nI e) (nI w) h Q := by
  have m := c0.1
  have hN := c0.2.2.2.2.1
  have pl := pow_le he
  unfold w_Db_beginLevel
  rw [X_r65_4 m, shl1 he]
  have x0 : Fx [65] [] h (sI h 65 6 0) := fx_sI _ _ (by simp)
  have m0 := fx_XS x0 m
  refine ⟨X_k65 m, t_fill (X_k69 m0) (X_n69 m0) (by omega) ?_⟩
  have x1 : Fx [65, 67, 68, 69] [] h (sA (sI h 65 6 0) 69 (fl (gI (sI h 65 6 0) 69) 343 0)) := fx_trans (fx_mono x0 (by simp) (by simp)) (fx_sA _ _ (by simp))
  have a1 : ∀ k, k ≠ 6 → gI (sA (sI h 65 6 0) 69 (fl (gI (sI h 65 6 0) 69) 343 0)) 65 k = gI h 65 k := fun k hk => by
    rw [gI_sA, if_neg (by decide), gI_sI, if_neg (fun q => hk q.2)]
  have a2 : gI (sA (sI h 65 6 0) 69 (fl (gI (sI h 65 6 0) 69) 343 0)) 65 6 = 0 := by
    rw [gI_sA, if_neg (by decide), gI_sI, if_pos ⟨rfl, rfl⟩]
  have a3 : ∀ k, k < 343 → gI (sA (sI h 65 6 0) 69 (fl (gI (sI h 65 6 0) 69) 343 0)) 69 k = 0 := fun k hk => by
    rw [gI_sA, if_pos rfl]
    unfold fl
    rw [if_pos hk]
  revert x1 a1 a2 a3
  generalize sA (sI h 65 6 0) 69 (fl (gI (sI h 65 6 0) 69) 343 0) = h1
  intro x1 a1 a2 a3
  unfold w_JM_max
  refine ⟨fun z => absurd z (Int32.not_lt.mpr (nI_le (a := 1) pl.1 (by omega))), fun _ => ?_⟩
  refine loop_0 (fun k i s => w_Db_beginLevel_L24 Q 65 (nI w) (nI (2 ^ e)) k (nI i) s) (fun i s => Fx [67, 68] [] h1 s ∧ ∀ j, j < i → (gI s 67 j).toInt = loZ f w (2 ^ e) j ∧ (gI s 68 j).toInt = hiZ f w (2 ^ e) j) 3 h1 ⟨fx_refl _ _ _, fun j hj => absurd hj (Nat.not_lt_zero _)⟩ ?_ ?_
  · rintro k s ⟨y, e1⟩
    unfold w_Db_beginLevel_L24
    refine ⟨fun _ => hq s (fx_trans x1 (fx_mono y (by simp) (by simp))) (fun k hk => ?_) (fun b => ⟨e1, ?_, fun i j hi => absurd hi (Nat.not_lt_zero _), fun k nr => ?_⟩), fun z => absurd (Int32.le_refl _) z⟩
    · rw [fx_I y (x := 65) (by decide)]
      exact a1 k hk
    · rw [fx_I y (x := 65) (by decide), a2]
      rfl
    · have lt := oZ_lt hN hw he nr
      rw [fx_I y (x := 69) (by decide), a3 _ (by unfold oK; omega)]
      exact ⟨fun q => absurd q (by decide), fun q => absurd q List.not_mem_nil⟩
  · rintro k i s hi ⟨y, e1⟩ ih
    have cs := CN_fx (CN_fx c0 x1 (by decide) (by decide)) y (by decide) (by decide)
    have ms := cs.1
    have nb := hN i hi
    have e22 : gI s (21 + 1) (32 + i) = f (32 + i) := by rw [show gI s (21 + 1) = f from cs.2.2.1]
    have en : (-(f (32 + i))).toInt = -(f (32 + i)).toInt := Jvm.Kit.i32_neg (by omega)
    have lh := lohi (w := w) hN hi he
    have w3 : (nI w).toInt = (w : Int) := nI_toInt (by omega)
    unfold w_Db_beginLevel_L24
    rw [X_r65_0 ms]
    refine ⟨fun z => absurd z (nI_ge (b := 3) hi (by omega)), fun _ => ⟨X_k65 ms, X_k21 ms, t_Co_needOf (CO_21 ms) hi ⟨X_k65 ms, ?_⟩⟩⟩
    rw [e22, X_r65_2 ms, ix_nI (n := i) (by omega), nI_1]
    refine t_floorDiv (by rw [en]; omega) pl.1 pl.2 (fun v1 d1 => ⟨X_k67 ms, by rw [X_n67 ms]; exact vp_in_nI (by omega) (by omega), X_k65 ms, t_floorDiv (by omega) pl.1 pl.2 (fun v2 d2 => ?_)⟩)
    rw [X_r65_3 ms]
    rw [en] at d1
    unfold loZ hiZ at lh
    rw [← d1, ← d2] at lh
    have x2 : Fx [67, 68] [] s (sI s 67 i (-v1 - nI w)) := fx_sI _ _ (by simp)
    have m2 := fx_XS x2 ms
    have c1 := ediv_low (2 ^ e) (-(f (32 + i)).toInt) pl.1 (by omega)
    have c2 := ediv_low (2 ^ e) (f (32 + i)).toInt pl.1 (by omega)
    rw [← d1] at c1
    rw [← d2] at c2
    have b1 : v1.toInt.natAbs ≤ 240 := by omega
    have b2 : v2.toInt.natAbs ≤ 240 := by omega
    have n1 : (-v1).toInt = -v1.toInt := Jvm.Kit.i32_neg (by omega)
    have n2 : (-v1 - nI w).toInt = -v1.toInt - (w : Int) := by rw [Jvm.Kit.i32_sub (by rw [n1, w3]; omega) (by rw [n1, w3]; omega), n1, w3]
    have n3 : (v2 + nI w).toInt = v2.toInt + (w : Int) := by rw [Jvm.Kit.i32_add (by rw [w3]; omega) (by rw [w3]; omega), w3]
    refine ⟨X_k68 m2, by rw [X_n68 m2]; exact vp_in_nI (by omega) (by omega), ih _ ⟨fx_trans y (fx_trans x2 (fx_sI _ _ (by simp))), fun j hj => ?_⟩⟩
    by_cases g : j = i
    · subst g
      rw [gI_sI, if_neg (fun q => absurd q.1 (by decide)), gI_sI, if_pos ⟨rfl, rfl⟩, gI_sI, if_pos ⟨rfl, rfl⟩, n2, n3, d1, d2]
      exact ⟨rfl, rfl⟩
    · rw [gI_sI, if_neg (fun q => absurd q.1 (by decide)), gI_sI, if_neg (fun q => g q.2), gI_sI, if_neg (fun q => g q.2), gI_sI, if_neg (fun q => absurd q.1 (by decide))]
      exact e1 j (by omega)
/-- the level before is laid in its half -/
def DP (b : Nat) (pr : List Nat) (h : Hp) : Prop := ∀ i j, i < pr.length → j < 3 → gI h 70 (1029 * b + 3 * i + j) = of60 (upk (pr.getD i 0) j)
theorem DP_df {b : Nat} {pr : List Nat} {h' : Hp} (hb : b ≤ 1) (hl : pr.length ≤ 343) (a : DP (1 - b) pr h) (x : DF b h h') : DP (1 - b) pr h' := fun i j hi hj => by
  have := x.2.1 (3 * i + j) (by omega)
  rw [Nat.add_assoc, this, ← Nat.add_assoc]
  exact a i j hi hj
theorem t_Db_addPairs {f : Nat → Int32} {r n w e e' l : Nat} {pr : List Nat} {Q : Hp → Prop} (m : XS h) (hN : NB f) (hw : w ≤ 3) (he : e ≤ 4) (he' : e' ≤ 4) (hl : l < 4) (op : dOK f r w (2 ^ e) pr) (dp : DP (1 - (l + 1) % 2) pr h) (dv : DV f w (2 ^ e') ((l + 1) % 2) [] h) (hq : ∀ h', DF ((l + 1) % 2) h h' → DV f w (2 ^ e') ((l + 1) % 2) (dpI (nrK f w (2 ^ e')) pr pr.length) h' → Q h') : w_Db_addPairs 65 (nI (l + 1)) (nI pr.length) h Q := by
  have pl := dOK_len hN hw he op
  have b1 : (l + 1) % 2 ≤ 1 := by omega
  have lb : 1 - (l + 1) % 2 = l % 2 := by omega
  unfold w_Db_addPairs
  rw [nI_s1, and1 l (by omega), show (343 : Int32) = nI 343 from rfl, show (3 : Int32) = nI 3 from rfl, pk_mul, pk_mul]
  refine loop_0 (fun k i s => w_Db_addPairs_L15 Q 65 (nI (l + 1)) (nI pr.length) (nI (l % 2 * 343 * 3)) k (nI i) s) (fun i s => DF ((l + 1) % 2) h s ∧ DV f w (2 ^ e') ((l + 1) % 2) (dpI (nrK f w (2 ^ e')) pr i) s) pr.length h ⟨DF_refl _ _, dv⟩ ?_ ?_
  · rintro k s ⟨x, d⟩
    unfold w_Db_addPairs_L15
    exact ⟨fun _ => hq s x d, fun z => absurd (Int32.le_refl _) z⟩
  · rintro k i s hi ⟨x, d⟩ ih
    unfold w_Db_addPairs_L15
    rw [show (3 : Int32) = nI 3 from rfl, pk_mul, nI_add]
    refine ⟨fun z => absurd z (nI_ge hi (by omega)), fun _ => ?_⟩
    refine loop_0 (fun k2 j s2 => w_Db_addPairs_L33 Q (w_Db_addPairs_L15 Q 65 (nI (l + 1)) (nI pr.length) (nI (l % 2 * 343 * 3)) k) 65 (nI (l + 1)) (nI pr.length) (nI (l % 2 * 343 * 3)) (nI i) (nI (l % 2 * 343 * 3 + i * 3)) k2 (nI (i + j)) s2) (fun j s2 => DF ((l + 1) % 2) h s2 ∧ DV f w (2 ^ e') ((l + 1) % 2) (dpJ (nrK f w (2 ^ e')) pr i (dpI (nrK f w (2 ^ e')) pr i) j) s2) (pr.length - i) s ⟨x, d⟩ ?_ ?_
    · rintro k2 s2 ⟨x2, d2⟩
      unfold w_Db_addPairs_L33
      rw [show i + (pr.length - i) = pr.length from by omega, nI_1]
      exact ⟨fun _ => ih s2 ⟨x2, d2⟩, fun z => absurd (Int32.le_refl _) z⟩
    · rintro k2 j s2 hj ⟨x2, d2⟩ ih2
      have ms := fx_XS x2.1 m
      have dps := DP_df b1 pl dp x2
      rw [lb] at dps
      have ka := op.2 (pr.getD i 0) (gD_mem hi)
      have kb := op.2 (pr.getD (i + j) 0) (gD_mem (show i + j < pr.length by omega))
      have ko := kpl_ok hN hw he ka kb
      have up : ∀ q, q < 3 → of60 (upk (pr.getD i 0) q) + of60 (upk (pr.getD (i + j) 0) q) = of60 (upk (kpl (pr.getD i 0) (pr.getD (i + j) 0)) q) ∧ upk (kpl (pr.getD i 0) (pr.getD (i + j) 0)) q < 121 := fun q hq2 => by
        have u := upk_kpl hN hw he ka kb hq2
        have u1 := kL_up hN hw he ka hq2
        have u2 := kL_up hN hw he kb hq2
        rw [u.1, of60_of60 (by omega) (by omega) (by omega)]
        exact ⟨rfl, by omega⟩
      have i1 := fun q hq2 => dps i q hi hq2
      have i2 := fun q hq2 => dps (i + j) q (by omega) hq2
      unfold w_Db_addPairs_L33
      rw [show (3 : Int32) = nI 3 from rfl, pk_mul, nI_add, nI_1 (a := l % 2 * 343 * 3 + i * 3), nI_1 (a := l % 2 * 343 * 3 + (i + j) * 3), show nI (l % 2 * 343 * 3 + i * 3) + 2 = nI (l % 2 * 343 * 3 + i * 3 + 2) from nI_add _ 2, show nI (l % 2 * 343 * 3 + (i + j) * 3) + 2 = nI (l % 2 * 343 * 3 + (i + j) * 3 + 2) from nI_add _ 2, X_r65_5 ms, X_n70 ms, ix_nI (n := l % 2 * 343 * 3 + i * 3) (by omega), ix_nI (n := l % 2 * 343 * 3 + i * 3 + 1) (by omega), ix_nI (n := l % 2 * 343 * 3 + i * 3 + 2) (by omega), ix_nI (n := l % 2 * 343 * 3 + (i + j) * 3) (by omega), ix_nI (n := l % 2 * 343 * 3 + (i + j) * 3 + 1) (by omega), ix_nI (n := l % 2 * 343 * 3 + (i + j) * 3 + 2) (by omega), nI_1 (a := i + j)]
      refine ⟨fun z => absurd z (nI_ge (by omega) (by omega)), fun _ => ⟨X_k65 ms, X_k70 ms, vp_in_nI (by omega) (by omega), vp_in_nI (by omega) (by omega), vp_in_nI (by omega) (by omega), vp_in_nI (by omega) (by omega), vp_in_nI (by omega) (by omega), vp_in_nI (by omega) (by omega), t_Db_addSum (k := kpl (pr.getD i 0) (pr.getD (i + j) 0)) ms hN hw he' b1 (and1 (l + 1) (by omega)) d2 (dOK_J hN hw he op hi (dOK_I hN hw he op i (by omega)) j (by omega)) ko.1 ko.2.2 (fun q hq2 => (up q hq2).2) ?_ ?_ ?_ (fun s3 x3 d3 => ih2 s3 ⟨DF_trans x2 x3, d3⟩)⟩⟩
      · rw [← (up 0 (by omega)).1, ← i1 0 (by omega), ← i2 0 (by omega)]
        congr 2 <;> omega
      · rw [← (up 1 (by omega)).1, ← i1 1 (by omega), ← i2 1 (by omega)]
        congr 2 <;> omega
      · rw [← (up 2 (by omega)).1, ← i1 2 (by omega), ← i2 2 (by omega)]
        congr 2 <;> omega
