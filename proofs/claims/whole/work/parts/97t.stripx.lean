/-! The class's strip: bounds, cells -/
variable {h : Hp}
theorem lb_bd {f : Nat → Int32} {r t w k j : Nat} (hN : NB f) (hk : k ≤ t) (hw : w ≤ 12) (hj : j < 3) : (lb f r t w k j).natAbs ≤ 40 ∧ (hb f r t w k j).natAbs ≤ 40 := by
  have nb := hN j hj
  have m := mulA (a := (k : Int)) (b := (f (32 + j)).toInt) (A := k) (B := 20) (by omega) (by omega)
  have p : (0 : Int) < ((max t 1 : Nat) : Int) := by omega
  have kT : (k : Int) ≤ ((max t 1 : Nat) : Int) := by omega
  unfold lb hb
  generalize (k : Int) * (f (32 + j)).toInt = a at m
  generalize ((max t 1 : Nat) : Int) = T at p kT
  have d1 : -20 ≤ a / T := Int.le_ediv_of_mul_le p (by omega)
  have d2 : a / T ≤ 20 := Int.ediv_le_of_le_mul p (by omega)
  have d3 : -20 ≤ (-a) / T := Int.le_ediv_of_mul_le p (by omega)
  have d4 : (-a) / T ≤ 20 := Int.ediv_le_of_le_mul p (by omega)
  by_cases g : j < r
  · rw [if_pos g, if_pos g]
    omega
  · rw [if_neg g, if_neg g]
    omega
theorem sub_nI {a l : Int32} (ha : a.toInt.natAbs ≤ 1000) (hl : l.toInt.natAbs ≤ 1000) (h0 : l.toInt ≤ a.toInt) : a - l = nI (a.toInt - l.toInt).toNat := by
  rw [← Int32.toInt_inj, Jvm.Kit.i32_sub (by omega) (by omega), nI_toInt (by omega)]
  omega
/-- sides and bounds of the strip stand -/
def SB (f : Nat → Int32) (r t w : Nat) (h : Hp) : Prop := gI h 42 4 = nI (dmS w r 1) ∧ gI h 42 5 = nI (dmS w r 2) ∧ ∀ k j, k ≤ t → j < 3 → (gI h 43 (3 * k + j)).toInt = lb f r t w k j ∧ (gI h 44 (3 * k + j)).toInt = hb f r t w k j
theorem SB_eq {f : Nat → Int32} {r t w : Nat} {h' : Hp} (a : SB f r t w h) (e4 : gI h' 42 4 = gI h 42 4) (e5 : gI h' 42 5 = gI h 42 5) (e43 : gI h' 43 = gI h 43) (e44 : gI h' 44 = gI h 44) : SB f r t w h' := by
  unfold SB
  rw [e4, e5, e43, e44]
  exact a
/-- a sum stands in the row 'at' -/
def AtZ (z : Nat → Int) (h : Hp) : Prop := ∀ j, j < 3 → (gI h 45 j).toInt = z j
theorem t_St_cellOf {f : Nat → Int32} {r t w k : Nat} {z : Nat → Int} {Q : Int32 → Hp → Prop} (m : XS h) (hN : NB f) (ht : t ≤ 12) (hw : w ≤ 12) (sb : SB f r t w h) (hk : k ≤ t) (az : AtZ z h) (hz : ∀ j, j < 3 → (z j).natAbs ≤ 200) (hq0 : ¬ inB f r t w k z → Q (-1) h) (hq : inB f r t w k z → Q (nI (cl f r t w k z)) h) : w_St_cellOf 42 (nI k) h Q := by
  unfold w_St_cellOf
  rw [show (3 : Int32) = nI 3 from rfl, pk_mul]
  have bnd := fun j (hj : j < 3) => lb_bd (r := r) (t := t) (w := w) (k := k) hN hk hw hj
  have sbk := fun j (hj : j < 3) => sb.2.2 k j hk hj
  have go : ∀ q i, i + q = 3 → (∀ j, j < i → lb f r t w k j ≤ z j ∧ z j ≤ hb f r t w k j) → ∃ fu, w_St_cellOf_L6 Q 42 (nI (k * 3)) fu (nI i) h := by
    intro q
    induction q with
    | zero =>
      intro i hi all
      have : i = 3 := by omega
      subst this
      have fin := hq all
      refine ⟨1, ?_⟩
      unfold w_St_cellOf_L6
      rw [X_r42_3 m, X_r42_1 m, X_n45 m, X_n43 m, nI_1, show nI (k * 3) + 2 = nI (k * 3 + 2) from nI_add _ 2, ix_nI (n := k * 3) (by omega), ix_nI (n := k * 3 + 1) (by omega), ix_nI (n := k * 3 + 2) (by omega), show ix (0 : Int32) = 0 from rfl, show ix (1 : Int32) = 1 from rfl, show ix (2 : Int32) = 2 from rfl, sb.1, sb.2.1]
      refine ⟨fun _ => ⟨X_k42 m, X_k45 m, vp_in_nI (n := 0) (by omega) (by omega), X_k43 m, vp_in_nI (by omega) (by omega), vp_in_nI (n := 1) (by omega) (by omega), vp_in_nI (by omega) (by omega), vp_in_nI (n := 2) (by omega) (by omega), vp_in_nI (by omega) (by omega), ?_⟩, fun y => absurd (Int32.le_refl _) y⟩
      have s0 := sbk 0 (by omega)
      have s1 := sbk 1 (by omega)
      have s2 := sbk 2 (by omega)
      have a0 := az 0 (by omega)
      have a1 := az 1 (by omega)
      have a2 := az 2 (by omega)
      have l0 := all 0 (by omega)
      have l1 := all 1 (by omega)
      have l2 := all 2 (by omega)
      have b0 := bnd 0 (by omega)
      have b1 := bnd 1 (by omega)
      have b2 := bnd 2 (by omega)
      have z0 := hz 0 (by omega)
      have z1 := hz 1 (by omega)
      have z2 := hz 2 (by omega)
      rw [Nat.mul_comm] at s0 s1 s2
      have x0 : gI h 45 0 - gI h 43 (k * 3) = nI (xs f r t w k z 0) := by
        rw [Nat.add_zero] at s0
        rw [sub_nI (by omega) (by omega) (by omega), a0, s0.1]; rfl
      have x1 : gI h 45 1 - gI h 43 (k * 3 + 1) = nI (xs f r t w k z 1) := by
        rw [sub_nI (by omega) (by omega) (by omega), a1, s1.1]; rfl
      have x2 : gI h 45 2 - gI h 43 (k * 3 + 2) = nI (xs f r t w k z 2) := by
        rw [sub_nI (by omega) (by omega) (by omega), a2, s2.1]; rfl
      have e : ∀ A B C : Int32, A + B - C = A + (B - C) := fun A B C => by grind
      rw [e _ (gI h 45 2), x0, x1, x2, pk_mul, nI_add, pk_mul, nI_add]
      exact fin
    | succ q ih =>
      intro i hi all
      have s0 := sbk i (by omega)
      rw [Nat.mul_comm] at s0
      have a0 := az i (by omega)
      have stop : ¬ (lb f r t w k i ≤ z i ∧ z i ≤ hb f r t w k i) → Q (-1) h := fun g => hq0 (fun a => g (a i (by omega)))
      by_cases g : lb f r t w k i ≤ z i ∧ z i ≤ hb f r t w k i
      · obtain ⟨fu, hfu⟩ := ih (i + 1) (by omega) (fun j hj => by
          by_cases e : j = i
          · rw [e]; exact g
          · exact all j (by omega))
        refine ⟨fu + 1, ?_⟩
        unfold w_St_cellOf_L6
        rw [X_r42_3 m, X_r42_1 m, X_r42_2 m, X_n45 m, X_n43 m, X_n44 m, nI_add, ix_nI (n := i) (by omega), ix_nI (n := k * 3 + i) (by omega), nI_1 (a := i)]
        refine ⟨fun y => absurd y (nI_ge (b := 3) (by omega) (by omega)), fun _ => ⟨X_k42 m, X_k45 m, vp_in_nI (by omega) (by omega), X_k43 m, vp_in_nI (by omega) (by omega), fun y => ?_, fun _ => ⟨X_k44 m, vp_in_nI (by omega) (by omega), fun _ => hfu, fun y => ?_⟩⟩⟩
        · have := Int32.lt_iff_toInt_lt.mp y
          omega
        · exact absurd (Int32.le_iff_toInt_le.mpr (by omega)) y
      · refine ⟨1, ?_⟩
        unfold w_St_cellOf_L6
        rw [X_r42_3 m, X_r42_1 m, X_r42_2 m, X_n45 m, X_n43 m, X_n44 m, nI_add, ix_nI (n := i) (by omega), ix_nI (n := k * 3 + i) (by omega)]
        refine ⟨fun y => absurd y (nI_ge (b := 3) (by omega) (by omega)), fun _ => ⟨X_k42 m, X_k45 m, vp_in_nI (by omega) (by omega), X_k43 m, vp_in_nI (by omega) (by omega), fun _ => stop g, fun y1 => ⟨X_k44 m, vp_in_nI (by omega) (by omega), fun y2 => ?_, fun _ => stop g⟩⟩⟩
        have y1 := Int32.le_iff_toInt_le.mp (Int32.not_lt.mp y1)
        have y2 := Int32.le_iff_toInt_le.mp y2
        exact absurd (by omega) g
  exact go 3 0 rfl (fun j hj => absurd hj (Nat.not_lt_zero _))
theorem t_St_atNeed {f : Nat → Int32} {r n : Nat} {Q : Hp → Prop} (c0 : CN f r n h) (hq : ∀ h', Fx [45] [] h h' → AtZ (fun j => (f (32 + j)).toInt) h' → Q h') : w_St_atNeed 42 h Q := by
  unfold w_St_atNeed
  refine loop_0 (fun k i s => w_St_atNeed_L2 Q 42 k (nI i) s) (fun i s => Fx [45] [] h s ∧ ∀ j, j < i → gI s 45 j = f (32 + j)) 3 h ⟨fx_refl _ _ _, fun j hj => absurd hj (Nat.not_lt_zero _)⟩ ?_ ?_
  · rintro k s ⟨x, e⟩
    unfold w_St_atNeed_L2
    exact ⟨fun _ => hq s x (fun j hj => by rw [e j hj]), fun z => absurd (Int32.le_refl _) z⟩
  · rintro k i s hi ⟨x, e⟩ ih
    have cs := CN_fx c0 x (by decide) (by decide)
    have ms := cs.1
    unfold w_St_atNeed_L2
    rw [X_r42_0 ms, X_r42_3 ms]
    refine ⟨fun z => absurd z (nI_ge (b := 3) hi (by omega)), fun _ => ⟨X_k42 ms, X_k21 ms, t_Co_needOf (CO_21 ms) hi ?_⟩⟩
    rw [X_n45 ms, ix_nI (by omega), nI_1]
    refine ⟨X_k45 ms, vp_in_nI (by omega) (by omega), ih _ ⟨fx_trans x (fx_sI _ _ (by simp)), fun j hj => ?_⟩⟩
    rw [gI_sI]
    by_cases g : j = i
    · rw [if_pos ⟨rfl, g⟩, g, show gI s (21 + 1) = f from cs.2.2.1]
    · rw [if_neg (fun q => g q.2)]
      exact e j (by omega)
theorem gt_max {a b : Nat} (ha : a < 1000) (hb : b < 1000) : gt (nI a) (nI b) = nI (max a b) := by
  unfold gt
  by_cases g : a ≤ b
  · rw [if_pos (nI_le g (by omega)), show max a b = b from by omega]
  · rw [if_neg (fun z => absurd z (nI_ge (by omega) (by omega))), show max a b = a from by omega]
theorem t_St_bounds {f : Nat → Int32} {r n t w : Nat} {Q : Hp → Prop} (c0 : CN f r n h) (ht : t ≤ 12) (hw : w ≤ 12) (e4 : gI h 42 4 = nI (dmS w r 1)) (e5 : gI h 42 5 = nI (dmS w r 2)) (hq : ∀ h', Fx [43, 44] [] h h' → SB f r t w h' → Q h') : ∃ k, w_St_setBounds_L50 Q 42 (nI t) (nI w) k 0 h := by
  have hN := c0.2.2.2.2.1
  have hr := c0.2.1.2.2.2.2.1
  refine loop_0 (fun k i s => w_St_setBounds_L50 Q 42 (nI t) (nI w) k (nI i) s) (fun i s => Fx [43, 44] [] h s ∧ ∀ k j, k < i → j < 3 → (gI s 43 (3 * k + j)).toInt = lb f r t w k j ∧ (gI s 44 (3 * k + j)).toInt = hb f r t w k j) (t + 1) h ⟨fx_refl _ _ _, fun k j hk => absurd hk (Nat.not_lt_zero _)⟩ ?_ ?_
  · rintro k s ⟨x, e⟩
    unfold w_St_setBounds_L50
    refine ⟨fun _ => hq s x ⟨?_, ?_, fun k j hk hj => e k j (by omega) hj⟩, fun z => absurd (nI_lt (by omega) (by omega)) z⟩
    · rw [fx_I x (x := 42) (by decide)]; exact e4
    · rw [fx_I x (x := 42) (by decide)]; exact e5
  · rintro k i s hi ⟨x, e⟩ ih
    unfold w_St_setBounds_L50
    refine ⟨fun z => absurd z (nI_nlt (by omega) (by omega)), fun _ => ?_⟩
    refine loop_0 (fun k2 j s2 => w_St_setBounds_L58 Q (w_St_setBounds_L50 Q 42 (nI t) (nI w) k) 42 (nI t) (nI w) (nI i) k2 (nI j) s2) (fun j s2 => Fx [43, 44] [] h s2 ∧ (∀ k j, k < i → j < 3 → (gI s2 43 (3 * k + j)).toInt = lb f r t w k j ∧ (gI s2 44 (3 * k + j)).toInt = hb f r t w k j) ∧ ∀ j', j' < j → (gI s2 43 (3 * i + j')).toInt = lb f r t w i j' ∧ (gI s2 44 (3 * i + j')).toInt = hb f r t w i j') 3 s ⟨x, e, fun j hj => absurd hj (Nat.not_lt_zero _)⟩ ?_ ?_
    · rintro k2 s2 ⟨x2, a1, a2⟩
      unfold w_St_setBounds_L58
      rw [nI_1]
      refine ⟨fun _ => ih s2 ⟨x2, fun k j hk hj => ?_⟩, fun z => absurd (Int32.le_refl _) z⟩
      by_cases g : k = i
      · rw [g]; exact a2 j hj
      · exact a1 k j (by omega) hj
    · rintro k2 j s2 hj ⟨x2, a1, a2⟩ ih2
      have cs := CN_fx c0 x2 (by decide) (by decide)
      have ms := cs.1
      have nb := hN j hj
      have bd := lb_bd (r := r) (t := t) (w := w) (k := i) hN (by omega) hw hj
      have mA := mulA (a := (i : Int)) (b := (f (32 + j)).toInt) (A := 12) (B := 20) (by omega) (by omega)
      have ei : (nI i).toInt = (i : Int) := nI_toInt (by omega)
      have e1 : (nI i * f (32 + j)).toInt = (i : Int) * (f (32 + j)).toInt := by rw [Jvm.Kit.i32_mul (by rw [ei]; omega) (by rw [ei]; omega), ei]
      have e2 : (-(nI i * f (32 + j))).toInt = -((i : Int) * (f (32 + j)).toInt) := by rw [Jvm.Kit.i32_neg (by rw [e1]; omega), e1]
      have w3 : (nI w).toInt = (w : Int) := nI_toInt (by omega)
      have put : ∀ u v : Int32, u.toInt = lb f r t w i j → v.toInt = hb f r t w i j → w_St_setBounds_L58 Q (w_St_setBounds_L50 Q 42 (nI t) (nI w) k) 42 (nI t) (nI w) (nI i) k2 (nI (j + 1)) (sI (sI s2 43 (3 * i + j) u) 44 (3 * i + j) v) := fun u v hu hv => by
        refine ih2 _ ⟨fx_trans x2 (fx_trans (fx_sI _ _ (by simp)) (fx_sI _ _ (by simp))), fun k j' hk hj' => ?_, fun j' hj' => ?_⟩
        · rw [gI_sI, if_neg (fun q => absurd q.1 (by decide)), gI_sI, if_neg (fun q => absurd q.2 (by omega)), gI_sI, if_neg (fun q => absurd q.2 (by omega)), gI_sI, if_neg (fun q => absurd q.1 (by decide))]
          exact a1 k j' hk hj'
        · by_cases g : j' = j
          · subst g
            rw [gI_sI, if_neg (fun q => absurd q.1 (by decide)), gI_sI, if_pos ⟨rfl, rfl⟩, gI_sI, if_pos ⟨rfl, rfl⟩]
            exact ⟨hu, hv⟩
          · rw [gI_sI, if_neg (fun q => absurd q.1 (by decide)), gI_sI, if_neg (fun q => absurd q.2 (by omega)), gI_sI, if_neg (fun q => absurd q.2 (by omega)), gI_sI, if_neg (fun q => absurd q.1 (by decide))]
            exact a2 j' (by omega)
      unfold w_St_setBounds_L58
      rw [X_r42_0 ms]
      refine ⟨fun z => absurd z (nI_ge (b := 3) hj (by omega)), fun _ => ⟨X_k42 ms, X_k21 ms, t_Co_hasRow (X_k21 ms) cs.2.1.2.1 (by omega) ⟨X_k42 ms, ?_⟩⟩⟩
      rw [X_r42_0 ms]
      refine ⟨X_k21 ms, t_Co_needOf (CO_21 ms) hj (t_max ⟨X_k42 ms, ?_⟩)⟩
      rw [show gI s2 (21 + 1) = f from cs.2.2.1, show gt (nI t) 1 = nI (max t 1) from gt_max (b := 1) (by omega) (by omega), X_r42_1 ms, show (3 : Int32) = nI 3 from rfl, pk_mul, nI_add, Nat.mul_comm i 3]
      unfold w_St_setBounds_B125
      by_cases g : j < r
      · rw [inb_nI (by omega) g]
        refine ⟨fun z => absurd z (by decide), fun _ => t_floorDiv (by rw [e2]; omega) (by omega) (by omega) (fun u du => ⟨X_k43 ms, by rw [X_n43 ms]; exact vp_in_nI (by omega) (by omega), X_k42 ms, fun z => absurd z (by decide), fun _ => t_floorDiv (by rw [e1]; omega) (by omega) (by omega) (fun v dv => ?_)⟩)⟩
        rw [X_r42_2 ms, show (3 : Int32) = nI 3 from rfl, pk_mul, nI_add, Nat.mul_comm i 3, ix_nI (n := 3 * i + j) (by omega), nI_1]
        rw [e2] at du
        rw [e1] at dv
        unfold lb hb at bd put
        rw [if_pos g, if_pos g, ← du, ← dv] at bd put
        have n1 : (-u).toInt = -u.toInt := Jvm.Kit.i32_neg (by omega)
        refine ⟨X_k44 ms, by rw [show gN (sI s2 43 (3 * i + j) (-u - nI w)) 44 = 39 from X_n44 ms]; exact vp_in_nI (by omega) (by omega), put _ _ ?_ ?_⟩
        · rw [Jvm.Kit.i32_sub (by rw [n1, w3]; omega) (by rw [n1, w3]; omega), n1, w3]
        · rw [Jvm.Kit.i32_add (by rw [w3]; omega) (by rw [w3]; omega), w3]
      · have ib : inb (nI j) r = false := by
          cases q : inb (nI j) r with
          | false => rfl
          | true =>
            obtain ⟨j2, h1, h2⟩ := inb_ex (by omega) q
            have := (nI_eq (by omega) (by omega)).mp h2
            omega
        rw [ib]
        unfold lb hb at put
        rw [if_neg g, if_neg g] at put
        refine ⟨fun _ => ⟨X_k43 ms, by rw [X_n43 ms]; exact vp_in_nI (by omega) (by omega), X_k42 ms, fun _ => ?_, fun z => absurd rfl z⟩, fun z => absurd rfl z⟩
        rw [X_r42_2 ms, show (3 : Int32) = nI 3 from rfl, pk_mul, nI_add, Nat.mul_comm i 3, ix_nI (n := 3 * i + j) (by omega), nI_1, X_n44 ms]
        exact ⟨X_k44 ms, vp_in_nI (by omega) (by omega), put 0 0 rfl rfl⟩
theorem t_St_setBounds {f : Nat → Int32} {r n t w : Nat} {Q : Hp → Prop} (c0 : CN f r n h) (ht : t ≤ 12) (hw : w ≤ 12) (hq : ∀ h', Fx [42, 43, 44] [] h h' → (∀ k, k ≠ 4 → k ≠ 5 → gI h' 42 k = gI h 42 k) → SB f r t w h' → Q h') : w_St_setBounds 42 (nI t) (nI w) h Q := by
  have m := c0.1
  have er := c0.2.1.2.1
  have hr := c0.2.1.2.2.2.2.1
  have e2w : (2 : Int32) * nI w + 1 = nI (2 * w + 1) := by rw [show (2 : Int32) = nI 2 from rfl, pk_mul, nI_1]
  have fin : ∀ u v, u = nI (dmS w r 1) → v = nI (dmS w r 2) → ∃ k, w_St_setBounds_L50 Q 42 (nI t) (nI w) k 0 (sI (sI h 42 4 u) 42 5 v) := fun u v hu hv => by
    have x : Fx [42] [] h (sI (sI h 42 4 u) 42 5 v) := fx_trans (fx_sI _ _ (by simp)) (fx_sI _ _ (by simp))
    refine t_St_bounds (CN_fx c0 x (by decide) (by decide)) ht hw ?_ ?_ (fun h' x2 sb => hq h' (fx_trans (fx_mono x (by simp) (by simp)) (fx_mono x2 (by simp) (by simp))) (fun k h4 h5 => ?_) sb)
    · rw [gI_sI, if_neg (by decide), gI_sI, if_pos ⟨rfl, rfl⟩, hu]
    · rw [gI_sI, if_pos ⟨rfl, rfl⟩, hv]
    · rw [fx_I x2 (x := 42) (by decide), gI_sI, if_neg (fun q => h5 q.2), gI_sI, if_neg (fun q => h4 q.2)]
  have B21 : ∀ u, u = nI (dmS w r 1) → w_St_setBounds_B21 Q 42 (nI t) (nI w) 42 u h := fun u hu => by
    have e1 : gI (sI h 42 4 u) 21 1 = nI r := by rw [gI_sI, if_neg (fun q => absurd q.1 (by decide))]; exact er
    unfold w_St_setBounds_B21
    rw [X_r42_0 m, e1, e2w]
    refine ⟨X_k42 m, X_k42 m, X_k21 m, fun z => fin u 1 hu ?_, fun z => fin u _ hu ?_⟩
    · have : ¬ 2 < r := fun g => absurd z (nI_ge (a := 2) g (by omega))
      unfold dmS
      rw [if_neg this]
      rfl
    · have : 2 < r := by
        by_cases g : 2 < r
        · exact g
        · exact absurd (nI_le (a := r) (b := 2) (by omega) (by omega)) z
      unfold dmS
      rw [if_pos this]
  unfold w_St_setBounds
  rw [X_r42_0 m, er, e2w]
  refine ⟨X_k42 m, X_k21 m, fun z => B21 1 ?_, fun z => B21 _ ?_⟩
  · have : ¬ 1 < r := fun g => absurd z (nI_ge (a := 1) g (by omega))
    unfold dmS
    rw [if_neg this]
    rfl
  · have : 1 < r := by
      by_cases g : 1 < r
      · exact g
      · exact absurd (nI_le (a := r) (b := 1) (by omega) (by omega)) z
    unfold dmS
    rw [if_pos this]
