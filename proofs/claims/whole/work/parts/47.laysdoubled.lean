/-! The reference's doubled sums -/
variable {h : Hp}
theorem shl1 {e : Nat} (he : e ≤ 4) : jshl 1 (nI e) = nI (2 ^ e) := by
  match e, he with
  | 0, _ => decide
  | 1, _ => decide
  | 2, _ => decide
  | 3, _ => decide
  | 4, _ => decide
theorem pow_le {e : Nat} (he : e ≤ 4) : 1 ≤ 2 ^ e ∧ 2 ^ e ≤ 16 := by
  rcases T_cases he with g | g | g | g | g <;> rw [g] <;> decide
theorem of60_inj {x y : Nat} (hx : x < 1000) (hy : y < 1000) : of60 x = of60 y ↔ x = y := by
  rw [← Int32.toInt_inj, of60_toInt hx, of60_toInt hy]
  omega
theorem near1 {e w x : Nat} {v : Int32} (he : e ≤ 4) (hw : w ≤ 3) (hx : x < 121) (hv : v.toInt.natAbs ≤ 20) : ab (nI (2 ^ e) * of60 x - v) ≤ nI w * nI (2 ^ e) ↔ (((2 ^ e : Nat) : Int) * ((x : Int) - 60) - v.toInt).natAbs ≤ w * 2 ^ e := by
  have hp := pow_le he
  have e1 : (nI (2 ^ e)).toInt = ((2 ^ e : Nat) : Int) := nI_toInt (by omega)
  have e2 := of60_toInt (show x < 1000 by omega)
  have m1 := mulA (a := ((2 ^ e : Nat) : Int)) (b := (x : Int) - 60) (A := 16) (B := 60) (by omega) (by omega)
  have p1 : (nI (2 ^ e) * of60 x).toInt = ((2 ^ e : Nat) : Int) * ((x : Int) - 60) := by rw [Jvm.Kit.i32_mul (by rw [e1, e2]; omega) (by rw [e1, e2]; omega), e1, e2]
  have p3 : (nI (2 ^ e) * of60 x - v).toInt = ((2 ^ e : Nat) : Int) * ((x : Int) - 60) - v.toInt := by rw [Jvm.Kit.i32_sub (by rw [p1]; omega) (by rw [p1]; omega), p1]
  have h3 : w * 2 ^ e ≤ 48 := Nat.mul_le_mul hw hp.2
  rw [pk_mul, Int32.le_iff_toInt_le, ab_toInt (by rw [p3]; omega), p3, nI_toInt (by omega)]
  omega
theorem nr_model {f : Nat → Int32} {r w e k : Nat} (hN : NB f) (hZ : ZB f r) (hr : r ≤ 3) (he : e ≤ 4) (hw : w ≤ 3) (hu : ∀ j, j < 3 → upk k j < 121) (h0 : ∀ j, r ≤ j → j < 3 → Zk k j = 0) : allB (fun j => decide (ab (nI (2 ^ e) * of60 (upk k j) - f (32 + j)) ≤ nI w * nI (2 ^ e))) r = nrK f w (2 ^ e) k := by
  rw [Bool.eq_iff_iff]
  unfold nrK
  rw [allB_true, allB_true]
  constructor
  · intro a j hj
    rw [Bool.and_eq_true, decide_eq_true_eq, decide_eq_true_eq]
    have hN2 := hN j hj
    refine (near_iff he _).mp ?_
    by_cases g : j < r
    · have := a j g
      rw [decide_eq_true_eq, near1 he hw (hu j hj) (by omega)] at this
      exact this
    · rw [h0 j (by omega) hj, (hZ j (by omega) hj).1, Int.mul_zero]
      exact Nat.zero_le _
  · intro a j hj
    have := a j (by omega)
    rw [Bool.and_eq_true, decide_eq_true_eq, decide_eq_true_eq] at this
    have hN2 := hN j (by omega)
    rw [decide_eq_true_eq, near1 he hw (hu j (by omega)) (by omega)]
    exact (near_iff he _).mpr this
theorem t_M_isNear {f S : Nat → Int32} {r n : Nat} {T w : Int32} {Q : Bool → Hp → Prop} (hM : Mrc h r n) (hf : gI h 86 = f) (hS : SU h S) (hq : Q (allB (fun j => decide (ab (T * S j - f (32 + j)) ≤ w * T)) r) h) : w_M_isNear 81 T w h Q := by
  obtain ⟨a1, a2, a3⟩ := M_sums hM.1
  have hr := hM.2.2.2.2.1
  unfold w_M_isNear
  refine loop_0 (fun m i (s : Bool) => w_M_isNear_L5 Q 81 T w m (b2i s) (nI i) h) (fun i s => s = allB (fun j => decide (ab (T * S j - f (32 + j)) ≤ w * T)) i) r true rfl ?_ ?_
  · rintro m s rfl
    unfold w_M_isNear_L5
    refine ⟨M_K hM.1, fun _ => ⟨b2i_B _, ?_⟩, fun a => absurd (loop_le hM.2.1) a⟩
    rw [i2b_b2i]
    exact hq
  · rintro m i s hi rfl ih
    unfold w_M_isNear_L5
    refine ⟨M_K hM.1, fun a => absurd (hM.2.1 ▸ a) (nI_ge hi (by omega)), fun _ => ?_⟩
    rw [nI_1]
    cases e : allB (fun j => decide (ab (T * S j - f (32 + j)) ≤ w * T)) i
    · exact ⟨fun _ => ih false (by rw [allB, e]; rfl), fun z => absurd rfl z⟩
    · refine ⟨fun z => absurd z (by decide), fun _ => ?_⟩
      rw [a1, a3, ix_nI (by omega), hS i (by omega)]
      refine ⟨a2, vp_in_nI (by omega) (by omega), t_M_needOf hM.1 (by omega) (t_M_plus ⟨fun z => ?_, fun z => ?_⟩)⟩
      · rw [hf] at z
        exact ih false (by rw [allB, e, decide_eq_false (Int32.not_le.mpr z)]; rfl)
      · rw [hf] at z
        exact ih true (by rw [allB, e, decide_eq_true (Int32.not_lt.mp z)]; rfl)
/-- the sums of the closed levels and of the open one -/
def DO (lv : Nat → List Nat) (h h' : Hp) (l : Nat) (acc : List Nat) : Prop := Fr [92, 98, 99] [44] [] [] h h' ∧ gI h' 81 44 = nI (off lv l + acc.length) ∧ (∀ m, m ≤ l → gI h' 99 m = nI (off lv m)) ∧ (∀ m i j, m < l → i < (lv m).length → j < 3 → gI h' 98 (3 * (off lv m + i) + j) = of60 (upk ((lv m).getD i 0) j)) ∧ ∀ i j, i < acc.length → j < 3 → gI h' 98 (3 * (off lv l + i) + j) = of60 (upk (acc.getD i 0) j)
theorem DO_fr {lv : Nat → List Nat} {h0 h' : Hp} {l : Nat} {acc : List Nat} (o : DO lv h0 h l acc) (f : Fr [92] [] [] [] h h') : DO lv h0 h' l acc := by
  obtain ⟨o1, o2, o3, o4, o5⟩ := o
  refine ⟨fr_trans o1 (fr_mono f (by simp) (by simp) (by simp) (by simp)), ?_, ?_, ?_, ?_⟩
  · rw [fr_F f (by decide) (by decide)]; exact o2
  · rw [fr_I f (x := 99) (by decide) (by decide)]; exact o3
  · rw [fr_I f (x := 98) (by decide) (by decide)]; exact o4
  · rw [fr_I f (x := 98) (by decide) (by decide)]; exact o5
theorem upk_inj {k k' : Nat} (h : ∀ j, j < 3 → upk k j = upk k' j) : k = k' := Zk_inj (fun j hj => by unfold Zk; rw [h j hj])
theorem DO_comesTo {lv : Nat → List Nat} {h0 : Hp} {f : Nat → Int32} {r n l e w k : Nat} {acc : List Nat} {Q : Hp → Prop} (hM : Mrc h0 r n) (hf : gI h0 86 = f) (hN : NB f) (hZ : ZB f r) (he : e ≤ 4) (hw : w ≤ 3) (o : DO lv h0 h l acc) (hb : off lv l + acc.length < 2000) (hS : SU h (fun j => of60 (upk k j))) (hu : ∀ j, j < 3 → upk k j < 121) (h0k : ∀ j, r ≤ j → j < 3 → Zk k j = 0) (hA : ∀ x ∈ acc, ∀ j, j < 3 → upk x j < 121)
    (hq : ∀ h', DO lv h0 h' l (addk (nrK f w (2 ^ e) k) acc k) → Q h') : w_M_comesTo 81 (nI (off lv l)) (nI (off lv l + acc.length)) (nI (2 ^ e)) (nI w) h Q := by
  have o' := o
  obtain ⟨o1, o2, o3, o4, o5⟩ := o
  have hM1 := fr_Mrc o1 (by decide) (by decide) (by decide) hM
  have hr := hM.2.2.2.2.1
  obtain ⟨a1, a2, a3⟩ := M_sums hM1.1
  obtain ⟨b1, b2, b3⟩ := M_levelSums hM1.1
  have nr := nr_model hN hZ hr he hw hu h0k
  unfold w_M_comesTo
  refine ⟨M_K hM1.1, t_M_isNear hM1 ((fr_I o1 (x := 86) (by decide) (by decide)).trans hf) hS ?_⟩
  rw [nr]
  refine ⟨fun z => hq h ?_, fun z => ?_⟩
  · rw [z]
    unfold addk
    rw [if_neg (fun y => absurd y.1 (by decide))]
    exact o'
  · have z := ntf z
    rw [z] at hq
    have eqk : ∀ i, i < acc.length → (∀ j, j < 3 → gI h 98 (3 * (off lv l + i) + j) = gI h 92 j) → k ∈ acc := fun i hi g => by
      have : k = acc.getD i 0 := upk_inj (fun j hj => by
        have g := g j hj
        rw [o5 i j hi hj, hS j hj, of60_inj (by have := hA _ (getD_mem (d := 0) hi) j hj; omega) (by have := hu j hj; omega)] at g
        exact g.symm)
      rw [this]
      exact getD_mem hi
    refine loop_0 (fun m i s => w_M_comesTo_L14 Q 81 (nI (off lv l + acc.length)) m (nI (off lv l + i)) s) (fun i s => s = h ∧ ∀ i', i' < i → acc.getD i' 0 ≠ k) acc.length h ⟨rfl, fun i' hi' => absurd hi' (Nat.not_lt_zero _)⟩ ?_ ?_
    · rintro m s ⟨rfl, hne⟩
      unfold w_M_comesTo_L14
      refine ⟨fun _ => ?_, fun z => absurd (Int32.le_refl _) z⟩
      have hk : k ∉ acc := fun g => by
        obtain ⟨i, hi, e⟩ := mem_getD (d := 0) g
        exact hne i hi e
      refine loop_0 (fun m q s' => w_M_comesTo_L88 Q 81 (nI (off lv l + acc.length)) m (nI q) s') (fun q s' => Fr [98] [] [] [] s s' ∧ ∀ x, gI s' 98 x = if 3 * (off lv l + acc.length) ≤ x ∧ x < 3 * (off lv l + acc.length) + q then of60 (upk k (x - 3 * (off lv l + acc.length))) else gI s 98 x) 3 _ ⟨fr_refl _ _ _ _ _, fun x => by rw [if_neg (by omega)]⟩ ?_ ?_
      · rintro m s' ⟨f2, e2⟩
        unfold w_M_comesTo_L88
        refine ⟨fun _ => ?_, fun z => absurd (Int32.le_refl _) z⟩
        rw [fr_K f2, nI_1]
        refine ⟨M_K hM1.1, hq _ ?_⟩
        unfold addk
        rw [if_pos ⟨rfl, hk⟩]
        refine ⟨fr_trans (fr_trans o1 (fr_mono f2 (by simp) (by simp) (by simp) (by simp))) (fr_sI _ _ (Or.inr ⟨rfl, by simp⟩)), ?_, fun m hm => ?_, fun m i j hm hi hj => ?_, fun i j hi hj => ?_⟩
        · rw [gI_sI, if_pos ⟨rfl, rfl⟩, List.length_append]; rfl
        · rw [gI_sI, if_neg (fun y => absurd y.1 (by decide)), fr_I f2 (x := 99) (by decide) (by decide)]; exact o3 m hm
        · have h1 := off_mono lv (show m + 1 ≤ l from hm)
          rw [off] at h1
          rw [gI_sI, if_neg (fun y => absurd y.1 (by decide)), e2, if_neg (by omega)]
          exact o4 m i j hm hi hj
        · rw [gI_sI, if_neg (fun y => absurd y.1 (by decide)), e2, getD_app]
          by_cases g : i = acc.length
          · rw [if_pos g, g, if_pos (by omega), show 3 * (off lv l + acc.length) + j - 3 * (off lv l + acc.length) = j from by omega]
          · rw [List.length_append, List.length_singleton] at hi
            rw [if_neg g, if_neg (by omega)]
            exact o5 i j (by omega) hj
      · rintro m q s' hq2 ⟨f2, e2⟩ ih
        unfold w_M_comesTo_L88
        refine ⟨fun z => absurd z (nI_ge (b := 3) hq2 (by omega)), fun _ => ?_⟩
        rw [fr_K f2, fr_R f2, fr_N f2, a1, a3, b1, b3, show (3 : Int32) = nI 3 from rfl, pk_mul, nI_add, nI_1, ix_nI (n := 3 * (off lv l + acc.length) + q) (by omega), ix_nI (n := q) (by omega), fr_I f2 (x := 92) (by decide) (by decide), hS q (by omega)]
        refine ⟨M_K hM1.1, a2, vp_in_nI (by omega) (by omega), b2, vp_in_nI (by omega) (by omega), ih _ ⟨fr_trans f2 (fr_sI _ _ (Or.inl (by simp))), fun x => ?_⟩⟩
        rw [gI_sI]
        by_cases g : x = 3 * (off lv l + acc.length) + q
        · rw [if_pos ⟨rfl, g⟩, if_pos (by omega), show x - 3 * (off lv l + acc.length) = q from by omega]
        · rw [if_neg (fun y => g y.2), e2]
          by_cases g2 : 3 * (off lv l + acc.length) ≤ x ∧ x < 3 * (off lv l + acc.length) + q
          · rw [if_pos g2, if_pos (by omega)]
          · rw [if_neg g2, if_neg (by omega)]
    · rintro m i s hi ⟨rfl, hne⟩ ih
      have stop : (∀ j, j < 3 → gI s 98 (3 * (off lv l + i) + j) = gI s 92 j) → Q s := fun g => hq s (by
        unfold addk
        rw [if_neg (fun y => y.2 (eqk i hi g))]
        exact o')
      have go : ∀ j, j < 3 → gI s 98 (3 * (off lv l + i) + j) ≠ gI s 92 j → w_M_comesTo_L14 Q 81 (nI (off lv l + acc.length)) m (nI (off lv l + (i + 1))) s := fun j hj g => ih s ⟨rfl, fun i' hi' e => by
        by_cases g2 : i' = i
        · rw [g2] at e
          rw [o5 i j hi hj, hS j hj, e] at g
          exact g rfl
        · exact hne i' (by omega) e⟩
      have e0 : gI s 98 (3 * (off lv l + i) + 0) = gI s 98 (3 * (off lv l + i)) := rfl
      unfold w_M_comesTo_L14
      rw [a1, a3, b1, b3, show (3 : Int32) = nI 3 from rfl, show (1 : Int32) = nI 1 from rfl, show (2 : Int32) = nI 2 from rfl, show (0 : Int32) = nI 0 from rfl, pk_mul, nI_add, nI_add, nI_add, ix_nI (n := 0) (by omega), ix_nI (n := 1) (by omega), ix_nI (n := 2) (by omega), ix_nI (n := 3 * (off lv l + i)) (by omega), ix_nI (n := 3 * (off lv l + i) + 1) (by omega), ix_nI (n := 3 * (off lv l + i) + 2) (by omega)]
      refine ⟨fun z => absurd z (nI_ge (by omega) (by omega)), fun _ => ⟨M_K hM1.1, b2, vp_in_nI (by omega) (by omega), a2, vp_in_nI (by omega) (by omega), fun z0 => ⟨vp_in_nI (by omega) (by omega), vp_in_nI (by omega) (by omega), fun z1 => ⟨vp_in_nI (by omega) (by omega), vp_in_nI (by omega) (by omega), fun z2 => stop (fun j hj => ?_), fun z2 => go 2 (by omega) z2⟩, fun z1 => go 1 (by omega) z1⟩, fun z0 => go 0 (by omega) z0⟩⟩
      match j, hj with
      | 0, _ => exact z0
      | 1, _ => exact z1
      | 2, _ => exact z2
