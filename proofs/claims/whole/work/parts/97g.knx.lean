/-! Masks of bits; the class is told what was seen -/
variable {h : Hp}
def bt (x : Int32) (i : Nat) : Bool := x.toBitVec.getLsbD i
theorem bt_or (x y : Int32) (i : Nat) : bt (x ||| y) i = (bt x i || bt y i) := by
  unfold bt
  rw [Int32.toBitVec_or, BitVec.getLsbD_or]
theorem bt_and (x y : Int32) (i : Nat) : bt (x &&& y) i = (bt x i && bt y i) := by
  unfold bt
  rw [Int32.toBitVec_and, BitVec.getLsbD_and]
theorem bt_m1 {i : Nat} (hi : i < 32) : bt (-1) i = true := by
  have : ∀ i, i < 32 → bt (-1) i = true := by decide
  exact this i hi
theorem bt_not {x : Int32} {i : Nat} (hi : i < 32) : bt (x ^^^ -1) i = !(bt x i) := by
  have e := bt_m1 hi
  unfold bt at e ⊢
  rw [Int32.toBitVec_xor, BitVec.getLsbD_xor, e, Bool.xor_true]
theorem bt_0 (i : Nat) : bt 0 i = false := by
  unfold bt
  show (0#32).getLsbD i = false
  exact BitVec.getLsbD_zero
theorem bt_ge {x : Int32} {i : Nat} (hi : 32 ≤ i) : bt x i = false := BitVec.getLsbD_of_ge _ _ hi
theorem bt_ex {x : Int32} (e : ∀ i, 9 ≤ i → bt x i = false) : ∃ s, s < 512 ∧ x = nI s ∧ ∀ i, s.testBit i = bt x i := by
  refine ⟨x.toBitVec.toNat, ?_, ?_, fun i => rfl⟩
  · refine Nat.lt_pow_two_of_testBit (n := 9) _ (fun i hi => ?_)
    exact e i hi
  · apply Int32.toBitVec_inj.mp
    show x.toBitVec = BitVec.ofNat 32 x.toBitVec.toNat
    rw [BitVec.ofNat_toNat, BitVec.setWidth_eq]
theorem bt_sh1_0 : ∀ i, i < 9 → ∀ k, k < 32 → bt (jshl 1 (nI i)) k = decide (k = i) := by decide +kernel
theorem bt_sh2_0 : ∀ i, i < 8 → ∀ k, k < 32 → bt (jshl 2 (nI i)) k = decide (k = i + 1) := by decide +kernel
theorem bt_sh1 {i k : Nat} (hi : i < 9) : bt (jshl 1 (nI i)) k = decide (k = i) := by
  by_cases g : k < 32
  · exact bt_sh1_0 i hi k g
  · rw [bt_ge (by omega), decide_eq_false (by omega)]
theorem bt_sh2 {i k : Nat} (hi : i < 8) : bt (jshl 2 (nI i)) k = decide (k = i + 1) := by
  by_cases g : k < 32
  · exact bt_sh2_0 i hi k g
  · rw [bt_ge (by omega), decide_eq_false (by omega)]
/-- the columns that were told -/
def CTd (g : Nat → Int32) (r n : Nat) (h : Hp) : Prop := XS h ∧ Crc h 19 r n ∧ gI h 20 = g ∧ FB g n ∧ ZB g r ∧ 81 ≤ gX h
theorem CTd_fx {g : Nat → Int32} {r n : Nat} {as js : List Nat} {h' : Hp} (a : CTd g r n h) (x : Fx as js h h') (h1 : 19 ∉ as) (h2 : 20 ∉ as) : CTd g r n h' := by
  obtain ⟨a1, a2, a3, a4, a5, a6⟩ := a
  exact ⟨fx_XS x a1, fx_Crc x (by decide) h1 a2, by rw [fx_I x h2]; exact a3, a4, a5, by rw [x.2.2.1]; exact a6⟩
/-- whether a walk of t steps leads there, a column turned about -/
def RV (g : Nat → Int32) (n t : Nat) (tg : Nat → Int32) (i : Nat) : Bool := (PL n t).any (ldP (vT g (tu i)) 0 tg)
theorem tu_m1 (i : Nat) : nI i - 1 = tu i := by
  rw [← tu_1 i, Int32.add_sub_cancel]
theorem RV_cnt {g : Nat → Int32} {n t i : Nat} {tg gn : Nat → Int32} : RV g n t tg i = decide (¬ nI (fdS 1 (vT g (tu i)) gn 0 tg [] 0 (PL n t) (0, 0, [])).1 ≤ 0) := by
  rw [fd_cnt (en := 1) (PL n t) (0, 0, []) (Nat.zero_le _)]
  unfold RV
  show _ = decide (¬ nI (min 1 (0 + ((PL n t).filter (ldP (vT g (tu i)) 0 tg)).length)) ≤ 0)
  cases e : (PL n t).any (ldP (vT g (tu i)) 0 tg) with
  | false =>
    have : (PL n t).filter (ldP (vT g (tu i)) 0 tg) = [] := by
      rw [List.filter_eq_nil_iff]
      intro p hp
      rw [List.any_eq_false] at e
      exact e p hp
    rw [this]
    rfl
  | true =>
    have : 0 < ((PL n t).filter (ldP (vT g (tu i)) 0 tg)).length := by
      rw [List.any_eq_true] at e
      obtain ⟨p, hp, e⟩ := e
      exact List.length_pos_of_mem (List.mem_filter.mpr ⟨hp, e⟩)
    rw [show min 1 (0 + ((PL n t).filter (ldP (vT g (tu i)) 0 tg)).length) = 1 from by omega]
    rfl
theorem t_Kn_tell {g : Nat → Int32} {r n s t : Nat} {d : Bool} {Q : Int32 → Hp → Prop} (c0 : CTd g r n h) (hs : gI h 71 6 = nI s) (hs2 : s ≤ 20) (ht : t ≤ 8) (hq0 : s = 20 → Q (-1) h)
    (hq : s < 20 → ∀ h' m, Fx [35, 36, 37, 38, 39, 40, 41, 71, 72, 73, 74] [] h h' → gI h' 71 6 = nI (s + 1) → gI h' 71 7 = gI h 71 7 → (∀ i, i ≤ n → bt m i = decide (b2i (RV g n t (gI h 76) i) = b2i d)) → (∀ j, gI h' 72 j = if j = s then m else gI h 72 j) → (∀ j, gI h' 73 j = if j = s then gI h 71 7 else gI h 73 j) → (∀ j, gI h' 74 j = if j = s then -1 else gI h 74 j) → Q (nI s) h') : w_Kn_tell 71 (nI t) 76 (b2i d) h Q := by
  have m0 := c0.1
  have hn := c0.2.1.2.2.2.2.2
  unfold w_Kn_tell
  rw [hs]
  refine ⟨X_k71 m0, fun z => ?_, fun z => hq0 ?_⟩
  · have s20 : s < 20 := by
      by_cases g0 : s < 20
      · exact g0
      · exact absurd z (nI_nlt (a := s) (b := 20) (by omega) (by omega))
    refine loop_0 (fun k i (x : Int32 × Hp) => w_Kn_tell_L17 Q 71 (nI t) 76 (b2i d) k x.1 (nI i) x.2) (fun i x => Fx [35, 36, 37, 38, 39, 40, 41] [] h x.2 ∧ (∀ j, j < i → bt x.1 j = decide (b2i (RV g n t (gI h 76) j) = b2i d)) ∧ ∀ j, i ≤ j → bt x.1 j = false) (n + 1) (0, h) ⟨fx_refl _ _ _, fun j hj => absurd hj (Nat.not_lt_zero _), fun j _ => bt_0 j⟩ ?_ ?_
    · rintro k ⟨mm, y⟩ ⟨x, e1, -⟩
      have x : Fx [35, 36, 37, 38, 39, 40, 41] [] h y := x
      have cy := CTd_fx c0 x (by decide) (by decide)
      have my := cy.1
      have e6 : gI y 71 6 = nI s := by rw [fx_I x (x := 71) (by decide)]; exact hs
      have e7 : gI y 71 7 = gI h 71 7 := by rw [fx_I x (x := 71) (by decide)]
      show w_Kn_tell_L17 Q 71 (nI t) 76 (b2i d) (k + 1) mm (nI (n + 1)) y
      unfold w_Kn_tell_L17
      rw [X_r71_0 my, X_r71_2 my, X_r71_3 my, X_r71_4 my, cy.2.1.2.2.1, X_n72 my, X_n73 my, X_n74 my]
      refine ⟨X_k71 my, X_k19 my, fun _ => ?_, fun z => absurd (nI_lt (by omega) (by omega)) z⟩
      have a1 : ∀ v, gI (sI y 72 s v) 71 6 = nI s := fun v => by rw [gI_sI, if_neg (fun q => absurd q.1 (by decide))]; exact e6
      have a2 : ∀ v, gI (sI y 72 s v) 71 7 = gI h 71 7 := fun v => by rw [gI_sI, if_neg (fun q => absurd q.1 (by decide))]; exact e7
      rw [e6, ix_nI (by omega), a1, a2]
      have a3 : ∀ v w, gI (sI (sI y 72 s v) 73 s w) 71 6 = nI s := fun v w => by rw [gI_sI, if_neg (fun q => absurd q.1 (by decide))]; exact a1 v
      rw [ix_nI (by omega), a3, ix_nI (by omega)]
      have a4 : ∀ v w u, gI (sI (sI (sI y 72 s v) 73 s w) 74 s u) 71 6 = nI s := fun v w u => by rw [gI_sI, if_neg (fun q => absurd q.1 (by decide))]; exact a3 v w
      rw [a4, nI_1, gI_sI (h := sI (sI (sI y 72 s mm) 73 s (gI h 71 7)) 74 s (-1)), if_pos ⟨rfl, rfl⟩, nI_s1]
      have x2 : Fx [71, 72, 73, 74] [] y (sI (sI (sI (sI y 72 s mm) 73 s (gI h 71 7)) 74 s (-1)) 71 6 (nI (s + 1))) := fx_trans (fx_trans (fx_trans (fx_sI _ _ (by simp)) (fx_sI _ _ (by simp))) (fx_sI _ _ (by simp))) (fx_sI _ _ (by simp))
      refine ⟨X_k72 my, vp_in_nI (by omega) (by omega), X_k73 my, vp_in_nI (by omega) (by omega), X_k74 my, vp_in_nI (by omega) (by omega), hq s20 _ mm (fx_trans (fx_mono x (by simp) (by simp)) (fx_mono x2 (by simp) (by simp))) ?_ ?_ (fun i hi => e1 i (by omega)) (fun j => ?_) (fun j => ?_) (fun j => ?_)⟩
      · rw [gI_sI, if_pos ⟨rfl, rfl⟩]
      · rw [gI_sI, if_neg (by decide), gI_sI, if_neg (fun q => absurd q.1 (by decide)), gI_sI, if_neg (fun q => absurd q.1 (by decide))]
        exact a2 mm
      · rw [gI_sI, if_neg (fun q => absurd q.1 (by decide)), gI_sI, if_neg (fun q => absurd q.1 (by decide)), gI_sI, if_neg (fun q => absurd q.1 (by decide)), gI_sI, fx_I x (x := 72) (by decide)]
        by_cases g0 : j = s
        · rw [if_pos ⟨rfl, g0⟩, if_pos g0]
        · rw [if_neg (fun q => g0 q.2), if_neg g0]
      · rw [gI_sI, if_neg (fun q => absurd q.1 (by decide)), gI_sI, if_neg (fun q => absurd q.1 (by decide)), gI_sI]
        by_cases g0 : j = s
        · rw [if_pos ⟨rfl, g0⟩, if_pos g0]
        · rw [if_neg (fun q => g0 q.2), if_neg g0, gI_sI, if_neg (fun q => absurd q.1 (by decide)), fx_I x (x := 73) (by decide)]
      · rw [gI_sI, if_neg (fun q => absurd q.1 (by decide)), gI_sI]
        by_cases g0 : j = s
        · rw [if_pos ⟨rfl, g0⟩, if_pos g0]
        · rw [if_neg (fun q => g0 q.2), if_neg g0, gI_sI, if_neg (fun q => absurd q.1 (by decide)), gI_sI, if_neg (fun q => absurd q.1 (by decide)), fx_I x (x := 74) (by decide)]
    · rintro k i ⟨mm, y⟩ hi ⟨x, e1, e2⟩ ih
      have x : Fx [35, 36, 37, 38, 39, 40, 41] [] h y := x
      have cy := CTd_fx c0 x (by decide) (by decide)
      have my := cy.1
      show w_Kn_tell_L17 Q 71 (nI t) 76 (b2i d) (k + 1) mm (nI i) y
      unfold w_Kn_tell_L17
      rw [X_r71_0 my, X_r71_1 my, cy.2.1.2.2.1, tu_m1]
      refine ⟨X_k71 my, X_k19 my, fun z => absurd z (nI_nlt (by omega) (by omega)), fun _ => ⟨X_k35 my, t_Ps_run (tg := gI h 76) (en := 1) my (CO_19 my) cy.2.1.2.2.1 hn (Or.inl rfl) cy.2.2.1 cy.2.2.2.1 cy.2.2.2.2.2 (by omega) (by omega) (by omega) ⟨X_k76 my, X_n76 my, by decide⟩ (fun j _ => by rw [fx_I x (x := 76) (by decide)]) (fun y2 x2 sp => ?_)⟩⟩
      have my2 := fx_XS x2 my
      have rv := RV_cnt (g := g) (n := n) (t := t) (i := i) (tg := gI h 76) (gn := fun c => g (24 + c))
      rw [X_r71_1 my2, sp.2.1]
      have step : ∀ v : Int32, v = b2i (RV g n t (gI h 76) i) → w_Kn_tell_B62 Q (w_Kn_tell_L17 Q 71 (nI t) 76 (b2i d) k) 71 (nI t) 76 (b2i d) mm (nI i) v y2 := by
        intro v ev
        unfold w_Kn_tell_B62
        rw [ev, nI_1]
        refine ⟨fun z => ih (mm ||| jshl 1 (nI i), y2) ⟨fx_trans x x2, fun j hj => ?_, fun j hj => ?_⟩, fun z => ih (mm, y2) ⟨fx_trans x x2, fun j hj => ?_, fun j hj => ?_⟩⟩
        · show bt (mm ||| jshl 1 (nI i)) j = _
          rw [bt_or, bt_sh1 (by omega)]
          by_cases g0 : j = i
          · subst g0
            rw [decide_eq_true rfl, Bool.or_true, decide_eq_true z]
          · rw [decide_eq_false g0, Bool.or_false]
            exact e1 j (by omega)
        · show bt (mm ||| jshl 1 (nI i)) j = _
          rw [bt_or, bt_sh1 (by omega), decide_eq_false (by omega), Bool.or_false]
          exact e2 j (by omega)
        · by_cases g0 : j = i
          · subst g0
            rw [decide_eq_false z]
            exact e2 j (Nat.le_refl _)
          · exact e1 j (by omega)
        · exact e2 j (by omega)
      refine ⟨X_k71 my2, X_k35 my2, fun z => step 0 ?_, fun z => step 1 ?_⟩
      · rw [rv, decide_eq_false (fun q => q z)]
        rfl
      · rw [rv, decide_eq_true z]
        rfl
  · by_cases g0 : s < 20
    · exact absurd (nI_lt (a := s) (b := 20) g0 (by omega)) z
    · omega
