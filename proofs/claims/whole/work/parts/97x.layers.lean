/-! The class's strip: a layer is left, cleared; the first one -/
variable {h : Hp}
theorem TI_fx {f : Nat → Int32} {r n t w k ρ a : Nat} {D : Nat → Nat → Bool} {acc : List Nat} {h' : Hp} (o : TI f r n t w k ρ a D acc h) (e1 : gI h' (a + 1) = gI h (a + 1)) (e2 : gI h' (a + 2) = gI h (a + 2)) (e3 : gL h' a = gL h a) (e4 : gL h' (a + 3) = gL h (a + 3)) : TI f r n t w k ρ a D acc h' := by
  unfold TI chP at o ⊢
  rw [e1, e2, e3, e4]
  exact o
theorem LF_45 {k ρ a j : Nat} {v : Int32} (ha : a = 46 ∨ 120 ≤ a) : LF k ρ a h (sI h 45 j v) := by
  refine ⟨fx_sI _ _ (by simp), fun y _ => ⟨rfl, ?_, ?_⟩, fun p _ => rfl⟩
  · rw [gI_sI, if_neg (fun q => absurd q.1 (by omega))]
  · rw [gI_sI, if_neg (fun q => absurd q.1 (by omega))]
theorem jr_nI {a b : Nat} (ha : a < 2 ^ 31) (h0 : 0 < b) (hb : b < 2 ^ 31) : jrem (nI a) (nI b) = nI (a % b) := by
  unfold jrem
  rw [pk_rem ha h0 hb]
theorem nI_ned {a : Nat} (h0 : 0 < a) (ha : a < 2 ^ 31) : ¬ nI a = 0 := fun q => by
  have := (nI_eq (b := 0) ha (by omega)).mp q
  omega
set_option maxHeartbeats 2000000 in
theorem t_St_spread {f : Nat → Int32} {r n t w k ρ a : Nat} {Q : Int32 → Hp → Prop} (c0 : CN f r n h) (rm : RM ρ a h) (hρ1 : ρ ≤ 15625) (hρ : 25 ^ r ≤ ρ) (ht : t ≤ 12) (hw : w ≤ 12) (hk : k < t) (sb : SB f r t w h) (si : SI f r n t w k ρ a h) (cn : ∀ y, y < ρ → gL h a ((k + 1) % 2 * ρ + y) = 0)
    (hq : ∀ h', LF k ρ a h h' → TI f r n t w k ρ a (Dn f r (lay f r n t w k) (lay f r n t w k).length 0) (lay f r n t w (k + 1)) h' → Q (nI (lay f r n t w (k + 1)).length) h') : w_St_spread 42 (nI k) (nI (lay f r n t w k).length) h Q := by
  have m := c0.1
  have hn := c0.2.1.2.2.2.2.2
  have hr1 := c0.2.1.2.2.2.1
  have hr := c0.2.1.2.2.2.2.1
  have hF := c0.2.2.2.1
  have hN := c0.2.2.2.2.1
  have ha := rm.2.2.2.2
  have e6 := rm.2.2.2.1
  have okl := kOK_lay (t := t) (w := w) (r := r) hF k (by omega)
  have lin := fun s hs => lay_inB (n := n) hr hF hN ht hw k (by omega) s hs
  have lcl : ∀ s, s ∈ (lay f r n t w k) → cl f r t w k (Zk s) < ρ := fun s hs => Nat.lt_of_lt_of_le (cl_lt hw hr1 hr (lin s hs)) hρ
  have llen : (lay f r n t w k).length ≤ ρ := cl_len hr1 hr hw hρ okl lin
  have d1 := dmS_le (w := w) (r := r) (q := 1) hw
  have d2 := dmS_le (w := w) (r := r) (q := 2) hw
  unfold w_St_spread w_St_layer
  rw [and1n k (by omega)]
  dsimp only
  rw [e6, show (3 : Int32) = nI 3 from rfl, pk_mul (k % 2) ρ, pk_mul k 3, sb.1, sb.2.1]
  refine ⟨X_k42 m, fun z => absurd z (Int32.not_lt.mpr (nI_le (a := 1) d1.1 (by omega))), fun _ => ⟨fun _ => ⟨X_k42 m, ?_⟩, fun z => absurd (nI_le (a := 1) d2.1 (by omega)) z⟩⟩
  refine loop_0 (fun q i st => w_St_spread_L39 Q 42 (nI k) (nI (lay f r n t w k).length) (nI (k % 2 * ρ)) (nI (k * 3)) q (nI (nxI f r n t w (k + 1) (lay f r n t w k) i).length) (nI i) st) (fun i st => LF k ρ a h st ∧ TI f r n t w k ρ a (Dn f r (lay f r n t w k) i 0) (nxI f r n t w (k + 1) (lay f r n t w k) i) st) (lay f r n t w k).length h ⟨LF_refl, ⟨fun i hi => absurd hi (Nat.not_lt_zero _), fun x hx => absurd hx List.not_mem_nil, fun y hy _ => cn y hy⟩⟩ ?_ ?_
  · rintro q st ⟨x, e⟩
    unfold w_St_spread_L39
    exact ⟨fun _ => hq st x e, fun z => absurd (Int32.le_refl _) z⟩
  · rintro q i st hi ⟨x, e⟩ ih
    have cs := CN_LF c0 ha x
    have ms := cs.1
    have rms := RM_LF rm x
    have sbs := SB_LF sb ha x
    have sis := SI_LF si x llen lcl
    have hs := getD_mem (d := 0) hi
    have ib := lin _ hs
    have hc := lcl _ hs
    have hl := half_lt (k := k) (ρ := ρ) (x := i) (by omega)
    obtain ⟨c2, c1, c0'⟩ := cl_dec ib
    have ks : isKy f r n k ((lay f r n t w k).getD i 0) := okl.2 _ hs
    have n42 : ∀ (s : Hp) (k : Nat) (v : Int32) (j : Nat), gI (sI s 45 k v) 42 j = gI s 42 j := fun s k v j => by rw [gI_sI, if_neg (fun q => absurd q.1 (by decide))]
    have n43 : ∀ (s : Hp) (k : Nat) (v : Int32) (j : Nat), gI (sI s 45 k v) 43 j = gI s 43 j := fun s k v j => by rw [gI_sI, if_neg (fun q => absurd q.1 (by decide))]
    unfold w_St_spread_L39
    rw [rms.1.2.2.1, X_r42_1 ms, X_r42_3 ms, rms.2.1.2.2.1, rms.2.2.1.2.2.1, X_n43 ms, X_n45 ms]
    simp only [n42, n43]
    rw [sbs.1, sbs.2.1, nI_add (k % 2 * ρ) i, ix_nI (n := k % 2 * ρ + i) (by omega), sis.1 i hi, nI_1 (k * 3), show nI (k * 3) + 2 = nI (k * 3 + 2) from nI_add _ 2, ix_nI (n := k * 3) (by omega), ix_nI (n := k * 3 + 1) (by omega), ix_nI (n := k * 3 + 2) (by omega), show ix (0 : Int32) = 0 from rfl, show ix (1 : Int32) = 1 from rfl, show ix (2 : Int32) = 2 from rfl, jr_nI (a := cl f r t w k (Zk ((lay f r n t w k).getD i 0))) (by omega) (by omega) (by omega), pk_div (a := cl f r t w k (Zk ((lay f r n t w k).getD i 0))) (by omega) (by omega) (by omega), c2]
    have dl : cl f r t w k (Zk ((lay f r n t w k).getD i 0)) / dmS w r 2 < 2 ^ 31 := Nat.lt_of_le_of_lt (Nat.div_le_self _ _) (by omega)
    rw [jr_nI dl (by omega) (by omega), pk_div dl (by omega) (by omega), c1, c0']
    have z1 : ¬ nI (dmS w r 1) = 0 := nI_ned (by omega) (by omega)
    have z2 : ¬ nI (dmS w r 2) = 0 := nI_ned (by omega) (by omega)
    refine ⟨fun z => absurd z (nI_ge hi (by omega)), fun _ => ⟨X_k42 ms, trivial, vp_in_nI hl (by omega), z2, X_k43 ms, vp_in_nI (by omega) (by omega), X_k45 ms, vp_in_nI (n := 2) (by omega) (by omega), z2, z1, vp_in_nI (by omega) (by omega), vp_in_nI (n := 1) (by omega) (by omega), z2, z1, vp_in_nI (by omega) (by omega), vp_in_nI (n := 0) (by omega) (by omega), ?_⟩⟩
    have vI : ∀ j A, j < 3 → A = 3 * k + j → (nI (xs f r t w k (Zk ((lay f r n t w k).getD i 0)) j) + gI st 43 A).toInt = Zk ((lay f r n t w k).getD i 0) j := fun j A hj ea => by
      have b1 := lb_bd (r := r) (t := t) (w := w) (k := k) hN (by omega) hw hj
      have b2 := isKy_bd hF (show k ≤ 12 by omega) ks hj
      have b3 := (sbs.2.2 k j (by omega) hj).1
      have b4 := ib j hj
      have b5 : (nI (xs f r t w k (Zk ((lay f r n t w k).getD i 0)) j)).toInt = Zk ((lay f r n t w k).getD i 0) j - lb f r t w k j := by
        rw [nI_toInt (by unfold xs; omega)]
        unfold xs
        omega
      rw [ea, Jvm.Kit.i32_add (by rw [b5, b3]; omega) (by rw [b5, b3]; omega), b5, b3]
      omega
    have v0 := vI 0 (k * 3) (by omega) (by omega)
    have v1 := vI 1 (k * 3 + 1) (by omega) (by omega)
    have v2 := vI 2 (k * 3 + 2) (by omega) (by omega)
    generalize nI (xs f r t w k (Zk ((lay f r n t w k).getD i 0)) 0) + gI st 43 (k * 3) = A0 at v0 ⊢
    generalize nI (xs f r t w k (Zk ((lay f r n t w k).getD i 0)) 1) + gI st 43 (k * 3 + 1) = A1 at v1 ⊢
    generalize nI (xs f r t w k (Zk ((lay f r n t w k).getD i 0)) 2) + gI st 43 (k * 3 + 2) = A2 at v2 ⊢
    have x3 : LF k ρ a st (sI (sI (sI st 45 2 A2) 45 1 A1) 45 0 A0) := LF_trans (LF_45 ha) (LF_trans (LF_45 ha) (LF_45 ha))
    have at3 : AtZ (Zk ((lay f r n t w k).getD i 0)) (sI (sI (sI st 45 2 A2) 45 1 A1) 45 0 A0) := fun j hj => by
      match j, hj with
      | 0, _ => rw [gI_sI, if_pos ⟨rfl, rfl⟩]; exact v0
      | 1, _ => rw [gI_sI, if_neg (by decide), gI_sI, if_pos ⟨rfl, rfl⟩]; exact v1
      | 2, _ => rw [gI_sI, if_neg (by decide), gI_sI, if_neg (by decide), gI_sI, if_pos ⟨rfl, rfl⟩]; exact v2
    have e3 : TI f r n t w k ρ a (Dn f r (lay f r n t w k) i 0) (nxI f r n t w (k + 1) (lay f r n t w k) i) (sI (sI (sI st 45 2 A2) 45 1 A1) 45 0 A0) := by
      refine TI_fx e ?_ ?_ rfl rfl
      · funext y
        rw [gI_sI, if_neg (fun q => absurd q.1 (by omega)), gI_sI, if_neg (fun q => absurd q.1 (by omega)), gI_sI, if_neg (fun q => absurd q.1 (by omega))]
      · funext y
        rw [gI_sI, if_neg (fun q => absurd q.1 (by omega)), gI_sI, if_neg (fun q => absurd q.1 (by omega)), gI_sI, if_neg (fun q => absurd q.1 (by omega))]
    generalize sI (sI (sI st 45 2 A2) 45 1 A1) 45 0 A0 = h3 at x3 at3 e3 ⊢
    rw [nI_add (k % 2 * ρ), nI_1 k, nI_1 i]
    exact t_St_leave (CN_LF cs ha x3) (RM_LF rms x3) hρ1 hρ ht hw hk (SB_LF sbs ha x3) (SI_LF sis x3 llen lcl) hi at3 e3 (fun h' x4 e4 => ih h' ⟨LF_trans x (LF_trans x3 x4), e4⟩)
theorem t_St_clear {k ρ a N : Nat} {C : Nat → Nat} {Q : Hp → Prop} (m : XS h) (rm : RM ρ a h) (hρ1 : ρ ≤ 15625) (hk : k ≤ 12) (hN : N ≤ ρ) (l1 : ∀ i, i < N → gI h (a + 2) (k % 2 * ρ + i) = nI (C i)) (hC : ∀ i, i < N → C i < ρ) (z0 : ∀ y, y < ρ → (∀ i, i < N → C i ≠ y) → gL h a (k % 2 * ρ + y) = 0) (hq : ∀ h', Fx [] [a] h h' → (∀ y, y < ρ → gL h' a (k % 2 * ρ + y) = 0) → (∀ y, y < ρ → gL h' a ((k + 1) % 2 * ρ + y) = gL h a ((k + 1) % 2 * ρ + y)) → Q h') : w_St_clear 42 (nI k) (nI N) h Q := by
  have e6 := rm.2.2.2.1
  unfold w_St_clear w_St_layer
  rw [and1n k (by omega)]
  dsimp only
  rw [e6, pk_mul (k % 2) ρ]
  refine ⟨X_k42 m, ?_⟩
  refine loop_0 (fun q i st => w_St_clear_L13 Q 42 (nI N) (nI (k % 2 * ρ)) q (nI i) st) (fun i st => Fx [] [a] h st ∧ (∀ y, (∀ i', i' < i → k % 2 * ρ + C i' ≠ y) → gL st a y = gL h a y) ∧ ∀ i', i' < i → gL st a (k % 2 * ρ + C i') = 0) N h ⟨fx_refl _ _ _, fun _ _ => rfl, fun i hi => absurd hi (Nat.not_lt_zero _)⟩ ?_ ?_
  · rintro q st ⟨x, e1, e2⟩
    unfold w_St_clear_L13
    refine ⟨fun _ => hq st x (fun y hy => ?_) (fun y hy => e1 _ (fun i hi => (half_ne hy (hC i hi)))), fun z => absurd (Int32.le_refl _) z⟩
    by_cases g : ∃ i, i < N ∧ C i = y
    · obtain ⟨i, hi, rfl⟩ := g
      exact e2 i hi
    · rw [e1 _ (fun i hi q => g ⟨i, hi, by omega⟩)]
      exact z0 y hy (fun i hi q => g ⟨i, hi, q⟩)
  · rintro q i st hi ⟨x, e1, e2⟩ ih
    have ms := fx_XS x m
    have rms := RM_fx rm x (by rw [fx_I x (by simp)])
    have hl := half_lt (k := k) (ρ := ρ) (x := i) (by omega)
    have hl2 := half_lt (k := k) (ρ := ρ) (x := C i) (hC i hi)
    unfold w_St_clear_L13
    rw [rms.1.1, rms.1.2.2.1, rms.2.1.1, rms.2.1.2.2.1, rms.2.2.1.1, rms.2.2.1.2.2.1, nI_add (k % 2 * ρ) i, ix_nI (n := k % 2 * ρ + i) (by omega), fx_I x (x := a + 2) (by simp), l1 i hi, nI_add (k % 2 * ρ) (C i), ix_nI (n := k % 2 * ρ + C i) (by omega), nI_1 i]
    refine ⟨fun z => absurd z (nI_ge hi (by omega)), fun _ => ⟨X_k42 ms, rfl, vp_in_nI hl (by omega), rfl, vp_in_nI hl2 (by omega), ih _ ⟨fx_trans x (fx_sL _ _ (by simp)), fun y hy => ?_, fun i' hi' => ?_⟩⟩⟩
    · rw [gL_sL, if_neg (fun q => hy i (by omega) q.2.symm)]
      exact e1 y (fun i' hi' => hy i' (by omega))
    · rw [gL_sL]
      by_cases g : k % 2 * ρ + C i' = k % 2 * ρ + C i
      · rw [if_pos ⟨rfl, g⟩]
      · rw [if_neg (fun q => g q.2)]
        exact e2 i' (by
          have : i' ≠ i := fun q => g (by rw [q])
          omega)
theorem Zk_00 : Zk (kNo 60 60 60) = fun _ => 0 := funext Zk_0
theorem t_St_start {f : Nat → Int32} {r n t w ρ a : Nat} {Q : Int32 → Hp → Prop} (c0 : CN f r n h) (rm : RM ρ a h) (hρ1 : ρ ≤ 15625) (hρ : 25 ^ r ≤ ρ) (ht : t ≤ 12) (hw : w ≤ 12) (sb : SB f r t w h) (cn : ∀ y, y < 2 * ρ → gL h a y = 0)
    (hq : ∀ h', Fx [45, a + 1, a + 2] [a] h h' → SI f r n t w 0 ρ a h' → (∀ y, y < ρ → gL h' a ((0 + 1) % 2 * ρ + y) = 0) → Q (nI (lay f r n t w 0).length) h') : w_St_start 42 h Q := by
  have m := c0.1
  have hr1 := c0.2.1.2.2.2.1
  have hr := c0.2.1.2.2.2.2.1
  have hF := c0.2.2.2.1
  have hN := c0.2.2.2.2.1
  have ha := rm.2.2.2.2
  have l0 : lay f r n t w 0 = [kNo 60 60 60] := rfl
  have ib := lay_inB (n := n) hr hF hN ht hw 0 (by omega) (kNo 60 60 60) (by rw [l0]; exact List.mem_singleton.mpr rfl)
  have hc := Nat.lt_of_lt_of_le (cl_lt hw hr1 hr ib) hρ
  unfold w_St_start
  rw [X_r42_3 m]
  have x2 : Fx [45, a + 1, a + 2] [a] h (sA h 45 (fl (gI h 45) 3 0)) := fx_sA _ _ (by simp)
  have at2 : AtZ (Zk (kNo 60 60 60)) (sA h 45 (fl (gI h 45) 3 0)) := fun j hj => by
    rw [gI_sA, if_pos rfl, Zk_0]
    unfold fl
    rw [if_pos hj]
    rfl
  have sb2 : SB f r t w (sA h 45 (fl (gI h 45) 3 0)) := SB_eq sb (by rw [gI_sA, if_neg (by decide)]) (by rw [gI_sA, if_neg (by decide)]) (by funext y; rw [gI_sA, if_neg (by decide)]) (by funext y; rw [gI_sA, if_neg (by decide)])
  refine ⟨X_k42 m, t_fill (X_k45 m) (X_n45 m) (by omega) ?_⟩
  have m2 := fx_XS x2 m
  have cn2 : ∀ y, y < 2 * ρ → gL (sA h 45 (fl (gI h 45) 3 0)) a y = 0 := cn
  have rm2 : RM ρ a (sA h 45 (fl (gI h 45) 3 0)) := RM_fx rm x2 (by rw [gI_sA, if_neg (by decide)])
  generalize sA h 45 (fl (gI h 45) 3 0) = h2 at x2 at2 sb2 m2 rm2 cn2 ⊢
  refine ⟨X_k42 m2, t_St_cellOf (k := 0) m2 hN ht hw sb2 (by omega) at2 (fun j hj => by rw [Zk_0]; decide) (fun g => absurd ib g) (fun _ => ⟨fun _ => ⟨X_k42 m2, ?_⟩, fun z => absurd (nI_le (a := 0) (Nat.zero_le _) (by omega)) z⟩)⟩
  rw [rm2.1.1, rm2.1.2.1, rm2.1.2.2.1, rm2.2.1.1, rm2.2.1.2.1, rm2.2.1.2.2.1, rm2.2.2.1.1, rm2.2.2.1.2.1, rm2.2.2.1.2.2.1, ix_nI (by omega), show ix (0 : Int32) = 0 from rfl]
  refine ⟨rfl, vp_in_nI (by omega) (by omega), rfl, vp_in_nI (by omega) (by omega), rfl, vp_in_nI (n := 0) (by omega) (by omega), hq _ (fx_trans x2 (fx_trans (fx_sL _ _ (by simp)) (fx_trans (fx_sI _ _ (by simp)) (fx_sI _ _ (by simp))))) ⟨fun i hi => ?_, fun s hs => ?_, fun y hy ny => ?_⟩ (fun y hy => ?_)⟩
  · rw [l0] at hi ⊢
    have : i = 0 := by
      simp at hi
      exact hi
    subst this
    rw [gI_sI, if_pos ⟨rfl, by simp⟩]
    rfl
  · rw [l0, List.mem_singleton] at hs
    subst hs
    rw [gL_sI, gL_sI, gL_sL, if_pos ⟨rfl, by simp⟩, gI_sI, if_neg (fun q => absurd q.1 (by omega)), gI_sI, if_pos ⟨rfl, by simp⟩, Zk_00, Vk_00.1, Vk_00.2]
    exact ⟨rfl, rfl⟩
  · rw [l0] at ny
    have ne := ny _ (List.mem_singleton.mpr rfl)
    rw [gL_sI, gL_sI, gL_sL, if_neg (fun q => ne (by have := q.2; simp at this; exact this.symm)), show 0 % 2 * ρ + y = y from by simp]
    exact cn2 y (by omega)
  · rw [gL_sI, gL_sI, gL_sL, if_neg (fun q => by have := q.2; rw [show (0 + 1) % 2 * ρ = ρ from by simp] at this; omega), show (0 + 1) % 2 * ρ = ρ from by simp]
    exact cn2 _ (by omega)
