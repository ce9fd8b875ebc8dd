/-! The class's face: bytes fed, a text read, images -/
variable {h : Hp}
theorem by_32 : ∀ i, i < 32 → (255 : Int32).toBitVec.getLsbD i = decide (i < 8) := by decide
theorem sh_b {x : Int32} {s : Nat} (hs : s = 0 ∨ s = 8 ∨ s = 16 ∨ s = 24) : jshr x (nI s) &&& 255 = jushr x (nI s) &&& 255 := by
  have e1 : ((nI s &&& 31).toBitVec.smod 32).toNat = s := by rcases hs with rfl | rfl | rfl | rfl <;> decide
  have e2 : (((nI s).toUInt32 &&& Int32.toUInt32 31).toBitVec % 32#32).toNat = s := by rcases hs with rfl | rfl | rfl | rfl <;> decide
  have hs24 : s ≤ 24 := by omega
  apply Int32.toBitVec_inj.mp
  apply BitVec.eq_of_getLsbD_eq
  intro i hi
  rw [Int32.toBitVec_and, Int32.toBitVec_and, BitVec.getLsbD_and, BitVec.getLsbD_and, by_32 i hi]
  by_cases g : i < 8
  · rw [decide_eq_true g, Bool.and_true, Bool.and_true]
    unfold jshr jushr
    rw [Int32.toBitVec_shiftRight, BitVec.sshiftRight_eq', e1, BitVec.getLsbD_sshiftRight]
    show _ = (x.toUInt32 >>> ((nI s).toUInt32 &&& Int32.toUInt32 31)).toBitVec.getLsbD i
    rw [UInt32.toBitVec_shiftRight, BitVec.ushiftRight_eq', show (32 : BitVec 32) = 32#32 from rfl, e2, BitVec.getLsbD_ushiftRight, decide_eq_false (show ¬ 32 ≤ i by omega), if_pos (show s + i < 32 by omega)]
    rfl
  · rw [decide_eq_false g, Bool.and_false, Bool.and_false]
theorem b255 (x : Int32) : 0 ≤ x &&& 255 := by
  have h1 : (x &&& 255).toBitVec.toNat ≤ 255 := by
    rw [Int32.toBitVec_and, BitVec.toNat_and]
    exact Nat.and_le_right
  have e : (x &&& 255).toInt = ((x &&& 255).toBitVec.toNat : Int) := by
    show (x &&& 255).toBitVec.toInt = _
    rw [BitVec.toInt_eq_toNat_of_lt (by omega)]
  rw [Int32.le_iff_toInt_le, e]
  show (0 : Int) ≤ _
  omega
theorem fd4_nn {B : Nat → Int32} {N : Nat} {v : Int32} (hB : ∀ i, i < N → 0 ≤ B i) : ∀ i, i < N + 4 → 0 ≤ fd4 B N v i := fun i hi => by
  unfold fd4
  by_cases g0 : i = N
  · rw [if_pos g0]; exact b255 _
  · rw [if_neg g0]
    by_cases g1 : i = N + 1
    · rw [if_pos g1]; exact b255 _
    · rw [if_neg g1]
      by_cases g2 : i = N + 2
      · rw [if_pos g2]; exact b255 _
      · rw [if_neg g2]
        by_cases g3 : i = N + 3
        · rw [if_pos g3]; exact b255 _
        · rw [if_neg g3]; exact hB i (by omega)
theorem fd20_nn {B : Nat → Int32} {N : Nat} {a b c d e : Int32} (hB : ∀ i, i < N → 0 ≤ B i) : ∀ i, i < N + 20 → 0 ≤ fd20 B N a b c d e i := fd4_nn (fd4_nn (fd4_nn (fd4_nn (fd4_nn hB))))
theorem t_Tp_put {B : Nat → Int32} {N : Nat} {v : Int32} {Q : Hp → Prop} (m : XS h) (h1 : gI h 17 1 = nI N) (hN : N + 4 ≤ 700) (hB : ∀ i, i < N → gI h 18 i = B i) (hq : ∀ h', Fx [17, 18] [] h h' → gI h' 17 1 = nI (N + 4) → (∀ i, i < N + 4 → gI h' 18 i = fd4 B N v i) → Q h') : w_Tp_put 17 v h Q := by
  have st : ∀ (q n s : Nat) (s' : Int32) (st : Hp), (s = 0 ∨ s = 8 ∨ s = 16 ∨ s = 24) → Fx [17, 18] [] h st → gI st 17 1 = nI n → n < 700 → (∀ s2, Fx [17, 18] [] h s2 → gI s2 17 1 = nI (n + 1) → (∀ i, gI s2 18 i = if i = n then jshr v (nI s) &&& 255 else gI st 18 i) → w_Tp_put_L3 Q 17 v q (nI s + (-8)) s2) → w_Tp_put_L3 Q 17 v (q + 1) (nI s) st := by
    intro q n s _ st hs x e hn ih
    have ms := fx_XS x m
    unfold w_Tp_put_L3
    rw [e, X_r17_0 ms, X_n18 ms, ix_nI (by omega), gI_sI, if_neg (fun y => absurd y.1 (by decide)), e, nI_1, ← sh_b hs]
    refine ⟨fun z => absurd z (nI_nlt (b := 0) (Nat.zero_le _) (by omega)), fun _ => ⟨X_k17 ms, fun z => absurd z (nI_ge (b := 700) hn (by omega)), fun _ => ⟨X_k18 ms, vp_in_nI (by omega) (by omega), ih _ (fx_trans x (fx_trans (fx_sI _ _ (by simp)) (fx_sI _ _ (by simp)))) ?_ (fun i => ?_)⟩⟩⟩
    · rw [gI_sI, if_pos ⟨rfl, rfl⟩]
    · rw [gI_sI, if_neg (fun y => absurd y.1 (by decide)), gI_sI]
      by_cases g : i = n
      · rw [if_pos ⟨rfl, g⟩, if_pos g]
      · rw [if_neg (fun y => g y.2), if_neg g]
  unfold w_Tp_put
  refine ⟨5, st 4 N 24 0 h (by omega) (fx_refl _ _ _) h1 (by omega) (fun s1 f1 e1 g1 => ?_)⟩
  refine st 3 (N + 1) 16 0 s1 (by omega) f1 e1 (by omega) (fun s2 f2 e2 g2 => ?_)
  refine st 2 (N + 2) 8 0 s2 (by omega) f2 e2 (by omega) (fun s3 f3 e3 g3 => ?_)
  refine st 1 (N + 3) 0 0 s3 (by omega) f3 e3 (by omega) (fun s4 f4 e4 g4 => ?_)
  unfold w_Tp_put_L3
  refine ⟨fun _ => hq s4 f4 e4 (fun i hi => ?_), fun z => absurd (by decide) z⟩
  rw [g4, g3, g2, g1]
  unfold fd4
  by_cases i0 : i = N
  · rw [if_neg (by omega), if_neg (by omega), if_neg (by omega), if_pos i0, if_pos i0]
    rfl
  · rw [if_neg i0, if_neg i0]
    by_cases i1 : i = N + 1
    · rw [if_neg (by omega), if_neg (by omega), if_pos i1, if_pos i1]
      rfl
    · rw [if_neg i1, if_neg i1]
      by_cases i2 : i = N + 2
      · rw [if_neg (by omega), if_pos i2, if_pos i2]
        rfl
      · rw [if_neg i2, if_neg i2]
        by_cases i3 : i = N + 3
        · rw [if_pos i3, if_pos i3]
          rfl
        · rw [if_neg i3, if_neg i3]
          exact hB i (by omega)
theorem t_X_feed {B : Nat → Int32} {N : Nat} {a b c d e : Int32} {Q : Int32 → Hp → Prop} (m : XS h) (h1 : gI h 17 1 = nI N) (hN : N ≤ 700) (hB : ∀ i, i < N → gI h 18 i = B i) (hq0 : 700 < N + 20 → Q (-1) h) (hq : ∀ h', N + 20 ≤ 700 → Fx [17, 18] [] h h' → gI h' 17 1 = nI (N + 20) → (∀ i, i < N + 20 → gI h' 18 i = fd20 B N a b c d e i) → Q (nI (N + 20)) h') : w_X_feed 16 a b c d e h Q := by
  unfold w_X_feed
  rw [X_r16_0 m, h1, show (20 : Int32) = nI 20 from rfl, nI_add]
  refine ⟨X_k16 m, X_k17 m, fun z => ?_, fun z => hq0 (Nat.lt_of_not_le (fun g => z (nI_le (b := 700) g (by omega))))⟩
  have hl := (nI_leI (b := 700) (by omega) (by omega)).mp z
  refine t_Tp_put m h1 (by omega) hB (fun s1 f1 e1 g1 => ?_)
  have m1 := fx_XS f1 m
  rw [X_r16_0 m1]
  refine ⟨X_k16 m1, X_k17 m1, t_Tp_put m1 e1 (by omega) g1 (fun s2 f2 e2 g2 => ?_)⟩
  have f12 := fx_trans f1 f2
  have m2 := fx_XS f12 m
  rw [X_r16_0 m2]
  refine ⟨X_k16 m2, X_k17 m2, t_Tp_put m2 e2 (by omega) g2 (fun s3 f3 e3 g3 => ?_)⟩
  have f13 := fx_trans f12 f3
  have m3 := fx_XS f13 m
  rw [X_r16_0 m3]
  refine ⟨X_k16 m3, X_k17 m3, t_Tp_put m3 e3 (by omega) g3 (fun s4 f4 e4 g4 => ?_)⟩
  have f14 := fx_trans f13 f4
  have m4 := fx_XS f14 m
  rw [X_r16_0 m4]
  refine ⟨X_k16 m4, X_k17 m4, t_Tp_put m4 e4 (by omega) g4 (fun s5 f5 e5 g5 => ?_)⟩
  have f15 := fx_trans f14 f5
  have m5 := fx_XS f15 m
  rw [X_r16_0 m5, e5]
  exact ⟨X_k16 m5, X_k17 m5, hq s5 (by omega) f15 e5 g5⟩
theorem t_X_end {N : Nat} {v : Int32} {Q : Int32 → Hp → Prop} (m : XS h) (h1 : gI h 17 1 = nI N) (hN : N ≤ 700) (hq0 : (decide (0 ≤ v) && decide (v ≤ nI N)) = false → Q (-1) h) (hq : ∀ n, n ≤ N → v = nI n → Q v (sI h 17 1 v)) : w_X_end 16 v h Q := by
  unfold w_X_end
  rw [X_r16_0 m, h1]
  refine ⟨fun z => hq0 (by rw [decide_eq_false (p := 0 ≤ v) (Int32.not_le.mpr z)]; rfl), fun z => ⟨X_k16 m, X_k17 m, fun z2 => ?_, fun z2 => hq0 (by rw [decide_eq_false z2, Bool.and_false])⟩⟩
  obtain ⟨n, hn, e⟩ := nI_of2 (M := nI N) (n := N) (nI_toInt (by omega)) z z2
  exact hq n hn e
/-- what the class tells about itself -/
def abx (f : Nat → Int32) (h : Hp) (r n : Nat) (v : Int32) : Int32 := match v.toInt with
  | 0 => nI r
  | 1 => nI n
  | 2 => f 35
  | 3 => mx (fun i => ab (f i)) (3 * n)
  | 4 => gI h 30 5
  | 5 => gI h 30 6
  | 6 => gI h 71 6
  | 7 => gI h 71 7
  | 8 => gI h 17 1
  | _ => -1
theorem t_X_about {f : Nat → Int32} {r n : Nat} {v : Int32} {Q : Int32 → Hp → Prop} (c0 : CN f r n h) (hq : Q (abx f h r n v) h) : w_X_about 16 v h Q := by
  have m := c0.1
  have e22 : gI h (21 + 1) = f := c0.2.2.1
  unfold abx at hq
  unfold w_X_about
  rw [X_r16_2 m, X_r16_6 m, X_r16_13 m, X_r16_0 m, show gI h 21 1 = nI r from c0.2.1.2.1, show gI h 21 2 = nI n from c0.2.1.2.2.1]
  refine ⟨fun z => ?_, fun z => ⟨X_k16 m, X_k21 m, ?_⟩, fun z => ⟨X_k16 m, X_k21 m, ?_⟩, fun z => ⟨X_k16 m, X_k21 m, t_Co_steps (CO_21 m) ?_⟩, fun z => ⟨X_k16 m, X_k21 m, t_Co_greatestNumber c0.2.1 ?_⟩, fun z => ⟨X_k16 m, X_k30 m, ?_⟩, fun z => ⟨X_k16 m, X_k30 m, ?_⟩, fun z => ⟨X_k16 m, X_k71 m, ?_⟩, fun z => ⟨X_k16 m, X_k71 m, ?_⟩, fun z => ⟨X_k16 m, X_k17 m, ?_⟩⟩
  · split at hq <;> first | exact hq | (exfalso; omega)
  · rw [z] at hq; exact hq
  · rw [z] at hq; exact hq
  · rw [z] at hq; rw [e22]; exact hq
  · rw [z] at hq; rw [e22]; exact hq
  all_goals (rw [z] at hq; exact hq)
theorem mx_gr {f : Nat → Int32} {r n : Nat} (hr : r ≤ 3) (hn : n ≤ 8) (hZ : ZB f r) : mx (fun i => ab (f i)) (3 * n) = grC f r n := by
  have z0 : ∀ c j, r ≤ j → j < 3 → c < 8 → f (3 * c + j) = 0 := fun c j h1 h2 h3 => (hZ j h1 h2).2 c h3
  have it : ∀ (c : Nat) (s : Int32), 0 ≤ s → c < 8 → ∀ k, k ≤ 3 → gt (gt (gt s (if 0 < k then ab (f (3 * c + 0)) else 0)) (if 1 < k then ab (f (3 * c + 1)) else 0)) (if 2 < k then ab (f (3 * c + 2)) else 0) = grC.itrN (fun j => ab (f (3 * c + j))) s k := by
    intro c s hs hc k hk
    have nn : ∀ a b, 0 ≤ a → 0 ≤ gt a b := fun a b ha => le_gt ha
    match k, hk with
    | 0, _ => rw [if_neg (by decide), if_neg (by decide), if_neg (by decide), gt_0 hs, gt_0 hs, gt_0 hs]; rfl
    | 1, _ => rw [if_pos (by decide), if_neg (by decide), if_neg (by decide), gt_0 (nn _ _ hs), gt_0 (nn _ _ hs)]; rfl
    | 2, _ => rw [if_pos (by decide), if_pos (by decide), if_neg (by decide), gt_0 (nn _ _ (nn _ _ hs))]; rfl
    | 3, _ => rw [if_pos (by decide), if_pos (by decide), if_pos (by decide)]; rfl
  induction n with
  | zero => rfl
  | succ n ih =>
    have ih := ih (by omega)
    show mx (fun i => ab (f i)) (3 * n + 1 + 1 + 1) = grC.itrN (fun j => ab (f (3 * n + j))) (grC f r n) r
    rw [mx, mx, mx, ih, ← it n (grC f r n) (by rw [← ih]; exact mx_nn _ _) (by omega) r hr]
    have ai : ∀ j, j < 3 → ab (f (3 * n + j)) = if j < r then ab (f (3 * n + j)) else 0 := fun j hj => by
      by_cases g : j < r
      · rw [if_pos g]
      · rw [if_neg g, z0 n j (by omega) hj (by omega)]
        decide
    rw [← ai 0 (by omega), ← ai 1 (by omega), ← ai 2 (by omega)]
    rfl
