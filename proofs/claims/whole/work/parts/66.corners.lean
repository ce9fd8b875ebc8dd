/-! The reference's corners -/
variable {h : Hp}
def gZ (f : Nat → Int32) (c : Nat) : Int := (f (24 + c)).toInt
def bN (f : Nat → Int32) : Nat → Int := fun o => (f (32 + o)).toInt
/-- what a solution gains, times its divisor -/
def Gn (f : Nat → Int32) (Y : Nat → Int) (k : Nat) : Int := sZ (fun c => gZ f c * Y c) k
theorem bN_bd {f : Nat → Int32} (hN : NB f) : ∀ o, o < 3 → (bN f o).natAbs ≤ 20 := fun o ho => by
  have := hN o ho
  unfold bN
  omega
theorem bN_0 {f : Nat → Int32} {r : Nat} (hZ : ZB f r) : ∀ o, r ≤ o → o < 3 → bN f o = 0 := fun o h1 h2 => by
  unfold bN
  rw [(hZ o h1 h2).1]
  rfl
theorem Gn_bd {f : Nat → Int32} {n K : Nat} {Y : Nat → Int} (hG : GB f n) (hY : ∀ c, (Y c).natAbs ≤ K) : ∀ k, k ≤ n → (Gn f Y k).natAbs ≤ k * (99 * K) := by
  intro k
  induction k with
  | zero => intro _; exact Nat.zero_le _
  | succ k ih =>
    intro hk
    have h1 := ih (by omega)
    have h2 := hG k (by omega)
    have h3 := mulA (a := gZ f k) (b := Y k) (A := 99) (B := K) (by unfold gZ; omega) (hY k)
    have e : Gn f Y (k + 1) = Gn f Y k + gZ f k * Y k := rfl
    rw [e, Nat.add_mul]
    omega
theorem t_M_pluses {u l p q : Int} {Q : Hp → Prop} (hM : MS h) (hu : gL h 81 52 = lI u) (hl : gL h 81 53 = lI l) (l0 : 0 < l) (q0 : 0 < q) (bu : u.natAbs ≤ 1000000000) (bl : l.natAbs ≤ 100000000) (bp : p.natAbs ≤ 1000000000) (bq : q.natAbs ≤ 100000000) (hq : ∀ h', Fr [] [] [] [52, 53] h h' → gL h' 81 52 = lI (rdU (u * q + p * l) (l * q)) → gL h' 81 53 = lI (rdL (u * q + p * l) (l * q)) → Q h') : w_M_pluses 81 (lI p) (lI q) h Q := by
  have m1 := mulA bu bq
  have m2 := mulA bp bl
  have m3 := mulA bl bq
  have lq := Int.mul_pos l0 q0
  obtain ⟨g0, ru, rl, -, -⟩ := rd_sp (a := u * q + p * l) lq
  have gl : Nat.gcd (u * q + p * l).natAbs (l * q).natAbs ≤ (l * q).natAbs := Nat.gcd_le_right _ (by omega)
  unfold w_M_pluses
  rw [hu, hl, lI_mul (a := u) (b := q) (by omega) (by omega) (by omega), lI_mul (a := p) (b := l) (by omega) (by omega) (by omega), lI_add (by omega) (by omega), lI_mul (a := l) (b := q) (by omega) (by omega) (by omega)]
  refine ⟨M_K hM, t_M_common (by omega) (by omega) ⟨fun z => ?_, M_K hM, ?_⟩⟩
  · have := (lI_e0 (by omega)).mp z
    omega
  · rw [lI_div (c := rdU (u * q + p * l) (l * q)) (by omega) (by omega) (by omega) ru.symm, lI_div (c := rdL (u * q + p * l) (l * q)) (by omega) (by omega) (by omega) rl.symm]
    refine hq _ (fr_trans (fr_sL _ _ (Or.inr ⟨rfl, by simp⟩)) (fr_sL _ _ (Or.inr ⟨rfl, by simp⟩))) ?_ ?_
    · rw [gL_sL, if_neg (by decide), gL_sL, if_pos ⟨rfl, rfl⟩]
    · rw [gL_sL, if_pos ⟨rfl, rfl⟩]
theorem t_M_gains {f : Nat → Int32} {Y : Nat → Int} {Z : Int} {r n : Nat} {Q : Hp → Prop} (hM : Mrc h r n) (hf : gI h 86 = f) (hG : GB f n) (hZ : 0 < Z) (hZ2 : Z ≤ 48000) (hY : ∀ c, 0 ≤ Y c ∧ Y c ≤ 48000) (hul : ∀ c, c < n → gL h 101 c = lI (rdU (Y c) Z) ∧ gL h 102 c = lI (rdL (Y c) Z)) (hq : ∀ h', Fr [] [] [] [52, 53] h h' → gL h' 81 52 = lI (rdU (Gn f Y n) Z) → gL h' 81 53 = lI (rdL (Gn f Y n) Z) → Q h') : w_M_gains 81 h Q := by
  have hn := hM.2.2.2.2.2
  have gb := Gn_bd (K := 48000) hG (fun c => by have := hY c; omega : ∀ c, (Y c).natAbs ≤ 48000)
  obtain ⟨z1, z2⟩ := rd_0 hZ
  unfold w_M_gains
  refine ⟨M_K hM.1, ?_⟩
  refine loop_0 (fun m c s => w_M_gains_L12 Q 81 m (nI c) s) (fun c s => Fr [] [] [] [52, 53] h s ∧ gL s 81 52 = lI (rdU (Gn f Y c) Z) ∧ gL s 81 53 = lI (rdL (Gn f Y c) Z)) n _ ⟨fr_trans (fr_sL _ _ (Or.inr ⟨rfl, by simp⟩)) (fr_sL _ _ (Or.inr ⟨rfl, by simp⟩)), ?_, ?_⟩ ?_ ?_
  · rw [gL_sL, if_neg (by decide), gL_sL, if_pos ⟨rfl, rfl⟩]
    show (0 : Int64) = lI (rdU 0 Z)
    rw [z1]
    rfl
  · rw [gL_sL, if_pos ⟨rfl, rfl⟩]
    show (1 : Int64) = lI (rdL 0 Z)
    rw [z2]
    rfl
  · rintro m s ⟨fs, e1, e2⟩
    have hM1 := fr_Mrc fs (by decide) (by decide) (by decide) hM
    unfold w_M_gains_L12
    exact ⟨M_K hM1.1, fun _ => hq s fs e1 e2, fun z => absurd (loop_le hM1.2.2.1) z⟩
  · rintro m c s hc ⟨fs, e1, e2⟩ ih
    have hM1 := fr_Mrc fs (by decide) (by decide) (by decide) hM
    obtain ⟨u1, u2, u3⟩ := M_upper hM1.1
    obtain ⟨l1, l2, l3⟩ := M_lower hM1.1
    have hg := hG c hc
    have hy := hY c
    have b1 := rd_le (a := Gn f Y c) hZ
    have b2 := rd_le (a := Y c) hZ
    have b3 := gb c (by omega)
    have b4 : c * (99 * 48000) ≤ 8 * (99 * 48000) := Nat.mul_le_mul_right _ (by omega)
    obtain ⟨-, -, -, p1, -⟩ := rd_sp (a := Gn f Y c) hZ
    obtain ⟨-, -, -, p2, -⟩ := rd_sp (a := Y c) hZ
    have b5 := mulA (a := gZ f c) (b := rdU (Y c) Z) (A := 99) (B := 48000) (by unfold gZ; omega) (by omega)
    unfold w_M_gains_L12
    refine ⟨M_K hM1.1, fun z => absurd (hM1.2.2.1 ▸ z) (nI_ge hc (by omega)), fun _ => t_M_gainOf hM1.1 (by omega) ?_⟩
    have e86 : gI s 86 (24 + c) = f (24 + c) := by rw [fr_I fs (x := 86) (by decide) (by decide), hf]
    rw [u1, u3, l1, l3, ix_nI (by omega), fr_L fs (x := 101) (by decide) (by decide), fr_L fs (x := 102) (by decide) (by decide), (hul c hc).1, (hul c hc).2, e86, i_l, nI_1, lI_mul (by unfold gZ at b5; omega) (by omega) (by unfold gZ at b5; omega)]
    refine ⟨M_K hM1.1, u2, vp_in_nI (by omega) (by omega), l2, vp_in_nI (by omega) (by omega), t_M_pluses hM1.1 e1 e2 p1 p2 (by omega) (by omega) (by unfold gZ at b5; omega) (by omega) (fun h2 f2 k1 k2 => ih h2 ⟨fr_trans fs f2, ?_, ?_⟩)⟩
    all_goals
      have c1 := rd_cross (a := Gn f Y c) hZ
      have c2 := rd_cross (a := Y c) hZ
      have e : Gn f Y (c + 1) = Gn f Y c + (f (24 + c)).toInt * Y c := rfl
      have cross : (rdU (Gn f Y c) Z * rdL (Y c) Z + (f (24 + c)).toInt * rdU (Y c) Z * rdL (Gn f Y c) Z) * Z = Gn f Y (c + 1) * (rdL (Gn f Y c) Z * rdL (Y c) Z) := by
        rw [e]
        generalize rdU (Gn f Y c) Z = A at c1 ⊢
        generalize rdL (Gn f Y c) Z = B at c1 ⊢
        generalize rdU (Y c) Z = C at c2 ⊢
        generalize rdL (Y c) Z = D at c2 ⊢
        generalize Gn f Y c = E at c1 ⊢
        generalize Y c = F at c2 ⊢
        generalize (f (24 + c)).toInt = H
        have : (A * D + H * C * B) * Z = (A * Z) * D + H * (C * Z) * B := by grind
        rw [this, c1, c2]
        grind
      obtain ⟨q1, q2⟩ := rd_eq (Int.mul_pos p1 p2) hZ cross
    · rw [k1, q1]
    · rw [k2, q2]
theorem cnS_8 {s n : Nat} (hn : n ≤ 8) (hs : s < 2 ^ n) : cnS (bS s) 8 = cnS (bS s) n := by
  have : ∀ k, cnS (bS s) (n + k) = cnS (bS s) n := by
    intro k
    induction k with
    | zero => rfl
    | succ k ih =>
      rw [← Nat.add_assoc, cnS_f, ih]
      exact Nat.testBit_lt_two_pow (Nat.lt_of_lt_of_le hs (Nat.pow_le_pow_right (by decide) (by omega)))
  have := this (8 - n)
  rwa [show n + (8 - n) = 8 from by omega] at this
theorem t_M_many {s : Nat} {Q : Int32 → Hp → Prop} (hs : s < 256) (hq : Q (nI (cnS (bS s) 8)) h) : w_M_many (nI s) h Q := by
  unfold w_M_many
  refine loop_0 (fun m c (x : Int32) => w_M_many_L4 Q (nI s) m x (nI c) h) (fun c x => x = nI (cnS (bS s) c)) 8 0 rfl ?_ ?_
  · rintro m x rfl
    unfold w_M_many_L4
    exact ⟨fun _ => hq, fun z => absurd (Int32.le_refl _) z⟩
  · rintro m c x hc rfl ih
    unfold w_M_many_L4
    refine ⟨fun z => absurd z (nI_ge (b := 8) hc (by omega)), fun _ => ?_⟩
    rw [bit_nI s hs c hc, nI_add, nI_1]
    refine ih _ ?_
    cases g : bS s c
    · rw [cnS_f g]; unfold bS at g; rw [g]; rfl
    · rw [cnS_t g]; unfold bS at g; rw [g]; rfl
theorem t_M_aimsAtNeed {f : Nat → Int32} {r n : Nat} {Q : Hp → Prop} (hM : Mrc h r n) (hf : gI h 86 = f) (hq : ∀ h', Fr [106] [] [] [] h h' → (∀ o, o < r → (gI h' 106 o).toInt = bN f o) → Q h') : w_M_aimsAtNeed 81 h Q := by
  obtain ⟨a1, a2, a3⟩ := M_aim hM.1
  have hr := hM.2.2.2.2.1
  unfold w_M_aimsAtNeed
  refine loop_0 (fun m o s => w_M_aimsAtNeed_L2 Q 81 m (nI o) s) (fun o s => Fr [106] [] [] [] h s ∧ ∀ o', o' < o → gI s 106 o' = f (32 + o')) r _ ⟨fr_refl _ _ _ _ _, fun o' ho' => absurd ho' (Nat.not_lt_zero _)⟩ ?_ ?_
  · rintro m s ⟨fs, e⟩
    have hM1 := fr_Mrc fs (by decide) (by decide) (by decide) hM
    unfold w_M_aimsAtNeed_L2
    exact ⟨M_K hM1.1, fun _ => hq s fs (fun o ho => by rw [e o ho]; rfl), fun z => absurd (loop_le hM1.2.1) z⟩
  · rintro m o s ho ⟨fs, e⟩ ih
    have hM1 := fr_Mrc fs (by decide) (by decide) (by decide) hM
    unfold w_M_aimsAtNeed_L2
    refine ⟨M_K hM1.1, fun z => absurd (hM1.2.1 ▸ z) (nI_ge ho (by omega)), fun _ => t_M_needOf hM1.1 (by omega) ?_⟩
    rw [fr_R fs, fr_K fs, fr_N fs, a1, a3, ix_nI (by omega), nI_1, fr_I fs (x := 86) (by decide) (by decide), hf]
    refine ⟨a2, vp_in_nI (by omega) (by omega), ih _ ⟨fr_trans fs (fr_sI _ _ (Or.inl (by simp))), fun o' ho' => ?_⟩⟩
    rw [gI_sI]
    by_cases g : o' = o
    · rw [if_pos ⟨rfl, g⟩, g]
    · rw [if_neg (fun y => g y.2)]; exact e o' (by omega)
theorem shl8 {n : Nat} (hn : n ≤ 8) : jshl 1 (nI n) = nI (2 ^ n) := by
  match n, hn with
  | 0, _ => decide
  | 1, _ => decide
  | 2, _ => decide
  | 3, _ => decide
  | 4, _ => decide
  | 5, _ => decide
  | 6, _ => decide
  | 7, _ => decide
  | 8, _ => decide
theorem pow8 {n : Nat} (hn : n ≤ 8) : 2 ^ n ≤ 256 := Nat.le_trans (Nat.pow_le_pow_right (by decide) hn) (by decide)
/-- the solution of a set of at most three columns -/
def brS (f : Nat → Int32) (b : Nat → Int) (n s : Nat) : Option ((Nat → Int) × Int) := if cnS (bS s) n ≤ 3 then barS f b (bS s) n 3 else none
/-- corners so far, the best of them -/
def crF (f : Nat → Int32) (n : Nat) : Nat → Nat × Option (Nat × (Nat → Int) × Int)
  | 0 => (0, none)
  | s + 1 => match brS f (bN f) n s with
    | none => crF f n s
    | some w => ((crF f n s).1 + 1, match (crF f n s).2 with
      | none => some (s, w)
      | some v => if Gn f w.1 n * v.2.2 ≤ Gn f v.2.1 n * w.2 then some v else some (s, w))
theorem rd_cmp {a b c d : Int} (hb : 0 < b) (hd : 0 < d) : rdU a b * rdL c d ≤ rdU c d * rdL a b ↔ a * d ≤ c * b := by
  obtain ⟨g1, u1, l1, p1, q1⟩ := rd_sp (a := a) hb
  obtain ⟨g2, u2, l2, p2, q2⟩ := rd_sp (a := c) hd
  generalize ((Nat.gcd a.natAbs b.natAbs : Nat) : Int) = x at u1 l1
  generalize hy : ((Nat.gcd c.natAbs d.natAbs : Nat) : Int) = y at u2 l2
  have hx : 0 < x := by
    have : ¬ x ≤ 0 := fun g => by
      have := Int.mul_nonpos_of_nonneg_of_nonpos (Int.le_of_lt p1) g
      omega
    omega
  have hy : 0 < y := by omega
  have hxy := Int.mul_pos hx hy
  have e1 : a * d = (rdU a b * rdL c d) * (x * y) := by
    calc a * d = (rdU a b * x) * (rdL c d * y) := by rw [u1, l2]
      _ = (rdU a b * rdL c d) * (x * y) := by grind
  have e2 : c * b = (rdU c d * rdL a b) * (x * y) := by
    calc c * b = (rdU c d * y) * (rdL a b * x) := by rw [u2, l1]
      _ = (rdU c d * rdL a b) * (x * y) := by grind
  rw [e1, e2]
  constructor
  · intro h
    exact Int.mul_le_mul_of_nonneg_right h (Int.le_of_lt hxy)
  · intro h
    exact Int.le_of_mul_le_mul_right h hxy
