/-! Choices of four bits; the best of some columns; which sums a layer has -/
variable {h : Hp}
def nib (x : Int64) (q : Nat) : Nat := x.toBitVec.toNat / 2 ^ (4 * q) % 16
theorem nib_bit (x : Int64) (q b : Nat) (hb : b < 4) : (nib x q).testBit b = x.toBitVec.getLsbD (4 * q + b) := by
  unfold nib
  rw [show (16 : Nat) = 2 ^ 4 from rfl, Nat.testBit_mod_two_pow, decide_eq_true hb, Bool.true_and, Nat.testBit_div_two_pow, Nat.add_comm]
  rfl
theorem nib_lt (x : Int64) (q : Nat) : nib x q < 16 := Nat.mod_lt _ (by decide)
theorem b16 {a i : Nat} (ha : a < 16) (hi : 4 ≤ i) : a.testBit i = false := Nat.testBit_lt_two_pow (Nat.lt_of_lt_of_le ha (Nat.pow_le_pow_right (n := 2) (i := 4) (by decide) hi))
theorem nib_ext {a b : Nat} (ha : a < 16) (hb : b < 16) (e : ∀ i, i < 4 → a.testBit i = b.testBit i) : a = b := by
  apply Nat.eq_of_testBit_eq
  intro i
  by_cases g : i < 4
  · exact e i g
  · rw [b16 ha (by omega), b16 hb (by omega)]
theorem sh_eq : ∀ q, q < 16 → (((nI (4 * q)).toInt64 &&& 63).toBitVec.smod 64).toNat = 4 * q := by decide
theorem shl_bit {x : Int64} {q i : Nat} (hq : q < 16) (hi : i < 64) : (jlshl x (nI (4 * q))).toBitVec.getLsbD i = (decide (4 * q ≤ i) && x.toBitVec.getLsbD (i - 4 * q)) := by
  unfold jlshl
  rw [Int64.toBitVec_shiftLeft, BitVec.shiftLeft_eq', sh_eq q hq, BitVec.getLsbD_shiftLeft, decide_eq_true hi, Bool.true_and]
  by_cases g : 4 * q ≤ i
  · rw [decide_eq_true g, decide_eq_false (by omega)]; rfl
  · rw [decide_eq_false g, decide_eq_true (by omega)]; rfl
theorem m1_64 : ∀ i, i < 64 → (-1 : Int64).toBitVec.getLsbD i = true := by decide
theorem f15_64 : ∀ i, i < 64 → (15 : Int64).toBitVec.getLsbD i = decide (i < 4) := by decide
theorem c_64 : ∀ c, c < 16 → ∀ i, i < 64 → (nI c).toInt64.toBitVec.getLsbD i = c.testBit i := by decide +kernel
theorem nib_wr {x : Int64} {q q' c : Nat} (hq : q < 16) (hq' : q' < 16) (hc : c < 16) : nib ((x &&& (jlshl 15 (nI (4 * q)) ^^^ -1)) ||| jlshl (nI c).toInt64 (nI (4 * q))) q' = if q' = q then c else nib x q' := by
  have lt : (if q' = q then c else nib x q') < 16 := by
    split
    · exact hc
    · exact nib_lt _ _
  refine nib_ext (nib_lt _ _) lt (fun i hi => ?_)
  rw [nib_bit _ _ _ hi, Int64.toBitVec_or, BitVec.getLsbD_or, Int64.toBitVec_and, BitVec.getLsbD_and, Int64.toBitVec_xor, BitVec.getLsbD_xor, m1_64 _ (by omega), shl_bit hq (by omega), shl_bit hq (by omega), Bool.xor_true]
  by_cases g : q' = q
  · subst g
    rw [if_pos rfl, decide_eq_true (by omega), Bool.true_and, Bool.true_and, show 4 * q' + i - 4 * q' = i from by omega, f15_64 i (by omega), decide_eq_true hi, c_64 c hc i (by omega), Bool.not_true, Bool.and_false, Bool.false_or]
  · rw [if_neg g, nib_bit _ _ _ hi]
    by_cases g2 : q < q'
    · rw [decide_eq_true (by omega), Bool.true_and, Bool.true_and, f15_64 _ (by omega), decide_eq_false (by omega), c_64 c hc _ (by omega), b16 hc (by omega), Bool.not_false, Bool.and_true, Bool.or_false]
    · rw [decide_eq_false (by omega), Bool.false_and, Bool.false_and, Bool.not_false, Bool.and_true, Bool.or_false]
theorem ush_eq : ∀ q, q < 16 → ((((nI (4 * q)).toInt64).toUInt64 &&& Int64.toUInt64 63).toBitVec % 64#64).toNat = 4 * q := by decide
theorem and15n {a : Nat} : (Int32.ofNat a) &&& 15 = Int32.ofNat (a % 16) := by
  apply Int32.toBitVec_inj.mp
  show BitVec.ofNat 32 a &&& 15#32 = BitVec.ofNat 32 (a % 16)
  apply BitVec.eq_of_toNat_eq
  rw [BitVec.toNat_and, BitVec.toNat_ofNat, BitVec.toNat_ofNat]
  show a % 2 ^ 32 &&& 15 = a % 16 % 2 ^ 32
  rw [show (15 : Nat) = 2 ^ 4 - 1 from rfl, Nat.and_two_pow_sub_one_eq_mod]
  omega
theorem se32 (x : BitVec 64) : x.signExtend 32 = x.setWidth 32 := by
  apply BitVec.eq_of_getLsbD_eq
  intro i hi
  rw [BitVec.getLsbD_signExtend, BitVec.getLsbD_setWidth, decide_eq_true hi, if_pos (by omega)]
theorem nib_rd {x : Int64} {q : Nat} (hq : q < 16) : ((jlushr x (nI (4 * q))).toInt32 &&& 15) = nI (nib x q) := by
  have e : (jlushr x (nI (4 * q))).toInt32 = Int32.ofNat (x.toBitVec.toNat / 2 ^ (4 * q)) := by
    apply Int32.toBitVec_inj.mp
    unfold jlushr
    rw [Int64.toBitVec_toInt32, se32]
    show (BitVec.setWidth 32 (x.toUInt64 >>> (((nI (4 * q)).toInt64).toUInt64 &&& Int64.toUInt64 63)).toBitVec) = BitVec.ofNat 32 _
    rw [UInt64.toBitVec_shiftRight, BitVec.ushiftRight_eq', show (64 : BitVec 64) = 64#64 from rfl, ush_eq q hq]
    apply BitVec.eq_of_toNat_eq
    rw [BitVec.toNat_setWidth, BitVec.toNat_ushiftRight, BitVec.toNat_ofNat, Nat.shiftRight_eq_div_pow]
    rfl
  rw [e, and15n]
  rfl
/-- the greatest of those in D, and the least that has it -/
def BM (D : Nat → Bool) (g : Nat → Int32) (n : Nat) (v : Int32) (a : Nat) : Prop := a < n ∧ D a = true ∧ g a = v ∧ ∀ c, c < n → D c = true → g c ≤ v ∧ (g c = v → a ≤ c)
theorem BM_un {D : Nat → Bool} {g : Nat → Int32} {n a a' : Nat} {v v' : Int32} (x : BM D g n v a) (y : BM D g n v' a') : v = v' ∧ a = a' := by
  obtain ⟨x1, x2, x3, x4⟩ := x
  obtain ⟨y1, y2, y3, y4⟩ := y
  have h1 := x4 a' y1 y2
  have h2 := y4 a x1 x2
  rw [y3] at h1
  rw [x3] at h2
  have ev : v = v' := Int32.le_antisymm h2.1 h1.1
  have l1 := h1.2 ev.symm
  have l2 := h2.2 ev
  exact ⟨ev, by omega⟩
theorem BM_one {D : Nat → Bool} {g : Nat → Int32} {n c : Nat} (hc : c < n) (hD : ∀ x, x < n → D x = false) : BM (fun x => D x || decide (x = c)) g n (g c) c := by
  refine ⟨hc, by show (D c || decide (c = c)) = true; rw [decide_eq_true rfl, Bool.or_true], rfl, fun x hx e => ?_⟩
  dsimp only at e
  rw [hD x hx, Bool.false_or] at e
  rw [of_decide_eq_true e]
  exact ⟨Int32.le_refl _, fun _ => Nat.le_refl _⟩
theorem BM_take {D : Nat → Bool} {g : Nat → Int32} {n a c : Nat} {v : Int32} (b : BM D g n v a) (hc : c < n) (t : v < g c ∨ g c = v ∧ c < a) : BM (fun x => D x || decide (x = c)) g n (g c) c := by
  obtain ⟨b1, b2, b3, b4⟩ := b
  refine ⟨hc, by show (D c || decide (c = c)) = true; rw [decide_eq_true rfl, Bool.or_true], rfl, fun x hx e => ?_⟩
  dsimp only at e
  rw [Bool.or_eq_true] at e
  rcases e with e | e
  · have := b4 x hx e
    rcases t with t | ⟨t1, t2⟩
    · refine ⟨Int32.le_trans this.1 (Int32.le_of_lt t), fun q => ?_⟩
      rw [q] at this
      exact absurd t (Int32.not_lt.mpr this.1)
    · rw [t1]
      exact ⟨this.1, fun q => by have := this.2 q; omega⟩
  · rw [of_decide_eq_true e]
    exact ⟨Int32.le_refl _, fun _ => Nat.le_refl _⟩
theorem BM_keep {D : Nat → Bool} {g : Nat → Int32} {n a c : Nat} {v : Int32} (b : BM D g n v a) (t : ¬ (v < g c ∨ g c = v ∧ c < a)) : BM (fun x => D x || decide (x = c)) g n v a := by
  obtain ⟨b1, b2, b3, b4⟩ := b
  refine ⟨b1, by show (D a || decide (a = c)) = true; rw [b2, Bool.true_or], b3, fun x hx e => ?_⟩
  dsimp only at e
  rw [Bool.or_eq_true] at e
  rcases e with e | e
  · exact b4 x hx e
  · rw [of_decide_eq_true e]
    refine ⟨Int32.not_lt.mp (fun q => t (Or.inl q)), fun q => ?_⟩
    by_cases q2 : c < a
    · exact absurd (Or.inr ⟨q, q2⟩) t
    · omega
theorem BM_congr {D D' : Nat → Bool} {g g' : Nat → Int32} {n a : Nat} {v : Int32} (b : BM D g n v a) (e : ∀ c, c < n → D' c = D c) (e2 : ∀ c, c < n → g' c = g c) : BM D' g' n v a := by
  obtain ⟨b1, b2, b3, b4⟩ := b
  exact ⟨b1, by rw [e a b1]; exact b2, by rw [e2 a b1]; exact b3, fun c hc h2 => by rw [e2 c hc]; exact b4 c hc (by rw [← e c hc]; exact h2)⟩
theorem smN_upd {D : Nat → Bool} {u : Nat → Nat} {c : Nat} (hD : D c = false) : ∀ n, smN (fun x => if (D x || decide (x = c)) = true then u x else 0) n = smN (fun x => if D x = true then u x else 0) n + (if c < n then u c else 0) := by
  intro n
  induction n with
  | zero => rfl
  | succ n ih =>
    show smN (fun x => if (D x || decide (x = c)) = true then u x else 0) n + (if (D n || decide (n = c)) = true then u n else 0) = smN (fun x => if D x = true then u x else 0) n + (if D n = true then u n else 0) + (if c < n + 1 then u c else 0)
    rw [ih]
    by_cases g : n = c
    · subst g
      rw [hD, if_neg (Nat.lt_irrefl _), if_pos (Nat.lt_succ_self n), decide_eq_true rfl, if_pos (show (false || true) = true from rfl), if_neg (by decide)]
    · rw [decide_eq_false g, Bool.or_false]
      by_cases g2 : c < n
      · rw [if_pos g2, if_pos (show c < n + 1 by omega)]; omega
      · rw [if_neg g2, if_neg (show ¬ c < n + 1 by omega)]; omega
theorem BM_rz {f : Nat → Int32} {r n t w k : Nat} {z : Nat → Int} (hG : GB f n) (hk : k < 12) (ex : ∃ c, c < n ∧ Vk f r n t w k (bk f z c) ≠ 0) : BM (fun c => decide (Vk f r n t w k (bk f z c) ≠ 0)) (fun c => f (24 + c) + Rk f r n t w k (bk f z c)) n (Rk f r n t w (k + 1) z) (bsC f r n t w k (mz f z)) := by
  have bd : ∀ c, c < n → decide (Vk f r n t w k (bk f z c) ≠ 0) = true → -1000000000 ≤ (f (24 + c) + Rk f r n t w k (bk f z c)).toInt := fun c hc e => by
    have h1 := hG c hc
    have h2 := rz_bd (r := r) (t := t) (w := w) hG k (by omega) (mz f (bk f z c)) (vz_wz (of_decide_eq_true e)).2
    unfold Rk
    rw [Jvm.Kit.i32_add (by omega) (by omega)]
    omega
  have hit := rzC_hit bd
  rw [← Rk_s] at hit
  have eb : ∀ c, bB f r n t w k (mz f z) c = (decide (Vk f r n t w k (bk f z c) ≠ 0) && decide (f (24 + c) + Rk f r n t w k (bk f z c) = Rk f r n t w (k + 1) z)) := fun c => by
    unfold bB
    rw [st_mz]
    rfl
  obtain ⟨c1, h1, h2, h3⟩ := hit.2.1 (by obtain ⟨c, hc, e⟩ := ex; exact ⟨c, hc, decide_eq_true e⟩)
  have sp := fnd_sp (F := bB f r n t w k (mz f z)) n 0 ⟨c1, Nat.zero_le _, by omega, by rw [eb, h2, decide_eq_true h3.symm]; rfl⟩
  have e2 := sp.2.2.1
  rw [eb, Bool.and_eq_true] at e2
  refine ⟨by have := sp.2.1; unfold bsC; omega, e2.1, of_decide_eq_true e2.2, fun c hc e => ⟨Int32.le_iff_toInt_le.mpr (hit.1 c hc e), fun q => ?_⟩⟩
  by_cases g : bsC f r n t w k (mz f z) ≤ c
  · exact g
  · have := sp.2.2.2 c (Nat.zero_le _) (by unfold bsC at g; omega)
    have e' : decide (Vk f r n t w k (bk f z c) ≠ 0) = true := e
    have q' : f (24 + c) + Rk f r n t w k (bk f z c) = Rk f r n t w (k + 1) z := q
    rw [eb, e', decide_eq_true q'] at this
    cases this
/-- a key of a plan of so many steps -/
def isKy (f : Nat → Int32) (r n l s : Nat) : Prop := ∃ p, p ∈ PL n l ∧ s = kP f r n p
theorem isKy_0 {f : Nat → Int32} {r n l s j : Nat} (hF : FB f n) (hl : l ≤ 12) (k : isKy f r n l s) (hj : r ≤ j) (hj3 : j < 3) : Zk s j = 0 := by
  obtain ⟨p, hp, rfl⟩ := k
  unfold Zk
  rw [upk_kP hF hj3 hp hl]
  unfold pY
  rw [if_neg (by omega)]
  rfl
theorem isKy_bd {f : Nat → Int32} {r n l s j : Nat} (hF : FB f n) (hl : l ≤ 12) (k : isKy f r n l s) (hj3 : j < 3) : (Zk s j).natAbs ≤ 60 := by
  obtain ⟨p, hp, rfl⟩ := k
  have := pY_bd (r := r) hF hj3 hp hl
  unfold Zk
  rw [upk_kP hF hj3 hp hl]
  omega
theorem isKy_st {f : Nat → Int32} {r n l s c : Nat} (hF : FB f n) (hl : l < 12) (hc : c < n) (k : isKy f r n l s) : isKy f r n (l + 1) (kst f r s c) := by
  obtain ⟨p, hp, rfl⟩ := k
  exact ⟨stp p c, stp_PL hp hc, kst_kP hF hp hl hc⟩
theorem isKy_Z {f : Nat → Int32} {r n l s c j : Nat} (hr : r ≤ 3) (hF : FB f n) (hl : l < 12) (hc : c < n) (k : isKy f r n l s) (hj : j < r) : bk f (Zk (kst f r s c)) c j = Zk s j := by
  obtain ⟨p, hp, rfl⟩ := k
  unfold bk
  rw [Zk_kst hr hF hj hp hl hc]
  unfold stZ
  omega
theorem kst_inj {f : Nat → Int32} {r n l s s' c : Nat} (hr : r ≤ 3) (hF : FB f n) (hl : l < 12) (hc : c < n) (k : isKy f r n l s) (k' : isKy f r n l s') (e : kst f r s c = kst f r s' c) : s = s' := by
  refine Zk_inj (fun j hj => ?_)
  by_cases g : j < r
  · rw [← isKy_Z hr hF hl hc k g, e, isKy_Z hr hF hl hc k' g]
  · rw [isKy_0 hF (by omega) k (by omega) hj, isKy_0 hF (by omega) k' (by omega) hj]
theorem okS_isKy {f : Nat → Int32} {r n t w l s : Nat} (hr : r ≤ 3) (hF : FB f n) (hN : NB f) (ht : t ≤ 12) (hl : l ≤ 12) (hw : w ≤ 12) (k : isKy f r n l s) : okS f r t w l s = inZ f r t w l (Zk s) := by
  obtain ⟨p, hp, rfl⟩ := k
  exact okS_in hr hF hN ht hl hw hp hl
