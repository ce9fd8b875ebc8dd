/-! Fractions in lowest terms; too many columns -/
theorem dep_many {f : Nat → Int32} {b : Nat → Int} {S : Nat → Bool} {n r : Nat} (hF : FB f n) (hb : ∀ o, o < 3 → (b o).natAbs ≤ 20) (hr1 : 1 ≤ r) (hn : n ≤ 8) (hZ : ZB f r) (hm : r < cnS S n) (hm3 : cnS S n ≤ 3) : barS f b S n 3 = none := by
  cases e : barS f b S n 3 with
  | none => rfl
  | some w =>
    exfalso
    obtain ⟨k1, -⟩ := barS_some hF hb (by omega) hm3 e
    have ind := (Ind_S (b := b)).mpr k1
    have z : ∀ o i, r ≤ o → o < 3 → i < cnS S n → M3 f b S n o i = 0 := fun o i h1 h2 h3 => by
      unfold M3 aZ
      rw [if_pos h3, if_pos h2, (hZ o h1 h2).2 _ (by have := (mb_sp h3).1; omega)]
      rfl
    generalize hM : M3 f b S n = M at ind z
    generalize hmm : cnS S n = m at ind z hm hm3
    have c2 : ∀ a c : Int, (∀ o, o < 3 → M o 0 * a + M o 1 * c = 0) → a = 0 ∧ c = 0 := fun a c h => by
      have hy : Hm M 3 m (fun i => if i = 0 then a else if i = 1 then c else 0) 0 := fun o ho => by
        unfold lnH
        have h1 := h o ho
        have h2 : m = 2 ∨ m = 3 := by omega
        rcases h2 with h2 | h2
        · rw [h2]; simp only [sZ]; simp; omega
        · rw [h2]; simp only [sZ]; simp; omega
      have i0 := ind _ hy 0 (by omega)
      have i1 := ind _ hy 1 (by omega)
      simp at i0 i1
      exact ⟨i0, i1⟩
    have one : ∀ o, o < 3 → M o 0 = 0 → M o 1 = 0 → True := fun _ _ _ _ => trivial
    have hrr : r = 1 ∨ r = 2 := by omega
    rcases hrr with hr | hr
    · have z1 := fun i hi => z 1 i (by omega) (by omega) hi
      have z2 := fun i hi => z 2 i (by omega) (by omega) hi
      have a := c2 (M 0 1) (-(M 0 0)) (fun o ho => by
        have h : o = 0 ∨ o = 1 ∨ o = 2 := by omega
        rcases h with h | h | h
        · rw [h]; grind
        · rw [h, z1 0 (by omega), z1 1 (by omega)]; grind
        · rw [h, z2 0 (by omega), z2 1 (by omega)]; grind)
      have b := c2 1 0 (fun o ho => by
        have h : o = 0 ∨ o = 1 ∨ o = 2 := by omega
        rcases h with h | h | h
        · rw [h]; omega
        · rw [h, z1 0 (by omega)]; omega
        · rw [h, z2 0 (by omega)]; omega)
      omega
    · have m3 : m = 3 := by omega
      have z2 := fun i hi => z 2 i (by omega) (by omega) hi
      have hy : Hm M 3 m (fun i => if i = 0 then M 0 1 * M 1 2 - M 0 2 * M 1 1 else if i = 1 then -(M 0 0 * M 1 2 - M 0 2 * M 1 0) else M 0 0 * M 1 1 - M 0 1 * M 1 0) 0 := fun o ho => by
        unfold lnH
        rw [m3]
        simp only [sZ]
        simp
        have h : o = 0 ∨ o = 1 ∨ o = 2 := by omega
        rcases h with h | h | h
        · rw [h]; grind
        · rw [h]; grind
        · rw [h, z2 0 (by omega), z2 1 (by omega), z2 2 (by omega)]; grind
      have i2 := ind _ hy 2 (by omega)
      simp at i2
      have a := c2 (M 0 1) (-(M 0 0)) (fun o ho => by
        have h : o = 0 ∨ o = 1 ∨ o = 2 := by omega
        rcases h with h | h | h
        · rw [h]; grind
        · rw [h]; grind
        · rw [h, z2 0 (by omega), z2 1 (by omega)]; grind)
      have b := c2 (M 1 1) (-(M 1 0)) (fun o ho => by
        have h : o = 0 ∨ o = 1 ∨ o = 2 := by omega
        rcases h with h | h | h
        · rw [h]; grind
        · rw [h]; grind
        · rw [h, z2 0 (by omega), z2 1 (by omega)]; grind)
      have c := c2 1 0 (fun o ho => by
        have h : o = 0 ∨ o = 1 ∨ o = 2 := by omega
        rcases h with h | h | h
        · rw [h]; omega
        · rw [h]; omega
        · rw [h, z2 0 (by omega)]; omega)
      omega
/-- a fraction in lowest terms -/
def rdU (a b : Int) : Int := a / ((Nat.gcd a.natAbs b.natAbs : Nat) : Int)
def rdL (a b : Int) : Int := b / ((Nat.gcd a.natAbs b.natAbs : Nat) : Int)
theorem rd_sp {a b : Int} (hb : 0 < b) : 0 < Nat.gcd a.natAbs b.natAbs ∧ rdU a b * ((Nat.gcd a.natAbs b.natAbs : Nat) : Int) = a ∧ rdL a b * ((Nat.gcd a.natAbs b.natAbs : Nat) : Int) = b ∧ 0 < rdL a b ∧ Nat.gcd (rdU a b).natAbs (rdL a b).natAbs = 1 := by
  have g0 : 0 < Nat.gcd a.natAbs b.natAbs := Nat.gcd_pos_of_pos_right _ (by omega)
  have d1 : ((Nat.gcd a.natAbs b.natAbs : Nat) : Int) ∣ a := Int.ofNat_dvd_left.mpr (Nat.gcd_dvd_left _ _)
  have d2 : ((Nat.gcd a.natAbs b.natAbs : Nat) : Int) ∣ b := Int.ofNat_dvd_left.mpr (Nat.gcd_dvd_right _ _)
  have e1 : rdU a b * ((Nat.gcd a.natAbs b.natAbs : Nat) : Int) = a := Int.ediv_mul_cancel d1
  have e2 : rdL a b * ((Nat.gcd a.natAbs b.natAbs : Nat) : Int) = b := Int.ediv_mul_cancel d2
  have n1 : (rdU a b).natAbs * Nat.gcd a.natAbs b.natAbs = a.natAbs := by
    have := congrArg Int.natAbs e1
    rw [Int.natAbs_mul] at this
    exact this
  have n2 : (rdL a b).natAbs * Nat.gcd a.natAbs b.natAbs = b.natAbs := by
    have := congrArg Int.natAbs e2
    rw [Int.natAbs_mul] at this
    exact this
  refine ⟨g0, e1, e2, ?_, ?_⟩
  · have : ¬ rdL a b ≤ 0 := fun g => by
      have := Int.mul_nonpos_of_nonpos_of_nonneg g (Int.natCast_nonneg (Nat.gcd a.natAbs b.natAbs))
      omega
    omega
  · have h1 : Nat.gcd ((rdU a b).natAbs * Nat.gcd a.natAbs b.natAbs) ((rdL a b).natAbs * Nat.gcd a.natAbs b.natAbs) = Nat.gcd a.natAbs b.natAbs := by rw [n1, n2]
    rw [Nat.gcd_mul_right] at h1
    exact Nat.eq_of_mul_eq_mul_right g0 (by rw [h1, Nat.one_mul])
theorem cop_eq {u l u' l' : Int} (hl : 0 < l) (hl' : 0 < l') (h1 : Nat.gcd u.natAbs l.natAbs = 1) (h2 : Nat.gcd u'.natAbs l'.natAbs = 1) (he : u * l' = u' * l) : u = u' ∧ l = l' := by
  have hn : u.natAbs * l'.natAbs = u'.natAbs * l.natAbs := by
    have := congrArg Int.natAbs he
    rw [Int.natAbs_mul, Int.natAbs_mul] at this
    exact this
  have a1 : l.natAbs ∣ l'.natAbs := by
    have : l.natAbs ∣ u.natAbs * l'.natAbs := ⟨u'.natAbs, by rw [hn, Nat.mul_comm]⟩
    exact Nat.Coprime.dvd_of_dvd_mul_left (show Nat.Coprime l.natAbs u.natAbs from by rw [Nat.coprime_comm]; exact h1) this
  have a2 : l'.natAbs ∣ l.natAbs := by
    have : l'.natAbs ∣ u'.natAbs * l.natAbs := ⟨u.natAbs, by rw [← hn, Nat.mul_comm]⟩
    exact Nat.Coprime.dvd_of_dvd_mul_left (show Nat.Coprime l'.natAbs u'.natAbs from by rw [Nat.coprime_comm]; exact h2) this
  have a3 := Nat.dvd_antisymm a1 a2
  have a4 : l = l' := by omega
  rw [a4] at he
  exact ⟨Int.eq_of_mul_eq_mul_right (by omega) he, a4⟩
/-- equal fractions have the same lowest terms -/
theorem rd_eq {a b c d : Int} (hb : 0 < b) (hd : 0 < d) (he : a * d = c * b) : rdU a b = rdU c d ∧ rdL a b = rdL c d := by
  obtain ⟨g1, u1, l1, p1, q1⟩ := rd_sp (a := a) hb
  obtain ⟨g2, u2, l2, p2, q2⟩ := rd_sp (a := c) hd
  refine cop_eq p1 p2 q1 q2 ?_
  have h1 : (rdU a b * rdL c d) * (((Nat.gcd a.natAbs b.natAbs : Nat) : Int) * ((Nat.gcd c.natAbs d.natAbs : Nat) : Int)) = (rdU c d * rdL a b) * (((Nat.gcd a.natAbs b.natAbs : Nat) : Int) * ((Nat.gcd c.natAbs d.natAbs : Nat) : Int)) := by
    have k1 : (rdU a b * rdL c d) * (((Nat.gcd a.natAbs b.natAbs : Nat) : Int) * ((Nat.gcd c.natAbs d.natAbs : Nat) : Int)) = a * d := by
      rw [← u1, ← l2]
      rw [u1, l2]
      grind
    have k2 : (rdU c d * rdL a b) * (((Nat.gcd a.natAbs b.natAbs : Nat) : Int) * ((Nat.gcd c.natAbs d.natAbs : Nat) : Int)) = c * b := by
      grind
    rw [k1, k2, he]
  exact Int.eq_of_mul_eq_mul_right (by
    have := Int.mul_pos (show (0 : Int) < ((Nat.gcd a.natAbs b.natAbs : Nat) : Int) by omega) (show (0 : Int) < ((Nat.gcd c.natAbs d.natAbs : Nat) : Int) by omega)
    omega) h1
theorem rd_cross {a b : Int} (hb : 0 < b) : rdU a b * b = a * rdL a b := by
  obtain ⟨g1, u1, l1, p1, q1⟩ := rd_sp (a := a) hb
  grind
theorem rd_le {a b : Int} (hb : 0 < b) : rdL a b ≤ b ∧ (rdU a b).natAbs ≤ a.natAbs := by
  obtain ⟨g1, u1, l1, p1, q1⟩ := rd_sp (a := a) hb
  have n1 : (rdU a b).natAbs * Nat.gcd a.natAbs b.natAbs = a.natAbs := by
    have := congrArg Int.natAbs u1
    rw [Int.natAbs_mul] at this
    exact this
  have n2 : (rdL a b).natAbs * Nat.gcd a.natAbs b.natAbs = b.natAbs := by
    have := congrArg Int.natAbs l1
    rw [Int.natAbs_mul] at this
    exact this
  have h1 := Nat.le_mul_of_pos_right (rdU a b).natAbs g1
  have h2 := Nat.le_mul_of_pos_right (rdL a b).natAbs g1
  omega
theorem rd_0 {b : Int} (hb : 0 < b) : rdU 0 b = 0 ∧ rdL 0 b = 1 := by
  unfold rdU rdL
  rw [show (0 : Int).natAbs = 0 from rfl, Nat.gcd_zero_left]
  refine ⟨Int.zero_ediv _, ?_⟩
  rw [show ((b.natAbs : Nat) : Int) = b from by omega]
  exact Int.ediv_self (by omega)
/-- a number of 64 bits out of a whole one -/
def lI (x : Int) : Int64 := Int64.ofInt x
theorem lI_toInt {x : Int} (h : x.natAbs < 2 ^ 62) : (lI x).toInt = x := by
  unfold lI
  rw [Int64.toInt_ofInt, show Int64.size = 18446744073709551616 from rfl]
  exact Int.bmod_eq_of_le (by omega) (by omega)
theorem lI_of {v : Int64} {x : Int} (h : v.toInt = x) (hx : x.natAbs < 2 ^ 62) : v = lI x := by
  rw [← Int64.toInt_inj, lI_toInt hx]
  exact h
theorem lI_N (n : Nat) : lN n = lI (n : Int) := by
  unfold lN lI
  rfl
theorem lI_mul {a b : Int} (ha : a.natAbs < 2 ^ 62) (hb : b.natAbs < 2 ^ 62) (h : (a * b).natAbs < 2 ^ 62) : lI a * lI b = lI (a * b) := by
  refine lI_of ?_ h
  rw [Jvm.Kit.i64_mul (by rw [lI_toInt ha, lI_toInt hb]; omega) (by rw [lI_toInt ha, lI_toInt hb]; omega), lI_toInt ha, lI_toInt hb]
theorem lI_add {a b : Int} (ha : a.natAbs < 2 ^ 61) (hb : b.natAbs < 2 ^ 61) : lI a + lI b = lI (a + b) := by
  refine lI_of ?_ (by omega)
  rw [Jvm.Kit.i64_add (by rw [lI_toInt (by omega), lI_toInt (by omega)]; omega) (by rw [lI_toInt (by omega), lI_toInt (by omega)]; omega), lI_toInt (by omega), lI_toInt (by omega)]
theorem lI_sub {a b : Int} (ha : a.natAbs < 2 ^ 61) (hb : b.natAbs < 2 ^ 61) : lI a - lI b = lI (a - b) := by
  refine lI_of ?_ (by omega)
  rw [Jvm.Kit.i64_sub (by rw [lI_toInt (by omega), lI_toInt (by omega)]; omega) (by rw [lI_toInt (by omega), lI_toInt (by omega)]; omega), lI_toInt (by omega), lI_toInt (by omega)]
theorem lI_neg {a : Int} (ha : a.natAbs < 2 ^ 61) : -(lI a) = lI (-a) := by
  have := lI_sub (a := 0) (b := a) (by decide) ha
  rw [show lI 0 = 0 from rfl, Int64.zero_sub, Int.zero_sub] at this
  exact this
theorem lI_le {a b : Int} (ha : a.natAbs < 2 ^ 62) (hb : b.natAbs < 2 ^ 62) : lI a ≤ lI b ↔ a ≤ b := by rw [Int64.le_iff_toInt_le, lI_toInt ha, lI_toInt hb]
theorem lI_eq {a b : Int} (ha : a.natAbs < 2 ^ 62) (hb : b.natAbs < 2 ^ 62) : lI a = lI b ↔ a = b := by rw [← Int64.toInt_inj, lI_toInt ha, lI_toInt hb]
theorem lI_le0 {a : Int} (ha : a.natAbs < 2 ^ 62) : lI a ≤ 0 ↔ a ≤ 0 := lI_le (b := 0) ha (by decide)
theorem lI_0le {a : Int} (ha : a.natAbs < 2 ^ 62) : 0 ≤ lI a ↔ 0 ≤ a := lI_le (a := 0) (by decide) ha
theorem lI_e0 {a : Int} (ha : a.natAbs < 2 ^ 62) : lI a = 0 ↔ a = 0 := lI_eq (b := 0) ha (by decide)
/-- a division without rest -/
theorem lI_div {a b c : Int} (hb : b ≠ 0) (ha : a.natAbs < 2 ^ 62) (hbb : b.natAbs < 2 ^ 62) (h : a = c * b) : lI a / lI b = lI c := by
  have hc : c.natAbs ≤ a.natAbs := by
    rw [h, Int.natAbs_mul]
    exact Nat.le_mul_of_pos_right _ (by omega)
  refine lI_of ?_ (by omega)
  rw [Int64.toInt_div, lI_toInt ha, lI_toInt hbb, h, Int.mul_tdiv_cancel _ hb]
  exact Int.bmod_eq_of_le (by omega) (by omega)
theorem i_l {x : Int32} : x.toInt64 = lI x.toInt := by
  rw [← Int64.toInt_inj, lI_toInt (by have h1 := Int32.toInt_lt x; have h2 := Int32.le_toInt x; omega)]
  exact Int32.toInt_toInt64 x
