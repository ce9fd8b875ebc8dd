/-! The class doubles sums: one level -/
variable {h : Hp}
def LH (f : Nat → Int32) (w T : Nat) (h : Hp) : Prop := ∀ j, j < 3 → (gI h 67 j).toInt = loZ f w T j ∧ (gI h 68 j).toInt = hiZ f w T j
def oZ (f : Nat → Int32) (w T k : Nat) : Int := ((Zk k 0 - loZ f w T 0) * 7 + (Zk k 1 - loZ f w T 1)) * 7 + (Zk k 2 - loZ f w T 2)
def oK (f : Nat → Int32) (w T k : Nat) : Nat := (oZ f w T k).toNat
theorem oZ_lt {f : Nat → Int32} {w e k : Nat} (hN : NB f) (hw : w ≤ 3) (he : e ≤ 4) (hk : nrK f w (2 ^ e) k = true) : 0 ≤ oZ f w (2 ^ e) k ∧ oZ f w (2 ^ e) k < 343 := by
  have a0 := nrK_at hk (show 0 < 3 by omega)
  have a1 := nrK_at hk (show 1 < 3 by omega)
  have a2 := nrK_at hk (show 2 < 3 by omega)
  have b0 := lohi (w := w) hN (show 0 < 3 by omega) he
  have b1 := lohi (w := w) hN (show 1 < 3 by omega) he
  have b2 := lohi (w := w) hN (show 2 < 3 by omega) he
  unfold oZ
  omega
theorem oK_inj {f : Nat → Int32} {w e k k' : Nat} (hN : NB f) (hw : w ≤ 3) (he : e ≤ 4) (hk : nrK f w (2 ^ e) k = true) (hk' : nrK f w (2 ^ e) k' = true) (g : oK f w (2 ^ e) k = oK f w (2 ^ e) k') : k = k' := by
  have l1 := oZ_lt hN hw he hk
  have l2 := oZ_lt hN hw he hk'
  have a0 := nrK_at hk (show 0 < 3 by omega)
  have a1 := nrK_at hk (show 1 < 3 by omega)
  have a2 := nrK_at hk (show 2 < 3 by omega)
  have a0' := nrK_at hk' (show 0 < 3 by omega)
  have a1' := nrK_at hk' (show 1 < 3 by omega)
  have a2' := nrK_at hk' (show 2 < 3 by omega)
  have b0 := lohi (w := w) hN (show 0 < 3 by omega) he
  have b1 := lohi (w := w) hN (show 1 < 3 by omega) he
  have b2 := lohi (w := w) hN (show 2 < 3 by omega) he
  have e : oZ f w (2 ^ e) k = oZ f w (2 ^ e) k' := by
    unfold oK at g
    omega
  unfold oZ at e
  refine Zk_inj (fun j hj => ?_)
  match j, hj with
  | 0, _ => omega
  | 1, _ => omega
  | 2, _ => omega
theorem off_int {a b c p q s : Int32} (ha : a.toInt.natAbs ≤ 100) (hb : b.toInt.natAbs ≤ 100) (hc : c.toInt.natAbs ≤ 100) (hp : p.toInt.natAbs ≤ 100) (hq : q.toInt.natAbs ≤ 100) (hs : s.toInt.natAbs ≤ 100) : ((((((a - p) * 7) + b) - q) * 7 + c) - s).toInt = ((a.toInt - p.toInt) * 7 + (b.toInt - q.toInt)) * 7 + (c.toInt - s.toInt) := by
  have e : (7 : Int32).toInt = 7 := rfl
  have e1 : (a - p).toInt = a.toInt - p.toInt := Jvm.Kit.i32_sub (by omega) (by omega)
  have e2 : ((a - p) * 7).toInt = (a.toInt - p.toInt) * 7 := by rw [Jvm.Kit.i32_mul (by rw [e, e1]; omega) (by rw [e, e1]; omega), e, e1]
  have e3 : ((a - p) * 7 + b).toInt = (a.toInt - p.toInt) * 7 + b.toInt := by rw [Jvm.Kit.i32_add (by rw [e2]; omega) (by rw [e2]; omega), e2]
  have e4 : ((a - p) * 7 + b - q).toInt = (a.toInt - p.toInt) * 7 + b.toInt - q.toInt := by rw [Jvm.Kit.i32_sub (by rw [e3]; omega) (by rw [e3]; omega), e3]
  have e5 : (((a - p) * 7 + b - q) * 7).toInt = ((a.toInt - p.toInt) * 7 + b.toInt - q.toInt) * 7 := by rw [Jvm.Kit.i32_mul (by rw [e, e4]; omega) (by rw [e, e4]; omega), e, e4]
  have e6 : (((a - p) * 7 + b - q) * 7 + c).toInt = ((a.toInt - p.toInt) * 7 + b.toInt - q.toInt) * 7 + c.toInt := by rw [Jvm.Kit.i32_add (by rw [e5]; omega) (by rw [e5]; omega), e5]
  rw [Jvm.Kit.i32_sub (by rw [e6]; omega) (by rw [e6]; omega), e6]
  omega
theorem nrK_3 {f : Nat → Int32} {w T k : Nat} : nrK f w T k = true ↔ ∀ j, j < 3 → loZ f w T j ≤ Zk k j ∧ Zk k j ≤ hiZ f w T j := by
  constructor
  · intro e j hj
    exact nrK_at e hj
  · intro a
    unfold nrK
    rw [allB_true]
    intro j hj
    rw [decide_eq_true (a j hj).1, decide_eq_true (a j hj).2]
    rfl
theorem t_Db_offsetOf {f : Nat → Int32} {w e k : Nat} {a b c : Int32} {Q : Int32 → Hp → Prop} (m : XS h) (hN : NB f) (hw : w ≤ 3) (he : e ≤ 4) (lh : LH f w (2 ^ e) h) (ha : a.toInt = Zk k 0) (hb : b.toInt = Zk k 1) (hc : c.toInt = Zk k 2) (hk : ∀ j, j < 3 → (Zk k j).natAbs ≤ 100) (hq0 : nrK f w (2 ^ e) k = false → Q (-1) h) (hq : nrK f w (2 ^ e) k = true → Q (nI (oK f w (2 ^ e) k)) h) : w_Db_offsetOf 65 a b c h Q := by
  have l0 := lh 0 (by omega)
  have l1 := lh 1 (by omega)
  have l2 := lh 2 (by omega)
  have no : ∀ j, j < 3 → ¬ (loZ f w (2 ^ e) j ≤ Zk k j ∧ Zk k j ≤ hiZ f w (2 ^ e) j) → Q (-1) h := fun j hj g => hq0 (by
    cases e2 : nrK f w (2 ^ e) k with
    | false => rfl
    | true => exact absurd (nrK_at e2 hj) g)
  unfold w_Db_offsetOf
  rw [X_r65_2 m, X_r65_3 m, X_n67 m, X_n68 m, show ix (0 : Int32) = 0 from rfl, show ix (1 : Int32) = 1 from rfl, show ix (2 : Int32) = 2 from rfl]
  have v0 : vp_in (0 : Int32) 3 := vp_in_nI (n := 0) (by omega) (by omega)
  have v1 : vp_in (1 : Int32) 3 := vp_in_nI (n := 1) (by omega) (by omega)
  have v2 : vp_in (2 : Int32) 3 := vp_in_nI (n := 2) (by omega) (by omega)
  refine ⟨X_k65 m, X_k67 m, v0, fun z => no 0 (by omega) (fun g => ?_), fun z0 => ⟨X_k68 m, v0, fun z => no 0 (by omega) (fun g => ?_), fun z1 => ⟨v1, fun z => no 1 (by omega) (fun g => ?_), fun z2 => ⟨v1, fun z => no 1 (by omega) (fun g => ?_), fun z3 => ⟨v2, fun z => no 2 (by omega) (fun g => ?_), fun z4 => ⟨v2, fun z5 => ?_, fun z => no 2 (by omega) (fun g => ?_)⟩⟩⟩⟩⟩⟩
  · have := Int32.lt_iff_toInt_lt.mp z; omega
  · have := Int32.lt_iff_toInt_lt.mp z; omega
  · have := Int32.lt_iff_toInt_lt.mp z; omega
  · have := Int32.lt_iff_toInt_lt.mp z; omega
  · have := Int32.lt_iff_toInt_lt.mp z; omega
  · have y0 := Int32.le_iff_toInt_le.mp (Int32.not_lt.mp z0)
    have y1 := Int32.le_iff_toInt_le.mp (Int32.not_lt.mp z1)
    have y2 := Int32.le_iff_toInt_le.mp (Int32.not_lt.mp z2)
    have y3 := Int32.le_iff_toInt_le.mp (Int32.not_lt.mp z3)
    have y4 := Int32.le_iff_toInt_le.mp (Int32.not_lt.mp z4)
    have y5 := Int32.le_iff_toInt_le.mp z5
    have b0 := lohi (w := w) hN (show 0 < 3 by omega) he
    have b1 := lohi (w := w) hN (show 1 < 3 by omega) he
    have b2 := lohi (w := w) hN (show 2 < 3 by omega) he
    have k0 := hk 0 (by omega)
    have k1 := hk 1 (by omega)
    have k2 := hk 2 (by omega)
    have nr : nrK f w (2 ^ e) k = true := nrK_3.mpr (fun j hj => by
      match j, hj with
      | 0, _ => omega
      | 1, _ => omega
      | 2, _ => omega)
    have lt := oZ_lt hN hw he nr
    have fin := hq nr
    have ev : ((((((a - gI h 67 0) * 7) + b) - gI h 67 1) * 7 + c) - gI h 67 2) = nI (oK f w (2 ^ e) k) := by
      rw [← Int32.toInt_inj, off_int (by omega) (by omega) (by omega) (by omega) (by omega) (by omega), nI_toInt (by unfold oK; omega), ha, hb, hc, l0.1, l1.1, l2.1]
      unfold oK
      rw [Int.toNat_of_nonneg lt.1]
      rfl
    rw [ev]
    exact fin
  · exact z (Int32.le_iff_toInt_le.mpr (by omega))
/-- one level as far as it is laid -/
def DV (f : Nat → Int32) (w T b : Nat) (acc : List Nat) (h : Hp) : Prop := LH f w T h ∧ gI h 65 6 = nI acc.length ∧ (∀ i j, i < acc.length → j < 3 → gI h 70 (1029 * b + 3 * i + j) = of60 (upk (acc.getD i 0) j)) ∧ ∀ k, nrK f w T k = true → (gI h 69 (oK f w T k) = 1 ↔ k ∈ acc)
/-- what a step of a level leaves as it was -/
def DF (b : Nat) (h h' : Hp) : Prop := Fx [65, 69, 70] [] h h' ∧ (∀ p, p < 1029 → gI h' 70 (1029 * (1 - b) + p) = gI h 70 (1029 * (1 - b) + p)) ∧ ∀ k, k ≠ 6 → gI h' 65 k = gI h 65 k
theorem DF_refl (b : Nat) (h : Hp) : DF b h h := ⟨fx_refl _ _ _, fun _ _ => rfl, fun _ _ => rfl⟩
theorem DF_trans {b : Nat} {h h1 h2 : Hp} (x : DF b h h1) (y : DF b h1 h2) : DF b h h2 := ⟨fx_trans x.1 y.1, fun p hp => (y.2.1 p hp).trans (x.2.1 p hp), fun k hk => (y.2.2 k hk).trans (x.2.2 k hk)⟩
theorem t_Db_addSum {f : Nat → Int32} {r w e k b : Nat} {acc : List Nat} {lv x0 x1 x2 : Int32} {Q : Hp → Prop} (m : XS h) (hN : NB f) (hw : w ≤ 3) (he : e ≤ 4) (hb : b ≤ 1) (hlv : lv &&& 1 = nI b) (dv : DV f w (2 ^ e) b acc h) (ok : dOK f r w (2 ^ e) acc) (hk : k < 1771561) (h0 : ∀ j, r ≤ j → j < 3 → Zk k j = 0) (hu : ∀ j, j < 3 → upk k j < 121) (e0 : x0 = of60 (upk k 0)) (e1 : x1 = of60 (upk k 1)) (e2 : x2 = of60 (upk k 2)) (hq : ∀ h', DF b h h' → DV f w (2 ^ e) b (addk (nrK f w (2 ^ e) k) acc k) h' → Q h') : w_Db_addSum 65 lv x0 x1 x2 h Q := by
  have u0 := hu 0 (by omega)
  have u1 := hu 1 (by omega)
  have u2 := hu 2 (by omega)
  obtain ⟨lh, d6, d70, d69⟩ := dv
  unfold w_Db_addSum
  refine ⟨X_k65 m, t_Db_offsetOf m hN hw he lh (by rw [e0, of60_toInt (by omega)]; rfl) (by rw [e1, of60_toInt (by omega)]; rfl) (by rw [e2, of60_toInt (by omega)]; rfl) (fun j hj => by have := hu j hj; unfold Zk; omega) (fun nr => ?_) (fun nr => ?_)⟩
  · refine ⟨fun _ => hq h (DF_refl _ _) ?_, fun z => absurd (by decide) z⟩
    unfold addk
    rw [if_neg (fun g => by rw [nr] at g; exact absurd g.1 (by decide))]
    exact ⟨lh, d6, d70, d69⟩
  · have lt := oZ_lt hN hw he nr
    have lt' : oK f w (2 ^ e) k < 343 := by unfold oK; omega
    refine ⟨fun z => absurd z (nI_nlt (b := 0) (by omega) (by omega)), fun _ => ⟨X_k65 m, ?_⟩⟩
    rw [X_r65_4 m, X_n69 m, X_r65_5 m, X_n70 m, ix_nI (n := oK f w (2 ^ e) k) (by omega)]
    refine ⟨X_k69 m, vp_in_nI (by omega) (by omega), fun z => hq h (DF_refl _ _) ?_, fun z => ?_⟩
    · unfold addk
      rw [if_neg (fun g => g.2 ((d69 k nr).mp z))]
      exact ⟨lh, d6, d70, d69⟩
    · have nin : k ∉ acc := fun g => z ((d69 k nr).mpr g)
      have eA : addk (nrK f w (2 ^ e) k) acc k = acc ++ [k] := if_pos ⟨nr, nin⟩
      have len := dOK_len hN hw he (dOK_add ok hk h0)
      rw [eA, List.length_append, List.length_singleton] at len
      have g6 : gI (sI h 69 (oK f w (2 ^ e) k) 1) 65 6 = nI acc.length := by rw [gI_sI, if_neg (fun q => absurd q.1 (by decide))]; exact d6
      rw [g6, d6, hlv, show (343 : Int32) = nI 343 from rfl, show (3 : Int32) = nI 3 from rfl, pk_mul, pk_mul, pk_mul, nI_add, nI_1, show nI (b * 343 * 3 + acc.length * 3) + 2 = nI (b * 343 * 3 + acc.length * 3 + 2) from nI_add _ 2, ix_nI (n := b * 343 * 3 + acc.length * 3) (by omega), ix_nI (n := b * 343 * 3 + acc.length * 3 + 1) (by omega), ix_nI (n := b * 343 * 3 + acc.length * 3 + 2) (by omega)]
      refine ⟨fun _ => ⟨X_k70 m, vp_in_nI (by omega) (by omega), vp_in_nI (by omega) (by omega), vp_in_nI (by omega) (by omega), ?_⟩, fun g => absurd (nI_lt (by omega) (by omega)) g⟩
      have g7 : gI (sI (sI (sI (sI h 69 (oK f w (2 ^ e) k) 1) 70 (b * 343 * 3 + acc.length * 3) x0) 70 (b * 343 * 3 + acc.length * 3 + 1) x1) 70 (b * 343 * 3 + acc.length * 3 + 2) x2) 65 6 = nI acc.length := by
        rw [gI_sI, if_neg (fun q => absurd q.1 (by decide)), gI_sI, if_neg (fun q => absurd q.1 (by decide)), gI_sI, if_neg (fun q => absurd q.1 (by decide))]
        exact g6
      rw [g7, nI_1]
      rw [eA] at hq
      refine hq _ ⟨fx_trans (fx_trans (fx_trans (fx_trans (fx_sI _ _ (by simp)) (fx_sI _ _ (by simp))) (fx_sI _ _ (by simp))) (fx_sI _ _ (by simp))) (fx_sI _ _ (by simp)), fun p hp => ?_, fun j hj => ?_⟩ ⟨fun j hj => ?_, ?_, fun i j hi hj => ?_, fun k' nr' => ?_⟩
      · rw [gI_sI, if_neg (fun q => absurd q.1 (by decide)), gI_sI, if_neg (fun q => absurd q.2 (by omega)), gI_sI, if_neg (fun q => absurd q.2 (by omega)), gI_sI, if_neg (fun q => absurd q.2 (by omega)), gI_sI, if_neg (fun q => absurd q.1 (by decide))]
      · rw [gI_sI, if_neg (fun q => hj q.2), gI_sI, if_neg (fun q => absurd q.1 (by decide)), gI_sI, if_neg (fun q => absurd q.1 (by decide)), gI_sI, if_neg (fun q => absurd q.1 (by decide)), gI_sI, if_neg (fun q => absurd q.1 (by decide))]
      · rw [gI_sI, if_neg (fun q => absurd q.1 (by decide)), gI_sI, if_neg (fun q => absurd q.1 (by decide)), gI_sI, if_neg (fun q => absurd q.1 (by decide)), gI_sI, if_neg (fun q => absurd q.1 (by decide)), gI_sI, if_neg (fun q => absurd q.1 (by decide)), gI_sI, if_neg (fun q => absurd q.1 (by decide)), gI_sI, if_neg (fun q => absurd q.1 (by decide)), gI_sI, if_neg (fun q => absurd q.1 (by decide)), gI_sI, if_neg (fun q => absurd q.1 (by decide)), gI_sI, if_neg (fun q => absurd q.1 (by decide))]
        exact lh j hj
      · rw [gI_sI, if_pos ⟨rfl, rfl⟩, List.length_append, List.length_singleton]
      · rw [List.length_append, List.length_singleton] at hi
        rw [gI_sI, if_neg (fun q => absurd q.1 (by decide)), gI_sI, gI_sI, gI_sI, gI_sI]
        by_cases g : i = acc.length
        · subst g
          rw [show (acc ++ [k]).getD acc.length 0 = k from by rw [List.getD_eq_getElem?_getD, List.getElem?_append_right (Nat.le_refl _), Nat.sub_self]; rfl]
          match j, hj with
          | 0, _ => rw [if_neg (by omega), if_neg (by omega), if_pos ⟨rfl, by omega⟩, e0]
          | 1, _ => rw [if_neg (by omega), if_pos ⟨rfl, by omega⟩, e1]
          | 2, _ => rw [if_pos ⟨rfl, by omega⟩, e2]
        · rw [if_neg (by omega), if_neg (by omega), if_neg (by omega), if_neg (by omega), d70 i j (by omega) hj, show (acc ++ [k]).getD i 0 = acc.getD i 0 from by rw [List.getD_eq_getElem?_getD, List.getElem?_append_left (by omega), ← List.getD_eq_getElem?_getD]]
      · rw [gI_sI, if_neg (fun q => absurd q.1 (by decide)), gI_sI, if_neg (fun q => absurd q.1 (by decide)), gI_sI, if_neg (fun q => absurd q.1 (by decide)), gI_sI, if_neg (fun q => absurd q.1 (by decide)), gI_sI]
        by_cases g : k' = k
        · subst g
          rw [if_pos ⟨rfl, rfl⟩]
          exact ⟨fun _ => List.mem_append_right _ (List.mem_singleton.mpr rfl), fun _ => rfl⟩
        · rw [if_neg (fun q => g (oK_inj hN hw he nr' nr q.2)), d69 k' nr', List.mem_append, List.mem_singleton]
          exact ⟨Or.inl, fun q => q.elim id (fun q => absurd q g)⟩
