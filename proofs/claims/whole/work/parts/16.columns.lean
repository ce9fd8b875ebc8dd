/-! The class's Columns, at any of its five places; Math, Arrays.fill -/
variable {h : Hp}
theorem t_abs {a : Int32} {Q : Int32 → Hp → Prop} (hq : Q (ab a) h) : w_JM_abs a h Q := by
  unfold w_JM_abs
  unfold ab at hq
  exact ⟨fun z => by rw [if_pos z] at hq; exact hq, fun z => by rw [if_neg z] at hq; exact hq⟩
theorem gt_lt (a b : Int32) : gt a b = if a < b then b else a := by
  unfold gt
  by_cases h1 : a < b
  · rw [if_pos (Int32.le_of_lt h1), if_pos h1]
  · rw [if_neg h1]
    by_cases h2 : a ≤ b
    · rw [if_pos h2]
      exact Int32.le_antisymm (Int32.not_lt.mp h1) h2
    · rw [if_neg h2]
theorem ls2_lt (a b : Int32) : ls2 a b = if b < a then b else a := by
  unfold ls2
  by_cases h1 : b < a
  · rw [if_pos (Int32.le_of_lt h1), if_pos h1]
  · rw [if_neg h1]
    by_cases h2 : b ≤ a
    · rw [if_pos h2]
      exact Int32.le_antisymm h2 (Int32.not_lt.mp h1)
    · rw [if_neg h2]
theorem t_max {a b : Int32} {Q : Int32 → Hp → Prop} (hq : Q (gt a b) h) : w_JM_max a b h Q := by
  unfold w_JM_max
  rw [gt_lt] at hq
  exact ⟨fun z => by rw [if_pos z] at hq; exact hq, fun z => by rw [if_neg z] at hq; exact hq⟩
theorem t_min {a b : Int32} {Q : Int32 → Hp → Prop} (hq : Q (ls2 a b) h) : w_JM_min a b h Q := by
  unfold w_JM_min
  rw [ls2_lt] at hq
  exact ⟨fun z => by rw [if_pos z] at hq; exact hq, fun z => by rw [if_neg z] at hq; exact hq⟩
/-- a row that is filled: what lies beyond its length stays -/
def fl (f : Nat → Int32) (n : Nat) (v : Int32) : Nat → Int32 := fun j => if j < n then v else f j
theorem sA_id (h : Hp) (a : Nat) : sA h a (gI h a) = h := by
  obtain ⟨f, r⟩ := h
  show ((fun b j => if b = a then f a j else f b j), r) = (f, r)
  congr 1
  funext b j
  by_cases e : b = a
  · subst e; simp
  · simp [e]
theorem sI_sA (h : Hp) (a k : Nat) (f : Nat → Int32) (v : Int32) : sI (sA h a f) a k v = sA h a (fun j => if j = k then v else f j) := by
  unfold sI sA
  congr 1
  funext b j
  by_cases e : b = a
  · subst e; simp [gI]
  · simp [e, gI]
theorem sA_sA (h : Hp) (a : Nat) (f g : Nat → Int32) : sA (sA h a f) a g = sA h a g := by
  unfold sA
  congr 1
  funext b j
  by_cases e : b = a
  · simp [e]
  · simp [e, gI]
theorem fl_0 (f : Nat → Int32) (v : Int32) : fl f 0 v = f := by
  funext j
  simp [fl]
theorem fl_s (f : Nat → Int32) (n : Nat) (v : Int32) : (fun j => if j = n then v else fl f n v j) = fl f (n + 1) v := by
  funext j
  unfold fl
  by_cases e : j = n
  · subst e; simp
  · rw [if_neg e]
    by_cases e2 : j < n
    · rw [if_pos e2, if_pos (by omega)]
    · rw [if_neg e2, if_neg (by omega)]
theorem t_fill {a n : Nat} {v : Int32} {Q : Hp → Prop} (hk : gK h a = 20) (hn : gN h a = n) (hb : n < 2 ^ 31) (hq : Q (sA h a (fl (gI h a) n v))) : w_JA_fill_IIV a v h Q := by
  unfold w_JA_fill_IIV
  refine ⟨Or.inl hk, ?_⟩
  rw [hn]
  have := loop_0 (fun m i (s : Hp) => w_JA_fill_IIV_L5 Q a v (nI n) m (nI i) s) (fun i s => s = sA h a (fl (gI h a) i v)) n h (by rw [fl_0, sA_id]) ?_ ?_
  · exact this
  · rintro m s rfl
    unfold w_JA_fill_IIV_L5
    exact ⟨fun _ => hq, fun z => absurd (Int32.le_refl _) z⟩
  · rintro m i s hi rfl ih
    unfold w_JA_fill_IIV_L5
    refine ⟨fun z => absurd z (nI_ge hi (by omega)), fun _ => ⟨hk, by rw [gN_sA, hn]; exact vp_in_nI hi (by omega), ?_⟩⟩
    rw [ix_nI (by omega), nI_1, sI_sA, fl_s]
    exact ih _ rfl
/-- a Columns object at c -/
def CO (h : Hp) (c : Nat) : Prop := gK h c = 1 ∧ gR h c 0 = c + 1 ∧ gK h (c + 1) = 20 ∧ gN h (c + 1) = 44
def Crc (h : Hp) (c r n : Nat) : Prop := CO h c ∧ gI h c 1 = nI r ∧ gI h c 2 = nI n ∧ 1 ≤ r ∧ r ≤ 3 ∧ n ≤ 8
theorem CO_19 (m : XS h) : CO h 19 := ⟨X_k19 m, X_r19_0 m, X_k20 m, X_n20 m⟩
theorem CO_21 (m : XS h) : CO h 21 := ⟨X_k21 m, X_r21_0 m, X_k22 m, X_n22 m⟩
theorem CO_24 (m : XS h) : CO h 24 := ⟨X_k24 m, X_r24_0 m, X_k25 m, X_n25 m⟩
theorem CO_77 (m : XS h) : CO h 77 := ⟨X_k77 m, X_r77_0 m, X_k78 m, X_n78 m⟩
theorem CO_79 (m : XS h) : CO h 79 := ⟨X_k79 m, X_r79_0 m, X_k80 m, X_n80 m⟩
theorem ge_inb {x : Int32} {n : Nat} (hn : n < 2 ^ 31) (h0 : ¬ x < 0) : nI n ≤ x ↔ inb x n = false := by
  rw [Int32.le_iff_toInt_le, nI_toInt hn]
  constructor
  · intro z
    exact inb_f (fun g => by have := (inb_iff.mp g).2; omega)
  · intro z
    refine Int.not_lt.mp (fun g => ?_)
    have h1 : 0 ≤ x.toInt := by
      have := Int32.not_lt.mp h0
      simpa using Int32.le_iff_toInt_le.mp this
    rw [inb_iff.mpr ⟨h1, g⟩] at z
    cases z
theorem neg_inb {x : Int32} {n : Nat} (h0 : x < 0) : inb x n = false := by
  refine inb_f (fun g => ?_)
  have := (inb_iff.mp g).1
  have h1 := Int32.lt_iff_toInt_lt.mp h0
  have e : (0 : Int32).toInt = 0 := rfl
  omega
theorem t_Co_hasColumn {c n : Nat} {x : Int32} {Q : Bool → Hp → Prop} (hk : gK h c = 1) (hn : gI h c 2 = nI n) (hb : n ≤ 8) (hq : Q (inb x n) h) : w_Co_hasColumn c x h Q := by
  unfold w_Co_hasColumn
  refine ⟨fun z => by rw [neg_inb z] at hq; exact hq, fun z => ⟨hk, fun w => ?_, fun w => ?_⟩⟩
  · rw [hn] at w
    rw [(ge_inb (by omega) z).mp w] at hq; exact hq
  · rw [hn] at w
    have : inb x n = true := by
      cases e : inb x n
      · exact absurd ((ge_inb (by omega) z).mpr e) w
      · rfl
    rw [this] at hq; exact hq
theorem t_Co_hasRow {c n : Nat} {x : Int32} {Q : Bool → Hp → Prop} (hk : gK h c = 1) (hn : gI h c 1 = nI n) (hb : n ≤ 8) (hq : Q (inb x n) h) : w_Co_hasRow c x h Q := by
  unfold w_Co_hasRow
  refine ⟨fun z => by rw [neg_inb z] at hq; exact hq, fun z => ⟨hk, fun w => ?_, fun w => ?_⟩⟩
  · rw [hn] at w
    rw [(ge_inb (by omega) z).mp w] at hq; exact hq
  · rw [hn] at w
    have : inb x n = true := by
      cases e : inb x n
      · exact absurd ((ge_inb (by omega) z).mpr e) w
      · rfl
    rw [this] at hq; exact hq
theorem t_Co_numberOf {c i k : Nat} {Q : Int32 → Hp → Prop} (hC : CO h c) (hi : 3 * i + k < 44) (hq : Q (gI h (c + 1) (3 * i + k)) h) : w_Co_numberOf c (nI i) (nI k) h Q := by
  obtain ⟨a1, a2, a3, a4⟩ := hC
  unfold w_Co_numberOf
  rw [show (3 : Int32) = nI 3 from rfl, pk_mul, nI_add, a2, show i * 3 + k = 3 * i + k by omega]
  exact ⟨a1, a3, by rw [a4]; exact vp_in_nI hi (by omega), by rw [ix_nI (by omega)]; exact hq⟩
theorem t_Co_gainOf {c i : Nat} {Q : Int32 → Hp → Prop} (hC : CO h c) (hi : i < 8) (hq : Q (gI h (c + 1) (24 + i)) h) : w_Co_gainOf c (nI i) h Q := by
  obtain ⟨a1, a2, a3, a4⟩ := hC
  unfold w_Co_gainOf
  rw [show (24 : Int32) = nI 24 from rfl, nI_add, a2]
  exact ⟨a1, a3, by rw [a4]; exact vp_in_nI (by omega) (by omega), by rw [ix_nI (by omega)]; exact hq⟩
theorem t_Co_needOf {c i : Nat} {Q : Int32 → Hp → Prop} (hC : CO h c) (hi : i < 3) (hq : Q (gI h (c + 1) (32 + i)) h) : w_Co_needOf c (nI i) h Q := by
  obtain ⟨a1, a2, a3, a4⟩ := hC
  unfold w_Co_needOf
  rw [show (32 : Int32) = nI 32 from rfl, nI_add, a2]
  exact ⟨a1, a3, by rw [a4]; exact vp_in_nI (by omega) (by omega), by rw [ix_nI (by omega)]; exact hq⟩
theorem t_Co_heldOf {c i : Nat} {Q : Int32 → Hp → Prop} (hC : CO h c) (hi : i < 8) (hq : Q (gI h (c + 1) (36 + i)) h) : w_Co_heldOf c (nI i) h Q := by
  obtain ⟨a1, a2, a3, a4⟩ := hC
  unfold w_Co_heldOf
  rw [show (36 : Int32) = nI 36 from rfl, nI_add, a2]
  exact ⟨a1, a3, by rw [a4]; exact vp_in_nI (by omega) (by omega), by rw [ix_nI (by omega)]; exact hq⟩
theorem t_Co_steps {c : Nat} {Q : Int32 → Hp → Prop} (hC : CO h c) (hq : Q (gI h (c + 1) 35) h) : w_Co_steps c h Q := by
  obtain ⟨a1, a2, a3, a4⟩ := hC
  unfold w_Co_steps
  rw [show (35 : Int32) = nI 35 from rfl, a2]
  exact ⟨a1, a3, by rw [a4]; exact vp_in_nI (by omega) (by omega), by rw [ix_nI (by omega)]; exact hq⟩
/-- the row that a column is added to -/
def adT (g f : Nat → Int32) (i : Nat) (o : Int32) (m : Nat) : Nat → Int32 := fun k => if k < m then g k + o * f (3 * i + k) else g k
theorem adT_0 (g f : Nat → Int32) (i : Nat) (o : Int32) : adT g f i o 0 = g := by
  funext k
  simp [adT]
theorem adT_s (g f : Nat → Int32) (i : Nat) (o : Int32) (m : Nat) : (fun k => if k = m then adT g f i o m m + o * f (3 * i + m) else adT g f i o m k) = adT g f i o (m + 1) := by
  funext k
  unfold adT
  by_cases e : k = m
  · subst e; simp
  · rw [if_neg e]
    by_cases e2 : k < m
    · rw [if_pos e2, if_pos (by omega)]
    · rw [if_neg e2, if_neg (by omega)]
theorem t_Co_addTo {c a i : Nat} {o : Int32} {Q : Hp → Prop} (hC : CO h c) (hi : i < 8) (hk : gK h a = 20) (hn : gN h a = 3) (hne : a ≠ c + 1) (hq : Q (sA h a (adT (gI h a) (gI h (c + 1)) i o 3))) : w_Co_addTo c a (nI i) o h Q := by
  unfold w_Co_addTo
  have := loop_0 (fun m j (s : Hp) => w_Co_addTo_L3 Q c a (nI i) o m (nI j) s) (fun j s => s = sA h a (adT (gI h a) (gI h (c + 1)) i o j)) 3 h (by rw [adT_0, sA_id]) ?_ ?_
  · exact this
  · rintro m s rfl
    unfold w_Co_addTo_L3
    exact ⟨fun _ => hq, fun z => absurd (Int32.le_refl _) z⟩
  · rintro m j s hj rfl ih
    unfold w_Co_addTo_L3
    refine ⟨fun z => absurd z (nI_ge (b := 3) hj (by omega)), fun _ => ⟨hk, by rw [gN_sA, hn]; exact vp_in_nI hj (by omega), hC.1, t_Co_numberOf (c := c) hC (by omega) ⟨hk, by rw [gN_sA, hn]; exact vp_in_nI hj (by omega), ?_⟩⟩⟩
    rw [ix_nI (by omega), nI_1, gI_sA, gI_sA, if_pos rfl, if_neg (by omega), sI_sA, adT_s]
    exact ih _ rfl
