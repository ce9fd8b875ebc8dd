/-! The reference's small methods -/
theorem tI_lit (n : Nat) (h : n < 2 ^ 31) : (nI n).toInt = (n : Int) := nI_toInt h
def inb (x : Int32) (n : Nat) : Bool := decide (¬ x < 0) && decide (x.toInt < (n : Int))
theorem inb_iff {x : Int32} {n : Nat} : inb x n = true ↔ 0 ≤ x.toInt ∧ x.toInt < (n : Int) := by
  unfold inb
  simp only [Bool.and_eq_true, decide_eq_true_eq, Int32.lt_iff_toInt_lt]
  constructor
  · rintro ⟨a, b⟩
    exact ⟨Int.not_lt.mp a, b⟩
  · rintro ⟨a, b⟩
    exact ⟨Int.not_lt.mpr a, b⟩
theorem inb_vp {x : Int32} {n : Nat} : inb x n = true ↔ vp_in x n := by rw [inb_iff, vp_in_iff]
theorem inb_ex {x : Int32} {n : Nat} (hn : n < 2 ^ 31) (h : inb x n = true) : ∃ j : Nat, j < n ∧ x = nI j := vp_in_of (inb_vp.mp h) hn
theorem inb_nI {j n : Nat} (hn : n < 2 ^ 31) (h : j < n) : inb (nI j) n = true := inb_vp.mpr (vp_in_nI h hn)
theorem inb_f {x : Int32} {n : Nat} (h : ¬ inb x n = true) : inb x n = false := by simpa using h
theorem sub1_toInt {n : Nat} (hn : n < 2 ^ 31) : (nI n - 1).toInt = (n : Int) - 1 := by
  have e : (1 : Int32).toInt = 1 := rfl
  rw [Jvm.Kit.i32_sub (by rw [nI_toInt hn, e]; omega) (by rw [nI_toInt hn, e]; omega), nI_toInt hn, e]
theorem isIn_inb {v : Int32} {n : Nat} (hn : n < 2 ^ 31) : (decide (0 ≤ v) && decide (v ≤ nI n - 1)) = inb v n := by
  rw [Bool.eq_iff_iff, inb_iff]
  simp only [Bool.and_eq_true, decide_eq_true_eq, Int32.le_iff_toInt_le, sub1_toInt hn]
  have e : (0 : Int32).toInt = 0 := rfl
  rw [e]
  omega
/-- a sum of Int32 -/
def sm (F : Nat → Int32) : Nat → Int32
  | 0 => 0
  | n + 1 => sm F n + F n
theorem sm_congr {F G : Nat → Int32} {n : Nat} (h : ∀ i, i < n → F i = G i) : sm F n = sm G n := by
  induction n with
  | zero => rfl
  | succ n ih => rw [sm, sm, ih (fun i hi => h i (by omega)), h n (by omega)]
theorem ix_nI {n : Nat} (h : n < 2 ^ 31) : ix (nI n) = n := nI_clamp h
variable {h : Hp}
theorem t_M_isIn {v l u : Int32} {Q : Bool → Hp → Prop} (hq : Q (decide (l ≤ v) && decide (v ≤ u)) h) : w_M_isIn v l u h Q := by
  unfold w_M_isIn
  refine ⟨fun a => ?_, fun a => ⟨fun b => ?_, fun b => ?_⟩⟩
  · rw [decide_eq_false (fun z => Int32.not_lt.mpr z a)] at hq; exact hq
  · rw [decide_eq_false (p := v ≤ u) (fun z => Int32.not_lt.mpr z b), Bool.and_false] at hq; exact hq
  · rw [decide_eq_true (Int32.not_lt.mp a), decide_eq_true (Int32.not_lt.mp b)] at hq; exact hq
def gt (a b : Int32) : Int32 := if a ≤ b then b else a
def ls2 (a b : Int32) : Int32 := if b ≤ a then b else a
def ab (a : Int32) : Int32 := if 0 ≤ a then a else -a
theorem t_M_greater {a b : Int32} {Q : Int32 → Hp → Prop} (hq : Q (gt a b) h) : w_M_greater a b h Q := by
  unfold w_M_greater
  unfold gt at hq
  exact ⟨fun z => by rw [if_pos z] at hq; exact hq, fun z => by rw [if_neg z] at hq; exact hq⟩
theorem t_M_lesser {a b : Int32} {Q : Int32 → Hp → Prop} (hq : Q (ls2 a b) h) : w_M_lesser a b h Q := by
  unfold w_M_lesser
  unfold ls2 at hq
  exact ⟨fun z => by rw [if_pos z] at hq; exact hq, fun z => by rw [if_neg z] at hq; exact hq⟩
theorem t_M_plus {a : Int32} {Q : Int32 → Hp → Prop} (hq : Q (ab a) h) : w_M_plus a h Q := by
  unfold w_M_plus
  unfold ab at hq
  exact ⟨fun z => by rw [if_pos z] at hq; exact hq, fun z => by rw [if_neg z] at hq; exact hq⟩
theorem t_M_truth {b : Bool} {Q : Int32 → Hp → Prop} (hq : Q (b2i b) h) : w_M_truth (b2i b) h Q := by
  unfold w_M_truth
  cases b
  · exact ⟨fun _ => hq, fun z => absurd rfl z⟩
  · exact ⟨fun z => absurd z (by decide), fun _ => hq⟩
theorem t_M_isColumn {c : Int32} {n : Nat} {Q : Bool → Hp → Prop} (hM : MS h) (hn : gI h 81 18 = nI n) (hb : n ≤ 8) (hq : Q (inb c n) h) : w_M_isColumn 81 c h Q := by
  unfold w_M_isColumn
  refine ⟨M_K hM, t_M_isIn ?_⟩
  rw [hn, isIn_inb (by omega)]
  exact hq
theorem t_M_isRow {c : Int32} {n : Nat} {Q : Bool → Hp → Prop} (hM : MS h) (hn : gI h 81 17 = nI n) (hb : n ≤ 8) (hq : Q (inb c n) h) : w_M_isRow 81 c h Q := by
  unfold w_M_isRow
  refine ⟨M_K hM, t_M_isIn ?_⟩
  rw [hn, isIn_inb (by omega)]
  exact hq
theorem l_3cr (c r : Nat) : ((3 : Int32) * nI c) + nI r = nI (3 * c + r) := by rw [show (3 : Int32) = nI 3 from rfl, pk_mul, nI_add]
theorem l_kc (k c : Nat) : nI k + nI c = nI (k + c) := nI_add k c
theorem t_M_numberOf {c r : Nat} {Q : Int32 → Hp → Prop} (hM : MS h) (hc : 3 * c + r < 44) (hq : Q (gI h 86 (3 * c + r)) h) : w_M_numberOf 81 (nI c) (nI r) h Q := by
  obtain ⟨a1, a2, a3⟩ := M_now hM
  unfold w_M_numberOf
  rw [l_3cr, a1]
  exact ⟨M_K hM, a2, by rw [a3]; exact vp_in_nI hc (by omega), by rw [ix_nI (by omega)]; exact hq⟩
theorem t_M_gainOf {c : Nat} {Q : Int32 → Hp → Prop} (hM : MS h) (hc : 24 + c < 44) (hq : Q (gI h 86 (24 + c)) h) : w_M_gainOf 81 (nI c) h Q := by
  obtain ⟨a1, a2, a3⟩ := M_now hM
  unfold w_M_gainOf
  rw [show (24 : Int32) = nI 24 from rfl, nI_add, a1]
  exact ⟨M_K hM, a2, by rw [a3]; exact vp_in_nI hc (by omega), by rw [ix_nI (by omega)]; exact hq⟩
theorem t_M_needOf {c : Nat} {Q : Int32 → Hp → Prop} (hM : MS h) (hc : 32 + c < 44) (hq : Q (gI h 86 (32 + c)) h) : w_M_needOf 81 (nI c) h Q := by
  obtain ⟨a1, a2, a3⟩ := M_now hM
  unfold w_M_needOf
  rw [show (32 : Int32) = nI 32 from rfl, nI_add, a1]
  exact ⟨M_K hM, a2, by rw [a3]; exact vp_in_nI hc (by omega), by rw [ix_nI (by omega)]; exact hq⟩
/-- rows and columns of the reference -/
def Mrc (h : Hp) (r n : Nat) : Prop := MS h ∧ gI h 81 17 = nI r ∧ gI h 81 18 = nI n ∧ 1 ≤ r ∧ r ≤ 3 ∧ n ≤ 8
theorem loop_le {n : Nat} {x : Int32} (h : x = nI n) : x ≤ nI n := by rw [h]; exact Int32.le_refl _
theorem t_M_heldSum {r n k : Nat} {Q : Int32 → Hp → Prop} (hM : Mrc h r n) (hk : k < 3) (hq : Q (sm (fun c => gI h 86 (36 + c) * gI h 86 (3 * c + k)) n) h) : w_M_heldSum 81 (nI k) h Q := by
  obtain ⟨hM, e17, e18, -, -, hn⟩ := hM
  obtain ⟨a1, a2, a3⟩ := M_now hM
  unfold w_M_heldSum
  refine loop_0 (fun m i (s : Int32) => w_M_heldSum_L4 Q 81 (nI k) m s (nI i) h) (fun i s => s = sm (fun c => gI h 86 (36 + c) * gI h 86 (3 * c + k)) i) n 0 rfl ?_ ?_
  · rintro m s rfl
    unfold w_M_heldSum_L4
    exact ⟨M_K hM, fun _ => hq, fun a => absurd (loop_le e18) a⟩
  · rintro m i s hi rfl ih
    unfold w_M_heldSum_L4
    refine ⟨M_K hM, fun a => absurd (e18 ▸ a) (nI_ge hi (by omega)), fun _ => ?_⟩
    rw [show (36 : Int32) = nI 36 from rfl, nI_add, a1, a3, ix_nI (by omega)]
    refine ⟨a2, vp_in_nI (by omega) (by omega), t_M_numberOf hM (by omega) ?_⟩
    rw [nI_1]
    exact ih _ rfl
theorem t_M_heldGain {r n : Nat} {Q : Int32 → Hp → Prop} (hM : Mrc h r n) (hq : Q (sm (fun c => gI h 86 (36 + c) * gI h 86 (24 + c)) n) h) : w_M_heldGain 81 h Q := by
  obtain ⟨hM, e17, e18, -, -, hn⟩ := hM
  obtain ⟨a1, a2, a3⟩ := M_now hM
  unfold w_M_heldGain
  refine loop_0 (fun m i (s : Int32) => w_M_heldGain_L4 Q 81 m s (nI i) h) (fun i s => s = sm (fun c => gI h 86 (36 + c) * gI h 86 (24 + c)) i) n 0 rfl ?_ ?_
  · rintro m s rfl
    unfold w_M_heldGain_L4
    exact ⟨M_K hM, fun _ => hq, fun a => absurd (loop_le e18) a⟩
  · rintro m i s hi rfl ih
    unfold w_M_heldGain_L4
    refine ⟨M_K hM, fun a => absurd (e18 ▸ a) (nI_ge hi (by omega)), fun _ => ?_⟩
    rw [show (36 : Int32) = nI 36 from rfl, nI_add, a1, a3, ix_nI (by omega)]
    refine ⟨a2, vp_in_nI (by omega) (by omega), t_M_gainOf hM (by omega) ?_⟩
    rw [nI_1]
    exact ih _ rfl
theorem t_M_heldSteps {r n : Nat} {Q : Int32 → Hp → Prop} (hM : Mrc h r n) (hq : Q (sm (fun c => gI h 86 (36 + c)) n) h) : w_M_heldSteps 81 h Q := by
  obtain ⟨hM, e17, e18, -, -, hn⟩ := hM
  obtain ⟨a1, a2, a3⟩ := M_now hM
  unfold w_M_heldSteps
  refine loop_0 (fun m i (s : Int32) => w_M_heldSteps_L4 Q 81 m s (nI i) h) (fun i s => s = sm (fun c => gI h 86 (36 + c)) i) n 0 rfl ?_ ?_
  · rintro m s rfl
    unfold w_M_heldSteps_L4
    exact ⟨M_K hM, fun _ => hq, fun a => absurd (loop_le e18) a⟩
  · rintro m i s hi rfl ih
    unfold w_M_heldSteps_L4
    refine ⟨M_K hM, fun a => absurd (e18 ▸ a) (nI_ge hi (by omega)), fun _ => ?_⟩
    rw [show (36 : Int32) = nI 36 from rfl, nI_add, a1, a3, ix_nI (by omega)]
    refine ⟨a2, vp_in_nI (by omega) (by omega), ?_⟩
    rw [nI_1]
    exact ih _ rfl
theorem t_M_heldOff {r n : Nat} {Q : Int32 → Hp → Prop} (hM : Mrc h r n) (hq : Q (sm (fun k => ab (sm (fun c => gI h 86 (36 + c) * gI h 86 (3 * c + k)) n - gI h 86 (32 + k))) r) h) : w_M_heldOff 81 h Q := by
  have hM0 := hM
  obtain ⟨hM, e17, e18, hr1, hr3, hn⟩ := hM
  unfold w_M_heldOff
  refine loop_0 (fun m i (s : Int32) => w_M_heldOff_L4 Q 81 m s (nI i) h) (fun i s => s = sm (fun k => ab (sm (fun c => gI h 86 (36 + c) * gI h 86 (3 * c + k)) n - gI h 86 (32 + k))) i) r 0 rfl ?_ ?_
  · rintro m s rfl
    unfold w_M_heldOff_L4
    exact ⟨M_K hM, fun _ => hq, fun a => absurd (loop_le e17) a⟩
  · rintro m i s hi rfl ih
    unfold w_M_heldOff_L4
    refine ⟨M_K hM, fun a => absurd (e17 ▸ a) (nI_ge hi (by omega)), fun _ => t_M_heldSum hM0 (by omega) ⟨M_K hM, t_M_needOf hM (by omega) (t_M_plus ?_)⟩⟩
    rw [nI_1]
    exact ih _ rfl
