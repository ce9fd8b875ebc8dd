/-! Strips as boxes of cells; the strip seen from the need -/
variable {h : Hp}
def lb (f : Nat → Int32) (r t w k j : Nat) : Int := if j < r then -((-((k : Int) * (f (32 + j)).toInt)) / ((max t 1 : Nat) : Int)) - (w : Int) else 0
def hb (f : Nat → Int32) (r t w k j : Nat) : Int := if j < r then ((k : Int) * (f (32 + j)).toInt) / ((max t 1 : Nat) : Int) + (w : Int) else 0
def inB (f : Nat → Int32) (r t w k : Nat) (z : Nat → Int) : Prop := ∀ j, j < 3 → lb f r t w k j ≤ z j ∧ z j ≤ hb f r t w k j
theorem box1 {T : Nat} (hT : 1 ≤ T) (a z : Int) (w : Nat) : (-((-a) / (T : Int)) - (w : Int) ≤ z ∧ z ≤ a / (T : Int) + (w : Int)) ↔ ((T : Int) * z - a).natAbs ≤ w * T := by
  have p : (0 : Int) < (T : Int) := by omega
  have e1 : z ≤ a / (T : Int) + (w : Int) ↔ (z - (w : Int)) * (T : Int) ≤ a := by
    rw [← Int.le_ediv_iff_mul_le p]
    omega
  have e2 : -((-a) / (T : Int)) - (w : Int) ≤ z ↔ (-z - (w : Int)) * (T : Int) ≤ -a := by
    rw [← Int.le_ediv_iff_mul_le p]
    omega
  rw [e1, e2, Int.sub_mul, Int.sub_mul, Int.neg_mul, Int.mul_comm z]
  have e3 : ((w * T : Nat) : Int) = (w : Int) * (T : Int) := Int.natCast_mul _ _
  omega
theorem box_in {f : Nat → Int32} {r t w k : Nat} {z : Nat → Int} (hr : r ≤ 3) (ht : 1 ≤ t) (hz : ∀ j, r ≤ j → j < 3 → z j = 0) : inB f r t w k z ↔ inZ f r t w k z = true := by
  have em : ((max t 1 : Nat) : Int) = (t : Int) := by omega
  unfold inB inZ
  rw [allB_true]
  constructor
  · intro a j hj
    have := a j (by omega)
    unfold lb hb at this
    rw [if_pos hj, if_pos hj, em, box1 ht] at this
    exact decide_eq_true this
  · intro a j hj
    unfold lb hb
    by_cases g : j < r
    · have := of_decide_eq_true (a j g)
      rw [if_pos g, if_pos g, em, box1 ht]
      exact this
    · rw [if_neg g, if_neg g, hz j (by omega) hj]
      omega
theorem hb_lb {f : Nat → Int32} {r t w k j : Nat} : hb f r t w k j - lb f r t w k j ≤ 2 * (w : Int) ∧ (r ≤ j → hb f r t w k j - lb f r t w k j = 0) := by
  unfold hb lb
  by_cases g : j < r
  · rw [if_pos g, if_pos g]
    refine ⟨?_, fun e => by omega⟩
    have p : (0 : Int) < ((max t 1 : Nat) : Int) := by omega
    have h1 := Int.ediv_mul_le ((k : Int) * (f (32 + j)).toInt) (Int.ne_of_gt p)
    have h2 := Int.ediv_mul_le (-((k : Int) * (f (32 + j)).toInt)) (Int.ne_of_gt p)
    have h3 : ((k : Int) * (f (32 + j)).toInt / ((max t 1 : Nat) : Int) + -((k : Int) * (f (32 + j)).toInt) / ((max t 1 : Nat) : Int)) * ((max t 1 : Nat) : Int) ≤ 0 * ((max t 1 : Nat) : Int) := by
      rw [Int.add_mul]
      omega
    have h4 := Int.le_of_mul_le_mul_right h3 p
    omega
  · rw [if_neg g, if_neg g]
    exact ⟨by omega, fun _ => rfl⟩
def dmS (w r q : Nat) : Nat := if q < r then 2 * w + 1 else 1
/-- the places of a sum in its box -/
def xs (f : Nat → Int32) (r t w k : Nat) (z : Nat → Int) (j : Nat) : Nat := (z j - lb f r t w k j).toNat
def cl (f : Nat → Int32) (r t w k : Nat) (z : Nat → Int) : Nat := (xs f r t w k z 0 * dmS w r 1 + xs f r t w k z 1) * dmS w r 2 + xs f r t w k z 2
theorem xs_lt {f : Nat → Int32} {r t w k : Nat} {z : Nat → Int} (b : inB f r t w k z) : xs f r t w k z 0 ≤ 2 * w ∧ xs f r t w k z 1 < dmS w r 1 ∧ xs f r t w k z 2 < dmS w r 2 := by
  have b0 := b 0 (by omega)
  have b1 := b 1 (by omega)
  have b2 := b 2 (by omega)
  have w0 := hb_lb (f := f) (r := r) (t := t) (w := w) (k := k) (j := 0)
  have w1 := hb_lb (f := f) (r := r) (t := t) (w := w) (k := k) (j := 1)
  have w2 := hb_lb (f := f) (r := r) (t := t) (w := w) (k := k) (j := 2)
  unfold xs dmS
  refine ⟨by omega, ?_, ?_⟩
  · by_cases g : 1 < r
    · rw [if_pos g]; omega
    · rw [if_neg g]; have := w1.2 (by omega); omega
  · by_cases g : 2 < r
    · rw [if_pos g]; omega
    · rw [if_neg g]; have := w2.2 (by omega); omega
theorem cl_dec {f : Nat → Int32} {r t w k : Nat} {z : Nat → Int} (b : inB f r t w k z) : cl f r t w k z % dmS w r 2 = xs f r t w k z 2 ∧ cl f r t w k z / dmS w r 2 % dmS w r 1 = xs f r t w k z 1 ∧ cl f r t w k z / dmS w r 2 / dmS w r 1 = xs f r t w k z 0 := by
  obtain ⟨-, h1, h2⟩ := xs_lt b
  have d1 : 0 < dmS w r 1 := by omega
  have d2 : 0 < dmS w r 2 := by omega
  have e1 : cl f r t w k z % dmS w r 2 = xs f r t w k z 2 := by
    unfold cl
    rw [Nat.add_comm, Nat.add_mul_mod_self_right, Nat.mod_eq_of_lt h2]
  have e2 : cl f r t w k z / dmS w r 2 = xs f r t w k z 0 * dmS w r 1 + xs f r t w k z 1 := by
    unfold cl
    rw [Nat.add_comm, Nat.add_mul_div_right _ _ d2, Nat.div_eq_of_lt h2, Nat.zero_add]
  refine ⟨e1, ?_, ?_⟩
  · rw [e2, Nat.add_comm, Nat.add_mul_mod_self_right, Nat.mod_eq_of_lt h1]
  · rw [e2, Nat.add_comm, Nat.add_mul_div_right _ _ d1, Nat.div_eq_of_lt h1, Nat.zero_add]
theorem cl_inj {f : Nat → Int32} {r t w k : Nat} {z z' : Nat → Int} (b : inB f r t w k z) (b' : inB f r t w k z') (e : cl f r t w k z = cl f r t w k z') : ∀ j, j < 3 → z j = z' j := by
  obtain ⟨a1, a2, a3⟩ := cl_dec b
  obtain ⟨c1, c2, c3⟩ := cl_dec b'
  rw [e, c1] at a1
  rw [e, c2] at a2
  rw [e, c3] at a3
  intro j hj
  have h1 := b j hj
  have h2 := b' j hj
  unfold xs at a1 a2 a3
  match j, hj with
  | 0, _ => omega
  | 1, _ => omega
  | 2, _ => omega
theorem dmS_le {w r q : Nat} (hw : w ≤ 12) : 1 ≤ dmS w r q ∧ dmS w r q ≤ 25 := by
  unfold dmS
  split <;> omega
theorem cl_lt {f : Nat → Int32} {r t w k : Nat} {z : Nat → Int} (hw : w ≤ 12) (r1 : 1 ≤ r) (hr : r ≤ 3) (b : inB f r t w k z) : cl f r t w k z < 25 ^ r := by
  obtain ⟨h0, h1, h2⟩ := xs_lt b
  have d1 := dmS_le (w := w) (r := r) (q := 1) hw
  have d2 := dmS_le (w := w) (r := r) (q := 2) hw
  have m1 : xs f r t w k z 0 * dmS w r 1 ≤ 24 * dmS w r 1 := Nat.mul_le_mul_right _ (by omega)
  have m2 : (xs f r t w k z 0 * dmS w r 1 + xs f r t w k z 1) * dmS w r 2 ≤ (25 * dmS w r 1 - 1) * dmS w r 2 := Nat.mul_le_mul_right _ (by omega)
  have key : cl f r t w k z < 25 * dmS w r 1 * dmS w r 2 := by
    unfold cl
    rw [Nat.sub_mul, Nat.one_mul] at m2
    have m3 : dmS w r 2 ≤ 25 * dmS w r 1 * dmS w r 2 := Nat.le_mul_of_pos_left _ (by omega)
    omega
  refine Nat.lt_of_lt_of_le key ?_
  match r, r1, hr with
  | 1, _, _ =>
    have e1 : dmS w 1 1 = 1 := if_neg (by omega)
    have e2 : dmS w 1 2 = 1 := if_neg (by omega)
    rw [e1, e2]
    decide
  | 2, _, _ =>
    have e2 : dmS w 2 2 = 1 := if_neg (by omega)
    rw [e2]
    have : 25 * dmS w 2 1 ≤ 25 * 25 := Nat.mul_le_mul_left _ d1.2
    rw [show (25 : Nat) ^ 2 = 625 from rfl]
    omega
  | 3, _, _ =>
    have : 25 * dmS w 3 1 * dmS w 3 2 ≤ 25 * 25 * 25 := Nat.mul_le_mul (Nat.mul_le_mul_left _ d1.2) d2.2
    rw [show (25 : Nat) ^ 3 = 15625 from rfl]
    omega
/-- a sum seen from the need -/
def mz (f : Nat → Int32) (z : Nat → Int) : Nat → Int := fun j => (f (32 + j)).toInt - z j
/-- a sum one step back -/
def bk (f : Nat → Int32) (z : Nat → Int) (c : Nat) : Nat → Int := fun j => z j - (f (3 * c + j)).toInt
def Vk (f : Nat → Int32) (r n t w k : Nat) (z : Nat → Int) : Nat := vz f r n t w k (mz f z)
def Rk (f : Nat → Int32) (r n t w k : Nat) (z : Nat → Int) : Int32 := rz f r n t w k (mz f z)
theorem st_mz (f : Nat → Int32) (z : Nat → Int) (c : Nat) : stZ f (mz f z) c = mz f (bk f z c) := by
  funext j
  unfold stZ mz bk
  omega
theorem in_mz {f : Nat → Int32} {r t w k : Nat} {z : Nat → Int} (hk : k ≤ t) : inZ f r t w (t - k) (mz f z) = inZ f r t w k z := by
  refine allB_congr (fun j _ => ?_)
  have e : (t : Int) * mz f z j - ((t - k : Nat) : Int) * (f (32 + j)).toInt = -((t : Int) * z j - (k : Int) * (f (32 + j)).toInt) := by
    unfold mz
    rw [Int.ofNat_sub hk]
    grind
  rw [e, Int.natAbs_neg]
theorem Vk_congr {f : Nat → Int32} {r n t w k : Nat} {z z' : Nat → Int} (e : ∀ j, j < r → z j = z' j) : Vk f r n t w k z = Vk f r n t w k z' := vz_congr (fun j hj => by unfold mz; rw [e j hj])
theorem Rk_congr {f : Nat → Int32} {r n t w k : Nat} {z z' : Nat → Int} (e : ∀ j, j < r → z j = z' j) : Rk f r n t w k z = Rk f r n t w k z' := rz_congr k (fun j hj => by unfold mz; rw [e j hj])
theorem Vk_s {f : Nat → Int32} {r n t w k : Nat} {z : Nat → Int} (hk : k + 1 ≤ t) : Vk f r n t w (k + 1) z = if inZ f r t w (k + 1) z = true then smN (fun c => Vk f r n t w k (bk f z c)) n else 0 := by
  unfold Vk
  show (if inZ f r t w (t - (k + 1)) (mz f z) = true then wz f r n t w (k + 1) (mz f z) else 0) = _
  rw [in_mz hk, wz_vz]
  have : (fun c => vz f r n t w k (stZ f (mz f z) c)) = fun c => vz f r n t w k (mz f (bk f z c)) := by
    funext c
    rw [st_mz]
  rw [this]
theorem Rk_s {f : Nat → Int32} {r n t w k : Nat} {z : Nat → Int} : Rk f r n t w (k + 1) z = rzC (fun c => decide (Vk f r n t w k (bk f z c) ≠ 0)) (fun c => f (24 + c) + Rk f r n t w k (bk f z c)) n := by
  unfold Rk Vk
  show rzC (fun c => decide (vz f r n t w k (stZ f (mz f z) c) ≠ 0)) (fun c => f (24 + c) + rz f r n t w k (stZ f (mz f z) c)) n = _
  refine rzC_congr (fun c _ => ?_)
  rw [st_mz]
  exact ⟨rfl, rfl⟩
theorem Vk_0 {f : Nat → Int32} {r n t w : Nat} {z : Nat → Int} : Vk f r n t w 0 z ≠ 0 ↔ ∀ j, j < r → z j = 0 := by
  have e : ndZ f r (mz f z) = true ↔ ∀ j, j < r → z j = 0 := by
    unfold ndZ
    rw [allB_true]
    constructor
    · intro a j hj
      have := of_decide_eq_true (a j hj)
      unfold mz at this
      omega
    · intro a j hj
      refine decide_eq_true ?_
      unfold mz
      rw [a j hj, Int.sub_zero]
  have ei : (∀ j, j < r → z j = 0) → inZ f r t w 0 z = true := fun a => by
    unfold inZ
    rw [allB_true]
    intro j hj
    rw [a j hj]
    exact decide_eq_true (by simp)
  unfold Vk vz
  rw [in_mz (Nat.zero_le _), wz]
  constructor
  · intro g
    by_cases q : ndZ f r (mz f z) = true
    · exact e.mp q
    · rw [if_neg q] at g
      split at g <;> exact absurd rfl g
  · intro a
    rw [if_pos (ei a), if_pos (e.mpr a)]
    decide
theorem Vk_00 {f : Nat → Int32} {r n t w : Nat} : Vk f r n t w 0 (fun _ => 0) = 1 ∧ Rk f r n t w 0 (fun _ => 0) = 0 := by
  have e : ndZ f r (mz f (fun _ => 0)) = true := by
    unfold ndZ
    rw [allB_true]
    intro j _
    refine decide_eq_true ?_
    unfold mz
    dsimp only
    omega
  have ei : inZ f r t w 0 (fun _ => 0) = true := by
    unfold inZ
    rw [allB_true]
    intro j _
    exact decide_eq_true (by simp)
  unfold Vk Rk vz
  rw [in_mz (Nat.zero_le _), if_pos ei, wz, rz, if_pos e, if_pos e]
  exact ⟨rfl, rfl⟩
theorem Vk_need {f : Nat → Int32} {r n t w : Nat} : Vk f r n t w t (fun j => (f (32 + j)).toInt) = wz f r n t w t (fun _ => 0) ∧ Rk f r n t w t (fun j => (f (32 + j)).toInt) = rz f r n t w t (fun _ => 0) := by
  have e : mz f (fun j => (f (32 + j)).toInt) = fun _ => 0 := by
    funext j
    unfold mz
    dsimp only
    omega
  have ei : inZ f r t w (t - t) (fun _ => 0) = true := by
    unfold inZ
    rw [allB_true]
    intro j _
    rw [Nat.sub_self]
    exact decide_eq_true (by simp)
  unfold Vk Rk vz
  rw [e, if_pos ei]
  exact ⟨rfl, rfl⟩
