/-! How many walks lead on from a sum, and the best rest: over whole numbers -/
def inZ (f : Nat → Int32) (r t w l : Nat) (S : Nat → Int) : Bool := allB (fun j => decide (((t : Int) * S j - (l : Int) * (f (32 + j)).toInt).natAbs ≤ w * t)) r
def ndZ (f : Nat → Int32) (r : Nat) (S : Nat → Int) : Bool := allB (fun j => decide (S j = (f (32 + j)).toInt)) r
def stZ (f : Nat → Int32) (S : Nat → Int) (c : Nat) : Nat → Int := fun j => S j + (f (3 * c + j)).toInt
def smN (F : Nat → Nat) : Nat → Nat
  | 0 => 0
  | n + 1 => smN F n + F n
def rzC (b : Nat → Bool) (v : Nat → Int32) : Nat → Int32
  | 0 => -1000000000
  | c + 1 => if b c then gt (rzC b v c) (v c) else rzC b v c
def wz (f : Nat → Int32) (r n t w : Nat) : Nat → (Nat → Int) → Nat
  | 0, S => if ndZ f r S then 1 else 0
  | m + 1, S => smN (fun c => if inZ f r t w (t - m) (stZ f S c) then wz f r n t w m (stZ f S c) else 0) n
/-- the walks on from a sum, none if it isn't within the strip -/
def vz (f : Nat → Int32) (r n t w m : Nat) (S : Nat → Int) : Nat := if inZ f r t w (t - m) S then wz f r n t w m S else 0
def rz (f : Nat → Int32) (r n t w : Nat) : Nat → (Nat → Int) → Int32
  | 0, S => if ndZ f r S then 0 else -1000000000
  | m + 1, S => rzC (fun c => decide (vz f r n t w m (stZ f S c) ≠ 0)) (fun c => f (24 + c) + rz f r n t w m (stZ f S c)) n
theorem allB_congr {F G : Nat → Bool} : ∀ {n : Nat}, (∀ i, i < n → F i = G i) → allB F n = allB G n := by
  intro n
  induction n with
  | zero => intro _; rfl
  | succ n ih =>
    intro h
    rw [allB, allB, ih (fun i hi => h i (by omega)), h n (by omega)]
theorem allB_true {F : Nat → Bool} : ∀ {n : Nat}, allB F n = true ↔ ∀ i, i < n → F i = true := by
  intro n
  induction n with
  | zero => exact ⟨fun _ i hi => absurd hi (Nat.not_lt_zero _), fun _ => rfl⟩
  | succ n ih =>
    rw [allB, Bool.and_eq_true, ih]
    constructor
    · rintro ⟨a, b⟩ i hi
      by_cases e : i = n
      · rw [e]; exact b
      · exact a i (by omega)
    · intro a
      exact ⟨fun i hi => a i (by omega), a n (by omega)⟩
theorem smN_congr {F G : Nat → Nat} : ∀ {n : Nat}, (∀ i, i < n → F i = G i) → smN F n = smN G n := by
  intro n
  induction n with
  | zero => intro _; rfl
  | succ n ih =>
    intro h
    rw [smN, smN, ih (fun i hi => h i (by omega)), h n (by omega)]
theorem smN_le {F : Nat → Nat} {B : Nat} : ∀ {n : Nat}, (∀ i, i < n → F i ≤ B) → smN F n ≤ n * B := by
  intro n
  induction n with
  | zero => intro _; exact Nat.zero_le _
  | succ n ih =>
    intro h
    have h1 := ih (fun i hi => h i (by omega))
    have h2 := h n (by omega)
    rw [smN, Nat.add_mul]
    omega
theorem rzC_congr {b b' : Nat → Bool} {v v' : Nat → Int32} : ∀ {n : Nat}, (∀ i, i < n → b i = b' i ∧ v i = v' i) → rzC b v n = rzC b' v' n := by
  intro n
  induction n with
  | zero => intro _; rfl
  | succ n ih =>
    intro h
    rw [rzC, rzC, ih (fun i hi => h i (by omega)), (h n (by omega)).1, (h n (by omega)).2]
theorem inZ_congr {f : Nat → Int32} {r t w l : Nat} {S T : Nat → Int} (h : ∀ j, j < r → S j = T j) : inZ f r t w l S = inZ f r t w l T := allB_congr (fun j hj => by rw [h j hj])
theorem ndZ_congr {f : Nat → Int32} {r : Nat} {S T : Nat → Int} (h : ∀ j, j < r → S j = T j) : ndZ f r S = ndZ f r T := allB_congr (fun j hj => by rw [h j hj])
theorem stZ_congr {f : Nat → Int32} {r : Nat} {S T : Nat → Int} (h : ∀ j, j < r → S j = T j) (c : Nat) : ∀ j, j < r → stZ f S c j = stZ f T c j := fun j hj => by unfold stZ; rw [h j hj]
theorem wz_congr {f : Nat → Int32} {r n t w : Nat} : ∀ (m : Nat) {S T : Nat → Int}, (∀ j, j < r → S j = T j) → wz f r n t w m S = wz f r n t w m T := by
  intro m
  induction m with
  | zero => intro S T h; rw [wz, wz, ndZ_congr h]
  | succ m ih =>
    intro S T h
    rw [wz, wz]
    refine smN_congr (fun c _ => ?_)
    rw [inZ_congr (stZ_congr h c), ih (stZ_congr h c)]
theorem vz_congr {f : Nat → Int32} {r n t w m : Nat} {S T : Nat → Int} (h : ∀ j, j < r → S j = T j) : vz f r n t w m S = vz f r n t w m T := by
  unfold vz
  rw [inZ_congr h, wz_congr m h]
theorem rz_congr {f : Nat → Int32} {r n t w : Nat} : ∀ (m : Nat) {S T : Nat → Int}, (∀ j, j < r → S j = T j) → rz f r n t w m S = rz f r n t w m T := by
  intro m
  induction m with
  | zero => intro S T h; rw [rz, rz, ndZ_congr h]
  | succ m ih =>
    intro S T h
    rw [rz, rz]
    refine rzC_congr (fun c _ => ?_)
    rw [vz_congr (stZ_congr h c), ih (stZ_congr h c)]
    exact ⟨rfl, rfl⟩
theorem wz_vz (f : Nat → Int32) (r n t w m : Nat) (S : Nat → Int) : wz f r n t w (m + 1) S = smN (fun c => vz f r n t w m (stZ f S c)) n := rfl
theorem wz_le {f : Nat → Int32} {r n t w : Nat} (hn : n ≤ 8) : ∀ (m : Nat) (S : Nat → Int), wz f r n t w m S ≤ 8 ^ m := by
  intro m
  induction m with
  | zero => intro S; rw [wz]; split <;> decide
  | succ m ih =>
    intro S
    rw [wz]
    have := smN_le (F := fun c => if inZ f r t w (t - m) (stZ f S c) then wz f r n t w m (stZ f S c) else 0) (B := 8 ^ m) (n := n) (fun c _ => by
      split
      · exact ih _
      · exact Nat.zero_le _)
    have h2 := Nat.mul_le_mul_right (8 ^ m) hn
    rw [Nat.pow_succ, Nat.mul_comm (8 ^ m) 8]
    exact Nat.le_trans this h2
theorem wz_lt {f : Nat → Int32} {r n t w m : Nat} (hn : n ≤ 8) (hm : m ≤ 12) (S : Nat → Int) : wz f r n t w m S ≤ 68719476736 := Nat.le_trans (wz_le hn m S) (Nat.le_trans (Nat.pow_le_pow_right (by decide) hm) (by decide))
/-- the sums of a key -/
def Zk (k j : Nat) : Int := (upk k j : Int) - 60
theorem of60_toInt {x : Nat} (h : x < 1000) : (of60 x).toInt = (x : Int) - 60 := by
  unfold of60
  have e : (60 : Int32).toInt = 60 := rfl
  rw [Jvm.Kit.i32_sub (by rw [nI_toInt (by omega), e]; omega) (by rw [nI_toInt (by omega), e]; omega), nI_toInt (by omega), e]
/-- the needs are within -20 .. 20 -/
def NB (f : Nat → Int32) : Prop := ∀ j, j < 3 → -20 ≤ (f (32 + j)).toInt ∧ (f (32 + j)).toInt ≤ 20
theorem mulA {a b : Int} {A B : Nat} (ha : a.natAbs ≤ A) (hb : b.natAbs ≤ B) : (a * b).natAbs ≤ A * B := by
  rw [Int.natAbs_mul]
  exact Nat.mul_le_mul ha hb
theorem ab_toInt {x : Int32} (h : x.toInt.natAbs < 2 ^ 31) : (ab x).toInt = (x.toInt.natAbs : Int) := by
  unfold ab
  by_cases e : 0 ≤ x
  · rw [if_pos e]
    have : (0 : Int32).toInt = 0 := rfl
    rw [Int32.le_iff_toInt_le, this] at e
    omega
  · rw [if_neg e]
    have : (0 : Int32).toInt = 0 := rfl
    rw [Int32.le_iff_toInt_le, this] at e
    rw [Jvm.Kit.i32_neg (by omega)]
    omega
theorem mx_le {F : Nat → Int32} {B : Int32} : ∀ {n : Nat}, mx F n ≤ B ↔ 0 ≤ B ∧ ∀ j, j < n → F j ≤ B := by
  intro n
  induction n with
  | zero => exact ⟨fun h => ⟨h, fun j hj => absurd hj (Nat.not_lt_zero _)⟩, fun h => h.1⟩
  | succ n ih =>
    rw [mx, gt_le, ih]
    constructor
    · rintro ⟨⟨a, b⟩, c⟩
      refine ⟨a, fun j hj => ?_⟩
      by_cases e : j = n
      · rw [e]; exact c
      · exact b j (by omega)
    · rintro ⟨a, b⟩
      exact ⟨⟨a, fun j hj => b j (by omega)⟩, b n (by omega)⟩
/-- how far one sum strays, as a whole number -/
theorem stray1 {t l z : Nat} {s v : Int32} (ht : t ≤ 12) (hl : l ≤ 12) (hs : s.toInt.natAbs ≤ z) (hz : z ≤ 1000) (hv : v.toInt.natAbs ≤ 20) : (ab (nI t * s - nI l * v)).toInt = (((t : Int) * s.toInt - (l : Int) * v.toInt).natAbs : Int) := by
  have e1 : (nI t).toInt = (t : Int) := nI_toInt (by omega)
  have e2 : (nI l).toInt = (l : Int) := nI_toInt (by omega)
  have m1 := mulA (a := (t : Int)) (b := s.toInt) (A := 12) (B := 1000) (by omega) (by omega)
  have m2 := mulA (a := (l : Int)) (b := v.toInt) (A := 12) (B := 20) (by omega) (by omega)
  have p1 : (nI t * s).toInt = (t : Int) * s.toInt := by rw [Jvm.Kit.i32_mul (by rw [e1]; omega) (by rw [e1]; omega), e1]
  have p2 : (nI l * v).toInt = (l : Int) * v.toInt := by rw [Jvm.Kit.i32_mul (by rw [e2]; omega) (by rw [e2]; omega), e2]
  have p3 : (nI t * s - nI l * v).toInt = (t : Int) * s.toInt - (l : Int) * v.toInt := by rw [Jvm.Kit.i32_sub (by rw [p1, p2]; omega) (by rw [p1, p2]; omega), p1, p2]
  rw [ab_toInt (by rw [p3]; omega), p3]
theorem nSt_le {f : Nat → Int32} {r t l w : Nat} {S : Nat → Int32} (hr : r ≤ 3) (hN : NB f) (ht : t ≤ 12) (hl : l ≤ 12) (hw : w ≤ 12) (hS : ∀ j, j < r → (S j).toInt.natAbs ≤ 1000) : nSt f r S (nI l) (nI t) ≤ nI w * nI t ↔ inZ f r t w l (fun j => (S j).toInt) = true := by
  have hwt : w * t ≤ 144 := Nat.mul_le_mul hw ht
  unfold nSt inZ
  rw [pk_mul, mx_le, allB_true]
  constructor
  · rintro ⟨_, a⟩ j hj
    have := a j hj
    have hN2 := hN j (by omega)
    rw [Int32.le_iff_toInt_le, stray1 ht hl (hS j hj) (Nat.le_refl _) (by omega), nI_toInt (by omega)] at this
    rw [decide_eq_true_eq]
    dsimp only
    omega
  · intro a
    refine ⟨nI_le (a := 0) (Nat.zero_le _) (by omega), fun j hj => ?_⟩
    have := a j hj
    have hN2 := hN j (by omega)
    rw [decide_eq_true_eq] at this
    dsimp only at this
    rw [Int32.le_iff_toInt_le, stray1 ht hl (hS j hj) (Nat.le_refl _) (by omega), nI_toInt (by omega)]
    omega
theorem okS_in {f : Nat → Int32} {r n t l w q : Nat} {p : List Nat} (hr : r ≤ 3) (hF : FB f n) (hN : NB f) (ht : t ≤ 12) (hl : l ≤ 12) (hw : w ≤ 12) (hp : p ∈ PL n q) (hq : q ≤ 12) : okS f r t w l (kP f r n p) = inZ f r t w l (Zk (kP f r n p)) := by
  have hu : ∀ j, j < r → (of60 (upk (kP f r n p) j)).toInt = Zk (kP f r n p) j ∧ (Zk (kP f r n p) j).natAbs ≤ 60 := fun j hj => by
    have := pY_bd (r := r) hF (show j < 3 by omega) hp hq
    rw [← upk_kP hF (by omega) hp hq] at this
    rw [of60_toInt (by omega)]
    unfold Zk
    exact ⟨rfl, by omega⟩
  have := nSt_le (t := t) (l := l) (w := w) (S := fun j => of60 (upk (kP f r n p) j)) hr hN ht hl hw (fun j hj => by
    rw [(hu j hj).1]
    have := (hu j hj).2
    omega)
  unfold okS
  rw [Bool.eq_iff_iff, decide_eq_true_eq, this, inZ_congr (fun j hj => (hu j hj).1)]
theorem Zk_kst {f : Nat → Int32} {r n j q c : Nat} {p : List Nat} (hr : r ≤ 3) (hF : FB f n) (hj : j < r) (hp : p ∈ PL n q) (hq : q < 12) (hc : c < n) : Zk (kst f r (kP f r n p) c) j = stZ f (Zk (kP f r n p)) c j := by
  have h1 := pY_bd (r := r) hF (show j < 3 by omega) hp (by omega)
  have h4 := hF c j hc (by omega)
  have h5 := sX_kP (r := r) hF (show j < 3 by omega) hp hq hc
  unfold stZ Zk
  rw [kst_kP hF hp hq hc, upk_kP hF (by omega) (stp_PL hp hc) (by omega), ← h5]
  unfold sX
  rw [if_pos hj, upk_kP hF (by omega) hp (by omega)]
  omega
theorem mem_addk {b : Bool} {acc : List Nat} {k x : Nat} : x ∈ addk b acc k ↔ x ∈ acc ∨ b = true ∧ x = k := by
  unfold addk
  by_cases e : b = true ∧ k ∉ acc
  · rw [if_pos e, List.mem_append, List.mem_singleton]
    exact ⟨fun h => h.imp id (fun h => ⟨e.1, h⟩), fun h => h.imp id (fun h => h.2)⟩
  · rw [if_neg e]
    refine ⟨Or.inl, fun h => h.elim id (fun h => ?_)⟩
    by_cases g : k ∈ acc
    · rw [h.2]; exact g
    · exact absurd ⟨h.1, g⟩ e
theorem mem_nxC {f : Nat → Int32} {r t w l k x : Nat} {acc : List Nat} : ∀ {c : Nat}, x ∈ nxC f r t w l k acc c ↔ x ∈ acc ∨ ∃ c', c' < c ∧ x = kst f r k c' ∧ okS f r t w l x = true := by
  intro c
  induction c with
  | zero => exact ⟨Or.inl, fun h => h.elim id (fun ⟨c', h, _⟩ => absurd h (Nat.not_lt_zero _))⟩
  | succ c ih =>
    rw [nxC, mem_addk, ih]
    constructor
    · rintro ((h | ⟨c', h1, h2⟩) | ⟨h1, h2⟩)
      · exact Or.inl h
      · exact Or.inr ⟨c', by omega, h2⟩
      · exact Or.inr ⟨c, by omega, h2, by rw [h2]; exact h1⟩
    · rintro (h | ⟨c', h1, h2, h3⟩)
      · exact Or.inl (Or.inl h)
      · by_cases e : c' = c
        · rw [e] at h2
          exact Or.inr ⟨by rw [← h2]; exact h3, h2⟩
        · exact Or.inl (Or.inr ⟨c', by omega, h2, h3⟩)
theorem mem_nxI {f : Nat → Int32} {r n t w l x : Nat} {pr : List Nat} : ∀ {i : Nat}, x ∈ nxI f r n t w l pr i ↔ ∃ i' c', i' < i ∧ c' < n ∧ x = kst f r (pr.getD i' 0) c' ∧ okS f r t w l x = true := by
  intro i
  induction i with
  | zero => exact ⟨fun h => absurd h List.not_mem_nil, fun ⟨i', c', h, _⟩ => absurd h (Nat.not_lt_zero _)⟩
  | succ i ih =>
    rw [nxI, mem_nxC, ih]
    constructor
    · rintro (⟨i', c', h1, h2⟩ | ⟨c', h1, h2⟩)
      · exact ⟨i', c', by omega, h2⟩
      · exact ⟨i, c', by omega, h1, h2⟩
    · rintro ⟨i', c', h1, h2⟩
      by_cases e : i' = i
      · rw [e] at h2
        exact Or.inr ⟨c', h2⟩
      · exact Or.inl ⟨i', c', by omega, h2⟩
theorem mem_lay {f : Nat → Int32} {r n t w l k c : Nat} (hk : k ∈ lay f r n t w l) (hc : c < n) : kst f r k c ∈ lay f r n t w (l + 1) ↔ okS f r t w (l + 1) (kst f r k c) = true := by
  rw [lay, mem_nxI]
  constructor
  · rintro ⟨i', c', _, _, _, h⟩
    exact h
  · intro h
    obtain ⟨i, hi, e⟩ := mem_getD (d := 0) hk
    exact ⟨i, c, hi, hc, by rw [e], h⟩
