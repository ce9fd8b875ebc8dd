/-! The text's tokens -/
/-- the byte at a place; -1 behind the end -/
def ch (B : Nat → Int32) (N i : Nat) : Int32 := if i < N then B i else -1
def isLb (c : Int32) : Bool := decide (¬ c < 97) && decide (¬ 122 < c)
def isDb (c : Int32) : Bool := decide (¬ c < 48) && decide (¬ 57 < c)
def isWb (c : Int32) : Bool := decide (c = 32) || decide (c = 10)
/-- the first place from i on that is not so -/
def rn (P : Int32 → Bool) (B : Nat → Int32) (N : Nat) : Nat → Nat → Nat
  | 0, i => i
  | k + 1, i => if P (ch B N i) then rn P B N k (i + 1) else i
def ru (P : Int32 → Bool) (B : Nat → Int32) (N i : Nat) : Nat := rn P B N (N - i) i
theorem ch_ge {B : Nat → Int32} {N i : Nat} (h : N ≤ i) : ch B N i = -1 := if_neg (by omega)
theorem rn_sp {P : Int32 → Bool} {B : Nat → Int32} {N : Nat} (h1 : P (-1) = false) : ∀ k i, N - i = k → i ≤ rn P B N k i ∧ (i ≤ N → rn P B N k i ≤ N) ∧ (∀ j, i ≤ j → j < rn P B N k i → P (ch B N j) = true) ∧ P (ch B N (rn P B N k i)) = false := by
  intro k
  induction k with
  | zero =>
    intro i hk
    rw [rn, ch_ge (by omega)]
    exact ⟨Nat.le_refl _, fun h => h, fun j a b => by omega, h1⟩
  | succ k ih =>
    intro i hk
    rw [rn]
    cases e : P (ch B N i)
    · rw [if_neg (by decide)]
      exact ⟨Nat.le_refl _, fun h => h, fun j a b => by omega, e⟩
    · rw [if_pos rfl]
      obtain ⟨a, b, c, d⟩ := ih (i + 1) (by omega)
      refine ⟨by omega, fun h => b (by omega), fun j j1 j2 => ?_, d⟩
      by_cases g : j = i
      · rw [g]; exact e
      · exact c j (by omega) j2
theorem ru_sp {P : Int32 → Bool} {B : Nat → Int32} {N : Nat} (h1 : P (-1) = false) (i : Nat) : i ≤ ru P B N i ∧ (i ≤ N → ru P B N i ≤ N) ∧ (∀ j, i ≤ j → j < ru P B N i → P (ch B N j) = true) ∧ P (ch B N (ru P B N i)) = false := rn_sp h1 _ i rfl
theorem in_N {P : Int32 → Bool} {B : Nat → Int32} {N j : Nat} (h1 : P (-1) = false) (h : P (ch B N j) = true) : j < N := by
  by_cases e : j < N
  · exact e
  · rw [ch_ge (by omega), h1] at h
    cases h
/-- where the token begins that is looked for from p on -/
def pl (B : Nat → Int32) (N p : Nat) : Nat := ru isWb B N p
/-- where a run of letters, of digits ends -/
def eL (B : Nat → Int32) (N p : Nat) : Nat := ru isLb B N (pl B N p)
def eD (B : Nat → Int32) (N p : Nat) : Nat := ru isDb B N (pl B N p)
/-- its kind: 0 over, 1 word, 2 number, 3 stop, 4 minus, 5 none -/
def kd (B : Nat → Int32) (N p : Nat) : Nat :=
  if N ≤ pl B N p then 0
  else if isLb (ch B N (pl B N p)) then (if eL B N p - pl B N p ≤ 8 then 1 else 5)
  else if isDb (ch B N (pl B N p)) then (if eD B N p - pl B N p ≤ 3 ∧ isLb (ch B N (eD B N p)) = false then 2 else 5)
  else if ch B N (pl B N p) = 59 then 3
  else if ch B N (pl B N p) = 45 then 4
  else 5
/-- where it ends -/
def sp (B : Nat → Int32) (N p : Nat) : Nat :=
  if N ≤ pl B N p then pl B N p
  else if isLb (ch B N (pl B N p)) then eL B N p
  else if isDb (ch B N (pl B N p)) then eD B N p
  else pl B N p + 1
/-- the number of some digits -/
def vdN (B : Nat → Int32) (a : Nat) : Nat → Int32
  | 0 => 0
  | k + 1 => 10 * vdN B a k + B (a + k) - 48
def vl (B : Nat → Int32) (N p : Nat) : Int32 := vdN B (pl B N p) (min 3 (sp B N p - pl B N p))
/-- a word, its last letter first -/
def wr (B : Nat → Int32) (a : Nat) : Nat → List Nat
  | 0 => []
  | n + 1 => ix (B (a + n)) :: wr B a n
def wd (B : Nat → Int32) (N p : Nat) : List Nat := wr B (pl B N p) (sp B N p - pl B N p)
def pkR : List Nat → Nat
  | [] => 0
  | b :: l => pkR l * 256 + b
theorem pkR_inj : ∀ (l l' : List Nat), (∀ x ∈ l, 1 ≤ x ∧ x < 256) → (∀ x ∈ l', 1 ≤ x ∧ x < 256) → pkR l = pkR l' → l = l' := by
  intro l
  induction l with
  | nil =>
    intro l' _ h' e
    cases l' with
    | nil => rfl
    | cons b l' =>
      have := h' b List.mem_cons_self
      rw [pkR, pkR] at e
      omega
  | cons a l ih =>
    intro l' h h' e
    cases l' with
    | nil =>
      have := h a List.mem_cons_self
      rw [pkR, pkR] at e
      omega
    | cons b l' =>
      have h1 := h a List.mem_cons_self
      have h2 := h' b List.mem_cons_self
      rw [pkR, pkR] at e
      have e1 : a = b := by omega
      have e2 := ih l' (fun x hx => h x (List.mem_cons_of_mem _ hx)) (fun x hx => h' x (List.mem_cons_of_mem _ hx)) (by omega)
      rw [e1, e2]
theorem pkR_lt : ∀ (l : List Nat), (∀ x ∈ l, x < 256) → pkR l < 256 ^ l.length := by
  intro l
  induction l with
  | nil => intro _; exact Nat.one_pos
  | cons a l ih =>
    intro h
    have h1 := h a List.mem_cons_self
    have h2 := ih (fun x hx => h x (List.mem_cons_of_mem _ hx))
    rw [pkR, List.length_cons, Nat.pow_succ]
    omega
theorem lN_or8 {a x : Nat} (hx : x < 256) : jlshl (lN a) 8 ||| lN x = lN (a * 256 + x) := by
  unfold jlshl
  apply Int64.toBitVec_inj.1
  have e : ((8 : Int32).toInt64 &&& 63) = 8 := by decide
  rw [e, Int64.toBitVec_or, Int64.toBitVec_shiftLeft]
  have e1 : (Int64.toBitVec 8).smod 64 = 8 := by decide
  rw [e1]
  apply BitVec.eq_of_toNat_eq
  show ((BitVec.ofNat 64 a <<< (8 : BitVec 64)) ||| BitVec.ofNat 64 x).toNat = (BitVec.ofNat 64 (a * 256 + x)).toNat
  rw [BitVec.toNat_or, BitVec.shiftLeft_eq', BitVec.toNat_shiftLeft, BitVec.toNat_ofNat, BitVec.toNat_ofNat, BitVec.toNat_ofNat]
  have e2 : (8 : BitVec 64).toNat = 8 := rfl
  rw [e2, Nat.mod_eq_of_lt (show x < 2 ^ 64 by omega), Nat.shiftLeft_eq]
  have e3 : a % 2 ^ 64 * 2 ^ 8 % 2 ^ 64 = 2 ^ 8 * (a % 2 ^ 56) := by omega
  rw [e3, ← Nat.two_pow_add_eq_or_of_lt (show x < 2 ^ 8 by omega)]
  omega
theorem lN_inj64 {a b : Nat} (ha : a < 2 ^ 64) (hb : b < 2 ^ 64) : lN a = lN b ↔ a = b := by
  constructor
  · intro h
    have h1 : (BitVec.ofNat 64 a).toNat = (BitVec.ofNat 64 b).toNat := congrArg (fun x : Int64 => x.toBitVec.toNat) h
    rw [BitVec.toNat_ofNat, BitVec.toNat_ofNat, Nat.mod_eq_of_lt ha, Nat.mod_eq_of_lt hb] at h1
    exact h1
  · rintro rfl; rfl
theorem isLb_nI {c : Int32} (h : isLb c = true) : ∃ x, 97 ≤ x ∧ x ≤ 122 ∧ c = nI x ∧ ix c = x := by
  unfold isLb at h
  rw [Bool.and_eq_true, decide_eq_true_eq, decide_eq_true_eq, Int32.not_lt, Int32.not_lt] at h
  obtain ⟨x, hx, e⟩ := nI_of2 (M := 122) (n := 122) rfl (fun g => by
    have h1 := h.1
    rw [Int32.le_iff_toInt_le] at h1
    rw [Int32.lt_iff_toInt_lt] at g
    have e1 : (97 : Int32).toInt = 97 := rfl
    have e2 : (0 : Int32).toInt = 0 := rfl
    omega) h.2
  have h1 := (nI_leI (a := 97) (b := x) (by omega) (by omega)).mp (by rw [← e]; exact h.1)
  exact ⟨x, h1, hx, e, by rw [e, ix_nI (by omega)]⟩
theorem wr_let {B : Nat → Int32} {a : Nat} : ∀ {n : Nat}, (∀ i, i < n → isLb (B (a + i)) = true) → (∀ x ∈ wr B a n, 1 ≤ x ∧ x < 256) ∧ (wr B a n).length = n := by
  intro n
  induction n with
  | zero => intro _; exact ⟨fun x hx => absurd hx List.not_mem_nil, rfl⟩
  | succ n ih =>
    intro h
    obtain ⟨i1, i2⟩ := ih (fun i hi => h i (by omega))
    obtain ⟨x, h1, h2, h3, h4⟩ := isLb_nI (h n (by omega))
    refine ⟨fun y hy => ?_, by rw [wr, List.length_cons, i2]⟩
    rw [wr] at hy
    rcases List.mem_cons.mp hy with hy | hy
    · rw [hy, h4]; omega
    · exact i1 y hy
theorem isW_f : isWb (-1) = false := by decide
theorem isL_f : isLb (-1) = false := by decide
theorem isD_f : isDb (-1) = false := by decide
theorem kd_word {B : Nat → Int32} {N p : Nat} (h : kd B N p = 1) : pl B N p < N ∧ isLb (ch B N (pl B N p)) = true ∧ sp B N p = eL B N p ∧ eL B N p - pl B N p ≤ 8 ∧ ∀ i, i < sp B N p - pl B N p → isLb (B (pl B N p + i)) = true := by
  unfold kd at h
  by_cases e1 : N ≤ pl B N p
  · rw [if_pos e1] at h; omega
  · rw [if_neg e1] at h
    by_cases e2 : isLb (ch B N (pl B N p)) = true
    · rw [if_pos e2] at h
      by_cases e3 : eL B N p - pl B N p ≤ 8
      · have e4 : sp B N p = eL B N p := by unfold sp; rw [if_neg e1, if_pos e2]
        refine ⟨by omega, e2, e4, e3, fun i hi => ?_⟩
        rw [e4] at hi
        have := (ru_sp isL_f (B := B) (N := N) (pl B N p)).2.2.1 (pl B N p + i) (by omega) (by unfold eL at hi; omega)
        have g := in_N isL_f this
        unfold ch at this
        rw [if_pos g] at this
        exact this
      · rw [if_neg e3] at h; omega
    · rw [if_neg e2] at h
      by_cases e3 : isDb (ch B N (pl B N p)) = true
      · rw [if_pos e3] at h
        split at h <;> omega
      · rw [if_neg e3] at h
        split at h
        · omega
        · split at h <;> omega
theorem wd_pk {B : Nat → Int32} {N p : Nat} (h : kd B N p = 1) : (∀ x ∈ wd B N p, 1 ≤ x ∧ x < 256) ∧ pkR (wd B N p) < 2 ^ 64 := by
  obtain ⟨-, -, h3, h4, h5⟩ := kd_word h
  obtain ⟨i1, i2⟩ := wr_let h5
  refine ⟨i1, ?_⟩
  have := pkR_lt (wd B N p) (fun x hx => (i1 x hx).2)
  have e : (wd B N p).length ≤ 8 := by unfold wd; rw [i2, h3]; exact h4
  have h6 := Nat.pow_le_pow_right (show 0 < 256 by decide) e
  have e7 : 256 ^ 8 = 2 ^ 64 := by decide
  omega
/-- the token is the same word as another list of letters -/
theorem wd_eq {B : Nat → Int32} {N p : Nat} {l : List Nat} (h : kd B N p = 1) (hl : ∀ x ∈ l, 1 ≤ x ∧ x < 256) (hl2 : pkR l < 2 ^ 64) : lN (pkR (wd B N p)) = lN (pkR l) ↔ wd B N p = l := by
  obtain ⟨i1, i2⟩ := wd_pk h
  rw [lN_inj64 i2 hl2]
  exact ⟨fun e => pkR_inj _ _ i1 hl e, fun e => by rw [e]⟩
theorem sp_gt {B : Nat → Int32} {N p : Nat} (h : kd B N p ≠ 0) : p < sp B N p ∧ pl B N p < N ∧ sp B N p ≤ N := by
  have h1 := ru_sp isW_f (B := B) (N := N) p
  have hL := ru_sp isL_f (B := B) (N := N) (pl B N p)
  have hD := ru_sp isD_f (B := B) (N := N) (pl B N p)
  have e0 : pl B N p = ru isWb B N p := rfl
  have e1 : ¬ N ≤ pl B N p := fun g => h (by unfold kd; rw [if_pos g])
  unfold sp
  rw [if_neg e1]
  have e2 : eL B N p = ru isLb B N (pl B N p) := rfl
  have e3 : eD B N p = ru isDb B N (pl B N p) := rfl
  by_cases g : isLb (ch B N (pl B N p)) = true
  · rw [if_pos g]
    have : eL B N p ≠ pl B N p := fun g2 => by
      have := hL.2.2.2
      rw [← e2, g2, g] at this
      cases this
    omega
  · rw [if_neg g]
    by_cases g3 : isDb (ch B N (pl B N p)) = true
    · rw [if_pos g3]
      have : eD B N p ≠ pl B N p := fun g2 => by
        have := hD.2.2.2
        rw [← e3, g2, g3] at this
        cases this
      omega
    · rw [if_neg g3]; omega
