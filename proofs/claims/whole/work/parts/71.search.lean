/-! All plans of so many steps with a told sum: the list's side -/
abbrev ST := Nat × Int32 × List Nat
def tkS (en : Nat) (st : ST) (p : List Nat) (g : Int32) : ST := if en ≤ st.1 then st else if st.1 = 0 ∨ ¬ g ≤ st.2.1 then (st.1 + 1, g, p) else (st.1 + 1, st.2.1, st.2.2)
def sq (v : Nat → Nat → Int32) (j : Nat) : Nat → List Nat → Int32
  | _, [] => 0
  | c, a :: q => nI a * v c j + sq v j (c + 1) q
def gq (gn : Nat → Int32) : Nat → List Nat → Int32
  | _, [] => 0
  | c, a :: q => nI a * gn c + gq gn (c + 1) q
def ldP (v : Nat → Nat → Int32) (c : Nat) (R : Nat → Int32) (q : List Nat) : Bool := allB (fun j => decide (R j = sq v j c q)) 3
def fdP (en : Nat) (v : Nat → Nat → Int32) (gn : Nat → Int32) (c : Nat) (R : Nat → Int32) (p : List Nat) (g : Int32) (st : ST) (q : List Nat) : ST := if ldP v c R q = true then tkS en st (p ++ q) (g + gq gn c q) else st
def fdS (en : Nat) (v : Nat → Nat → Int32) (gn : Nat → Int32) (c : Nat) (R : Nat → Int32) (p : List Nat) (g : Int32) (l : List (List Nat)) (st : ST) : ST := l.foldl (fdP en v gn c R p g) st
/-- what is left of the sum behind so often a column -/
def rsR (v : Nat → Nat → Int32) (c a : Nat) (R : Nat → Int32) : Nat → Int32 := fun j => R j + -(nI a) * v c j
theorem ldP_cons {v : Nat → Nat → Int32} {c a : Nat} {R : Nat → Int32} {q : List Nat} : ldP v c R (a :: q) = ldP v (c + 1) (rsR v c a R) q := by
  unfold ldP
  refine allB_congr (fun j _ => ?_)
  rw [decide_eq_decide, sq]
  unfold rsR
  constructor
  · intro e
    rw [e, Int32.neg_mul, Int32.add_comm (nI a * v c j), Int32.add_assoc, Int32.add_right_neg, Int32.add_zero]
  · intro e
    rw [← e, Int32.neg_mul, Int32.add_comm, Int32.add_assoc, Int32.add_left_neg, Int32.add_zero]
theorem fdS_cons {en : Nat} {v : Nat → Nat → Int32} {gn : Nat → Int32} {c a : Nat} {R : Nat → Int32} {p : List Nat} {g : Int32} : ∀ (l : List (List Nat)) (st : ST), fdS en v gn c R p g (l.map (fun q => a :: q)) st = fdS en v gn (c + 1) (rsR v c a R) (p ++ [a]) (g + nI a * gn c) l st := by
  intro l
  induction l with
  | nil =>
    intro st
    unfold fdS
    rw [List.map_nil, List.foldl_nil, List.foldl_nil]
  | cons q l ih =>
    intro st
    have e1 : p ++ [a] ++ q = p ++ a :: q := by rw [List.append_assoc, List.singleton_append]
    have e2 : g + nI a * gn c + gq gn (c + 1) q = g + (nI a * gn c + gq gn (c + 1) q) := Int32.add_assoc _ _ _
    have e3 : gq gn c (a :: q) = nI a * gn c + gq gn (c + 1) q := by rw [gq]
    have key : fdP en v gn c R p g st (a :: q) = fdP en v gn (c + 1) (rsR v c a R) (p ++ [a]) (g + nI a * gn c) st q := by
      unfold fdP
      rw [ldP_cons, e1, e2, e3]
    have ih := ih (fdP en v gn (c + 1) (rsR v c a R) (p ++ [a]) (g + nI a * gn c) st q)
    unfold fdS at ih ⊢
    rw [List.map_cons, List.foldl_cons, List.foldl_cons, key]
    exact ih
/-- the first i shares of a column -/
def shL (k left i : Nat) : List (List Nat) := (List.range' 0 i).flatMap (fun i => (PL k i).map (fun p => (left - i) :: p))
theorem shL_PL (k left : Nat) : PL (k + 1) left = shL k left (left + 1) := rfl
theorem fdS_sh {en : Nat} {v : Nat → Nat → Int32} {gn : Nat → Int32} {c k left i : Nat} {R : Nat → Int32} {p : List Nat} {g : Int32} (st : ST) : fdS en v gn c R p g (shL k left (i + 1)) st = fdS en v gn (c + 1) (rsR v c (left - i) R) (p ++ [left - i]) (g + nI (left - i) * gn c) (PL k i) (fdS en v gn c R p g (shL k left i) st) := by
  have e : shL k left (i + 1) = shL k left i ++ (PL k i).map (fun p => (left - i) :: p) := by
    unfold shL
    rw [List.range'_concat, List.flatMap_append]
    simp
  rw [e, ← fdS_cons]
  unfold fdS
  rw [List.foldl_append]
theorem fdS_en {en : Nat} {v : Nat → Nat → Int32} {gn : Nat → Int32} {c : Nat} {R : Nat → Int32} {p : List Nat} {g : Int32} : ∀ (l : List (List Nat)) (st : ST), en ≤ st.1 → fdS en v gn c R p g l st = st := by
  intro l
  induction l with
  | nil => intro st _; rfl
  | cons q l ih =>
    intro st h
    have : fdP en v gn c R p g st q = st := by
      unfold fdP tkS
      rw [if_pos h]
      split <;> rfl
    unfold fdS at ih ⊢
    rw [List.foldl_cons, this]
    exact ih st h
theorem fdS_no {en : Nat} {v : Nat → Nat → Int32} {gn : Nat → Int32} {c : Nat} {R : Nat → Int32} {p : List Nat} {g : Int32} : ∀ (l : List (List Nat)) (st : ST), (∀ q ∈ l, ldP v c R q = false) → fdS en v gn c R p g l st = st := by
  intro l
  induction l with
  | nil => intro st _; rfl
  | cons q l ih =>
    intro st h
    have : fdP en v gn c R p g st q = st := by
      unfold fdP
      rw [h q List.mem_cons_self]
      rfl
    unfold fdS at ih ⊢
    rw [List.foldl_cons, this]
    exact ih st (fun q hq => h q (List.mem_cons_of_mem _ hq))
/-- the sum of a part of a plan, with no wrap -/
def zq (v : Nat → Nat → Int32) (j : Nat) : Nat → List Nat → Int
  | _, [] => 0
  | c, a :: q => (a : Int) * (v c j).toInt + zq v j (c + 1) q
theorem mul_b2 (a : Nat) {v lo hi : Int} (h1 : lo ≤ v) (h2 : v ≤ hi) : (a : Int) * lo ≤ (a : Int) * v ∧ (a : Int) * v ≤ (a : Int) * hi := ⟨Int.mul_le_mul_of_nonneg_left h1 (Int.natCast_nonneg a), Int.mul_le_mul_of_nonneg_left h2 (Int.natCast_nonneg a)⟩
theorem zq_bd {v : Nat → Nat → Int32} {j n : Nat} {lo hi : Int} : ∀ (q : List Nat) (c : Nat), c + q.length = n → (∀ c', c ≤ c' → c' < n → lo ≤ (v c' j).toInt ∧ (v c' j).toInt ≤ hi) → (q.sum : Int) * lo ≤ zq v j c q ∧ zq v j c q ≤ (q.sum : Int) * hi := by
  intro q
  induction q with
  | nil => intro c _ _; simp [zq]
  | cons a q ih =>
    intro c hc hv
    rw [List.length_cons] at hc
    have h1 := hv c (Nat.le_refl _) (by omega)
    have h2 := ih (c + 1) (by omega) (fun c' a b => hv c' (by omega) b)
    have h3 := mul_b2 a h1.1 h1.2
    rw [zq, List.sum_cons, Int.natCast_add, Int.add_mul, Int.add_mul]
    omega
theorem zq_sq {v : Nat → Nat → Int32} {j n : Nat} : ∀ (q : List Nat) (c : Nat), c + q.length = n → q.sum ≤ 12 → (∀ c', c ≤ c' → c' < n → -5 ≤ (v c' j).toInt ∧ (v c' j).toInt ≤ 5) → (sq v j c q).toInt = zq v j c q := by
  intro q
  induction q with
  | nil => intro c _ _ _; rfl
  | cons a q ih =>
    intro c hc hs hv
    rw [List.length_cons] at hc
    rw [List.sum_cons] at hs
    have h1 := hv c (Nat.le_refl _) (by omega)
    have h2 := ih (c + 1) (by omega) (by omega) (fun c' a b => hv c' (by omega) b)
    have h3 := zq_bd q (c + 1) (by omega) (fun c' a b => hv c' (by omega) b)
    have h4 := mul_bd a h1.1 h1.2
    have e1 : (nI a).toInt = (a : Int) := nI_toInt (by omega)
    have e2 : (nI a * v c j).toInt = (a : Int) * (v c j).toInt := by rw [Jvm.Kit.i32_mul (by rw [e1]; omega) (by rw [e1]; omega), e1]
    rw [sq, zq, Jvm.Kit.i32_add (by rw [e2, h2]; omega) (by rw [e2, h2]; omega), e2, h2]
/-- out of reach: no part of a plan leads there -/
theorem ld_out {v : Nat → Nat → Int32} {c n left j : Nat} {R : Nat → Int32} {lo hi : Int} (hj : j < 3) (hv : ∀ c' j, c ≤ c' → c' < n → j < 3 → -5 ≤ (v c' j).toInt ∧ (v c' j).toInt ≤ 5) (hl : left ≤ 12) (hv2 : ∀ c', c ≤ c' → c' < n → lo ≤ (v c' j).toInt ∧ (v c' j).toInt ≤ hi) (hx : (R j).toInt < (left : Int) * lo ∨ (left : Int) * hi < (R j).toInt) {k : Nat} (hk : c + k = n) : ∀ q ∈ PL k left, ldP v c R q = false := by
  intro q hq
  obtain ⟨q1, q2⟩ := PL_mem hq
  cases e : ldP v c R q
  · rfl
  · have := allB_true.mp e j hj
    rw [decide_eq_true_eq] at this
    have h1 := zq_sq (v := v) (j := j) q c (by omega) (by omega) (fun c' a b => hv c' j a b hj)
    have h2 := zq_bd (v := v) (j := j) q c (by omega) hv2
    rw [← this] at h1
    rw [h1, q2.symm] at hx
    omega
/-- numbers of columns, one of them turned about -/
def vT (f : Nat → Int32) (tu : Int32) (c j : Nat) : Int32 := (if nI c = tu then -1 else 1) * f (3 * c + j)
/-- the least and the greatest from a column on -/
def loT (v : Nat → Nat → Int32) (j : Nat) : Nat → Nat → Int32
  | 0, c => v c j
  | k + 1, c => ls2 (v c j) (loT v j k (c + 1))
def hiT (v : Nat → Nat → Int32) (j : Nat) : Nat → Nat → Int32
  | 0, c => v c j
  | k + 1, c => gt (v c j) (hiT v j k (c + 1))
theorem loT_sp (v : Nat → Nat → Int32) (j : Nat) : ∀ k c, (∃ c', c ≤ c' ∧ c' ≤ c + k ∧ loT v j k c = v c' j) ∧ ∀ c', c ≤ c' → c' ≤ c + k → (loT v j k c).toInt ≤ (v c' j).toInt := by
  intro k
  induction k with
  | zero => intro c; exact ⟨⟨c, Nat.le_refl _, Nat.le_refl _, rfl⟩, fun c' h1 h2 => by rw [show c' = c from by omega]; exact Int.le_refl _⟩
  | succ k ih =>
    intro c
    obtain ⟨⟨c1, i1, i2, i3⟩, i4⟩ := ih (c + 1)
    rw [loT]
    unfold ls2
    by_cases e : loT v j k (c + 1) ≤ v c j
    · rw [if_pos e]
      rw [Int32.le_iff_toInt_le] at e
      refine ⟨⟨c1, by omega, by omega, i3⟩, fun c' h1 h2 => ?_⟩
      by_cases g : c' = c
      · rw [g]; exact e
      · exact i4 c' (by omega) (by omega)
    · rw [if_neg e]
      rw [Int32.le_iff_toInt_le] at e
      refine ⟨⟨c, by omega, by omega, rfl⟩, fun c' h1 h2 => ?_⟩
      by_cases g : c' = c
      · rw [g]; exact Int.le_refl _
      · have := i4 c' (by omega) (by omega)
        omega
theorem hiT_sp (v : Nat → Nat → Int32) (j : Nat) : ∀ k c, (∃ c', c ≤ c' ∧ c' ≤ c + k ∧ hiT v j k c = v c' j) ∧ ∀ c', c ≤ c' → c' ≤ c + k → (v c' j).toInt ≤ (hiT v j k c).toInt := by
  intro k
  induction k with
  | zero => intro c; exact ⟨⟨c, Nat.le_refl _, Nat.le_refl _, rfl⟩, fun c' h1 h2 => by rw [show c' = c from by omega]; exact Int.le_refl _⟩
  | succ k ih =>
    intro c
    obtain ⟨⟨c1, i1, i2, i3⟩, i4⟩ := ih (c + 1)
    rw [hiT]
    unfold gt
    by_cases e : v c j ≤ hiT v j k (c + 1)
    · rw [if_pos e]
      rw [Int32.le_iff_toInt_le] at e
      refine ⟨⟨c1, by omega, by omega, i3⟩, fun c' h1 h2 => ?_⟩
      by_cases g : c' = c
      · rw [g]; exact e
      · exact i4 c' (by omega) (by omega)
    · rw [if_neg e]
      rw [Int32.le_iff_toInt_le] at e
      refine ⟨⟨c, by omega, by omega, rfl⟩, fun c' h1 h2 => ?_⟩
      by_cases g : c' = c
      · rw [g]; exact Int.le_refl _
      · have := i4 c' (by omega) (by omega)
        omega
theorem vT_bd {f : Nat → Int32} {n : Nat} {tu : Int32} (hF : FB f n) : ∀ c j, c < n → j < 3 → -5 ≤ (vT f tu c j).toInt ∧ (vT f tu c j).toInt ≤ 5 := by
  intro c j hc hj
  have := hF c j hc hj
  unfold vT
  split
  · rw [show (-1 : Int32) * f (3 * c + j) = -(f (3 * c + j)) from by rw [Int32.neg_mul, Int32.one_mul], Jvm.Kit.i32_neg (by omega)]
    omega
  · rw [Int32.one_mul]
    exact this
