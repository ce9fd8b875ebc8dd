/-! PLANS: all of them in their order, as lists; the odometer's next one -/
def PL : Nat → Nat → List (List Nat)
  | 0, t => if t = 0 then [[]] else []
  | n + 1, t => (List.range' 0 (t + 1)).flatMap (fun i => (PL n i).map (fun p => (t - i) :: p))
def fp (n t : Nat) : List Nat := match n with
  | 0 => []
  | n + 1 => t :: List.replicate n 0
def nx : List Nat → Option (List Nat)
  | [] => none
  | a :: p => match nx p with
    | some q => some (a :: q)
    | none => match p with
      | [] => none
      | _ :: p2 => match a with
        | 0 => none
        | a2 + 1 => some (a2 :: (p.sum + 1) :: List.replicate p2.length 0)
theorem PL_mem {n : Nat} : ∀ {t : Nat} {p : List Nat}, p ∈ PL n t → p.length = n ∧ p.sum = t := by
  induction n with
  | zero =>
    intro t p h
    unfold PL at h
    split at h
    · rename_i e
      rw [List.mem_singleton.mp h]
      exact ⟨rfl, e.symm⟩
    · exact absurd h List.not_mem_nil
  | succ n ih =>
    intro t p h
    unfold PL at h
    obtain ⟨i, hi, h⟩ := List.mem_flatMap.mp h
    obtain ⟨q, hq, rfl⟩ := List.mem_map.mp h
    obtain ⟨h1, h2⟩ := ih hq
    have : i < t + 1 := by
      have := List.mem_range'_1.mp hi
      omega
    exact ⟨by simp [h1], by simp [h2]; omega⟩
theorem PL_z (n : Nat) : PL n 0 = [List.replicate n 0] := by
  induction n with
  | zero => rfl
  | succ n ih =>
    unfold PL
    simp [List.range', ih, List.replicate_succ]
/-- a row of plans each of which is the next one of that ahead of it; behind the last one e comes -/
def Ch (e : Option (List Nat)) : List (List Nat) → Prop
  | [] => True
  | [p] => nx p = e
  | p :: q :: l => nx p = some q ∧ Ch e (q :: l)
theorem Ch_app {e : Option (List Nat)} {q : List Nat} : ∀ {l1 : List (List Nat)} {l2 : List (List Nat)}, Ch (some q) l1 → Ch e (q :: l2) → Ch e (l1 ++ q :: l2)
  | [], _, _, h => h
  | [p], _, h1, h2 => ⟨h1, h2⟩
  | p :: p2 :: l, _, h1, h2 => ⟨h1.1, Ch_app (l1 := p2 :: l) h1.2 h2⟩
theorem nx_cons {a : Nat} {p q : List Nat} (h : nx p = some q) : nx (a :: p) = some (a :: q) := by
  unfold nx
  rw [h]
theorem nx_dec {a : Nat} {p : List Nat} (h : nx p = none) (hp : p ≠ []) : nx ((a + 1) :: p) = some (a :: fp p.length (p.sum + 1)) := by
  cases p with
  | nil => exact absurd rfl hp
  | cons b p =>
    unfold nx
    rw [h]
    rfl
theorem nx_0 {p : List Nat} (h : nx p = none) : nx (0 :: p) = none := by
  unfold nx
  rw [h]
  cases p <;> rfl
theorem Ch_map {a : Nat} {e : Option (List Nat)} (he : ∀ p : List Nat, nx p = none → p ≠ [] → nx (a :: p) = e) : ∀ {l : List (List Nat)}, (∀ p ∈ l, p ≠ []) → Ch none l → Ch e (l.map (fun p => a :: p))
  | [], _, _ => trivial
  | [p], hn, h => he p h (hn p List.mem_cons_self)
  | p :: q :: l, hn, h => ⟨nx_cons h.1, Ch_map he (l := q :: l) (fun r hr => hn r (List.mem_cons_of_mem _ hr)) h.2⟩
/-- the chain of all plans: its head, and that it is one -/
theorem PL_ch (n : Nat) : ∀ t, (∃ l, PL (n + 1) t = fp (n + 1) t :: l) ∧ Ch none (PL (n + 1) t) := by
  induction n with
  | zero =>
    intro t
    have e : PL 1 t = [[t]] := by
      unfold PL
      rw [List.range'_succ]
      have : (List.range' (0 + 1) t).flatMap (fun i => (PL 0 i).map (fun p => (t - i) :: p)) = [] := by
        rw [List.flatMap_eq_nil_iff]
        intro i hi
        have := List.mem_range'_1.mp hi
        unfold PL
        rw [if_neg (by omega)]
        rfl
      rw [List.flatMap_cons, this]
      rfl
    rw [e]
    exact ⟨⟨[], rfl⟩, rfl⟩
  | succ n ih =>
    intro t
    have key : ∀ m k, k + m = t → (∃ l, (List.range' k (m + 1)).flatMap (fun i => (PL (n + 1) i).map (fun p => (t - i) :: p)) = ((t - k) :: fp (n + 1) k) :: l) ∧ Ch none ((List.range' k (m + 1)).flatMap (fun i => (PL (n + 1) i).map (fun p => (t - i) :: p))) := by
      intro m
      induction m with
      | zero =>
        intro k hk
        obtain ⟨⟨l, hl⟩, hc⟩ := ih k
        have e : (List.range' k (0 + 1)).flatMap (fun i => (PL (n + 1) i).map (fun p => (t - i) :: p)) = (PL (n + 1) k).map (fun p => (t - k) :: p) := by simp [List.range']
        rw [e]
        refine ⟨⟨l.map (fun p => (t - k) :: p), by rw [hl]; rfl⟩, Ch_map ?_ (fun p hp => by have := (PL_mem hp).1; intro z; rw [z] at this; simp at this) hc⟩
        intro p hp _
        rw [show t - k = 0 by omega]
        exact nx_0 hp
      | succ m ihm =>
        intro k hk
        obtain ⟨⟨l, hl⟩, hc⟩ := ih k
        obtain ⟨⟨l2, hl2⟩, hc2⟩ := ihm (k + 1) (by omega)
        rw [List.range'_succ, List.flatMap_cons, hl2]
        refine ⟨⟨l.map (fun p => (t - k) :: p) ++ (((t - (k + 1)) :: fp (n + 1) (k + 1)) :: l2), by rw [hl]; rfl⟩, Ch_app ?_ (by rw [← hl2]; exact hc2)⟩
        have hne : ∀ p ∈ PL (n + 1) k, p ≠ [] := fun p hp => by have := (PL_mem hp).1; intro z; rw [z] at this; simp at this
        -- behind each last plan of k steps the first one of k + 1 comes
        have gen : ∀ {l : List (List Nat)}, (∀ p ∈ l, p ≠ [] ∧ p.length = n + 1 ∧ p.sum = k) → Ch none l → Ch (some ((t - (k + 1)) :: fp (n + 1) (k + 1))) (l.map (fun p => (t - k) :: p)) := by
          intro l
          induction l with
          | nil => intro _ _; trivial
          | cons p l ihl =>
            intro hp hcl
            cases l with
            | nil =>
              show nx ((t - k) :: p) = _
              obtain ⟨g1, g2, g3⟩ := hp p List.mem_cons_self
              rw [show t - k = (t - (k + 1)) + 1 by omega, nx_dec hcl g1, g2, g3]
            | cons q l => exact ⟨nx_cons hcl.1, ihl (fun r hr => hp r (List.mem_cons_of_mem _ hr)) hcl.2⟩
        exact gen (fun p hp => ⟨hne p hp, (PL_mem hp).1, (PL_mem hp).2⟩) hc
    have := key t 0 (by omega)
    unfold PL
    exact this
/-! the odometer's step by places -/
theorem nx_none (k s : Nat) : nx (List.replicate k 0 ++ [s]) = none := by
  induction k with
  | zero => rfl
  | succ k ih =>
    rw [List.replicate_succ, List.cons_append]
    exact nx_0 ih
theorem sum_rep (k s : Nat) : (List.replicate k 0 ++ [s]).sum = s := by simp
theorem nx_some (q : List Nat) (a k s : Nat) : nx (q ++ (a + 1) :: (List.replicate k 0 ++ [s])) = some (q ++ a :: (s + 1) :: List.replicate k 0) := by
  induction q with
  | nil =>
    rw [List.nil_append, nx_dec (nx_none k s) (by simp), sum_rep]
    simp [fp]
  | cons b q ih =>
    rw [List.cons_append]
    exact nx_cons ih
theorem split_at (p : List Nat) (c m : Nat) (hl : p.length = c + 1 + m + 1) (hz : ∀ j, c < j → j < c + 1 + m → p.getD j 0 = 0) : p = p.take c ++ p.getD c 0 :: (List.replicate m 0 ++ [p.getD (c + 1 + m) 0]) := by
  apply List.ext_getElem?
  intro j
  rw [List.getElem?_append]
  have hlen : (p.take c).length = c := by rw [List.length_take]; omega
  rw [hlen]
  by_cases h1 : j < c
  · rw [if_pos h1, List.getElem?_take, if_pos h1]
  · rw [if_neg h1]
    rcases Nat.lt_or_ge j (c + 1) with h2 | h2
    · rw [show j = c by omega, Nat.sub_self, List.getElem?_cons_zero, List.getD_eq_getElem?_getD]
      rw [List.getElem?_eq_getElem (by omega)]
      rfl
    · rw [show j - c = (j - c - 1) + 1 by omega, List.getElem?_cons_succ, List.getElem?_append, List.length_replicate]
      by_cases h3 : j < c + 1 + m
      · rw [if_pos (by omega), List.getElem?_replicate, if_pos (by omega)]
        have := hz j (by omega) h3
        rw [List.getD_eq_getElem?_getD, List.getElem?_eq_getElem (by omega)] at this
        rw [List.getElem?_eq_getElem (by omega)]
        exact congrArg some this
      · rw [if_neg (by omega)]
        by_cases h4 : j = c + 1 + m
        · rw [show j - c - 1 - m = 0 by omega, List.getElem?_cons_zero, h4, List.getD_eq_getElem?_getD, List.getElem?_eq_getElem (by omega)]
          rfl
        · rw [List.getElem?_eq_none (by omega), List.getElem?_eq_none (by simp; omega)]
theorem split_0 (p : List Nat) (m : Nat) (hl : p.length = m + 1) (hz : ∀ j, j < m → p.getD j 0 = 0) : p = List.replicate m 0 ++ [p.getD m 0] := by
  apply List.ext_getElem?
  intro j
  rw [List.getElem?_append, List.length_replicate]
  by_cases h1 : j < m
  · rw [if_pos h1, List.getElem?_replicate, if_pos h1]
    have := hz j h1
    rw [List.getD_eq_getElem?_getD, List.getElem?_eq_getElem (by omega)] at this
    rw [List.getElem?_eq_getElem (by omega)]
    exact congrArg some this
  · rw [if_neg h1]
    by_cases h4 : j = m
    · rw [show j - m = 0 by omega, List.getElem?_cons_zero, h4, List.getD_eq_getElem?_getD, List.getElem?_eq_getElem (by omega)]
      rfl
    · rw [List.getElem?_eq_none (by omega), List.getElem?_eq_none (by simp; omega)]
theorem getD_new (p : List Nat) (c m a s j : Nat) (hl : p.length = c + 1 + m + 1) : (p.take c ++ a :: (s + 1) :: List.replicate m 0).getD j 0 = if j = c then a else if j = c + 1 then s + 1 else if j < c then p.getD j 0 else 0 := by
  have hlen : (p.take c).length = c := by rw [List.length_take]; omega
  rw [List.getD_eq_getElem?_getD, List.getElem?_append, hlen]
  by_cases h1 : j < c
  · rw [if_pos h1, List.getElem?_take, if_pos h1, if_neg (by omega), if_neg (by omega), if_pos h1, List.getD_eq_getElem?_getD]
  · rw [if_neg h1]
    by_cases h2 : j = c
    · rw [if_pos h2, h2, Nat.sub_self]; rfl
    · rw [if_neg h2]
      by_cases h3 : j = c + 1
      · rw [if_pos h3, h3, show c + 1 - c = 0 + 1 by omega]; rfl
      · rw [if_neg h3, if_neg h1, show j - c = (j - c - 2) + 1 + 1 by omega, List.getElem?_cons_succ, List.getElem?_cons_succ, List.getElem?_replicate]
        split <;> rfl
