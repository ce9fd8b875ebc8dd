/-! How many states there are at most -/
theorem nodup_sub {α : Type} [DecidableEq α] : ∀ (l m : List α), l.Nodup → (∀ x ∈ l, x ∈ m) → l.length ≤ m.length := by
  intro l
  induction l with
  | nil => intro m _ _; exact Nat.zero_le _
  | cons a l ih =>
    intro m hn hs
    rw [List.nodup_cons] at hn
    have ha := hs a List.mem_cons_self
    have h1 := ih (m.erase a) hn.2 (fun x hx => by
      have hne : x ≠ a := fun g => hn.1 (g ▸ hx)
      exact (List.mem_erase_of_ne hne).mpr (hs x (List.mem_cons_of_mem _ hx)))
    rw [List.length_erase_of_mem ha] at h1
    have h2 := List.length_pos_of_mem ha
    rw [List.length_cons]
    omega
/-- so many plans of less than so many steps -/
def PNs (n : Nat) : Nat → Nat
  | 0 => 0
  | t + 1 => PNs n t + PN n t
theorem PNs_le : ∀ n, n ≤ 8 → PNs n 13 ≤ 125970 := by decide +kernel
theorem PNs_mono (n : Nat) {a b : Nat} (h : a ≤ b) : PNs n a ≤ PNs n b := by
  induction b with
  | zero => rw [show a = 0 from by omega]; exact Nat.le_refl _
  | succ b ih =>
    by_cases e : a = b + 1
    · rw [e]; exact Nat.le_refl _
    · have := ih (by omega)
      rw [PNs]
      omega
theorem PL_all : ∀ (n : Nat) (p : List Nat) (t : Nat), p.length = n → p.sum = t → p ∈ PL n t := by
  intro n
  induction n with
  | zero =>
    intro p t hl hs
    have : p = [] := List.length_eq_zero_iff.mp hl
    subst this
    unfold PL
    rw [if_pos (show t = 0 from hs.symm)]
    exact List.mem_singleton.mpr rfl
  | succ n ih =>
    intro p t hl hs
    match p, hl, hs with
    | a :: q, hl, hs =>
      rw [List.sum_cons] at hs
      have h1 := ih q q.sum (by simpa using hl) rfl
      unfold PL
      rw [List.mem_flatMap]
      refine ⟨q.sum, ?_, ?_⟩
      · rw [List.mem_range']
        exact ⟨q.sum, by omega, by omega⟩
      · rw [List.mem_map]
        exact ⟨q, h1, by rw [show t - q.sum = a from by omega]⟩
/-- one step more of a column -/
def stp (p : List Nat) (c : Nat) : List Nat := p.set c (p.getD c 0 + 1)
theorem stp_sum : ∀ (p : List Nat) (c : Nat), c < p.length → (stp p c).sum = p.sum + 1 := by
  intro p
  induction p with
  | nil => intro c hc; exact absurd hc (Nat.not_lt_zero _)
  | cons a p ih =>
    intro c hc
    cases c with
    | zero =>
      show ((a + 1) :: p).sum = (a :: p).sum + 1
      rw [List.sum_cons, List.sum_cons]
      omega
    | succ c =>
      have := ih c (by simpa using hc)
      show (a :: (p.set c (((a :: p).getD (c + 1) 0) + 1))).sum = (a :: p).sum + 1
      rw [List.getD_cons_succ, List.sum_cons, List.sum_cons]
      unfold stp at this
      rw [this]
      omega
theorem stp_PL {n t c : Nat} {p : List Nat} (hp : p ∈ PL n t) (hc : c < n) : stp p c ∈ PL n (t + 1) := by
  have h := PL_mem hp
  exact PL_all n _ _ (by unfold stp; rw [List.length_set]; exact h.1) (by rw [stp_sum p c (by omega), h.2])
