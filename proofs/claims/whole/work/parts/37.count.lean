/-! How many states there are at most -/
theorem nodup_sub {α : Type} [DecidableEq α] : ∀ (l m : List α), l.Nodup → (∀ x ∈ l, x ∈ m) → l.length ≤ m.length := by
  intro l
  induction l with
  | nil => intro m _ _; exact Nat.zero_le _
  | cons a l ih =>
    intro m hn hs
    rw [List.nodup_cons] at hn
    have ha := hs a List.mem_cons_self
    have h1 := ih (m.erase a) hn.2 (fun x hx => by
      have hne : x ≠ a := fun g => hn.1 (g ▸ hx)
      exact (List.mem_erase_of_ne hne).mpr (hs x (List.mem_cons_of_mem _ hx)))
    rw [List.length_erase_of_mem ha] at h1
    have h2 := List.length_pos_of_mem ha
    rw [List.length_cons]
    omega
/-- so many plans of less than so many steps -/
def PNs (n : Nat) : Nat → Nat
  | 0 => 0
  | t + 1 => PNs n t + PN n t
theorem PNs_le : ∀ n, n ≤ 8 → PNs n 13 ≤ 125970 := by decide +kernel
theorem PNs_mono (n : Nat) {a b : Nat} (h : a ≤ b) : PNs n a ≤ PNs n b := by
  induction b with
  | zero => rw [show a = 0 from by omega]; exact Nat.le_refl _
  | succ b ih =>
    by_cases e : a = b + 1
    · rw [e]; exact Nat.le_refl _
    · have := ih (by omega)
      rw [PNs]
      omega
