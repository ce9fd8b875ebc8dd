/-! Keys of the reference's states; lists without doubles -/
variable {h : Hp}
theorem nodup_le : ∀ (N : Nat) (l : List Nat), l.Nodup → (∀ x ∈ l, x < N) → l.length ≤ N := by
  intro N
  induction N with
  | zero =>
    intro l _ h
    cases l with
    | nil => exact Nat.le_refl _
    | cons a l => exact absurd (h a List.mem_cons_self) (Nat.not_lt_zero _)
  | succ N ih =>
    intro l hn h
    have h1 := ih (l.erase N) (hn.erase N) (fun x hx => by
      have h2 := h x (List.mem_of_mem_erase hx)
      have h3 : x ≠ N := fun g => by
        rw [g] at hx
        exact absurd hx (List.Nodup.not_mem_erase hn)
      omega)
    by_cases e : N ∈ l
    · rw [List.length_erase_of_mem e] at h1
      omega
    · rw [List.erase_of_not_mem e] at h1
      omega
theorem nodup_map_le {α : Type} {N : Nat} {F : α → Nat} {l : List α} (hn : (l.map F).Nodup) (h : ∀ x ∈ l, F x < N) : l.length ≤ N := by
  have := nodup_le N (l.map F) hn (fun y hy => by
    obtain ⟨x, hx, rfl⟩ := List.mem_map.mp hy
    exact h x hx)
  rwa [List.length_map] at this
def of60 (x : Nat) : Int32 := nI x - 60
theorem of60_60 (x : Nat) : of60 x + 60 = nI x := by
  unfold of60
  rw [Int32.sub_add_cancel]
def kNo (x y z : Nat) : Nat := (x * 121 + y) * 121 + z
theorem kNo_lt {x y z : Nat} (hx : x < 121) (hy : y < 121) (hz : z < 121) : kNo x y z < 1771561 := by unfold kNo; omega
theorem kNo_up {x y z : Nat} (hy : y < 121) (hz : z < 121) : kNo x y z % 121 = z ∧ kNo x y z / 121 % 121 = y ∧ kNo x y z / 121 / 121 = x := by unfold kNo; omega
theorem kNo_of (k : Nat) : kNo (k / 121 / 121) (k / 121 % 121) (k % 121) = k := by unfold kNo; omega
theorem t_M_keyNow {X : Nat → Nat} {Q : Int32 → Hp → Prop} (hM : MS h) (hS : SU h (fun j => of60 (X j))) (hq : Q (nI (kNo (X 0) (X 1) (X 2))) h) : w_M_keyNow 81 h Q := by
  obtain ⟨a1, a2, a3⟩ := M_sums hM
  unfold w_M_keyNow
  rw [a1, a3, show ix (0 : Int32) = 0 from rfl, show ix (1 : Int32) = 1 from rfl, show ix (2 : Int32) = 2 from rfl, hS 0 (by omega), hS 1 (by omega), hS 2 (by omega)]
  refine ⟨M_K hM, a2, vp_in_nI (n := 0) (by omega) (by omega), vp_in_nI (n := 1) (by omega) (by omega), vp_in_nI (n := 2) (by omega) (by omega), ?_⟩
  dsimp only
  rw [of60_60, Int32.add_assoc, of60_60, Int32.add_assoc, of60_60, show (121 : Int32) = nI 121 from rfl, pk_mul, nI_add, pk_mul, nI_add]
  exact hq
def upk (k : Nat) : Nat → Nat
  | 0 => k / 121 / 121
  | 1 => k / 121 % 121
  | _ => k % 121
theorem t_M_unpacks {k : Nat} {Q : Hp → Prop} (hM : MS h) (hk : k < 1771561) (hq : ∀ h', Fr [92] [] [] [] h h' → SU h' (fun j => of60 (upk k j)) → Q h') : w_M_unpacks 81 (nI k) h Q := by
  obtain ⟨a1, a2, a3⟩ := M_sums hM
  unfold w_M_unpacks
  rw [a1, a3, show ix (0 : Int32) = 0 from rfl, show ix (1 : Int32) = 1 from rfl, show ix (2 : Int32) = 2 from rfl, show (121 : Int32) = nI 121 from rfl, pk_div (by omega) (by omega) (by omega), pk_div (by omega) (by omega) (by omega)]
  unfold jrem
  rw [pk_rem (by omega) (by omega) (by omega), pk_rem (by omega) (by omega) (by omega)]
  refine ⟨M_K hM, a2, vp_in_nI (n := 2) (by omega) (by omega), vp_in_nI (n := 1) (by omega) (by omega), vp_in_nI (n := 0) (by omega) (by omega), hq _ (fr_trans (fr_trans (fr_sI _ _ (Or.inl (by simp))) (fr_sI _ _ (Or.inl (by simp)))) (fr_sI _ _ (Or.inl (by simp)))) (fun j hj => ?_)⟩
  match j, hj with
  | 0, _ => rw [gI_sI, if_pos ⟨rfl, rfl⟩]; rfl
  | 1, _ => rw [gI_sI, if_neg (by decide), gI_sI, if_pos ⟨rfl, rfl⟩]; rfl
  | 2, _ => rw [gI_sI, if_neg (by decide), gI_sI, if_neg (by decide), gI_sI, if_pos ⟨rfl, rfl⟩]; rfl
