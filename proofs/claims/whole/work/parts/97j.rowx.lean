/-! Walks of one row, a column turned about -/
variable {h : Hp}
def fT (g : Nat → Int32) (i : Nat) : Nat → Int32 := fun j => if 1 ≤ i ∧ j = 3 * (i - 1) then -(g j) else g j
theorem fT_at {g : Nat → Int32} {i c : Nat} : fT g i (3 * c) = if i = c + 1 then -(g (3 * c)) else g (3 * c) := by
  unfold fT
  by_cases e : i = c + 1
  · rw [if_pos e, if_pos (by omega)]
  · rw [if_neg e, if_neg (by omega)]
theorem fT_FB {g : Nat → Int32} {i n : Nat} (hF : FB g n) : FB (fT g i) n := by
  intro c j hc hj
  have := hF c j hc hj
  unfold fT
  by_cases e : 1 ≤ i ∧ 3 * c + j = 3 * (i - 1)
  · rw [if_pos e, Jvm.Kit.i32_neg (by omega)]
    omega
  · rw [if_neg e]
    exact this
theorem tS_fT {g : Nat → Int32} {p : List Nat} {n i : Nat} (hn : n ≤ 8) (hi : i ≤ n) : tS g p n 0 (tu i) = pS (fT g i) p n 0 := by
  unfold tS pS
  refine sm_congr (fun c hc => ?_)
  rw [Nat.add_zero, fT_at]
  congr 1
  match i, hi with
  | 0, _ => rw [if_neg (show ¬ nI c = tu 0 from nI_m1n (by omega)), if_neg (by omega)]
  | k + 1, _ =>
    by_cases e : k = c
    · rw [if_pos (show nI c = tu (k + 1) by rw [e]; rfl), if_pos (by omega)]
    · rw [if_neg (show ¬ nI c = tu (k + 1) from fun (z : nI c = nI k) => e ((nI_eq (by omega) (by omega)).mp z.symm)), if_neg (by omega)]
theorem pS_iS {f : Nat → Int32} {n t j : Nat} {p : List Nat} (hF : FB f n) (hp : p ∈ PL n t) (ht : t ≤ 12) (hj : j < 3) : (pS f p n j).toInt = iS f j p n := by
  have hpm := PL_mem hp
  have h3 := sD_len p
  rw [hpm.1] at h3
  have hs : ∀ k, k ≤ n → sD p k ≤ t := fun k hk => by
    have h2 := sD_mono p hk
    omega
  have sb : ∀ k, k ≤ n → (sm (fun c => nI (p.getD c 0) * f (3 * c + j)) k).toInt = iS f j p k := by
    intro k
    induction k with
    | zero => intro _; rfl
    | succ k ih =>
      intro hk
      have h1 := ih (by omega)
      have h2 := hs (k + 1) hk
      have h3 : sD p (k + 1) = sD p k + p.getD k 0 := rfl
      have h4 := hF k j (by omega) hj
      have h5 := mul_bd (p.getD k 0) h4.1 h4.2
      have h6 := iS_le p hF hj k (by omega)
      have e1 : (nI (p.getD k 0)).toInt = (p.getD k 0 : Int) := nI_toInt (by omega)
      have e2 : (nI (p.getD k 0) * f (3 * k + j)).toInt = (p.getD k 0 : Int) * (f (3 * k + j)).toInt := by rw [Jvm.Kit.i32_mul (by rw [e1]; omega) (by rw [e1]; omega), e1]
      rw [sm, Jvm.Kit.i32_add (by rw [e2, h1]; omega) (by rw [e2, h1]; omega), e2, h1]
      rfl
  exact sb n (Nat.le_refl _)
theorem un_stp : ∀ (p : List Nat), 0 < p.sum → ∃ c q, c < p.length ∧ q.length = p.length ∧ q.sum + 1 = p.sum ∧ stp q c = p := by
  intro p
  induction p with
  | nil => intro hs; exact absurd hs (by decide)
  | cons a p ih =>
    intro hs
    rw [List.sum_cons] at hs
    match a with
    | 0 =>
      obtain ⟨c, q, h1, h2, h3, h4⟩ := ih (by omega)
      refine ⟨c + 1, 0 :: q, by rw [List.length_cons]; omega, by rw [List.length_cons, List.length_cons, h2], by rw [List.sum_cons, List.sum_cons]; omega, ?_⟩
      show 0 :: (q.set c ((0 :: q).getD (c + 1) 0 + 1)) = 0 :: p
      rw [List.getD_cons_succ]
      unfold stp at h4
      rw [h4]
    | b + 1 =>
      exact ⟨0, b :: p, by rw [List.length_cons]; omega, rfl, by rw [List.sum_cons, List.sum_cons]; omega, rfl⟩
theorem stp_prev {n t : Nat} {p : List Nat} (hp : p ∈ PL n (t + 1)) : ∃ c q, c < n ∧ q ∈ PL n t ∧ p = stp q c := by
  have h := PL_mem hp
  obtain ⟨c, q, h1, h2, h3, h4⟩ := un_stp p (by omega)
  exact ⟨c, q, by omega, PL_all n q t (by omega) (by omega), h4.symm⟩
/-- whether a walk of k steps has a number in row 0 -/
def rsB (f : Nat → Int32) (n : Nat) : Nat → Int → Bool
  | 0, v => decide (v = 0)
  | k + 1, v => anyB (fun c => rsB f n k (v - (f (3 * c)).toInt)) n
theorem rs_PL {f : Nat → Int32} {n : Nat} : ∀ k v, rsB f n k v = true ↔ ∃ p, p ∈ PL n k ∧ iS f 0 p n = v := by
  intro k
  induction k with
  | zero =>
    intro v
    unfold rsB
    rw [decide_eq_true_eq]
    constructor
    · intro e
      exact ⟨List.replicate n 0, PL_all n _ 0 List.length_replicate (by rw [List.sum_replicate_nat, Nat.mul_zero]), by rw [iS_0, e]⟩
    · rintro ⟨p, hp, e⟩
      have h1 := PL_mem hp
      have h3 := sD_len p
      rw [h1.1] at h3
      have z : ∀ m, m ≤ n → iS f 0 p m = 0 := by
        intro m
        induction m with
        | zero => intro _; rfl
        | succ m ih =>
          intro hm
          have h4 := sD_mono p hm
          have h5 : sD p (m + 1) = sD p m + p.getD m 0 := rfl
          show iS f 0 p m + (p.getD m 0 : Int) * _ = 0
          rw [ih (by omega), show p.getD m 0 = 0 from by omega]
          simp
      rw [← e, z n (Nat.le_refl _)]
  | succ k ih =>
    intro v
    unfold rsB
    rw [anyB_t]
    constructor
    · rintro ⟨c, hc, e⟩
      obtain ⟨p, hp, e2⟩ := (ih _).mp e
      refine ⟨stp p c, stp_PL hp hc, ?_⟩
      rw [iS_stp (by rw [(PL_mem hp).1]; exact hc), if_pos hc, e2, Nat.add_zero]
      omega
    · rintro ⟨p, hp, e⟩
      obtain ⟨c, q, hc, hq, rfl⟩ := stp_prev hp
      refine ⟨c, hc, (ih _).mpr ⟨q, hq, ?_⟩⟩
      rw [iS_stp (by rw [(PL_mem hq).1]; exact hc), if_pos hc, Nat.add_zero] at e
      omega
theorem rs_bd {f : Nat → Int32} {n : Nat} (hF : FB f n) : ∀ k v, rsB f n k v = true → v.natAbs ≤ 5 * k := by
  intro k
  induction k with
  | zero =>
    intro v e
    unfold rsB at e
    rw [of_decide_eq_true e]
    exact Nat.le_refl _
  | succ k ih =>
    intro v e
    unfold rsB at e
    obtain ⟨c, hc, e⟩ := anyB_t.mp e
    have := ih _ e
    have h2 := hF c 0 hc (by omega)
    rw [Nat.add_zero] at h2
    omega
theorem hF_rs {g : Nat → Int32} {n t i : Nat} {v : Int32} (hn : n ≤ 8) (hi : i ≤ n) (hG : FB g n) (ht : t ≤ 8) : hF g n t i v = rsB (fT g i) n t v.toInt := by
  have key : hF g n t i v = true ↔ rsB (fT g i) n t v.toInt = true := by
    unfold hF
    rw [rs_PL, List.any_eq_true]
    constructor
    · rintro ⟨p, hp, e⟩
      refine ⟨p, hp, ?_⟩
      have e := of_decide_eq_true e
      rw [← pS_iS (fT_FB hG) hp (by omega) (by omega), ← tS_fT hn hi, e]
    · rintro ⟨p, hp, e⟩
      refine ⟨p, hp, decide_eq_true ?_⟩
      rw [tS_fT hn hi, ← Int32.toInt_inj, pS_iS (fT_FB hG) hp (by omega) (by omega), e]
  cases e : rsB (fT g i) n t v.toInt with
  | true => exact key.mpr e
  | false =>
    cases e2 : hF g n t i v with
    | false => rfl
    | true => rw [key.mp e2] at e; cases e
