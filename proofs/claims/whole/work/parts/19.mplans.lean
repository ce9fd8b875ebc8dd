/-! The reference's plans: firstPlan, nextPlan, what a plan sums to, gains; how many lead -/
variable {h : Hp}
def P8 (p : List Nat) (g : Nat → Int32) : Nat → Int32 := fun j => if j < 8 then nI (p.getD j 0) else g j
theorem P8_P8 (p q : List Nat) (g : Nat → Int32) : P8 q (P8 p g) = P8 q g := by
  funext j
  unfold P8
  split <;> rfl
theorem P8_at {p : List Nat} {g : Nat → Int32} {j : Nat} (hj : j < 8) : P8 p g j = nI (p.getD j 0) := if_pos hj
def pS (f : Nat → Int32) (p : List Nat) (n k : Nat) : Int32 := sm (fun c => nI (p.getD c 0) * f (3 * c + k)) n
def pG (f : Nat → Int32) (p : List Nat) (n : Nat) : Int32 := sm (fun c => nI (p.getD c 0) * f (24 + c)) n
def allB (F : Nat → Bool) : Nat → Bool
  | 0 => true
  | n + 1 => allB F n && F n
def lead (f : Nat → Int32) (r n : Nat) (p : List Nat) : Bool := allB (fun k => decide (pS f p n k = f (32 + k))) r
theorem gI_sAne (h : Hp) {a b : Nat} (f : Nat → Int32) (hb : b ≠ a) : gI (sA h a f) b = gI h b := by
  funext j
  rw [gI_sA, if_neg hb]
theorem gI_sAeq (h : Hp) (a : Nat) (f : Nat → Int32) : gI (sA h a f) a = f := by
  funext j
  rw [gI_sA, if_pos rfl]
theorem Mrc_sA {r n a : Nat} {f : Nat → Int32} (ha : a ≠ 81) (hM : Mrc h r n) : Mrc (sA h a f) r n := by
  obtain ⟨h1, h2, h3, h4⟩ := hM
  exact ⟨h1, by rw [gI_sAne _ _ (Ne.symm ha)]; exact h2, by rw [gI_sAne _ _ (Ne.symm ha)]; exact h3, h4⟩
theorem t_M_firstPlan {r n t : Nat} {Q : Bool → Hp → Prop} (hM : Mrc h r n) (ht : t < 2 ^ 31) (hq : Q (decide (n = 0 → t = 0)) (sA h 88 (P8 (fp n t) (gI h 88)))) : w_M_firstPlan 81 (nI t) h Q := by
  obtain ⟨hM, e17, e18, -, -, hn⟩ := hM
  obtain ⟨a1, a2, a3⟩ := M_plan hM
  unfold w_M_firstPlan
  have := loop_0 (fun m i (s : Hp) => w_M_firstPlan_L2 Q 81 (nI t) m (nI i) s) (fun i s => s = sA h 88 (fl (gI h 88) i 0)) 8 h (by rw [fl_0, sA_id]) ?_ ?_
  · exact this
  · rintro m s rfl
    unfold w_M_firstPlan_L2
    refine ⟨fun _ => ⟨M_K hM, ?_⟩, fun z => absurd (Int32.le_refl _) z⟩
    rw [gI_sAne _ _ (by decide), e18, gR_sA, a1, gN_sA, a3]
    refine ⟨fun z => ?_, fun z => ⟨a2, vp_in_nI (n := 0) (by omega) (by omega), ?_⟩⟩
    · have h0 : n = 0 := by
        have := (nI_eq (a := n) (b := 0) (by omega) (by omega)).mp z
        exact this
      subst h0
      have e : fl (gI h 88) 8 0 = P8 (fp 0 t) (gI h 88) := by
        funext j
        unfold fl P8 fp
        rfl
      rw [e]
      refine ⟨fun w => ?_, fun w => ?_⟩
      · have : t = 0 := (nI_eq ht (by omega)).mp w
        rw [decide_eq_true (fun _ => this)] at hq; exact hq
      · rw [decide_eq_false (fun g => w (by rw [g rfl]; rfl))] at hq; exact hq
    · have h0 : n ≠ 0 := fun g => z (by rw [g]; rfl)
      obtain ⟨n, rfl⟩ : ∃ k, n = k + 1 := ⟨n - 1, by omega⟩
      rw [decide_eq_true (fun g => absurd g h0)] at hq
      rw [show ix (0 : Int32) = 0 from rfl, sI_sA]
      have e : (fun j => if j = 0 then nI t else fl (gI h 88) 8 0 j) = P8 (fp (n + 1) t) (gI h 88) := by
        funext j
        unfold fl P8 fp
        cases j with
        | zero => simp
        | succ j =>
          simp only [Nat.add_eq_zero_iff, Nat.one_ne_zero, and_false, if_false]
          split
          · rw [List.getD_cons_succ, List.getD_eq_getElem?_getD, List.getElem?_replicate]
            split <;> rfl
          · rfl
      rw [e]
      exact hq
  · rintro m i s hi rfl ih
    unfold w_M_firstPlan_L2
    rw [gR_sA, a1, gN_sA, a3]
    refine ⟨fun z => absurd z (nI_ge (b := 8) hi (by omega)), fun _ => ⟨M_K hM, a2, vp_in_nI hi (by omega), ?_⟩⟩
    rw [ix_nI (by omega), nI_1, sI_sA, fl_s]
    exact ih _ rfl
theorem nI_m1 {c : Nat} : nI (c + 1) + (-1) = nI c := pk_m1 c
theorem nI_s1 (c : Nat) : nI (c + 1) - 1 = nI c := nI_pred c
theorem t_M_nextPlan {r n : Nat} {p : List Nat} {g : Nat → Int32} {Q : Bool → Hp → Prop} (hM : Mrc h r n) (hp : gI h 88 = P8 p g) (hl : p.length = n) (hb : ∀ j, p.getD j 0 < 2 ^ 30) (hq1 : ∀ q, nx p = some q → Q true (sA h 88 (P8 q g))) (hq0 : nx p = none → ∀ f, Q false (sA h 88 f)) : w_M_nextPlan 81 h Q := by
  obtain ⟨hM, e17, e18, -, -, hn⟩ := hM
  obtain ⟨a1, a2, a3⟩ := M_plan hM
  unfold w_M_nextPlan
  rw [e18]
  rcases Nat.lt_or_ge n 2 with h2 | h2
  · -- at most one column
    have hnone : nx p = none := by
      match p, hl with
      | [], _ => rfl
      | [a], _ => rfl
      | a :: b :: q, hl => simp at hl; omega
    refine ⟨M_K hM, fun z => absurd z ?_, fun _ => ?_⟩
    · rw [Int32.le_iff_toInt_le, sub1_toInt (by omega)]
      have e : (1 : Int32).toInt = 1 := rfl
      omega
    · have := hq0 hnone (gI h 88)
      rw [sA_id] at this
      exact this
  · obtain ⟨m, rfl⟩ : ∃ k, n = k + 2 := ⟨n - 2, by omega⟩
    rw [show nI (m + 2) - 1 = nI (m + 1) from nI_pred (m + 1), nI_pred m, a1, a3, ix_nI (by omega)]
    refine ⟨M_K hM, fun _ => ⟨a2, vp_in_nI (by omega) (by omega), ?_⟩, fun z => absurd ?_ z⟩
    · -- the loop: down from m; all behind c are 0
      have key : ∀ k, k ≤ m + 1 → (∀ j, k ≤ j → j < m + 1 → p.getD j 0 = 0) → ∃ w, w_M_nextPlan_L32 Q 81 (gI h 88 (m + 1)) w (nI k - 1) (sI h 88 (m + 1) 0) := by
        intro k
        induction k with
        | zero =>
          intro _ hz
          refine ⟨1, ?_⟩
          unfold w_M_nextPlan_L32
          refine ⟨fun _ => ?_, fun z => absurd (by decide) z⟩
          unfold w_M_nextPlan_B51
          refine ⟨fun z => absurd z (by decide), fun _ => ?_⟩
          have hnone : nx p = none := by
            rw [split_0 p (m + 1) hl (fun j hj => hz j (by omega) hj)]
            exact nx_none _ _
          have := hq0 hnone (fun j => if j = m + 1 then 0 else gI h 88 j)
          rw [← sI_sA, sA_id] at this
          exact this
        | succ k ihk =>
          intro hk hz
          rw [nI_s1]
          by_cases e0 : p.getD k 0 = 0
          · obtain ⟨w, hw⟩ := ihk (by omega) (fun j h1 h3 => by
              rcases Nat.lt_or_ge k j with g1 | g1
              · exact hz j (by omega) h3
              · rw [show j = k by omega]; exact e0)
            refine ⟨w + 1, ?_⟩
            unfold w_M_nextPlan_L32
            refine ⟨fun z => absurd z (nI_pos (by omega)), fun _ => ⟨M_K hM, ?_⟩⟩
            rw [gR_sI, a1, gN_sI, a3, ix_nI (by omega)]
            refine ⟨a2, vp_in_nI (by omega) (by omega), fun _ => ?_, fun z => absurd ?_ z⟩
            · rw [show nI k + (-1) = nI k - 1 from by rw [Int32.sub_eq_add_neg]]
              exact hw
            · rw [gI_sI, if_neg (by omega), hp, P8_at (by omega), e0]; rfl
          · refine ⟨1, ?_⟩
            unfold w_M_nextPlan_L32
            refine ⟨fun z => absurd z (nI_pos (by omega)), fun _ => ⟨M_K hM, ?_⟩⟩
            rw [gR_sI, a1, gN_sI, a3, ix_nI (by omega)]
            have ev : gI (sI h 88 (m + 1) 0) 88 k = nI (p.getD k 0) := by rw [gI_sI, if_neg (by omega), hp, P8_at (by omega)]
            refine ⟨a2, vp_in_nI (by omega) (by omega), fun z => absurd ?_ e0, fun _ => ?_⟩
            · rw [ev] at z
              exact (nI_eq (by have := hb k; omega) (by omega)).mp z
            · unfold w_M_nextPlan_B51
              rw [gR_sI, a1, gN_sI, a3, nI_1, ix_nI (by omega), ix_nI (by omega)]
              refine ⟨fun _ => ⟨M_K hM, a2, vp_in_nI (by omega) (by omega), vp_in_nI (by omega) (by omega), ?_⟩, fun z => absurd (nI_pos' (by omega)) z⟩
              obtain ⟨a, ha⟩ : ∃ a, p.getD k 0 = a + 1 := ⟨p.getD k 0 - 1, by omega⟩
              obtain ⟨c2, hc2⟩ : ∃ c2, m + 1 = k + 1 + c2 := ⟨m - k, by omega⟩
              have hs := split_at p k c2 (by rw [hl]; omega) (fun j h1 h3 => hz j (by omega) (by omega))
              have hnx : nx p = some (p.take k ++ a :: (p.getD (k + 1 + c2) 0 + 1) :: List.replicate c2 0) := by
                rw [ha] at hs
                rw [show nx p = nx (p.take k ++ (a + 1) :: (List.replicate c2 0 ++ [p.getD (k + 1 + c2) 0])) from congrArg nx hs]
                exact nx_some _ _ _ _
              have fin := hq1 _ hnx
              have eF : sI (sI (sI h 88 (m + 1) 0) 88 k (gI (sI h 88 (m + 1) 0) 88 k - 1)) 88 (k + 1) (gI h 88 (m + 1) + 1) = sA h 88 (P8 (p.take k ++ a :: (p.getD (k + 1 + c2) 0 + 1) :: List.replicate c2 0) g) := by
                rw [ev, ha, nI_s1, hp, P8_at (by omega)]
                rw [show sI h 88 (m + 1) 0 = sI (sA h 88 (gI h 88)) 88 (m + 1) 0 from by rw [sA_id], sI_sA, sI_sA, sI_sA, hp]
                congr 1
                funext j
                unfold P8
                rw [getD_new p k c2 a _ j (by rw [hl]; omega)]
                by_cases j1 : j = k + 1
                · rw [if_pos j1, j1, if_pos (by omega), if_neg (by omega), if_pos rfl, hc2, nI_1]
                · rw [if_neg j1]
                  by_cases j2 : j = k
                  · rw [if_pos j2, j2, if_pos (by omega), if_pos rfl]
                  · rw [if_neg j2, if_neg j2, if_neg j1]
                    by_cases j3 : j = m + 1
                    · rw [if_pos j3, j3, if_pos (by omega), if_neg (by omega)]; rfl
                    · rw [if_neg j3]
                      by_cases j8 : j < 8
                      · rw [if_pos j8, if_pos j8]
                        by_cases j4 : j < k
                        · rw [if_pos j4]
                        · rw [if_neg j4]
                          rcases Nat.lt_or_ge j (m + 1) with j5 | j5
                          · rw [hz j (by omega) j5]
                          · rw [List.getD_eq_getElem?_getD, List.getElem?_eq_none (by omega)]; rfl
                      · rw [if_neg j8, if_neg j8]
              rw [eF]
              exact fin
      have := key (m + 1) (by omega) (fun j h1 h3 => by omega)
      rw [nI_s1] at this
      exact this
    · exact nI_le (a := 1) (by omega) (by omega)
