/-! The reference's plans: sums, gains, which lead, how many, the fewest steps -/
variable {h : Hp}
theorem getD_le_sum (p : List Nat) : ∀ j, p.getD j 0 ≤ p.sum := by
  induction p with
  | nil => intro j; simp
  | cons a p ih =>
    intro j
    cases j with
    | zero => simp
    | succ j =>
      have := ih j
      rw [List.getD_cons_succ, List.sum_cons]
      omega
theorem t_M_planSum {r n k : Nat} {p : List Nat} {g : Nat → Int32} {Q : Int32 → Hp → Prop} (hM : Mrc h r n) (hp : gI h 88 = P8 p g) (hk : k < 3) (hq : Q (pS (gI h 86) p n k) h) : w_M_planSum 81 (nI k) h Q := by
  obtain ⟨hM, e17, e18, -, -, hn⟩ := hM
  obtain ⟨a1, a2, a3⟩ := M_plan hM
  unfold w_M_planSum
  refine loop_0 (fun m i (s : Int32) => w_M_planSum_L4 Q 81 (nI k) m s (nI i) h) (fun i s => s = sm (fun c => nI (p.getD c 0) * gI h 86 (3 * c + k)) i) n 0 rfl ?_ ?_
  · rintro m s rfl
    unfold w_M_planSum_L4
    exact ⟨M_K hM, fun _ => hq, fun a => absurd (loop_le e18) a⟩
  · rintro m i s hi rfl ih
    unfold w_M_planSum_L4
    refine ⟨M_K hM, fun a => absurd (e18 ▸ a) (nI_ge hi (by omega)), fun _ => ?_⟩
    rw [a1, a3, ix_nI (by omega), hp, P8_at (by omega)]
    refine ⟨a2, vp_in_nI (by omega) (by omega), t_M_numberOf hM (by omega) ?_⟩
    rw [nI_1]
    exact ih _ rfl
theorem t_M_planGain {r n : Nat} {p : List Nat} {g : Nat → Int32} {Q : Int32 → Hp → Prop} (hM : Mrc h r n) (hp : gI h 88 = P8 p g) (hq : Q (pG (gI h 86) p n) h) : w_M_planGain 81 h Q := by
  obtain ⟨hM, e17, e18, -, -, hn⟩ := hM
  obtain ⟨a1, a2, a3⟩ := M_plan hM
  unfold w_M_planGain
  refine loop_0 (fun m i (s : Int32) => w_M_planGain_L4 Q 81 m s (nI i) h) (fun i s => s = sm (fun c => nI (p.getD c 0) * gI h 86 (24 + c)) i) n 0 rfl ?_ ?_
  · rintro m s rfl
    unfold w_M_planGain_L4
    exact ⟨M_K hM, fun _ => hq, fun a => absurd (loop_le e18) a⟩
  · rintro m i s hi rfl ih
    unfold w_M_planGain_L4
    refine ⟨M_K hM, fun a => absurd (e18 ▸ a) (nI_ge hi (by omega)), fun _ => ?_⟩
    rw [a1, a3, ix_nI (by omega), hp, P8_at (by omega)]
    refine ⟨a2, vp_in_nI (by omega) (by omega), t_M_gainOf hM (by omega) ?_⟩
    rw [nI_1]
    exact ih _ rfl
theorem i2b_b2i (b : Bool) : i2b (b2i b) = b := by cases b <;> rfl
theorem t_M_doesLead {r n : Nat} {p : List Nat} {g : Nat → Int32} {Q : Bool → Hp → Prop} (hM : Mrc h r n) (hp : gI h 88 = P8 p g) (hq : Q (lead (gI h 86) r n p) h) : w_M_doesLead 81 h Q := by
  have hM0 := hM
  obtain ⟨hM, e17, e18, hr1, hr3, hn⟩ := hM
  unfold w_M_doesLead
  refine loop_0 (fun m i (s : Bool) => w_M_doesLead_L4 Q 81 m (b2i s) (nI i) h) (fun i s => s = allB (fun k => decide (pS (gI h 86) p n k = gI h 86 (32 + k))) i) r true rfl ?_ ?_
  · rintro m s rfl
    unfold w_M_doesLead_L4
    refine ⟨M_K hM, fun _ => ⟨b2i_B _, ?_⟩, fun a => absurd (loop_le e17) a⟩
    rw [i2b_b2i]
    exact hq
  · rintro m i s hi rfl ih
    unfold w_M_doesLead_L4
    refine ⟨M_K hM, fun a => absurd (e17 ▸ a) (nI_ge hi (by omega)), fun _ => ?_⟩
    rw [nI_1]
    cases e : allB (fun k => decide (pS (gI h 86) p n k = gI h 86 (32 + k))) i
    · refine ⟨fun _ => ?_, fun z => absurd rfl z⟩
      exact ih false (by rw [allB, e]; rfl)
    · refine ⟨fun z => absurd z (by decide), fun _ => t_M_planSum hM0 hp (by omega) ⟨M_K hM, t_M_needOf hM (by omega) ⟨fun z => ?_, fun z => ?_⟩⟩⟩
      · exact ih true (by rw [allB, e, decide_eq_true z]; rfl)
      · exact ih false (by rw [allB, e, decide_eq_false z]; rfl)
theorem nx_t {p q : List Nat} {l : List (List Nat)} {n t : Nat} (hm : ∀ x ∈ p :: q :: l, x.length = n ∧ x.sum = t) : ∀ x ∈ q :: l, x.length = n ∧ x.sum = t := fun x hx => hm x (List.mem_cons_of_mem _ hx)
/-- how many plans lead -/
def cntL (f : Nat → Int32) (r n : Nat) (l : List (List Nat)) : Nat := (l.filter (lead f r n)).length
theorem cntL_cons (f : Nat → Int32) (r n : Nat) (p : List Nat) (l : List (List Nat)) (a : Nat) : nI a + b2i (lead f r n p) = nI (a + cntL f r n [p]) ∧ a + cntL f r n (p :: l) = (a + cntL f r n [p]) + cntL f r n l := by
  unfold cntL
  cases e : lead f r n p
  · simp only [List.filter_cons, e]
    exact ⟨by rw [show b2i false = 0 from rfl, Int32.add_zero]; rfl, by simp⟩
  · simp only [List.filter_cons, e]
    exact ⟨by rw [show b2i true = 1 from rfl, nI_1]; rfl, by simp; omega⟩
theorem t_M_plansOf_l {r n t : Nat} {g : Nat → Int32} {Q : Int32 → Hp → Prop} (hM : Mrc h r n) (ht : t < 2 ^ 30) : ∀ (l : List (List Nat)) (p : List Nat) (a : Nat), (∀ x ∈ p :: l, x.length = n ∧ x.sum = t) → Ch none (p :: l) → (∀ f, Q (nI (a + cntL (gI h 86) r n (p :: l))) (sA h 88 f)) → ∃ m, w_M_plansOf_L8 Q 81 m (nI a) 1 (sA h 88 (P8 p g)) := by
  intro l
  induction l with
  | nil =>
    intro p a hm hc hq
    refine ⟨2, ?_⟩
    unfold w_M_plansOf_L8
    refine ⟨fun z => absurd z (by decide), fun _ => ⟨M_K hM.1, t_M_doesLead (Mrc_sA (by decide) hM) (gI_sAeq _ _ _) (t_M_truth ⟨M_K hM.1, t_M_nextPlan (Mrc_sA (by decide) hM) (gI_sAeq _ _ _) (hm p List.mem_cons_self).1 (fun j => by have := getD_le_sum p j; rw [(hm p List.mem_cons_self).2] at this; omega) (fun q hq2 => ?_) (fun _ f => ?_)⟩)⟩⟩
    · rw [show nx p = none from hc] at hq2
      cases hq2
    · rw [sA_sA, gI_sAne _ _ (by decide), (cntL_cons _ _ _ p [] a).1]
      unfold w_M_plansOf_L8
      exact ⟨fun _ => hq f, fun z => absurd rfl z⟩
  | cons q l ih =>
    intro p a hm hc hq
    obtain ⟨m, hm2⟩ := ih q (a + cntL (gI h 86) r n [p]) (nx_t hm) hc.2 (fun f => by rw [← (cntL_cons _ _ _ p (q :: l) a).2]; exact hq f)
    refine ⟨m + 1, ?_⟩
    unfold w_M_plansOf_L8
    refine ⟨fun z => absurd z (by decide), fun _ => ⟨M_K hM.1, t_M_doesLead (Mrc_sA (by decide) hM) (gI_sAeq _ _ _) (t_M_truth ⟨M_K hM.1, t_M_nextPlan (Mrc_sA (by decide) hM) (gI_sAeq _ _ _) (hm p List.mem_cons_self).1 (fun j => by have := getD_le_sum p j; rw [(hm p List.mem_cons_self).2] at this; omega) (fun q2 hq2 => ?_) (fun hn _ => ?_)⟩)⟩⟩
    · rw [hc.1] at hq2
      cases hq2
      rw [sA_sA, gI_sAne _ _ (by decide), (cntL_cons _ _ _ p [] a).1]
      exact hm2
    · rw [hc.1] at hn
      cases hn
theorem t_M_plansOf {r n t : Nat} {Q : Int32 → Hp → Prop} (hM : Mrc h r n) (ht : t < 2 ^ 30) (hq : ∀ f, Q (nI (cntL (gI h 86) r n (PL n t))) (sA h 88 f)) : w_M_plansOf 81 (nI t) h Q := by
  unfold w_M_plansOf
  refine ⟨M_K hM.1, t_M_firstPlan hM (by omega) ?_⟩
  cases n with
  | zero =>
    by_cases e : t = 0
    · subst e
      obtain ⟨m, hm⟩ := t_M_plansOf_l (g := gI h 88) hM (t := 0) (by omega) [] [] 0 (fun x hx => by rw [List.mem_singleton.mp hx]; exact ⟨rfl, rfl⟩) rfl (fun f => by rw [Nat.zero_add]; exact hq f)
      exact ⟨m, hm⟩
    · refine ⟨1, ?_⟩
      unfold w_M_plansOf_L8
      refine ⟨fun _ => ?_, fun z => absurd ?_ z⟩
      · have := hq (P8 (fp 0 t) (gI h 88))
        rw [show PL 0 t = [] from by unfold PL; rw [if_neg e]] at this
        exact this
      · rw [decide_eq_false (fun z => e (z rfl))]; rfl
  | succ n =>
    obtain ⟨⟨l, hl⟩, hc⟩ := PL_ch n t
    rw [decide_eq_true (fun z => absurd z (by omega))]
    rw [hl] at hc hq
    obtain ⟨m, hm⟩ := t_M_plansOf_l (g := gI h 88) hM ht l (fp (n + 1) t) 0 (fun x hx => PL_mem (n := n + 1) (t := t) (by rw [hl]; exact hx)) hc (fun f => by rw [Nat.zero_add]; exact hq f)
    exact ⟨m, hm⟩
/-- so many plans there are at most -/
def PN : Nat → Nat → Nat
  | 0, t => if t = 0 then 1 else 0
  | n + 1, t => ((List.range' 0 (t + 1)).map (PN n)).sum
theorem PL_len (n : Nat) : ∀ t, (PL n t).length = PN n t := by
  induction n with
  | zero =>
    intro t
    unfold PL PN
    split <;> rfl
  | succ n ih =>
    intro t
    unfold PL PN
    rw [List.length_flatMap]
    congr 1
    apply List.map_congr_left
    intro i _
    rw [List.length_map, ih i]
theorem PN_le : ∀ n, n ≤ 8 → ∀ t, t ≤ 12 → PN n t ≤ 50388 := by decide +kernel
theorem PL_le {n t : Nat} (hn : n ≤ 8) (ht : t ≤ 12) : (PL n t).length ≤ 50388 := by rw [PL_len]; exact PN_le n hn t ht
theorem cntL_le (f : Nat → Int32) (r n : Nat) (l : List (List Nat)) : cntL f r n l ≤ l.length := List.length_filter_le _ _
/-- the least of some numbers below an end with a property, -1 -/
def lst (F : Nat → Bool) : Nat → Nat → Int32
  | 0, _ => -1
  | m + 1, t => if F t then nI t else lst F m (t + 1)
theorem t_M_fewest {r n : Nat} {Q : Int32 → Hp → Prop} (hM : Mrc h r n) (hq : ∀ f, Q (lst (fun t => decide (0 < cntL (gI h 86) r n (PL n t))) 13 0) (sA h 88 f)) : w_M_fewest 81 h Q := by
  unfold w_M_fewest
  have key : ∀ m t, t + m = 13 → ∀ f0, (∀ f, Q (lst (fun t => decide (0 < cntL (gI h 86) r n (PL n t))) m t) (sA h 88 f)) → w_M_fewest_L2 Q 81 (m + 1) (nI t) (sA h 88 f0) := by
    intro m
    induction m with
    | zero =>
      intro t ht f0 hq
      unfold w_M_fewest_L2
      exact ⟨fun _ => hq f0, fun z => absurd (nI_lt (a := 12) (by omega) (by omega)) z⟩
    | succ m ih =>
      intro t ht f0 hq
      unfold w_M_fewest_L2
      refine ⟨fun z => absurd z (nI_nlt (a := 12) (b := t) (by omega) (by omega)), fun _ => ⟨M_K hM.1, t_M_plansOf (Mrc_sA (by decide) hM) (by omega) (fun f => ?_)⟩⟩
      · rw [sA_sA, gI_sAne _ _ (by decide)]
        have hle := cntL_le (gI h 86) r n (PL n t)
        have h2 := PL_le (n := n) (t := t) hM.2.2.2.2.2 (by omega)
        refine ⟨fun z => ?_, fun z => ?_⟩
        · rw [nI_1]
          refine ih (t + 1) (by omega) f (fun f => ?_)
          have e : ¬ 0 < cntL (gI h 86) r n (PL n t) := fun g => absurd z (nI_nle g (by omega))
          have := hq f
          rw [lst, decide_eq_false e] at this
          exact this
        · have e : 0 < cntL (gI h 86) r n (PL n t) := by
            rcases Nat.eq_zero_or_pos (cntL (gI h 86) r n (PL n t)) with g | g
            · rw [g] at z
              exact absurd (Int32.le_refl _) z
            · exact g
          have := hq f
          rw [lst, decide_eq_true e] at this
          exact this
  have := key 13 0 (by omega) (gI h 88) hq
  rw [sA_id] at this
  exact ⟨14, this⟩
