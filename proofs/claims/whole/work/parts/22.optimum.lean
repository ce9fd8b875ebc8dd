/-! The reference's optimum -/
variable {h : Hp}
/-- a heap as laysOptimum leaves it -/
def OI (h h' : Hp) (o : Option (List Nat × Int32 × Nat)) : Prop := Fr [88, 89] [28, 29] [] [] h h' ∧ OB h' o
theorem OI_88 {h0 h1 h2 : Hp} {o : Option (List Nat × Int32 × Nat)} (a : OI h0 h1 o) (b : Fr [88] [] [] [] h1 h2) : OI h0 h2 o :=
  ⟨fr_trans a.1 (fr_mono b (by simp) (by simp) (by simp) (by simp)), OB_fr b (by decide) (by decide) (by decide) (by decide) a.2⟩
theorem t_M_laysOptimum_B96 {h0 : Hp} {r n t : Nat} {p : List Nat} {l : List (List Nat)} {o : Option (List Nat × Int32 × Nat)} {Q : Bool → Hp → Prop} {k7 k24 : Int32 → Hp → Prop} {v1 : Int32} (hM0 : Mrc h0 r n) (ht : t < 2 ^ 30) (hl : Lp n t (p :: l)) (hp : AtP h p) (ho : OI h0 h o)
    (hq : ∀ h', OI h0 h' o → hdP h' l → k24 (b2i (!l.isEmpty)) h') : w_M_laysOptimum_B96 Q k7 k24 81 v1 h := by
  have hM := fr_Mrc ho.1 (by decide) (by decide) (by decide) hM0
  unfold w_M_laysOptimum_B96
  exact ⟨M_K hM.1, t_M_next hM ht hl hp (fun h' f hd => hq h' (OI_88 ho f) hd)⟩
theorem t_M_laysOptimum_B56 {h0 : Hp} {r n t : Nat} {p : List Nat} {l : List (List Nat)} {o : Option (List Nat × Int32 × Nat)} {g : Int32} {Q : Bool → Hp → Prop} {k7 k24 : Int32 → Hp → Prop} (hM0 : Mrc h0 r n) (ht : t ≤ 12) (hl : Lp n t (p :: l)) (hp : AtP h p) (ho : OI h0 h o)
    (hq : ∀ h', OI h0 h' (some (p, g, t)) → hdP h' l → k24 (b2i (!l.isEmpty)) h') : w_M_laysOptimum_B56 Q k7 k24 81 (nI t) g h := by
  have hM := fr_Mrc ho.1 (by decide) (by decide) (by decide) hM0
  obtain ⟨a1, a2, a3⟩ := M_plan hM.1
  obtain ⟨b1, b2, b3⟩ := M_best hM.1
  unfold w_M_laysOptimum_B56
  refine ⟨M_K hM.1, ?_⟩
  refine loop_0 (fun m i s => w_M_laysOptimum_L69 Q k7 k24 81 (nI t) m (nI i) s) (fun i s => Fr [89] [28, 29] [] [] h s ∧ gI s 81 29 = nI t ∧ gI s 81 28 = g ∧ ∀ j, j < i → gI s 89 j = nI (p.getD j 0)) 8 _ ⟨fr_trans (fr_sI h g (Or.inr ⟨rfl, by simp⟩)) (fr_sI _ _ (Or.inr ⟨rfl, by simp⟩)), ?_, ?_, fun j hj => absurd hj (Nat.not_lt_zero _)⟩ ?_ ?_
  · rw [gI_sI, if_pos ⟨rfl, rfl⟩]
  · rw [gI_sI, if_neg (by decide), gI_sI, if_pos ⟨rfl, rfl⟩]
  · rintro m s ⟨f, e1, e2, e3⟩
    unfold w_M_laysOptimum_L69
    refine ⟨fun _ => ?_, fun z => absurd (Int32.le_refl _) z⟩
    have hs : OI h0 s (some (p, g, t)) := ⟨fr_trans ho.1 (fr_mono f (by simp) (by simp) (by simp) (by simp)), e1, e2, e3, ht⟩
    refine t_M_laysOptimum_B96 hM0 (by omega) hl (fun j hj => ?_) hs hq
    rw [fr_I f (by decide) (by decide)]
    exact hp j hj
  · rintro m i s hi ⟨f, e1, e2, e3⟩ ih
    unfold w_M_laysOptimum_L69
    refine ⟨fun z => absurd z (nI_ge (b := 8) hi (by omega)), fun _ => ?_⟩
    rw [fr_R f, fr_K f, fr_N f, a1, b1, a3, b3, ix_nI (by omega), nI_1]
    refine ⟨M_K hM.1, a2, vp_in_nI hi (by omega), b2, vp_in_nI hi (by omega), ih _ ⟨fr_trans f (fr_sI _ _ (Or.inl (by simp))), ?_, ?_, fun j hj => ?_⟩⟩
    · rw [gI_sI, if_neg (fun z => absurd z.1 (by decide))]; exact e1
    · rw [gI_sI, if_neg (fun z => absurd z.1 (by decide))]; exact e2
    · rw [gI_sI]
      by_cases e : j = i
      · rw [if_pos ⟨rfl, e⟩, fr_I f (by decide) (by decide), hp i hi, e]
      · rw [if_neg (fun z => e z.2)]
        exact e3 j (by omega)
theorem t_M_laysOptimum {r n s : Nat} {Q : Bool → Hp → Prop} (hM : Mrc h r n) (hs : gI h 86 35 = nI s) (hs2 : s ≤ 12) (hq : ∀ h', OI h h' (opR (gI h 86) r n (s + 1)) → Q (opR (gI h 86) r n (s + 1)).isSome h') : w_M_laysOptimum 81 h Q := by
  unfold w_M_laysOptimum
  refine ⟨M_K hM.1, ?_⟩
  refine loop_0 (fun m i s => w_M_laysOptimum_L7 Q 81 m (nI i) s) (fun i h' => OI h h' (opR (gI h 86) r n i)) (s + 1) _ ⟨fr_sI _ _ (Or.inr ⟨rfl, by simp⟩), ?_⟩ ?_ ?_
  · show gI (sI h 81 29 (-1)) 81 29 = -1
    rw [gI_sI, if_pos ⟨rfl, rfl⟩]
  · intro m h1 ho
    have hM1 := fr_Mrc ho.1 (by decide) (by decide) (by decide) hM
    obtain ⟨c1, c2, c3⟩ := M_now hM1.1
    unfold w_M_laysOptimum_L7
    rw [c1, c3, show ix (35 : Int32) = 35 from rfl, fr_I ho.1 (by decide) (by decide), hs]
    refine ⟨M_K hM1.1, c2, vp_in_nI (n := 35) (by omega) (by omega), fun _ => ?_, fun z => absurd (nI_lt (Nat.lt_succ_self s) (by omega)) z⟩
    have := hq h1 ho
    have hb := ho.2
    revert this hb
    generalize opR (gI h 86) r n (s + 1) = o
    intro this hb
    match o, hb, this with
    | none, hb, this => exact ⟨fun _ => this, fun z => absurd hb z⟩
    | some (p, g, t), hb, this => exact ⟨fun z => absurd (hb.1.symm.trans z) (fun z => nI_pos (n := t) (by have := hb.2.2.2; omega) (by rw [z]; decide)), fun _ => this⟩
  · intro m t h1 ht ho ih
    have hM1 := fr_Mrc ho.1 (by decide) (by decide) (by decide) hM
    obtain ⟨c1, c2, c3⟩ := M_now hM1.1
    unfold w_M_laysOptimum_L7
    rw [c1, c3, show ix (35 : Int32) = 35 from rfl, fr_I ho.1 (by decide) (by decide), hs]
    refine ⟨M_K hM1.1, c2, vp_in_nI (n := 35) (by omega) (by omega), fun z => absurd z (nI_nlt (by omega) (by omega)), fun _ => t_M_first hM1 (by omega) (fun h2 f hd => ?_)⟩
    refine plan_run (n := n) (t := t) (fun k v s => w_M_laysOptimum_L24 Q (w_M_laysOptimum_L7 Q 81 m) 81 (nI t) k v s) (fun l h' => ∃ o, OI h h' o ∧ l.foldl (opS (gI h 86) r n t) o = opR (gI h 86) r n (t + 1)) ?_ ?_ _ (PL_Lp n t) h2 ⟨_, OI_88 ho f, rfl⟩ hd
    · rintro k h3 ⟨o, a, e⟩
      unfold w_M_laysOptimum_L24
      refine ⟨fun _ => ?_, fun z => absurd rfl z⟩
      rw [nI_1]
      rw [List.foldl_nil] at e
      exact ih h3 (by rw [← e]; exact a)
    · rintro k p l h3 ⟨o, a, e⟩ hl hp ih2
      have hM3 := fr_Mrc a.1 (by decide) (by decide) (by decide) hM
      have e86 : gI h3 86 = gI h 86 := fr_I a.1 (by decide) (by decide)
      rw [List.foldl_cons] at e
      unfold w_M_laysOptimum_L24
      refine ⟨fun z => absurd z (by decide), fun _ => ⟨M_K hM3.1, t_M_planGain hM3 (AtP_P8 hp) ⟨M_K hM3.1, t_M_doesLead hM3 (AtP_P8 hp) ?_⟩⟩⟩
      rw [e86]
      refine ⟨fun z => t_M_laysOptimum_B96 hM (by omega) hl hp a (fun h4 a4 hd4 => ih2 h4 ⟨o, a4, ?_⟩ hd4), fun z => ⟨M_K hM3.1, ?_⟩⟩
      · unfold opS at e
        rw [z] at e
        exact e
      · have z : lead (gI h 86) r n p = true := by simpa using z
        have a2 := a.2
        match o, a, a2, e with
        | none, a, a2, e =>
          refine ⟨fun _ => t_M_laysOptimum_B56 hM (by omega) hl hp a (fun h4 a4 hd4 => ih2 h4 ⟨_, a4, ?_⟩ hd4), fun z => absurd a2 z⟩
          rw [opS, if_pos z] at e
          exact e
        | some (q, g, s'), a, a2, e =>
          rw [a2.2.1]
          refine ⟨fun z => absurd (a2.1.symm.trans z) (fun z => nI_pos (n := s') (by have := a2.2.2.2; omega) (by rw [z]; decide)), fun _ => ⟨fun z2 => t_M_laysOptimum_B96 hM (by omega) hl hp a (fun h4 a4 hd4 => ih2 h4 ⟨_, a4, ?_⟩ hd4), fun z2 => t_M_laysOptimum_B56 hM (by omega) hl hp a (fun h4 a4 hd4 => ih2 h4 ⟨_, a4, ?_⟩ hd4)⟩⟩
          · rw [opS, if_pos z] at e
            simp only [if_pos z2] at e
            exact e
          · rw [opS, if_pos z] at e
            simp only [if_neg z2] at e
            exact e
theorem t_M_optimum {r n s : Nat} {v : Int32} {Q : Int32 → Hp → Prop} (hM : Mrc h r n) (hs : gI h 86 35 = nI s) (hs2 : s ≤ 12)
    (hq0 : (decide (0 ≤ v) && decide (v ≤ 1)) = false → Q (-1000001) h)
    (hq : ∀ h', OI h h' (opR (gI h 86) r n (s + 1)) → Q (match opR (gI h 86) r n (s + 1) with
      | none => -1000001
      | some (_, g, t) => if v = 0 then g else nI t) h') : w_M_optimum 81 v h Q := by
  unfold w_M_optimum
  refine t_M_isIn ⟨hq0, fun _ => ⟨M_K hM.1, t_M_laysOptimum hM hs hs2 (fun h' a => ?_)⟩⟩
  have := hq h' a
  have a2 := a.2
  revert this a2
  generalize opR (gI h 86) r n (s + 1) = o
  intro this a2
  have hM1 := fr_Mrc a.1 (by decide) (by decide) (by decide) hM
  match o, this, a2 with
  | none, this, a2 => exact ⟨fun _ => this, fun z => absurd rfl z⟩
  | some (p, g, t), this, a2 =>
    refine ⟨fun z => absurd z (by simp), fun _ => ⟨fun z => ⟨M_K hM1.1, ?_⟩, fun z => ⟨M_K hM1.1, ?_⟩⟩⟩
    · rw [a2.2.1]; simp only [if_pos z] at this; exact this
    · rw [a2.1]; simp only [if_neg z] at this; exact this
theorem t_M_plan {r n s : Nat} {v : Int32} {Q : Int32 → Hp → Prop} (hM : Mrc h r n) (hs : gI h 86 35 = nI s) (hs2 : s ≤ 12)
    (hq0 : inb v n = false → Q (-1) h)
    (hq : ∀ h' j, j < n → v = nI j → OI h h' (opR (gI h 86) r n (s + 1)) → Q (match opR (gI h 86) r n (s + 1) with
      | none => -1
      | some (p, _, _) => nI (p.getD j 0)) h') : w_M_plan 81 v h Q := by
  have hn := hM.2.2.2.2.2
  unfold w_M_plan
  refine ⟨M_K hM.1, t_M_isColumn hM.1 hM.2.2.1 hn ⟨hq0, fun z => ⟨M_K hM.1, t_M_laysOptimum hM hs hs2 (fun h' a => ?_)⟩⟩⟩
  obtain ⟨j, hj, rfl⟩ := inb_ex (x := v) (n := n) (by omega) (by simpa using z)
  have := hq h' j hj rfl a
  have a2 := a.2
  revert this a2
  generalize opR (gI h 86) r n (s + 1) = o
  intro this a2
  have hM1 := fr_Mrc a.1 (by decide) (by decide) (by decide) hM
  obtain ⟨b1, b2, b3⟩ := M_best hM1.1
  match o, this, a2 with
  | none, this, a2 => exact ⟨fun _ => this, fun z => absurd rfl z⟩
  | some (p, g, t), this, a2 =>
    refine ⟨fun z => absurd z (by simp), fun _ => ⟨M_K hM1.1, ?_⟩⟩
    rw [b1, b3, ix_nI (by omega), a2.2.2.1 j (by omega)]
    exact ⟨b2, vp_in_nI (by omega) (by omega), this⟩
theorem t_M_plans {r n : Nat} {v : Int32} {Q : Int32 → Hp → Prop} (hM : Mrc h r n)
    (hq0 : (decide (0 ≤ v) && decide (v ≤ 12)) = false → Q (-1) h)
    (hq : ∀ t, t ≤ 12 → v = nI t → ∀ f, Q (nI (cntL (gI h 86) r n (PL n t))) (sA h 88 f)) : w_M_plans 81 v h Q := by
  unfold w_M_plans
  refine t_M_isIn ⟨hq0, fun z => ⟨M_K hM.1, ?_⟩⟩
  have z : (decide (0 ≤ v) && decide (v ≤ 12)) = true := by simpa using z
  rw [Bool.and_eq_true, decide_eq_true_eq, decide_eq_true_eq] at z
  obtain ⟨t, ht, rfl⟩ := nI_of2 (n := 12) (M := 12) rfl (fun g => absurd z.1 (by rw [Int32.not_le]; exact g)) z.2
  exact t_M_plansOf hM (by omega) (hq t ht rfl)
