/-! Which sums a layer has; which steps are done -/
variable {h : Hp}
theorem lay_isKy {f : Nat → Int32} {r n t w l s : Nat} (hF : FB f n) (hl : l ≤ 12) (hs : s ∈ lay f r n t w l) : isKy f r n l s := (kOK_lay hF l hl).2 s hs
theorem lay_V {f : Nat → Int32} {r n t w : Nat} (hr : r ≤ 3) (hF : FB f n) (hN : NB f) (ht : t ≤ 12) (hw : w ≤ 12) : ∀ k, k ≤ t → ∀ s, s ∈ lay f r n t w k → Vk f r n t w k (Zk s) ≠ 0 := by
  intro k
  induction k with
  | zero =>
    intro _ s hs
    have hs : s ∈ [kNo 60 60 60] := hs
    rw [List.mem_singleton] at hs
    rw [Vk_0, hs]
    intro j _
    exact Zk_0 j
  | succ k ih =>
    intro hk s hs
    have kk := lay_isKy hF (show k + 1 ≤ 12 by omega) hs
    rw [lay, mem_nxI] at hs
    obtain ⟨i, c, hi, hc, e, ok⟩ := hs
    have hm := getD_mem (d := 0) hi
    have kp := lay_isKy hF (show k ≤ 12 by omega) hm
    rw [okS_isKy hr hF hN ht (by omega) hw kk] at ok
    rw [Vk_s hk, if_pos ok, smN_pos]
    refine ⟨c, hc, ?_⟩
    rw [e, Vk_congr (fun j hj => isKy_Z hr hF (by omega) hc kp hj)]
    exact ih (by omega) _ hm
theorem V_lay {f : Nat → Int32} {r n t w : Nat} (hr : r ≤ 3) (hF : FB f n) (hN : NB f) (ht : t ≤ 12) (hw : w ≤ 12) (hZ : ZB f r) (hn : n ≤ 8) : ∀ k, k ≤ t → ∀ z : Nat → Int, (∀ j, r ≤ j → j < 3 → z j = 0) → Vk f r n t w k z ≠ 0 → ∃ s, s ∈ lay f r n t w k ∧ ∀ j, j < 3 → Zk s j = z j := by
  intro k
  induction k with
  | zero =>
    intro _ z hz hv
    rw [Vk_0] at hv
    refine ⟨kNo 60 60 60, List.mem_singleton.mpr rfl, fun j hj => ?_⟩
    rw [Zk_0]
    by_cases g : j < r
    · exact (hv j g).symm
    · exact (hz j (by omega) hj).symm
  | succ k ih =>
    intro hk z hz hv
    rw [Vk_s hk] at hv
    by_cases g : inZ f r t w (k + 1) z = true
    · rw [if_pos g, smN_pos] at hv
      obtain ⟨c, hc, hv⟩ := hv
      obtain ⟨s, hs, e⟩ := ih (by omega) (bk f z c) (fun j h1 h2 => by
        unfold bk
        rw [hz j h1 h2, (hZ j h1 h2).2 c (by omega)]
        rfl) hv
      have kp := lay_isKy hF (show k ≤ 12 by omega) hs
      have kk := isKy_st hF (by omega) hc kp
      have ez : ∀ j, j < 3 → Zk (kst f r s c) j = z j := fun j hj => by
        by_cases g2 : j < r
        · have h1 := isKy_Z hr hF (show k < 12 by omega) hc kp g2
          have h2 := e j hj
          unfold bk at h1 h2
          omega
        · rw [isKy_0 hF (by omega) kk (by omega) hj, hz j (by omega) hj]
      refine ⟨kst f r s c, (mem_lay hs hc).mpr ?_, ez⟩
      rw [okS_isKy hr hF hN ht (by omega) hw kk, inZ_congr (fun j hj => ez j (by omega))]
      exact g
    · rw [if_neg g] at hv
      exact absurd rfl hv
/-- the step from a sum by a column is done -/
def Dn (f : Nat → Int32) (r : Nat) (pr : List Nat) (i c x c' : Nat) : Bool := (List.range (i + 1)).any (fun i' => (decide (i' < i) || decide (c' < c)) && decide (i' < pr.length) && decide (kst f r (pr.getD i' 0) c' = x))
theorem Dn_t {f : Nat → Int32} {r i c x c' : Nat} {pr : List Nat} : Dn f r pr i c x c' = true ↔ ∃ i', i' < pr.length ∧ (i' < i ∨ i' = i ∧ c' < c) ∧ kst f r (pr.getD i' 0) c' = x := by
  unfold Dn
  rw [List.any_eq_true]
  constructor
  · rintro ⟨i', h1, h2⟩
    rw [List.mem_range] at h1
    rw [Bool.and_eq_true, Bool.and_eq_true, Bool.or_eq_true, decide_eq_true_eq, decide_eq_true_eq, decide_eq_true_eq, decide_eq_true_eq] at h2
    refine ⟨i', h2.1.2, ?_, h2.2⟩
    rcases h2.1.1 with g | g
    · exact Or.inl g
    · by_cases g2 : i' < i
      · exact Or.inl g2
      · exact Or.inr ⟨by omega, g⟩
  · rintro ⟨i', h1, h2, h3⟩
    refine ⟨i', List.mem_range.mpr (by omega), ?_⟩
    rw [Bool.and_eq_true, Bool.and_eq_true, Bool.or_eq_true, decide_eq_true_eq, decide_eq_true_eq, decide_eq_true_eq, decide_eq_true_eq]
    refine ⟨⟨?_, h1⟩, h3⟩
    rcases h2 with g | g
    · exact Or.inl g
    · exact Or.inr g.2
theorem bool_iff {a b : Bool} (e : a = true ↔ b = true) : a = b := by
  cases a with
  | true => exact (e.mp rfl).symm
  | false =>
    cases b with
    | false => rfl
    | true => exact absurd (e.mpr rfl) (by decide)
theorem Dn_next {f : Nat → Int32} {r n i x c' : Nat} {pr : List Nat} (hc : c' < n) : Dn f r pr (i + 1) 0 x c' = Dn f r pr i n x c' := by
  refine bool_iff ?_
  rw [Dn_t, Dn_t]
  constructor
  · rintro ⟨i', h1, h2, h3⟩
    exact ⟨i', h1, by omega, h3⟩
  · rintro ⟨i', h1, h2, h3⟩
    exact ⟨i', h1, by omega, h3⟩
theorem Dn_other {f : Nat → Int32} {r i c x c' : Nat} {pr : List Nat} (e : kst f r (pr.getD i 0) c ≠ x) : Dn f r pr i (c + 1) x c' = Dn f r pr i c x c' := by
  refine bool_iff ?_
  rw [Dn_t, Dn_t]
  constructor
  · rintro ⟨i', h1, h2, h3⟩
    refine ⟨i', h1, ?_, h3⟩
    rcases h2 with g | ⟨g1, g2⟩
    · exact Or.inl g
    · by_cases g3 : c' = c
      · rw [g1, g3] at h3
        exact absurd h3 e
      · exact Or.inr ⟨g1, by omega⟩
  · rintro ⟨i', h1, h2, h3⟩
    exact ⟨i', h1, by omega, h3⟩
theorem Dn_same {f : Nat → Int32} {r i c x c' : Nat} {pr : List Nat} (hi : i < pr.length) (e : kst f r (pr.getD i 0) c = x) : Dn f r pr i (c + 1) x c' = (Dn f r pr i c x c' || decide (c' = c)) := by
  refine bool_iff ?_
  rw [Bool.or_eq_true, Dn_t, Dn_t, decide_eq_true_eq]
  constructor
  · rintro ⟨i', h1, h2, h3⟩
    by_cases g3 : c' = c
    · exact Or.inr g3
    · exact Or.inl ⟨i', h1, by omega, h3⟩
  · rintro (⟨i', h1, h2, h3⟩ | g)
    · exact ⟨i', h1, by omega, h3⟩
    · exact ⟨i, hi, Or.inr ⟨rfl, by omega⟩, by rw [g]; exact e⟩
theorem nodup_at {l : List Nat} {i j : Nat} (hn : l.Nodup) (hi : i < l.length) (hj : j < l.length) (e : l.getD i 0 = l.getD j 0) : i = j := by
  rw [List.getD_eq_getElem?_getD, List.getD_eq_getElem?_getD, List.getElem?_eq_getElem hi, List.getElem?_eq_getElem hj] at e
  exact (List.getElem_inj hn).mp e
theorem Dn_fresh {f : Nat → Int32} {r n k i c : Nat} {pr : List Nat} (hr : r ≤ 3) (hF : FB f n) (hk : k < 12) (hc : c < n) (ok : kOK f r n k pr) (hi : i < pr.length) : Dn f r pr i c (kst f r (pr.getD i 0) c) c = false := by
  cases e : Dn f r pr i c (kst f r (pr.getD i 0) c) c with
  | false => rfl
  | true =>
    obtain ⟨i', h1, h2, h3⟩ := Dn_t.mp e
    have := kst_inj hr hF hk hc (ok.2 _ (getD_mem (d := 0) h1)) (ok.2 _ (getD_mem (d := 0) hi)) h3
    have := nodup_at ok.1 h1 hi this
    omega
theorem Dn_0 {f : Nat → Int32} {r x c' : Nat} {pr : List Nat} : Dn f r pr 0 0 x c' = false := by
  cases e : Dn f r pr 0 0 x c' with
  | false => rfl
  | true =>
    obtain ⟨i', h1, h2, h3⟩ := Dn_t.mp e
    omega
/-- all steps are done -/
theorem Dn_all {f : Nat → Int32} {r n t w k x c' : Nat} (hr : r ≤ 3) (hF : FB f n) (hN : NB f) (ht : t ≤ 12) (hw : w ≤ 12) (hZ : ZB f r) (hn : n ≤ 8) (hk : k < t) (hx : x ∈ lay f r n t w (k + 1)) (hc : c' < n) : Dn f r (lay f r n t w k) (lay f r n t w k).length 0 x c' = decide (Vk f r n t w k (bk f (Zk x) c') ≠ 0) := by
  refine bool_iff ?_
  rw [Dn_t, decide_eq_true_eq]
  have kx := lay_isKy hF (show k + 1 ≤ 12 by omega) hx
  constructor
  · rintro ⟨i', h1, h2, h3⟩
    have hm := getD_mem (d := 0) h1
    have kp := lay_isKy hF (show k ≤ 12 by omega) hm
    rw [← h3, Vk_congr (fun j hj => isKy_Z hr hF (by omega) hc kp hj)]
    exact lay_V hr hF hN ht hw k (by omega) _ hm
  · intro hv
    obtain ⟨s, hs, e⟩ := V_lay hr hF hN ht hw hZ hn k (by omega) (bk f (Zk x) c') (fun j h1 h2 => by
      unfold bk
      rw [isKy_0 hF (by omega) kx h1 h2, (hZ j h1 h2).2 c' (by omega)]
      rfl) hv
    have kp := lay_isKy hF (show k ≤ 12 by omega) hs
    have kk := isKy_st hF (by omega) hc kp
    obtain ⟨i, hi, ei⟩ := mem_getD (d := 0) hs
    refine ⟨i, hi, Or.inl hi, ?_⟩
    rw [ei]
    refine Zk_inj (fun j hj => ?_)
    by_cases g : j < r
    · have h1 := isKy_Z hr hF (show k < 12 by omega) hc kp g
      have h2 := e j hj
      unfold bk at h1 h2
      omega
    · rw [isKy_0 hF (by omega) kk (by omega) hj, isKy_0 hF (by omega) kx (by omega) hj]
