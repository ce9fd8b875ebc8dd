/-! The reference's sums at hand; what strays in a sorted plan -/
variable {h : Hp}
def SU (h : Hp) (S : Nat → Int32) : Prop := ∀ j, j < 3 → gI h 92 j = S j
theorem SU_fr {as fs js gs : List Nat} {h h' : Hp} {S : Nat → Int32} (a : Fr as fs js gs h h') (hx : 92 ∉ as) (b : SU h S) : SU h' S := fun j hj => by rw [fr_I a hx (by decide)]; exact b j hj
theorem t_M_noSums {Q : Hp → Prop} (hM : MS h) (hq : ∀ h', Fr [92] [] [] [] h h' → SU h' (fun _ => 0) → Q h') : w_M_noSums 81 h Q := by
  obtain ⟨a1, a2, a3⟩ := M_sums hM
  unfold w_M_noSums
  refine loop_0 (fun m i s => w_M_noSums_L2 Q 81 m (nI i) s) (fun i s => Fr [92] [] [] [] h s ∧ ∀ j, j < i → gI s 92 j = 0) 3 _ ⟨fr_refl _ _ _ _ _, fun j hj => absurd hj (Nat.not_lt_zero _)⟩ ?_ ?_
  · rintro m s ⟨f, e⟩
    unfold w_M_noSums_L2
    exact ⟨fun _ => hq s f e, fun z => absurd (Int32.le_refl _) z⟩
  · rintro m i s hi ⟨f, e⟩ ih
    unfold w_M_noSums_L2
    refine ⟨fun z => absurd z (nI_ge (b := 3) hi (by omega)), fun _ => ?_⟩
    rw [fr_R f, fr_K f, fr_N f, a1, a3, ix_nI (by omega), nI_1]
    refine ⟨M_K hM, a2, vp_in_nI hi (by omega), ih _ ⟨fr_trans f (fr_sI _ _ (Or.inl (by simp))), fun j hj => ?_⟩⟩
    rw [gI_sI]
    by_cases e2 : j = i
    · rw [if_pos ⟨rfl, e2⟩]
    · rw [if_neg (fun z => e2 z.2)]
      exact e j (by omega)
def adR (S f : Nat → Int32) (c r : Nat) : Nat → Int32 := fun j => if j < r then S j + f (3 * c + j) else S j
theorem t_M_adds {r n c : Nat} {S : Nat → Int32} {Q : Hp → Prop} (hM : Mrc h r n) (hc : c < 8) (hS : SU h S) (hq : ∀ h', Fr [92] [] [] [] h h' → SU h' (adR S (gI h 86) c r) → Q h') : w_M_adds 81 (nI c) h Q := by
  obtain ⟨hM, e17, e18, hr1, hr3, hn⟩ := hM
  obtain ⟨a1, a2, a3⟩ := M_sums hM
  unfold w_M_adds
  refine loop_0 (fun m i s => w_M_adds_L2 Q 81 (nI c) m (nI i) s) (fun i s => Fr [92] [] [] [] h s ∧ SU s (adR S (gI h 86) c i)) r _ ⟨fr_refl _ _ _ _ _, fun j hj => by rw [hS j hj]; unfold adR; rw [if_neg (Nat.not_lt_zero _)]⟩ ?_ ?_
  · rintro m s ⟨f, e⟩
    unfold w_M_adds_L2
    exact ⟨M_K (fr_MS f hM), fun _ => hq s f e, fun z => absurd (loop_le ((fr_F f (by decide) (by decide)).trans e17)) z⟩
  · rintro m i s hi ⟨f, e⟩ ih
    have e17' : gI s 81 17 = nI r := (fr_F f (by decide) (by decide)).trans e17
    unfold w_M_adds_L2
    refine ⟨M_K (fr_MS f hM), fun z => absurd (e17' ▸ z) (nI_ge hi (by omega)), fun _ => ?_⟩
    rw [fr_R f, fr_K f, fr_N f, a1, a3]
    refine ⟨a2, vp_in_nI (by omega) (by omega), t_M_numberOf (fr_MS f hM) (by omega) ?_⟩
    rw [fr_K f, fr_N f, a3, ix_nI (by omega), nI_1]
    refine ⟨a2, vp_in_nI (by omega) (by omega), ih _ ⟨fr_trans f (fr_sI _ _ (Or.inl (by simp))), fun j hj => ?_⟩⟩
    rw [gI_sI, fr_I f (x := 86) (by decide) (by decide), e i (by omega)]
    unfold adR
    by_cases e2 : j = i
    · rw [if_pos ⟨rfl, e2⟩, if_neg (by omega), if_pos (by omega), e2]
    · rw [if_neg (fun z => e2 z.2), e j hj]
      unfold adR
      by_cases e3 : j < i
      · rw [if_pos e3, if_pos (by omega)]
      · rw [if_neg e3, if_neg (by omega)]
def nSt (f : Nat → Int32) (r : Nat) (S : Nat → Int32) (k t : Int32) : Int32 := mx (fun j => ab (t * S j - k * f (32 + j))) r
theorem t_M_strayNow {r n : Nat} {S : Nat → Int32} {k t : Int32} {Q : Int32 → Hp → Prop} (hM : Mrc h r n) (hS : SU h S) (hq : Q (nSt (gI h 86) r S k t) h) : w_M_strayNow 81 k t h Q := by
  obtain ⟨hM, e17, e18, hr1, hr3, hn⟩ := hM
  obtain ⟨a1, a2, a3⟩ := M_sums hM
  unfold w_M_strayNow
  refine loop_0 (fun m i s => w_M_strayNow_L5 Q 81 k t m s (nI i) h) (fun i s => s = mx (fun j => ab (t * S j - k * gI h 86 (32 + j))) i) r 0 rfl ?_ ?_
  · rintro m s rfl
    unfold w_M_strayNow_L5
    exact ⟨M_K hM, fun _ => hq, fun z => absurd (loop_le e17) z⟩
  · rintro m i s hi rfl ih
    unfold w_M_strayNow_L5
    refine ⟨M_K hM, fun z => absurd (e17 ▸ z) (nI_ge hi (by omega)), fun _ => ?_⟩
    rw [a1, a3, ix_nI (by omega), hS i (by omega), nI_1]
    exact ⟨a2, vp_in_nI (by omega) (by omega), t_M_needOf hM (by omega) (t_M_plus (t_M_greater (ih _ rfl)))⟩
/-- many times -/
def itr {σ : Type} (F : σ → σ) : Nat → σ → σ
  | 0, s => s
  | n + 1, s => F (itr F n s)
def srS (f : Nat → Int32) (r : Nat) (T : Int32) (c : Nat) (s : Int32 × Nat × (Nat → Int32)) : Int32 × Nat × (Nat → Int32) :=
  (gt s.1 (nSt f r (adR s.2.2 f c r) (nI (s.2.1 + 1)) T), s.2.1 + 1, adR s.2.2 f c r)
def srC (f : Nat → Int32) (r : Nat) (T : Int32) (p : List Nat) : Nat → Int32 × Nat × (Nat → Int32)
  | 0 => (0, 0, fun _ => 0)
  | c + 1 => itr (srS f r T c) (p.getD c 0) (srC f r T p c)
theorem t_M_sorted_in {r n c b : Nat} {T : Int32} {Q : Int32 → Hp → Prop} {k19 : Int32 → Int32 → Int32 → Hp → Prop} {s0 : Int32 × Nat × (Nat → Int32)} (hM : Mrc h r n) (hc : c < 8) (hT : gI h 81 29 = T) (hb : gI h 89 c = nI b) (hb2 : b < 2 ^ 31) (hS : SU h s0.2.2)
    (hq : ∀ h', Fr [92] [] [] [] h h' → SU h' (itr (srS (gI h 86) r T c) b s0).2.2 → k19 (itr (srS (gI h 86) r T c) b s0).1 (nI (itr (srS (gI h 86) r T c) b s0).2.1) (nI (c + 1)) h') : ∃ m, w_M_sorted_L30 Q k19 81 (nI c) m s0.1 (nI s0.2.1) 0 h := by
  obtain ⟨a1, a2, a3⟩ := M_best hM.1
  have := loop_0 (fun m i (s : (Int32 × Nat × (Nat → Int32)) × Hp) => w_M_sorted_L30 Q k19 81 (nI c) m s.1.1 (nI s.1.2.1) (nI i) s.2) (fun i s => s.1 = itr (srS (gI h 86) r T c) i s0 ∧ Fr [92] [] [] [] h s.2 ∧ SU s.2 s.1.2.2) b (s0, h) ⟨rfl, fr_refl _ _ _ _ _, hS⟩ ?_ ?_
  · exact this
  · rintro m ⟨s, h1⟩ ⟨e, f, e2⟩
    subst e
    unfold w_M_sorted_L30
    rw [fr_R f, fr_K f, fr_N f, a1, a3, ix_nI (by omega), fr_I f (by decide) (by decide), hb, nI_1]
    exact ⟨M_K hM.1, a2, vp_in_nI (by omega) (by omega), fun _ => hq h1 f e2, fun z => absurd (Int32.le_refl _) z⟩
  · rintro m i ⟨s, h1⟩ hi ⟨e, f, e2⟩ ih
    have e3 : s = itr (srS (gI h 86) r T c) i s0 := e
    unfold w_M_sorted_L30
    rw [fr_R f, fr_K f, fr_N f, a1, a3, ix_nI (by omega), fr_I f (x := 89) (by decide) (by decide), hb]
    have hM1 := fr_Mrc f (by decide) (by decide) (by decide) hM
    refine ⟨M_K hM.1, a2, vp_in_nI (by omega) (by omega), fun z => absurd z (nI_ge hi (by omega)), fun _ => t_M_adds hM1 hc e2 (fun h2 f2 e4 => ?_)⟩
    have hM2 := fr_Mrc f2 (by decide) (by decide) (by decide) hM1
    refine ⟨M_K hM2.1, t_M_strayNow hM2 e4 (t_M_greater ?_)⟩
    rw [fr_F f2 (by decide) (by decide), fr_F f (by decide) (by decide), hT, fr_I f2 (x := 86) (by decide) (by decide), fr_I f (x := 86) (by decide) (by decide), nI_1, nI_1]
    refine ih (srS (gI h 86) r T c s, h2) ⟨by rw [e3]; rfl, fr_trans f f2, ?_⟩
    rw [fr_I f (x := 86) (by decide) (by decide)] at e4
    exact e4
theorem opS_some {f : Nat → Int32} {r n t : Nat} {P : List Nat × Int32 × Nat → Prop} {p : List Nat} {o : Option (List Nat × Int32 × Nat)} (h0 : ∀ x, o = some x → P x) (h1 : lead f r n p = true → P (p, pG f p n, t)) : ∀ x, opS f r n t o p = some x → P x := by
  intro x e
  unfold opS at e
  split at e
  · next hl =>
    match o, h0, e with
    | none, h0, e => cases e; exact h1 hl
    | some (q, g, s), h0, e =>
      simp only at e
      split at e
      · exact h0 x e
      · cases e; exact h1 hl
  · exact h0 x e
theorem opF_some {f : Nat → Int32} {r n t : Nat} {P : List Nat × Int32 × Nat → Prop} : ∀ (l : List (List Nat)) (o : Option (List Nat × Int32 × Nat)), (∀ x, o = some x → P x) → (∀ p ∈ l, lead f r n p = true → P (p, pG f p n, t)) → ∀ x, l.foldl (opS f r n t) o = some x → P x := by
  intro l
  induction l with
  | nil => intro o h0 _ x e; exact h0 x e
  | cons p l ih =>
    intro o h0 h1 x e
    rw [List.foldl_cons] at e
    exact ih _ (opS_some h0 (h1 p List.mem_cons_self)) (fun q hq => h1 q (List.mem_cons_of_mem _ hq)) x e
theorem opR_some {f : Nat → Int32} {r n : Nat} : ∀ s x, opR f r n s = some x → x.1 ∈ PL n x.2.2 ∧ x.2.2 < s ∧ lead f r n x.1 = true ∧ x.2.1 = pG f x.1 n := by
  intro s
  induction s with
  | zero => intro x e; cases e
  | succ s ih =>
    intro x e
    unfold opR opT at e
    refine opF_some (P := fun x => x.1 ∈ PL n x.2.2 ∧ x.2.2 < s + 1 ∧ lead f r n x.1 = true ∧ x.2.1 = pG f x.1 n) _ _ (fun x e => ?_) (fun p hp hl => ⟨hp, Nat.lt_succ_self _, hl, rfl⟩) x e
    have := ih x e
    exact ⟨this.1, by omega, this.2.2⟩
theorem t_M_sorted {r n s : Nat} {Q : Int32 → Hp → Prop} (hM : Mrc h r n) (hs : gI h 86 35 = nI s) (hs2 : s ≤ 12)
    (hq : ∀ h', Fr [88, 89, 92] [28, 29] [] [] h h' → Q (match opR (gI h 86) r n (s + 1) with
      | none => -1
      | some (p, _, t) => (srC (gI h 86) r (nI t) p n).1) h') : w_M_sorted 81 h Q := by
  unfold w_M_sorted
  refine ⟨M_K hM.1, t_M_laysOptimum hM hs hs2 (fun h1 a => ?_)⟩
  have ho := opR_some (f := gI h 86) (r := r) (n := n) (s + 1)
  have a2 := a.2
  revert hq a2 ho
  generalize opR (gI h 86) r n (s + 1) = o
  intro hq ho a2
  have hM1 := fr_Mrc a.1 (by decide) (by decide) (by decide) hM
  have hn := hM.2.2.2.2.2
  match o, hq, a2, ho with
  | none, hq, a2, ho => exact ⟨fun _ => hq h1 (fr_mono a.1 (by simp) (by simp) (by simp) (by simp)), fun z => absurd rfl z⟩
  | some (p, g, t), hq, a2, ho =>
    refine ⟨fun z => absurd z (by simp), fun _ => ⟨M_K hM1.1, t_M_noSums hM1.1 (fun h2 f2 e2 => ?_)⟩⟩
    have e86 : gI h1 86 = gI h 86 := fr_I a.1 (by decide) (by decide)
    have hp := PL_mem (ho _ rfl).1
    have key := loop_0 (fun m c (x : (Int32 × Nat × (Nat → Int32)) × Hp) => w_M_sorted_L19 Q 81 m x.1.1 (nI x.1.2.1) (nI c) x.2) (fun c x => x.1 = srC (gI h 86) r (nI t) p c ∧ Fr [92] [] [] [] h1 x.2 ∧ SU x.2 x.1.2.2) n ((0, 0, fun _ => 0), h2) ⟨rfl, f2, e2⟩ ?_ ?_
    · exact key
    · rintro m ⟨x, h3⟩ ⟨e, f3, e3⟩
      subst e
      unfold w_M_sorted_L19
      refine ⟨M_K (fr_MS f3 hM1.1), fun _ => hq h3 (fr_trans (fr_mono a.1 (by simp) (by simp) (by simp) (by simp)) (fr_mono f3 (by simp) (by simp) (by simp) (by simp))), fun z => absurd (loop_le ((fr_F f3 (by decide) (by decide)).trans hM1.2.2.1)) z⟩
    · rintro m c ⟨x, h3⟩ hc ⟨e, f3, e3⟩ ih
      have e4 : x = srC (gI h 86) r (nI t) p c := e
      have hM3 := fr_Mrc f3 (by decide) (by decide) (by decide) hM1
      unfold w_M_sorted_L19
      refine ⟨M_K hM3.1, fun z => absurd (hM3.2.2.1 ▸ z) (nI_ge hc (by omega)), fun _ => ?_⟩
      have hb : p.getD c 0 ≤ 12 := by
        have := getD_le_sum p c
        have e5 := hp.2
        have e6 := (ho _ rfl).2.1
        simp only at e5 e6
        omega
      refine t_M_sorted_in (b := p.getD c 0) (T := nI t) hM3 (by omega) ((fr_F f3 (by decide) (by decide)).trans a2.1) (by rw [fr_I f3 (by decide) (by decide)]; exact a2.2.2.1 c (by omega)) (by omega) e3 (fun h4 f4 e5 => ?_)
      have e86' : gI h3 86 = gI h 86 := (fr_I f3 (by decide) (by decide)).trans e86
      rw [e86'] at e5 ⊢
      exact ih (itr (srS (gI h 86) r (nI t) c) (p.getD c 0) x, h4) ⟨by rw [e4]; rfl, fr_trans f3 f4, e5⟩
