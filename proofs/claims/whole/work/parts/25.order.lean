/-! The reference's order of the best plan -/
variable {h : Hp}
theorem gt_le {a b x : Int32} : gt a b ≤ x ↔ a ≤ x ∧ b ≤ x := by
  unfold gt
  split
  · next e => rw [Int32.le_iff_toInt_le] at *; simp only [Int32.le_iff_toInt_le] at *; omega
  · next e => rw [Int32.le_iff_toInt_le] at *; simp only [Int32.le_iff_toInt_le] at *; omega
theorem ls2_le {a b : Int32} : ls2 a b ≤ a ∧ ls2 a b ≤ b ∧ (ls2 a b = a ∨ ls2 a b = b) := by
  unfold ls2
  split
  · next e => exact ⟨e, Int32.le_refl _, Or.inr rfl⟩
  · next e => exact ⟨Int32.le_refl _, by rw [Int32.le_iff_toInt_le] at *; omega, Or.inl rfl⟩
theorem lsl_le {p : List Nat} {g : Nat → Int32} {N : Nat} {s : Int32} : ∀ n, lsl p g N s n ≤ s := by
  intro n
  induction n with
  | zero => exact Int32.le_refl _
  | succ n ih =>
    unfold lsl
    split
    · exact Int32.le_trans ls2_le.1 ih
    · exact ih
theorem lsl_at {p : List Nat} {g : Nat → Int32} {N c : Nat} {s : Int32} (e : tk p N c < p.getD c 0) : ∀ n, c < n → lsl p g N s n ≤ g (N + wt p c) := by
  intro n
  induction n with
  | zero => intro z; omega
  | succ n ih =>
    intro hc
    unfold lsl
    by_cases x : c = n
    · subst x
      rw [if_pos e]
      exact ls2_le.2.1
    · split
      · exact Int32.le_trans ls2_le.1 (ih (by omega))
      · exact ih (by omega)
theorem lsl_ex {p : List Nat} {g : Nat → Int32} {N : Nat} {s x : Int32} (hs : ¬ s ≤ x) : ∀ n, lsl p g N s n ≤ x → ∃ c, c < n ∧ tk p N c < p.getD c 0 ∧ g (N + wt p c) ≤ x := by
  intro n
  induction n with
  | zero => intro z; exact absurd z hs
  | succ n ih =>
    intro z
    unfold lsl at z
    split at z
    · next e =>
      rcases (ls2_le (a := lsl p g N s n) (b := g (N + wt p n))).2.2 with w | w
      · rw [w] at z
        obtain ⟨c, a, b⟩ := ih z
        exact ⟨c, by omega, b⟩
      · rw [w] at z
        exact ⟨n, by omega, e, z⟩
    · obtain ⟨c, a, b⟩ := ih z
      exact ⟨c, by omega, b⟩
/-- the table of what strays from a part on -/
def sfT (f : Nat → Int32) (r n : Nat) (p : List Nat) (T : Int32) : Nat → Int32 := tbl (vlN f r n p T) (wt p n) (wt p n)
theorem sfT_fix {f : Nat → Int32} {r n : Nat} {p : List Nat} {T : Int32} {N : Nat} (hN : N < wt p n) : sfT f r n p T N = vlN f r n p T (sfT f r n p T) N := tbl_fix (vlN_good f r n p T) hN
theorem sfT_le {f : Nat → Int32} {r n : Nat} {p : List Nat} {T B : Int32} (h0 : 0 ≤ B) (hB : ∀ N, N < wt p n → stN f r n p T N ≤ B) : ∀ N, N < wt p n → sfT f r n p T N ≤ B := by
  have key : ∀ d N, N + d + 1 = wt p n → sfT f r n p T N ≤ B := by
    intro d
    induction d using Nat.strongRecOn with
    | ind d ih =>
      intro N hN
      rw [sfT_fix (by omega)]
      unfold vlN
      rw [gt_le]
      refine ⟨?_, hB N (by omega)⟩
      by_cases e : d = 0
      · rw [if_pos (by omega)]
        exact Int32.le_trans (lsl_le n) h0
      · obtain ⟨c, hc, hk⟩ := tk_ex (p := p) (N := N) (n := n) (by omega)
        have h1 := tk_lt hk hc (by omega)
        have h2 := wt_pos p c
        exact Int32.le_trans (lsl_at hk n hc) (ih (d - wt p c) (by omega) (N + wt p c) (by omega))
  intro N hN
  exact key (wt p n - N - 1) N (by omega)
theorem sfT_nx {f : Nat → Int32} {r n : Nat} {p : List Nat} {T : Int32} (hB : ∀ N, N < wt p n → stN f r n p T N ≤ 999999999) {N : Nat} (hN : N < wt p n) (hl : p.length = n) (hs : sd p N n < p.sum) (hg : sfT f r n p T N ≤ sfT f r n p T 0) : ∃ c, c < n ∧ tk p N c < p.getD c 0 ∧ sfT f r n p T (N + wt p c) ≤ sfT f r n p T 0 := by
  obtain ⟨c, hc, hk⟩ := sd_ex hl hs
  have h1 := tk_lt hk hc hN
  have h2 := wt_pos p c
  have h3 := sfT_le (B := 999999999) (by decide) hB 0 (by omega)
  rw [sfT_fix hN] at hg
  unfold vlN at hg
  rw [gt_le, if_neg (by omega)] at hg
  refine lsl_ex (fun z => ?_) n hg.1
  have := Int32.le_trans z h3
  exact absurd this (by decide)
def fst1 (P : Nat → Bool) : Nat → Nat → Nat
  | 0, c => c
  | m + 1, c => if P c then c else fst1 P m (c + 1)
def fcP (p : List Nat) (g : Nat → Int32) (N : Nat) : Nat → Bool := fun c => decide (tk p N c < p.getD c 0) && decide (g (N + wt p c) ≤ g 0)
def wlk (p : List Nat) (g : Nat → Int32) (n : Nat) : Nat → Nat × Nat
  | 0 => (0, 0)
  | k + 1 => ((wlk p g n k).1 + wt p (fst1 (fcP p g (wlk p g n k).1) n 0), fst1 (fcP p g (wlk p g n k).1) n 0)
theorem wlk_s (p : List Nat) (g : Nat → Int32) (n k : Nat) : wlk p g n (k + 1) = ((wlk p g n k).1 + wt p (fst1 (fcP p g (wlk p g n k).1) n 0), fst1 (fcP p g (wlk p g n k).1) n 0) := rfl
theorem fst1_ex {P : Nat → Bool} : ∀ m c, (∃ x, c ≤ x ∧ x < c + m ∧ P x = true) → P (fst1 P m c) = true ∧ fst1 P m c < c + m := by
  intro m
  induction m with
  | zero => rintro c ⟨x, h1, h2, -⟩; omega
  | succ m ih =>
    rintro c ⟨x, h1, h2, h3⟩
    unfold fst1
    split
    · next e => exact ⟨e, by omega⟩
    · next e =>
      have : x ≠ c := fun z => e (z ▸ h3)
      have := ih (c + 1) ⟨x, by omega, by omega, h3⟩
      exact ⟨this.1, by omega⟩
theorem wlk_ok {f : Nat → Int32} {r n : Nat} {p : List Nat} {T : Int32} (hB : ∀ N, N < wt p n → stN f r n p T N ≤ 999999999) (hl : p.length = n) : ∀ k, k ≤ p.sum → (wlk p (sfT f r n p T) n k).1 < wt p n ∧ sd p (wlk p (sfT f r n p T) n k).1 n = k ∧ sfT f r n p T (wlk p (sfT f r n p T) n k).1 ≤ sfT f r n p T 0 := by
  intro k
  induction k with
  | zero => intro _; exact ⟨wt_pos p n, sd_0 p n, Int32.le_refl _⟩
  | succ k ih =>
    intro hk
    obtain ⟨h1, h2, h3⟩ := ih (by omega)
    obtain ⟨c, hc, e1, e2⟩ := sfT_nx hB h1 hl (by omega) h3
    have := fst1_ex (P := fcP p (sfT f r n p T) (wlk p (sfT f r n p T) n k).1) n 0 ⟨c, by omega, by omega, by unfold fcP; rw [decide_eq_true e1, decide_eq_true e2]; rfl⟩
    rw [wlk_s]
    revert this
    generalize fst1 (fcP p (sfT f r n p T) (wlk p (sfT f r n p T) n k).1) n 0 = x
    rintro ⟨a, b⟩
    unfold fcP at a
    rw [Bool.and_eq_true, decide_eq_true_eq, decide_eq_true_eq] at a
    exact ⟨tk_lt a.1 (by omega) h1, by rw [sd_add a.1 n (by omega), h2], a.2⟩
/-- the plan and its weights are laid out -/
def PW (h : Hp) (n : Nat) (p : List Nat) : Prop := (∀ j, j < 8 → gI h 89 j = nI (p.getD j 0)) ∧ (∀ c, c ≤ n → gI h 91 c = nI (wt p c)) ∧ (∀ j, p.getD j 0 ≤ 12) ∧ wt p n ≤ 1296
theorem PW_fr {as fs js gs : List Nat} {h h' : Hp} {n : Nat} {p : List Nat} (a : Fr as fs js gs h h') (h1 : 89 ∉ as) (h2 : 91 ∉ as) (b : PW h n p) : PW h' n p := by
  unfold PW
  rw [fr_I a h1 (by decide), fr_I a h2 (by decide)]
  exact b
theorem t_M_partOf {r n N c : Nat} {p : List Nat} {Q : Int32 → Hp → Prop} (hM : Mrc h r n) (hP : PW h n p) (hN : N < 2 ^ 31) (hc : c < n) (hq : Q (nI (tk p N c)) h) : w_M_partOf 81 (nI N) (nI c) h Q := by
  obtain ⟨a1, a2, a3⟩ := M_best hM.1
  obtain ⟨b1, b2, b3⟩ := M_weight hM.1
  have hn := hM.2.2.2.2.2
  obtain ⟨p1, p2, p3, p4⟩ := hP
  have hw := wt_pos p c
  have hw2 := wt_mono p (show c ≤ n by omega)
  have hp3 := p3 c
  unfold w_M_partOf
  rw [a1, b1, a3, b3, ix_nI (by omega), p1 c (by omega), p2 c (by omega), nI_1]
  refine ⟨M_K hM.1, b2, vp_in_nI (by omega) (by omega), nI_ne0 hw (by omega), a2, vp_in_nI (by omega) (by omega), nI_ne0 (by omega) (by omega), ?_⟩
  rw [pk_div hN hw (by omega)]
  unfold jrem
  have := Nat.div_le_self N (wt p c)
  rw [pk_rem (by omega) (by omega) (by omega)]
  exact hq
theorem t_M_stepsIn {r n N : Nat} {p : List Nat} {Q : Int32 → Hp → Prop} (hM : Mrc h r n) (hP : PW h n p) (hN : N < 2 ^ 31) (hq : Q (sm (fun c => nI (tk p N c)) n) h) : w_M_stepsIn 81 (nI N) h Q := by
  have hn := hM.2.2.2.2.2
  unfold w_M_stepsIn
  refine loop_0 (fun m i s => w_M_stepsIn_L4 Q 81 (nI N) m s (nI i) h) (fun i s => s = sm (fun c => nI (tk p N c)) i) n 0 rfl ?_ ?_
  · rintro m s rfl
    unfold w_M_stepsIn_L4
    exact ⟨M_K hM.1, fun _ => hq, fun z => absurd (loop_le hM.2.2.1) z⟩
  · rintro m i s hi rfl ih
    unfold w_M_stepsIn_L4
    refine ⟨M_K hM.1, fun z => absurd (hM.2.2.1 ▸ z) (nI_ge hi (by omega)), fun _ => t_M_partOf hM hP hN hi ?_⟩
    rw [nI_1]
    exact ih _ rfl
theorem t_M_strayOf {r n N : Nat} {p : List Nat} {s T : Int32} {Q : Int32 → Hp → Prop} (hM : Mrc h r n) (hP : PW h n p) (hN : N < 2 ^ 31) (hq : Q (mx (fun j => ab (T * sm (fun c => nI (tk p N c) * gI h 86 (3 * c + j)) n - s * gI h 86 (32 + j))) r) h) : w_M_strayOf 81 (nI N) s T h Q := by
  have hn := hM.2.2.2.2.2
  have hr := hM.2.2.2.2.1
  unfold w_M_strayOf
  refine loop_0 (fun m i x => w_M_strayOf_L6 Q 81 (nI N) s T m x (nI i) h) (fun i x => x = mx (fun j => ab (T * sm (fun c => nI (tk p N c) * gI h 86 (3 * c + j)) n - s * gI h 86 (32 + j))) i) r 0 rfl ?_ ?_
  · rintro m x rfl
    unfold w_M_strayOf_L6
    exact ⟨M_K hM.1, fun _ => hq, fun z => absurd (loop_le hM.2.1) z⟩
  · rintro m i x hi rfl ih
    unfold w_M_strayOf_L6
    refine ⟨M_K hM.1, fun z => absurd (hM.2.1 ▸ z) (nI_ge hi (by omega)), fun _ => ?_⟩
    refine loop_0 (fun m2 c y => w_M_strayOf_L21 Q (w_M_strayOf_L6 Q 81 (nI N) s T m) 81 (nI N) s T _ (nI i) m2 y (nI c) h) (fun c y => y = sm (fun c => nI (tk p N c) * gI h 86 (3 * c + i)) c) n 0 rfl ?_ ?_
    · rintro m2 y rfl
      unfold w_M_strayOf_L21
      refine ⟨M_K hM.1, fun _ => t_M_needOf hM.1 (by omega) (t_M_plus (t_M_greater ?_)), fun z => absurd (loop_le hM.2.2.1) z⟩
      rw [nI_1]
      exact ih _ rfl
    · rintro m2 c y hc rfl ih2
      unfold w_M_strayOf_L21
      refine ⟨M_K hM.1, fun z => absurd (hM.2.2.1 ▸ z) (nI_ge hc (by omega)), fun _ => t_M_partOf hM hP hN hc ⟨M_K hM.1, t_M_numberOf hM.1 (by omega) ?_⟩⟩
      rw [nI_1]
      exact ih2 _ rfl
theorem t_M_laysOrder_in {r n N : Nat} {p : List Nat} {T s0 : Int32} {Q : Hp → Prop} {k60 : Int32 → Hp → Prop} {v1 : Int32} (hM : Mrc h r n) (hP : PW h n p) (hN : N < wt p n) (hT : gI h 81 29 = T)
    (hq : k60 (nI N + (-1)) (sI h 90 N (gt (lsl p (gI h 90) N s0 n) (stN (gI h 86) r n p T N)))) : ∃ m, w_M_laysOrder_L80 Q k60 81 v1 (nI N) m s0 0 h := by
  obtain ⟨a1, a2, a3⟩ := M_best hM.1
  obtain ⟨b1, b2, b3⟩ := M_weight hM.1
  obtain ⟨c1, c2, c3⟩ := M_straysFrom hM.1
  have hn := hM.2.2.2.2.2
  have hW := hP.2.2.2
  refine loop_0 (fun m i x => w_M_laysOrder_L80 Q k60 81 v1 (nI N) m x (nI i) h) (fun i x => x = lsl p (gI h 90) N s0 i) n s0 rfl ?_ ?_
  · rintro m x rfl
    unfold w_M_laysOrder_L80
    refine ⟨M_K hM.1, fun _ => t_M_stepsIn hM hP (by omega) ⟨M_K hM.1, t_M_strayOf hM hP (by omega) (t_M_greater ?_)⟩, fun z => absurd (loop_le hM.2.2.1) z⟩
    rw [c1, c3, hT, ix_nI (by omega)]
    exact ⟨c2, vp_in_nI (by omega) (by omega), hq⟩
  · rintro m i x hi rfl ih
    have hw2 := wt_mono p (show i ≤ n by omega)
    have h3 := hP.2.2.1 i
    have h4 := tk_le p N i
    unfold w_M_laysOrder_L80
    refine ⟨M_K hM.1, fun z => absurd (hM.2.2.1 ▸ z) (nI_ge hi (by omega)), fun _ => t_M_partOf hM hP (by omega) hi ⟨M_K hM.1, ?_⟩⟩
    rw [a1, a3, b1, b3, c1, c3, ix_nI (n := i) (by omega), hP.1 i (by omega), hP.2.1 i (by omega), nI_add, nI_1, ix_nI (n := N + wt p i) (by omega)]
    refine ⟨a2, vp_in_nI (by omega) (by omega), fun z => ?_, fun z => ?_⟩
    · have e : ¬ tk p N i < p.getD i 0 := by
        have := (nI_leI (by omega) (by omega)).mp z
        omega
      exact ih _ (by rw [lsl, if_neg e])
    · have e : tk p N i < p.getD i 0 := by
        have : ¬ p.getD i 0 ≤ tk p N i := fun g => z ((nI_leI (by omega) (by omega)).mpr g)
        omega
      have h5 := tk_lt e hi hN
      exact ⟨b2, vp_in_nI (by omega) (by omega), c2, vp_in_nI (by omega) (by omega), t_M_lesser (ih _ (by rw [lsl, if_pos e]))⟩
def dnI (W i : Nat) : Int32 := if i < W then nI (W - 1 - i) else -1
theorem dnI_s {W i : Nat} (h : i < W) : nI (W - 1 - i) + (-1) = dnI W (i + 1) := by
  unfold dnI
  by_cases e : i + 1 < W
  · rw [if_pos e, show W - 1 - i = (W - 1 - (i + 1)) + 1 from by omega, nI_m1]
  · rw [if_neg e, show W - 1 - i = 0 from by omega]
    rfl
theorem t_M_laysOrder {r n t : Nat} {p : List Nat} {Q : Hp → Prop} (hM : Mrc h r n) (hT : gI h 81 29 = nI t) (hb : ∀ j, j < 8 → gI h 89 j = nI (p.getD j 0)) (h12 : ∀ j, p.getD j 0 ≤ 12) (hW : wt p n ≤ 1296)
    (hq : ∀ h', Fr [90, 91] [] [] [] h h' → PW h' n p → (∀ N, N < wt p n → gI h' 90 N = sfT (gI h 86) r n p (nI t) N) → Q h') : w_M_laysOrder 81 h Q := by
  obtain ⟨a1, a2, a3⟩ := M_best hM.1
  obtain ⟨b1, b2, b3⟩ := M_weight hM.1
  obtain ⟨c1, c2, c3⟩ := M_straysFrom hM.1
  have hn := hM.2.2.2.2.2
  unfold w_M_laysOrder
  rw [b1, b3]
  refine ⟨M_K hM.1, b2, vp_in_nI (n := 0) (by omega) (by omega), ?_⟩
  refine loop_0 (fun m i s => w_M_laysOrder_L9 Q 81 m (nI i) s) (fun i s => Fr [91] [] [] [] h s ∧ ∀ c, c ≤ i → gI s 91 c = nI (wt p c)) n _ ⟨fr_sI _ _ (Or.inl (by simp)), fun c hc => ?_⟩ ?_ ?_
  · rw [show c = 0 from by omega, gI_sI, if_pos ⟨rfl, rfl⟩]; rfl
  · rintro m s ⟨f, e⟩
    have hMs := fr_Mrc f (by decide) (by decide) (by decide) hM
    have hPs : PW s n p := ⟨fun j hj => by rw [fr_I f (by decide) (by decide)]; exact hb j hj, e, h12, hW⟩
    have hTs : gI s 81 29 = nI t := (fr_F f (by decide) (by decide)).trans hT
    have e86 : gI s 86 = gI h 86 := fr_I f (by decide) (by decide)
    have hWp := wt_pos p n
    unfold w_M_laysOrder_L9
    rw [fr_R f, fr_K f, fr_N f, b1, b3, hMs.2.2.1, ix_nI (by omega), e n (Nat.le_refl _)]
    refine ⟨M_K hM.1, fun _ => ⟨b2, vp_in_nI (by omega) (by omega), ?_⟩, fun z => absurd (Int32.le_refl _) z⟩
    obtain ⟨w, hw⟩ : ∃ w, wt p n = w + 1 := ⟨wt p n - 1, by omega⟩
    have key := loop_0 (fun m2 i x => w_M_laysOrder_L60 Q 81 (nI w) m2 (dnI (wt p n) i) x) (fun i x => Fr [90] [] [] [] s x ∧ ∀ N, wt p n ≤ N + i → N < wt p n → gI x 90 N = tbl (vlN (gI h 86) r n p (nI t)) (wt p n) i N) (wt p n) s ⟨fr_refl _ _ _ _ _, fun N h1 h2 => by omega⟩ ?_ ?_
    · obtain ⟨m2, hm2⟩ := key
      refine ⟨m2, ?_⟩
      rw [hw, nI_s1]
      have e0 : dnI (wt p n) 0 = nI w := by unfold dnI; rw [if_pos hWp, hw]; rfl
      rw [e0] at hm2
      exact hm2
    · rintro m2 x ⟨f2, e2⟩
      unfold w_M_laysOrder_L60
      have e3 : dnI (wt p n) (wt p n) = -1 := if_neg (Nat.lt_irrefl _)
      rw [e3]
      refine ⟨fun _ => hq x (fr_trans (fr_mono f (by simp) (by simp) (by simp) (by simp)) (fr_mono f2 (by simp) (by simp) (by simp) (by simp))) (PW_fr f2 (by decide) (by decide) hPs) (fun N hN => e2 N (by omega) hN), fun z => absurd (by decide) z⟩
    · rintro m2 i x hi ⟨f2, e2⟩ ih
      have e3 : dnI (wt p n) i = nI (w - i) := by unfold dnI; rw [if_pos hi, hw]; rfl
      have hMx := fr_Mrc f2 (by decide) (by decide) (by decide) hMs
      have hPx := PW_fr f2 (by decide) (by decide) hPs
      have hTx : gI x 81 29 = nI t := (fr_F f2 (by decide) (by decide)).trans hTs
      have e86x : gI x 86 = gI h 86 := (fr_I f2 (by decide) (by decide)).trans e86
      have hN : w - i < wt p n := by omega
      have hd : nI (w - i) + (-1) = dnI (wt p n) (i + 1) := by
        rw [← dnI_s hi, hw]; rfl
      have hgood := vlN_good (gI h 86) r n p (nI t) (w - i) (gI x 90) (tbl (vlN (gI h 86) r n p (nI t)) (wt p n) i) hN (fun M h1 h2 => e2 M (by omega) h2)
      have fin : ∀ v, v = vlN (gI h 86) r n p (nI t) (gI x 90) (w - i) → w_M_laysOrder_L60 Q 81 (nI w) m2 (nI (w - i) + (-1)) (sI x 90 (w - i) v) := by
        rintro v rfl
        rw [hd]
        refine ih _ ⟨fr_trans f2 (fr_sI _ _ (Or.inl (by simp))), fun N h1 h2 => ?_⟩
        rw [gI_sI, hgood, tbl]
        by_cases e4 : N = w - i
        · rw [if_pos ⟨rfl, e4⟩, if_pos (by omega), e4]
        · rw [if_neg (fun z => e4 z.2), if_neg (by omega)]
          exact e2 N (by omega) h2
      unfold w_M_laysOrder_L60
      rw [e3]
      refine ⟨fun z => absurd z (nI_pos (by omega)), fun _ => ⟨fun z => ?_, fun z => ?_⟩⟩
      · have z := (nI_eq (by omega) (by omega)).mp z
        refine t_M_laysOrder_in hMx hPx hN hTx (fin _ ?_)
        rw [e86x]
        unfold vlN
        rw [if_pos (by omega)]
      · have z : w - i ≠ w := fun g => z (by rw [g])
        refine t_M_laysOrder_in hMx hPx hN hTx (fin _ ?_)
        rw [e86x]
        unfold vlN
        rw [if_neg (by omega)]
  · rintro m i s hi ⟨f, e⟩ ih
    have hMs := fr_Mrc f (by decide) (by decide) (by decide) hM
    unfold w_M_laysOrder_L9
    rw [fr_R f, fr_K f, fr_N f, b1, b3, a1, a3, ix_nI (by omega), e i (Nat.le_refl _), fr_I f (x := 89) (by decide) (by decide), hb i (by omega), nI_1, nI_1, pk_mul, ix_nI (by omega)]
    refine ⟨M_K hM.1, fun z => absurd (hMs.2.2.1 ▸ z) (nI_ge hi (by omega)), fun _ => ⟨b2, vp_in_nI (by omega) (by omega), a2, vp_in_nI (by omega) (by omega), vp_in_nI (by omega) (by omega), ih _ ⟨fr_trans f (fr_sI _ _ (Or.inl (by simp))), fun c hc => ?_⟩⟩⟩
    rw [gI_sI]
    by_cases e4 : c = i + 1
    · rw [if_pos ⟨rfl, e4⟩, e4]; rfl
    · rw [if_neg (fun z => e4 z.2)]
      exact e c (by omega)
theorem t_M_order_in {r n N : Nat} {p : List Nat} {g : Nat → Int32} {v1 v4 : Int32} {Q : Int32 → Hp → Prop} {k34 : Int32 → Int32 → Int32 → Hp → Prop} (hM : Mrc h r n) (hP : PW h n p) (hg : ∀ N, N < wt p n → gI h 90 N = g N) (hN : N < wt p n) (hex : ∃ c, c < n ∧ fcP p g N c = true)
    (hq : k34 (nI (N + wt p (fst1 (fcP p g N) n 0))) (nI (fst1 (fcP p g N) n 0)) (v4 + 1) h) : ∃ m, w_M_order_L42 Q k34 81 v1 (nI N) v4 m 0 h := by
  obtain ⟨a1, a2, a3⟩ := M_best hM.1
  obtain ⟨b1, b2, b3⟩ := M_weight hM.1
  obtain ⟨c1, c2, c3⟩ := M_straysFrom hM.1
  have hn := hM.2.2.2.2.2
  have hW := hP.2.2.2
  have hW0 := wt_pos p n
  have key : ∀ m c, c + m = n → (∃ x, c ≤ x ∧ x < n ∧ fcP p g N x = true) → fst1 (fcP p g N) m c = fst1 (fcP p g N) n 0 → w_M_order_L42 Q k34 81 v1 (nI N) v4 m (nI c) h := by
    intro m
    induction m with
    | zero => rintro c hc ⟨x, h1, h2, -⟩ _; omega
    | succ m ih =>
      rintro c hc ⟨x, h1, h2, h3⟩ he
      have hw2 := wt_mono p (show c ≤ n by omega)
      have h4 := hP.2.2.1 c
      have h5 := tk_le p N c
      unfold w_M_order_L42
      refine ⟨M_K hM.1, t_M_partOf hM hP (by omega) (by omega) ⟨M_K hM.1, ?_⟩⟩
      rw [a1, a3, b1, b3, c1, c3, ix_nI (n := c) (by omega), hP.1 c (by omega), hP.2.1 c (by omega), nI_add, nI_1, ix_nI (n := N + wt p c) (by omega), show ix (0 : Int32) = 0 from rfl, hg 0 hW0]
      have nxt : fcP p g N c = false → w_M_order_L42 Q k34 81 v1 (nI N) v4 m (nI (c + 1)) h := fun e => by
        refine ih (c + 1) (by omega) ⟨x, ?_, h2, h3⟩ ?_
        · have : x ≠ c := fun z => by rw [z, e] at h3; cases h3
          omega
        · rw [← he, fst1, e]; rfl
      refine ⟨a2, vp_in_nI (by omega) (by omega), fun z => nxt ?_, fun z => ⟨b2, vp_in_nI (by omega) (by omega), c2, ?_⟩⟩
      · have z := (nI_eq (by omega) (by omega)).mp z
        unfold fcP
        rw [decide_eq_false (by omega)]
        rfl
      · have z : tk p N c < p.getD c 0 := by
          have : tk p N c ≠ p.getD c 0 := fun g => z (by rw [g])
          omega
        have h6 := tk_lt z (show c < n by omega) hN
        rw [hg _ h6]
        refine ⟨vp_in_nI (by omega) (by omega), vp_in_nI (n := 0) (by omega) (by omega), fun y => ?_, fun y => nxt ?_⟩
        · have e : fcP p g N c = true := by unfold fcP; rw [decide_eq_true z, decide_eq_true y]; rfl
          rw [fst1, e, if_pos rfl] at he
          rw [← he] at hq
          exact hq
        · unfold fcP
          rw [decide_eq_false y, Bool.and_false]
  obtain ⟨c, hc, h3⟩ := hex
  exact ⟨n, key n 0 (by omega) ⟨c, by omega, hc, h3⟩ rfl⟩
theorem t_M_orderOf {r n t : Nat} {p : List Nat} {s : Nat} {g : Int32} {Q : Hp → Prop} (hM : Mrc h r n) (hs2 : s ≤ 12) (hb : OB h (some (p, g, t))) (ho : p ∈ PL n t) (ht : t ≤ 12)
    (hq : ∀ h', Fr [90, 91] [] [] [] h h' → PW h' n p → (∀ N, N < wt p n → gI h' 90 N = sfT (gI h 86) r n p (nI t) N) → Q h') : w_M_laysOrder 81 h Q := by
  have hp := PL_mem ho
  refine t_M_laysOrder hM hb.1 hb.2.2.1 (fun j => ?_) (wt_le ho hM.2.2.2.2.2 ht) hq
  have := getD_le_sum p j
  omega
theorem t_M_strays {r n s : Nat} {Q : Int32 → Hp → Prop} (hM : Mrc h r n) (hs : gI h 86 35 = nI s) (hs2 : s ≤ 12)
    (hq : ∀ h', Fr [88, 89, 90, 91] [28, 29] [] [] h h' → Q (match opR (gI h 86) r n (s + 1) with
      | none => -1
      | some (p, _, t) => sfT (gI h 86) r n p (nI t) 0) h') : w_M_strays 81 h Q := by
  unfold w_M_strays
  refine ⟨M_K hM.1, t_M_laysOptimum hM hs hs2 (fun h1 a => ?_)⟩
  have ho := opR_some (f := gI h 86) (r := r) (n := n) (s + 1)
  have a2 := a.2
  revert hq a2 ho
  generalize opR (gI h 86) r n (s + 1) = o
  intro hq ho a2
  have hM1 := fr_Mrc a.1 (by decide) (by decide) (by decide) hM
  match o, hq, a2, ho with
  | none, hq, a2, ho => exact ⟨fun _ => hq h1 (fr_mono a.1 (by simp) (by simp) (by simp) (by simp)), fun z => absurd rfl z⟩
  | some (p, g, t), hq, a2, ho =>
    obtain ⟨o1, o2, -, -⟩ := ho _ rfl
    simp only at o1 o2
    refine ⟨fun z => absurd z (by simp), fun _ => ⟨M_K hM1.1, t_M_orderOf hM1 hs2 a2 o1 (by omega) (fun h2 f2 w e => ?_)⟩⟩
    have hM2 := fr_Mrc f2 (by decide) (by decide) (by decide) hM1
    obtain ⟨c1, c2, c3⟩ := M_straysFrom hM2.1
    rw [c1, c3, show ix (0 : Int32) = 0 from rfl, e 0 (wt_pos p n), fr_I a.1 (x := 86) (by decide) (by decide)]
    exact ⟨M_K hM2.1, c2, vp_in_nI (n := 0) (by omega) (by omega), hq h2 (fr_trans (fr_mono a.1 (by simp) (by simp) (by simp) (by simp)) (fr_mono f2 (by simp) (by simp) (by simp) (by simp)))⟩
theorem t_M_order {r n s : Nat} {v : Int32} {Q : Int32 → Hp → Prop} (hM : Mrc h r n) (hs : gI h 86 35 = nI s) (hs2 : s ≤ 12)
    (hB : ∀ p g t, opR (gI h 86) r n (s + 1) = some (p, g, t) → ∀ N, N < wt p n → stN (gI h 86) r n p (nI t) N ≤ 999999999)
    (hq0 : ∀ h', Fr [88, 89, 90, 91] [28, 29] [] [] h h' → (∀ p g t, opR (gI h 86) r n (s + 1) = some (p, g, t) → inb v t = false) → Q (-1) h')
    (hq : ∀ h' p g t i, opR (gI h 86) r n (s + 1) = some (p, g, t) → v = nI i → i < t → Fr [88, 89, 90, 91] [28, 29] [] [] h h' → Q (nI (wlk p (sfT (gI h 86) r n p (nI t)) n (i + 1)).2) h') : w_M_order 81 v h Q := by
  unfold w_M_order
  refine ⟨M_K hM.1, t_M_laysOptimum hM hs hs2 (fun h1 a => ?_)⟩
  have ho := opR_some (f := gI h 86) (r := r) (n := n) (s + 1)
  have a2 := a.2
  revert hB hq0 hq a2 ho
  generalize opR (gI h 86) r n (s + 1) = o
  intro hB hq0 hq ho a2
  have hM1 := fr_Mrc a.1 (by decide) (by decide) (by decide) hM
  match o, hB, hq0, hq, a2, ho with
  | none, hB, hq0, hq, a2, ho => exact ⟨fun _ => hq0 h1 (fr_mono a.1 (by simp) (by simp) (by simp) (by simp)) (fun p g t e => by cases e), fun z => absurd rfl z⟩
  | some (p, g, t), hB, hq0, hq, a2, ho =>
    obtain ⟨o1, o2, -, -⟩ := ho _ rfl
    simp only at o1 o2
    have hpm := PL_mem o1
    refine ⟨fun z => absurd z (by simp), fun _ => ⟨M_K hM1.1, t_M_isIn ?_⟩⟩
    rw [a2.1, isIn_inb (by omega)]
    refine ⟨fun z => hq0 h1 (fr_mono a.1 (by simp) (by simp) (by simp) (by simp)) (fun p' g' t' e => by cases e; exact z), fun z => ⟨M_K hM1.1, t_M_orderOf hM1 hs2 a2 o1 (by omega) (fun h2 f2 w e => ?_)⟩⟩
    obtain ⟨i, hi, rfl⟩ := inb_ex (x := v) (n := t) (by omega) (by simpa using z)
    have hM2 := fr_Mrc f2 (by decide) (by decide) (by decide) hM1
    have e86 : gI h1 86 = gI h 86 := fr_I a.1 (by decide) (by decide)
    rw [e86] at e
    have hok := wlk_ok (hB p g t rfl) hpm.1
    have fin := hq h2 p g t i rfl rfl hi (fr_trans (fr_mono a.1 (by simp) (by simp) (by simp) (by simp)) (fr_mono f2 (by simp) (by simp) (by simp) (by simp)))
    refine loop_0 (fun m k (x : Nat × Nat) => w_M_order_L34 Q 81 (nI i) m (nI x.1) (nI x.2) (nI k) h2) (fun k x => x = wlk p (sfT (gI h 86) r n p (nI t)) n k) (i + 1) (0, 0) rfl ?_ ?_
    · rintro m x rfl
      unfold w_M_order_L34
      exact ⟨fun _ => fin, fun z => absurd (nI_lt (Nat.lt_succ_self i) (by omega)) z⟩
    · rintro m k x hk rfl ih
      obtain ⟨k1, k2, k3⟩ := hok k (by rw [hpm.2]; omega)
      obtain ⟨c, hc, e1, e2⟩ := sfT_nx (hB p g t rfl) k1 hpm.1 (by rw [k2, hpm.2]; omega) k3
      unfold w_M_order_L34
      refine ⟨fun z => absurd z (nI_nlt (by omega) (by omega)), fun _ => ?_⟩
      refine t_M_order_in hM2 w e k1 ⟨c, hc, by unfold fcP; rw [decide_eq_true e1, decide_eq_true e2]; rfl⟩ ?_
      rw [nI_1]
      exact ih _ rfl
