/-! The reference's exchange -/
variable {h : Hp}
abbrev XT : Type := Int32 × Int32 × Int32 × (Nat → Int32) × (Nat → Int32)
def XB (h : Hp) (x : XT) : Prop := gI h 81 63 = x.1 ∧ gI h 81 64 = x.2.1 ∧ gI h 81 65 = x.2.2.1 ∧ (∀ j, j < 8 → gI h 108 j = x.2.2.2.1 j) ∧ (∀ j, j < 8 → gI h 109 j = x.2.2.2.2 j)
theorem XB_88 {as : List Nat} {h h' : Hp} {x : XT} (a : Fr as [] [] [] h h') (h1 : 108 ∉ as) (h2 : 109 ∉ as) (h3 : 81 ∉ as) (b : XB h x) : XB h' x := by
  unfold XB
  rw [fr_F a h3 (by simp), fr_F a h3 (by simp), fr_F a h3 (by simp), fr_I a h1 (by decide), fr_I a h2 (by decide)]
  exact b
def GN (h : Hp) (f : Nat → Int32) (r n : Nat) (p : List Nat) : Prop := (∀ j, j < 8 → gI h 107 j = nI (p.getD j 0)) ∧ ∀ k, k < r → gI h 110 k = pS f p n k
theorem GN_fr {as fs js gs : List Nat} {h h' : Hp} {f : Nat → Int32} {r n : Nat} {p : List Nat} (a : Fr as fs js gs h h') (h1 : 107 ∉ as) (h2 : 110 ∉ as) (b : GN h f r n p) : GN h' f r n p := by
  unfold GN
  rw [fr_I a h1 (by decide), fr_I a h2 (by decide)]
  exact b
def canG (f : Nat → Int32) (n : Nat) (p : List Nat) : Bool := allB (fun c => decide (¬ f (36 + c) < nI (p.getD c 0))) n
def canC (f : Nat → Int32) (r n : Nat) (p q : List Nat) : Bool := allB (fun c => decide (¬ 99 < f (36 + c) - nI (p.getD c 0) + nI (q.getD c 0))) n && allB (fun k => decide (pS f q n k = pS f p n k)) r
theorem t_M_canGo {r n : Nat} {p : List Nat} {Q : Bool → Hp → Prop} (hM : Mrc h r n) (hp : AtP h p) (hq : Q (canG (gI h 86) n p) h) : w_M_canGo 81 h Q := by
  obtain ⟨a1, a2, a3⟩ := M_plan hM.1
  obtain ⟨b1, b2, b3⟩ := M_now hM.1
  have hn := hM.2.2.2.2.2
  unfold w_M_canGo
  refine loop_0 (fun m i (s : Bool) => w_M_canGo_L4 Q 81 m (b2i s) (nI i) h) (fun i s => s = allB (fun c => decide (¬ gI h 86 (36 + c) < nI (p.getD c 0))) i) n true rfl ?_ ?_
  · rintro m s rfl
    unfold w_M_canGo_L4
    refine ⟨M_K hM.1, fun _ => ⟨b2i_B _, ?_⟩, fun a => absurd (loop_le hM.2.2.1) a⟩
    rw [i2b_b2i]
    exact hq
  · rintro m i s hi rfl ih
    unfold w_M_canGo_L4
    refine ⟨M_K hM.1, fun a => absurd (hM.2.2.1 ▸ a) (nI_ge hi (by omega)), fun _ => ?_⟩
    rw [nI_1]
    cases e : allB (fun c => decide (¬ gI h 86 (36 + c) < nI (p.getD c 0))) i
    · exact ⟨fun _ => ih false (by rw [allB, e]; rfl), fun z => absurd rfl z⟩
    · refine ⟨fun z => absurd z (by decide), fun _ => ?_⟩
      rw [a1, a3, b1, b3, show (36 : Int32) + nI i = nI (36 + i) from nI_add 36 i, ix_nI (n := i) (by omega), ix_nI (n := 36 + i) (by omega), hp i (by omega)]
      refine ⟨a2, vp_in_nI (by omega) (by omega), b2, vp_in_nI (by omega) (by omega), fun z => ?_, fun z => ?_⟩
      · exact ih false (by rw [allB, e, decide_eq_false (fun g => g z)]; rfl)
      · exact ih true (by rw [allB, e, decide_eq_true z]; rfl)
theorem t_M_canCome {r n : Nat} {p q : List Nat} {Q : Bool → Hp → Prop} (hM : Mrc h r n) (hp : AtP h q) (hg : GN h (gI h 86) r n p) (hq : Q (canC (gI h 86) r n p q) h) : w_M_canCome 81 h Q := by
  obtain ⟨a1, a2, a3⟩ := M_plan hM.1
  obtain ⟨b1, b2, b3⟩ := M_now hM.1
  obtain ⟨c1, c2, c3⟩ := M_gone hM.1
  obtain ⟨d1, d2, d3⟩ := M_goneSum hM.1
  have hn := hM.2.2.2.2.2
  have hr := hM.2.2.2.2.1
  unfold w_M_canCome
  refine loop_0 (fun m i (s : Bool) => w_M_canCome_L4 Q 81 m (b2i s) (nI i) h) (fun i s => s = allB (fun c => decide (¬ 99 < gI h 86 (36 + c) - nI (p.getD c 0) + nI (q.getD c 0))) i) n true rfl ?_ ?_
  · rintro m s rfl
    unfold w_M_canCome_L4
    refine ⟨M_K hM.1, fun _ => ?_, fun a => absurd (loop_le hM.2.2.1) a⟩
    refine loop_0 (fun m i (s : Bool) => w_M_canCome_L58 Q 81 m (b2i s) (nI i) h) (fun i s => s = (allB (fun c => decide (¬ 99 < gI h 86 (36 + c) - nI (p.getD c 0) + nI (q.getD c 0))) n && allB (fun k => decide (pS (gI h 86) q n k = pS (gI h 86) p n k)) i)) r _ (by rw [allB, Bool.and_true]) ?_ ?_
    · rintro m s rfl
      unfold w_M_canCome_L58
      refine ⟨M_K hM.1, fun _ => ⟨b2i_B _, ?_⟩, fun a => absurd (loop_le hM.2.1) a⟩
      rw [i2b_b2i]
      exact hq
    · rintro m i s hi rfl ih
      unfold w_M_canCome_L58
      refine ⟨M_K hM.1, fun a => absurd (hM.2.1 ▸ a) (nI_ge hi (by omega)), fun _ => ?_⟩
      rw [nI_1]
      cases e : (allB (fun c => decide (¬ 99 < gI h 86 (36 + c) - nI (p.getD c 0) + nI (q.getD c 0))) n && allB (fun k => decide (pS (gI h 86) q n k = pS (gI h 86) p n k)) i)
      · exact ⟨fun _ => ih false (by rw [allB, ← Bool.and_assoc, e]; rfl), fun z => absurd rfl z⟩
      · refine ⟨fun z => absurd z (by decide), fun _ => t_M_planSum hM (AtP_P8 hp) (by omega) ⟨M_K hM.1, ?_⟩⟩
        rw [d1, d3, ix_nI (by omega), hg.2 i hi]
        refine ⟨d2, vp_in_nI (by omega) (by omega), fun z => ?_, fun z => ?_⟩
        · exact ih true (by rw [allB, ← Bool.and_assoc, e, decide_eq_true z]; rfl)
        · exact ih false (by rw [allB, ← Bool.and_assoc, e, decide_eq_false z]; rfl)
  · rintro m i s hi rfl ih
    unfold w_M_canCome_L4
    refine ⟨M_K hM.1, fun a => absurd (hM.2.2.1 ▸ a) (nI_ge hi (by omega)), fun _ => ?_⟩
    rw [nI_1]
    cases e : allB (fun c => decide (¬ 99 < gI h 86 (36 + c) - nI (p.getD c 0) + nI (q.getD c 0))) i
    · exact ⟨fun _ => ih false (by rw [allB, e]; rfl), fun z => absurd rfl z⟩
    · refine ⟨fun z => absurd z (by decide), fun _ => ?_⟩
      rw [a1, a3, b1, b3, c1, c3, show (36 : Int32) + nI i = nI (36 + i) from nI_add 36 i, ix_nI (n := i) (by omega), ix_nI (n := 36 + i) (by omega), hp i (by omega), hg.1 i (by omega)]
      refine ⟨b2, vp_in_nI (by omega) (by omega), c2, vp_in_nI (by omega) (by omega), a2, vp_in_nI (by omega) (by omega), fun z => ?_, fun z => ?_⟩
      · exact ih false (by rw [allB, e, decide_eq_false (fun g => g z)]; rfl)
      · exact ih true (by rw [allB, e, decide_eq_true z]; rfl)
theorem t_M_keepsExchange {r n : Nat} {p q : List Nat} {f : Nat → Int32} {g a b : Int32} {Q : Hp → Prop} (hM : Mrc h r n) (hp : AtP h q) (hg : GN h f r n p)
    (hq : ∀ h', Fr [108, 109] [63, 64, 65] [] [] h h' → XB h' (g, a, b, fun j => nI (p.getD j 0), fun j => nI (q.getD j 0)) → Q h') : w_M_keepsExchange 81 g a b h Q := by
  obtain ⟨a1, a2, a3⟩ := M_plan hM.1
  obtain ⟨b1, b2, b3⟩ := M_out hM.1
  obtain ⟨c1, c2, c3⟩ := M_gone hM.1
  obtain ⟨d1, d2, d3⟩ := M_in hM.1
  unfold w_M_keepsExchange
  refine ⟨M_K hM.1, ?_⟩
  refine loop_0 (fun m i s => w_M_keepsExchange_L18 Q 81 m (nI i) s) (fun i s => Fr [108, 109] [63, 64, 65] [] [] h s ∧ gI s 81 63 = g ∧ gI s 81 64 = a ∧ gI s 81 65 = b ∧ (∀ j, j < i → gI s 108 j = nI (p.getD j 0)) ∧ (∀ j, j < i → gI s 109 j = nI (q.getD j 0))) 8 _ ⟨fr_trans (fr_trans (fr_sI _ _ (Or.inr ⟨rfl, by simp⟩)) (fr_sI _ _ (Or.inr ⟨rfl, by simp⟩))) (fr_sI _ _ (Or.inr ⟨rfl, by simp⟩)), ?_, ?_, ?_, fun j hj => absurd hj (Nat.not_lt_zero _), fun j hj => absurd hj (Nat.not_lt_zero _)⟩ ?_ ?_
  · rw [gI_sI, if_neg (by decide), gI_sI, if_neg (by decide), gI_sI, if_pos ⟨rfl, rfl⟩]
  · rw [gI_sI, if_neg (by decide), gI_sI, if_pos ⟨rfl, rfl⟩]
  · rw [gI_sI, if_pos ⟨rfl, rfl⟩]
  · rintro m s ⟨f, e⟩
    unfold w_M_keepsExchange_L18
    exact ⟨fun _ => hq s f e, fun z => absurd (Int32.le_refl _) z⟩
  · rintro m i s hi ⟨f, e1, e2, e3, e4, e5⟩ ih
    unfold w_M_keepsExchange_L18
    refine ⟨fun z => absurd z (nI_ge (b := 8) hi (by omega)), fun _ => ?_⟩
    rw [fr_R f, fr_K f, fr_N f, a1, a3, b1, b3, c1, c3, d1, d3, ix_nI (by omega), nI_1]
    refine ⟨M_K hM.1, c2, vp_in_nI hi (by omega), b2, vp_in_nI hi (by omega), a2, vp_in_nI hi (by omega), d2, vp_in_nI hi (by omega), ih _ ⟨fr_trans (fr_trans f (fr_sI _ _ (Or.inl (by simp)))) (fr_sI _ _ (Or.inl (by simp))), ?_, ?_, ?_, fun j hj => ?_, fun j hj => ?_⟩⟩
    · rw [gI_sI, if_neg (fun z => absurd z.1 (by decide)), gI_sI, if_neg (fun z => absurd z.1 (by decide))]; exact e1
    · rw [gI_sI, if_neg (fun z => absurd z.1 (by decide)), gI_sI, if_neg (fun z => absurd z.1 (by decide))]; exact e2
    · rw [gI_sI, if_neg (fun z => absurd z.1 (by decide)), gI_sI, if_neg (fun z => absurd z.1 (by decide))]; exact e3
    · rw [gI_sI, if_neg (fun z => absurd z.1 (by decide)), gI_sI]
      by_cases e : j = i
      · rw [if_pos ⟨rfl, e⟩, fr_I f (by decide) (by decide), hg.1 i hi, e]
      · rw [if_neg (fun z => e z.2)]
        exact e4 j (by omega)
    · rw [gI_sI]
      by_cases e : j = i
      · rw [if_pos ⟨rfl, e⟩, gI_sI, if_neg (fun z => absurd z.1 (by decide)), fr_I f (by decide) (by decide), hp i hi, e]
      · rw [if_neg (fun z => e z.2), gI_sI, if_neg (fun z => absurd z.1 (by decide))]
        exact e5 j (by omega)
/-- one plan that may come -/
def exQ (f : Nat → Int32) (r n a : Nat) (p : List Nat) (b : Nat) (x : XT) (q : List Nat) : XT :=
  if canC f r n p q = true ∧ (x.1 < pG f q n - pG f p n ∨ (pG f q n - pG f p n = x.1 ∧ x.2.1 = nI a ∧ ¬ x.2.2.1 ≤ nI b)) then (pG f q n - pG f p n, nI a, nI b, fun j => nI (p.getD j 0), fun j => nI (q.getD j 0)) else x
def exB (f : Nat → Int32) (r n a : Nat) (p : List Nat) (x : XT) : Nat → XT
  | 0 => x
  | b + 1 => (PL n b).foldl (exQ f r n a p b) (exB f r n a p x b)
def exP (f : Nat → Int32) (r n m a : Nat) (x : XT) (p : List Nat) : XT := if canG f n p = true then exB f r n a p x (m + 1) else x
def exA (f : Nat → Int32) (r n m : Nat) (x : XT) : Nat → XT
  | 0 => x
  | a + 1 => (PL n a).foldl (exP f r n m a) (exA f r n m x a)
theorem t_M_comesFor {r n a m : Nat} {p : List Nat} {x : XT} {Q : Hp → Prop} (hM : Mrc h r n) (hm : m ≤ 3) (hg : GN h (gI h 86) r n p) (hx : XB h x)
    (hq : ∀ h', Fr [88, 108, 109] [63, 64, 65] [] [] h h' → XB h' (exB (gI h 86) r n a p x (m + 1)) → Q h') : w_M_comesFor 81 (pG (gI h 86) p n) (nI a) (nI m) h Q := by
  unfold w_M_comesFor
  refine loop_0 (fun k i s => w_M_comesFor_L3 Q 81 (pG (gI h 86) p n) (nI a) (nI m) k (nI i) s) (fun i s => Fr [88, 108, 109] [63, 64, 65] [] [] h s ∧ XB s (exB (gI h 86) r n a p x i)) (m + 1) _ ⟨fr_refl _ _ _ _ _, hx⟩ ?_ ?_
  · rintro k s ⟨f, e⟩
    unfold w_M_comesFor_L3
    exact ⟨fun _ => hq s f e, fun z => absurd (nI_lt (Nat.lt_succ_self m) (by omega)) z⟩
  · rintro k b s hb ⟨f, e⟩ ih
    have hMs := fr_Mrc f (by decide) (by decide) (by decide) hM
    unfold w_M_comesFor_L3
    refine ⟨fun z => absurd z (nI_nlt (by omega) (by omega)), fun _ => ⟨M_K hMs.1, t_M_first hMs (by omega) (fun h2 f2 hd => ?_)⟩⟩
    refine plan_run (n := n) (t := b) (fun k2 v s => w_M_comesFor_L17 Q (w_M_comesFor_L3 Q 81 (pG (gI h 86) p n) (nI a) (nI m) k) 81 (pG (gI h 86) p n) (nI a) (nI m) (nI b) k2 v s) (fun l h' => ∃ y, (Fr [88, 108, 109] [63, 64, 65] [] [] h h' ∧ XB h' y) ∧ l.foldl (exQ (gI h 86) r n a p b) y = exB (gI h 86) r n a p x (b + 1)) ?_ ?_ _ (PL_Lp n b) h2 ⟨_, ⟨fr_trans f (fr_mono f2 (by simp) (by simp) (by simp) (by simp)), XB_88 f2 (by decide) (by decide) (by decide) e⟩, rfl⟩ hd
    · rintro k2 h3 ⟨y, a3, e3⟩
      unfold w_M_comesFor_L17
      refine ⟨fun _ => ?_, fun z => absurd rfl z⟩
      rw [nI_1]
      rw [List.foldl_nil] at e3
      exact ih h3 (by rw [← e3]; exact a3)
    · rintro k2 q l h3 ⟨y, ⟨f3, x3⟩, e3⟩ hl hp ih2
      have hM3 := fr_Mrc f3 (by decide) (by decide) (by decide) hM
      have e86 : gI h3 86 = gI h 86 := fr_I f3 (by decide) (by decide)
      have hg3 := GN_fr f3 (by decide) (by decide) hg
      rw [List.foldl_cons] at e3
      have no : exQ (gI h 86) r n a p b y q = y → w_M_comesFor_B81 Q (w_M_comesFor_L3 Q 81 (pG (gI h 86) p n) (nI a) (nI m) k) (w_M_comesFor_L17 Q (w_M_comesFor_L3 Q 81 (pG (gI h 86) p n) (nI a) (nI m) k) 81 (pG (gI h 86) p n) (nI a) (nI m) (nI b) k2) 81 (pG (gI h 86) p n) (nI a) (nI m) (nI b) h3 := fun e => by
        unfold w_M_comesFor_B81
        refine ⟨M_K hM3.1, t_M_next hM3 (by omega) hl hp (fun h4 f4 hd4 => ih2 h4 ⟨y, ⟨fr_trans f3 (fr_mono f4 (by simp) (by simp) (by simp) (by simp)), XB_88 f4 (by decide) (by decide) (by decide) x3⟩, ?_⟩ hd4)⟩
        rw [← e3, e]
      have yes : exQ (gI h 86) r n a p b y q = (pG (gI h 86) q n - pG (gI h 86) p n, nI a, nI b, fun j => nI (p.getD j 0), fun j => nI (q.getD j 0)) → w_M_comesFor_B72 Q (w_M_comesFor_L3 Q 81 (pG (gI h 86) p n) (nI a) (nI m) k) (w_M_comesFor_L17 Q (w_M_comesFor_L3 Q 81 (pG (gI h 86) p n) (nI a) (nI m) k) 81 (pG (gI h 86) p n) (nI a) (nI m) (nI b) k2) 81 (pG (gI h 86) p n) (nI a) (nI m) (nI b) (pG (gI h 86) q n - pG (gI h 86) p n) h3 := fun e => by
        unfold w_M_comesFor_B72
        refine ⟨M_K hM3.1, t_M_keepsExchange hM3 hp hg3 (fun h4 f4 x4 => ?_)⟩
        have hM4 := fr_Mrc f4 (by decide) (by decide) (by decide) hM3
        unfold w_M_comesFor_B81
        refine ⟨M_K hM4.1, t_M_next hM4 (by omega) hl (fun j hj => by rw [fr_I f4 (by decide) (by decide)]; exact hp j hj) (fun h5 f5 hd5 => ih2 h5 ⟨_, ⟨fr_trans (fr_trans f3 (fr_mono f4 (by simp) (by simp) (by simp) (by simp))) (fr_mono f5 (by simp) (by simp) (by simp) (by simp)), XB_88 f5 (by decide) (by decide) (by decide) x4⟩, ?_⟩ hd5)⟩
        rw [← e3, e]
      unfold w_M_comesFor_L17
      refine ⟨fun z => absurd z (by decide), fun _ => ⟨M_K hM3.1, t_M_planGain hM3 (AtP_P8 hp) ⟨M_K hM3.1, t_M_canCome (p := p) hM3 hp (by rw [e86]; exact hg3) ?_⟩⟩⟩
      rw [e86, x3.1, x3.2.1, x3.2.2.1]
      refine ⟨fun z => no ?_, fun z => ⟨M_K hM3.1, fun z2 => yes ?_, fun z2 => ⟨fun z3 => ⟨fun z4 => ⟨fun z5 => no ?_, fun z5 => yes ?_⟩, fun z4 => no ?_⟩, fun z3 => no ?_⟩⟩⟩
      · unfold exQ; rw [if_neg]; rw [z]; exact fun g => absurd g.1 (by decide)
      · unfold exQ; rw [if_pos]; exact ⟨by simpa using z, Or.inl z2⟩
      · unfold exQ; rw [if_neg]; rintro ⟨-, g | g⟩
        · exact z2 g
        · exact g.2.2 z5
      · unfold exQ; rw [if_pos]; exact ⟨by simpa using z, Or.inr ⟨z3, z4, z5⟩⟩
      · unfold exQ; rw [if_neg]; rintro ⟨-, g | g⟩
        · exact z2 g
        · exact z4 g.2.1
      · unfold exQ; rw [if_neg]; rintro ⟨-, g | g⟩
        · exact z2 g
        · exact z3 g.1
theorem XB_fr {as fs js gs : List Nat} {h h' : Hp} {x : XT} (a : Fr as fs js gs h h') (h1 : 108 ∉ as) (h2 : 109 ∉ as) (h3 : 81 ∉ as) (h4 : 63 ∉ fs) (h5 : 64 ∉ fs) (h6 : 65 ∉ fs) (b : XB h x) : XB h' x := by
  unfold XB
  rw [fr_F a h3 h4, fr_F a h3 h5, fr_F a h3 h6, fr_I a h1 (by decide), fr_I a h2 (by decide)]
  exact b
theorem AtP_fr {as fs js gs : List Nat} {h h' : Hp} {p : List Nat} (a : Fr as fs js gs h h') (h1 : 88 ∉ as) (b : AtP h p) : AtP h' p := fun j hj => by rw [fr_I a h1 (by decide)]; exact b j hj
theorem t_M_laysExchange_L113 {r n t : Nat} {p : List Nat} {l : List (List Nat)} {Q : Bool → Hp → Prop} {k17 k28 : Int32 → Hp → Prop} {v1 v2 : Int32} (hM : Mrc h r n) (ht : t < 2 ^ 30) (hl : Lp n t (p :: l)) (hg : ∀ j, j < 8 → gI h 107 j = nI (p.getD j 0))
    (hq : ∀ h', Fr [88] [] [] [] h h' → hdP h' l → k28 (b2i (!l.isEmpty)) h') : ∃ m, w_M_laysExchange_L113 Q k17 k28 81 v1 v2 m 0 h := by
  obtain ⟨a1, a2, a3⟩ := M_plan hM.1
  obtain ⟨c1, c2, c3⟩ := M_gone hM.1
  refine loop_0 (fun m i s => w_M_laysExchange_L113 Q k17 k28 81 v1 v2 m (nI i) s) (fun i s => Fr [88] [] [] [] h s ∧ ∀ j, j < i → gI s 88 j = nI (p.getD j 0)) 8 _ ⟨fr_refl _ _ _ _ _, fun j hj => absurd hj (Nat.not_lt_zero _)⟩ ?_ ?_
  · rintro m s ⟨f, e⟩
    have hMs := fr_Mrc f (by decide) (by decide) (by decide) hM
    unfold w_M_laysExchange_L113
    exact ⟨fun _ => ⟨M_K hMs.1, t_M_next hMs ht hl e (fun h' f' hd => hq h' (fr_trans f f') hd)⟩, fun z => absurd (Int32.le_refl _) z⟩
  · rintro m i s hi ⟨f, e⟩ ih
    unfold w_M_laysExchange_L113
    refine ⟨fun z => absurd z (nI_ge (b := 8) hi (by omega)), fun _ => ?_⟩
    rw [fr_R f, fr_K f, fr_N f, a1, a3, c1, c3, ix_nI (by omega), nI_1]
    refine ⟨M_K hM.1, c2, vp_in_nI hi (by omega), a2, vp_in_nI hi (by omega), ih _ ⟨fr_trans f (fr_sI _ _ (Or.inl (by simp))), fun j hj => ?_⟩⟩
    rw [gI_sI]
    by_cases e2 : j = i
    · rw [if_pos ⟨rfl, e2⟩, fr_I f (by decide) (by decide), hg i hi, e2]
    · rw [if_neg (fun z => e2 z.2)]
      exact e j (by omega)
def XI (h h' : Hp) (x : XT) : Prop := Fr [88, 107, 108, 109, 110] [63, 64, 65] [] [] h h' ∧ XB h' x
theorem t_M_laysExchange_L35 {r n t mo : Nat} {p : List Nat} {l : List (List Nat)} {x : XT} {Q : Bool → Hp → Prop} {k17 k28 : Int32 → Hp → Prop} (hM : Mrc h r n) (ht : t < 2 ^ 30) (hmo : mo ≤ 3) (hl : Lp n t (p :: l)) (hp : AtP h p) (hx : XB h x)
    (hq : ∀ h', XI h h' (exP (gI h 86) r n mo t x p) → hdP h' l → k28 (b2i (!l.isEmpty)) h') : ∃ m, w_M_laysExchange_L35 Q k17 k28 81 (nI mo) (nI t) m 0 h := by
  obtain ⟨a1, a2, a3⟩ := M_plan hM.1
  obtain ⟨c1, c2, c3⟩ := M_gone hM.1
  obtain ⟨d1, d2, d3⟩ := M_goneSum hM.1
  have hr := hM.2.2.2.2.1
  refine loop_0 (fun m i s => w_M_laysExchange_L35 Q k17 k28 81 (nI mo) (nI t) m (nI i) s) (fun i s => Fr [107] [] [] [] h s ∧ ∀ j, j < i → gI s 107 j = nI (p.getD j 0)) 8 _ ⟨fr_refl _ _ _ _ _, fun j hj => absurd hj (Nat.not_lt_zero _)⟩ ?_ ?_
  · rintro m s ⟨f, e⟩
    have hMs := fr_Mrc f (by decide) (by decide) (by decide) hM
    have hps := AtP_fr f (by decide) hp
    have es86 : gI s 86 = gI h 86 := fr_I f (by decide) (by decide)
    unfold w_M_laysExchange_L35
    refine ⟨fun _ => ?_, fun z => absurd (Int32.le_refl _) z⟩
    refine loop_0 (fun m i s => w_M_laysExchange_L65 Q k17 k28 81 (nI mo) (nI t) m (nI i) s) (fun i s2 => Fr [110] [] [] [] s s2 ∧ ∀ j, j < i → gI s2 110 j = pS (gI h 86) p n j) r _ ⟨fr_refl _ _ _ _ _, fun j hj => absurd hj (Nat.not_lt_zero _)⟩ ?_ ?_
    · rintro m2 s2 ⟨f2, e2⟩
      have hM2 := fr_Mrc f2 (by decide) (by decide) (by decide) hMs
      have hp2 := AtP_fr f2 (by decide) hps
      have e86 : gI s2 86 = gI h 86 := (fr_I f2 (by decide) (by decide)).trans es86
      have g2 : GN s2 (gI h 86) r n p := ⟨fun j hj => by rw [fr_I f2 (by decide) (by decide)]; exact e j hj, e2⟩
      have x2 : XB s2 x := XB_fr f2 (by decide) (by decide) (by decide) (by decide) (by decide) (by decide) (XB_fr f (by decide) (by decide) (by decide) (by decide) (by decide) (by decide) hx)
      have ff : Fr [88, 107, 108, 109, 110] [63, 64, 65] [] [] h s2 := fr_trans (fr_mono f (by simp) (by simp) (by simp) (by simp)) (fr_mono f2 (by simp) (by simp) (by simp) (by simp))
      unfold w_M_laysExchange_L65
      refine ⟨M_K hM2.1, fun _ => t_M_canGo hM2 hp2 ⟨fun z => ?_, fun z => ⟨M_K hM2.1, t_M_planGain hM2 (AtP_P8 hp2) ⟨M_K hM2.1, ?_⟩⟩⟩, fun z => absurd (loop_le hM2.2.1) z⟩
      · rw [e86] at z
        refine t_M_laysExchange_L113 hM2 ht hl g2.1 (fun h' f' hd => hq h' ⟨fr_trans ff (fr_mono f' (by simp) (by simp) (by simp) (by simp)), ?_⟩ hd)
        unfold exP
        rw [if_neg (by rw [z]; decide)]
        exact XB_fr f' (by decide) (by decide) (by decide) (by decide) (by decide) (by decide) x2
      · rw [e86] at z
        refine t_M_comesFor (a := t) hM2 hmo (by rw [e86]; exact g2) x2 (fun h3 f3 x3 => ?_)
        have hM3 := fr_Mrc f3 (by decide) (by decide) (by decide) hM2
        refine t_M_laysExchange_L113 hM3 ht hl (fun j hj => by rw [fr_I f3 (by decide) (by decide)]; exact g2.1 j hj) (fun h' f' hd => hq h' ⟨fr_trans ff (fr_trans (fr_mono f3 (by simp) (by simp) (by simp) (by simp)) (fr_mono f' (by simp) (by simp) (by simp) (by simp))), ?_⟩ hd)
        unfold exP
        rw [if_pos (by simpa using z)]
        rw [e86] at x3
        exact XB_fr f' (by decide) (by decide) (by decide) (by decide) (by decide) (by decide) x3
    · rintro m2 i s2 hi ⟨f2, e2⟩ ih
      have hM2 := fr_Mrc f2 (by decide) (by decide) (by decide) hMs
      have hp2 := AtP_fr f2 (by decide) hps
      have e86 : gI s2 86 = gI h 86 := (fr_I f2 (by decide) (by decide)).trans es86
      unfold w_M_laysExchange_L65
      refine ⟨M_K hM2.1, fun z => absurd (hM2.2.1 ▸ z) (nI_ge hi (by omega)), fun _ => t_M_planSum hM2 (AtP_P8 hp2) (by omega) ?_⟩
      rw [fr_R f2, fr_K f2, fr_N f2, fr_R f, fr_K f, fr_N f, d1, d3, ix_nI (by omega), nI_1]
      refine ⟨d2, vp_in_nI (by omega) (by omega), ih _ ⟨fr_trans f2 (fr_sI _ _ (Or.inl (by simp))), fun j hj => ?_⟩⟩
      rw [gI_sI, e86]
      by_cases e3 : j = i
      · rw [if_pos ⟨rfl, e3⟩, e3]
      · rw [if_neg (fun z => e3 z.2)]
        exact e2 j (by omega)
  · rintro m i s hi ⟨f, e⟩ ih
    unfold w_M_laysExchange_L35
    refine ⟨fun z => absurd z (nI_ge (b := 8) hi (by omega)), fun _ => ?_⟩
    rw [fr_R f, fr_K f, fr_N f, a1, a3, c1, c3, ix_nI (by omega), nI_1]
    refine ⟨M_K hM.1, a2, vp_in_nI hi (by omega), c2, vp_in_nI hi (by omega), ih _ ⟨fr_trans f (fr_sI _ _ (Or.inl (by simp))), fun j hj => ?_⟩⟩
    rw [gI_sI]
    by_cases e2 : j = i
    · rw [if_pos ⟨rfl, e2⟩, fr_I f (by decide) (by decide), hp i hi, e2]
    · rw [if_neg (fun z => e2 z.2)]
      exact e j (by omega)
/-- the exchange that is laid out -/
def exX (h : Hp) (r n m : Nat) : XT := exA (gI h 86) r n m (0, -1, -1, gI h 108, gI h 109) (m + 1)
theorem t_M_laysExchange {r n m : Nat} {Q : Bool → Hp → Prop} (hM : Mrc h r n) (hm : m ≤ 3) (hq : ∀ h', XI h h' (exX h r n m) → Q (decide (¬ (exX h r n m).1 ≤ 0)) h') : w_M_laysExchange 81 (nI m) h Q := by
  unfold w_M_laysExchange
  refine ⟨M_K hM.1, ?_⟩
  refine loop_0 (fun k i s => w_M_laysExchange_L17 Q 81 (nI m) k (nI i) s) (fun i s => XI h s (exA (gI h 86) r n m (0, -1, -1, gI h 108, gI h 109) i)) (m + 1) _ ⟨fr_trans (fr_trans (fr_sI _ _ (Or.inr ⟨rfl, by simp⟩)) (fr_sI _ _ (Or.inr ⟨rfl, by simp⟩))) (fr_sI _ _ (Or.inr ⟨rfl, by simp⟩)), ?_, ?_, ?_, fun j hj => ?_, fun j hj => ?_⟩ ?_ ?_
  · rw [gI_sI, if_neg (by decide), gI_sI, if_neg (by decide), gI_sI, if_pos ⟨rfl, rfl⟩]; rfl
  · rw [gI_sI, if_neg (by decide), gI_sI, if_pos ⟨rfl, rfl⟩]; rfl
  · rw [gI_sI, if_pos ⟨rfl, rfl⟩]; rfl
  · rw [gI_sI, if_neg (fun z => absurd z.1 (by decide)), gI_sI, if_neg (fun z => absurd z.1 (by decide)), gI_sI, if_neg (fun z => absurd z.1 (by decide))]; rfl
  · rw [gI_sI, if_neg (fun z => absurd z.1 (by decide)), gI_sI, if_neg (fun z => absurd z.1 (by decide)), gI_sI, if_neg (fun z => absurd z.1 (by decide))]; rfl
  · intro k s a
    have hMs := fr_Mrc a.1 (by decide) (by decide) (by decide) hM
    have := hq s a
    unfold w_M_laysExchange_L17
    refine ⟨fun _ => ⟨M_K hMs.1, fun z => ?_, fun z => ?_⟩, fun z => absurd (nI_lt (Nat.lt_succ_self m) (by omega)) z⟩
    · rw [a.2.1] at z
      rw [decide_eq_false (fun g => g z)] at this
      exact this
    · rw [a.2.1] at z
      have z : ¬ (exX h r n m).1 ≤ 0 := z
      rw [decide_eq_true z] at this
      exact this
  · intro k t s ht a ih
    have hMs := fr_Mrc a.1 (by decide) (by decide) (by decide) hM
    unfold w_M_laysExchange_L17
    refine ⟨fun z => absurd z (nI_nlt (by omega) (by omega)), fun _ => ⟨M_K hMs.1, t_M_first hMs (by omega) (fun h2 f2 hd => ?_)⟩⟩
    refine plan_run (n := n) (t := t) (fun k2 v s => w_M_laysExchange_L28 Q (w_M_laysExchange_L17 Q 81 (nI m) k) 81 (nI m) (nI t) k2 v s) (fun l h' => ∃ y, XI h h' y ∧ l.foldl (exP (gI h 86) r n m t) y = exA (gI h 86) r n m (0, -1, -1, gI h 108, gI h 109) (t + 1)) ?_ ?_ _ (PL_Lp n t) h2 ⟨_, ⟨fr_trans a.1 (fr_mono f2 (by simp) (by simp) (by simp) (by simp)), XB_fr f2 (by decide) (by decide) (by decide) (by decide) (by decide) (by decide) a.2⟩, rfl⟩ hd
    · rintro k2 h3 ⟨y, a3, e3⟩
      unfold w_M_laysExchange_L28
      refine ⟨fun _ => ?_, fun z => absurd rfl z⟩
      rw [nI_1]
      rw [List.foldl_nil] at e3
      exact ih h3 (by rw [← e3]; exact a3)
    · rintro k2 p l h3 ⟨y, a3, e3⟩ hl hp ih2
      have hM3 := fr_Mrc a3.1 (by decide) (by decide) (by decide) hM
      have e86 : gI h3 86 = gI h 86 := fr_I a3.1 (by decide) (by decide)
      rw [List.foldl_cons] at e3
      unfold w_M_laysExchange_L28
      refine ⟨fun z => absurd z (by decide), fun _ => t_M_laysExchange_L35 (t := t) (mo := m) hM3 (by omega) hm hl hp a3.2 (fun h4 a4 hd4 => ih2 h4 ⟨_, ⟨fr_trans a3.1 a4.1, a4.2⟩, ?_⟩ hd4)⟩
      rw [e86]
      exact e3
theorem in13 {v : Int32} (z : (decide (1 ≤ v) && decide (v ≤ 3)) = true) : ∃ m, 1 ≤ m ∧ m ≤ 3 ∧ v = nI m := by
  rw [Bool.and_eq_true, decide_eq_true_eq, decide_eq_true_eq] at z
  obtain ⟨m, hm, rfl⟩ := nI_of2 (x := v) (n := 3) (M := 3) rfl (fun g => by
    have h1 := z.1
    rw [Int32.lt_iff_toInt_lt] at g
    rw [Int32.le_iff_toInt_le] at h1
    have e0 : (0 : Int32).toInt = 0 := rfl
    have e1 : (1 : Int32).toInt = 1 := rfl
    omega) z.2
  refine ⟨m, ?_, hm, rfl⟩
  have := (nI_leI (a := 1) (b := m) (by omega) (by omega)).mp z.1
  exact this
/-- what of an exchange is asked -/
def exW (x : XT) (w : Int32) : Int32 := if w = 0 then x.1 else if w = 1 then x.2.1 else if w = 2 then x.2.2.1 else x.2.2.2.2 (ix (w - 10)) - x.2.2.2.1 (ix (w - 10))
theorem t_M_exchange {r n : Nat} {v w : Int32} {Q : Int32 → Hp → Prop} (hM : Mrc h r n)
    (hq0 : ((decide (1 ≤ v) && decide (v ≤ 3)) && ((decide (0 ≤ w) && decide (w ≤ 2)) || inb (w - 10) n)) = false → Q (-1000001) h)
    (hq : ∀ m h', 1 ≤ m → m ≤ 3 → v = nI m → ((decide (0 ≤ w) && decide (w ≤ 2)) || inb (w - 10) n) = true → XI h h' (exX h r n m) → Q (if (exX h r n m).1 ≤ 0 then -1000001 else exW (exX h r n m) w) h') : w_M_exchange 81 v w h Q := by
  have hn := hM.2.2.2.2.2
  have B : ∀ s : Bool, s = ((decide (0 ≤ w) && decide (w ≤ 2)) || inb (w - 10) n) → w_M_exchange_B25 Q 81 v w (b2i s) h := by
    intro s hs
    unfold w_M_exchange_B25
    refine t_M_isIn ⟨fun z => hq0 (by rw [z, Bool.false_and]), fun z => ⟨fun z2 => hq0 ?_, fun z2 => ⟨M_K hM.1, ?_⟩⟩⟩
    · cases s
      · rw [← hs, Bool.and_false]
      · exact absurd z2 (by decide)
    · cases s
      · exact absurd rfl z2
      · obtain ⟨m, m1, m3, rfl⟩ := in13 (by simpa using z)
        refine t_M_laysExchange hM m3 (fun h' a => ?_)
        have fin := hq m h' m1 m3 rfl hs.symm a
        have hM1 := fr_Mrc a.1 (by decide) (by decide) (by decide) hM
        obtain ⟨b1, b2, b3⟩ := M_out hM1.1
        obtain ⟨d1, d2, d3⟩ := M_in hM1.1
        refine ⟨fun z3 => ?_, fun z3 => ?_⟩
        · rw [decide_eq_false_iff_not] at z3
          rw [if_pos (Decidable.not_not.mp z3)] at fin
          exact fin
        · have z3 : ¬ (exX h r n m).1 ≤ 0 := by simpa using z3
          rw [if_neg z3] at fin
          unfold exW at fin
          refine ⟨fun y => ⟨M_K hM1.1, ?_⟩, fun y => ⟨fun y1 => ⟨M_K hM1.1, ?_⟩, fun y1 => ⟨fun y2 => ⟨M_K hM1.1, ?_⟩, fun y2 => ⟨M_K hM1.1, ?_⟩⟩⟩⟩
          · rw [if_pos y] at fin; rw [a.2.1]; exact fin
          · rw [if_neg y, if_pos y1] at fin; rw [a.2.2.1]; exact fin
          · rw [if_neg y, if_neg y1, if_pos y2] at fin; rw [a.2.2.2.1]; exact fin
          · rw [if_neg y, if_neg y1, if_neg y2] at fin
            have hin : inb (w - 10) n = true := by
              rcases (Bool.or_eq_true _ _).mp hs.symm with g | g
              · rw [Bool.and_eq_true, decide_eq_true_eq, decide_eq_true_eq] at g
                obtain ⟨j, hj, rfl⟩ := nI_of2 (x := w) (n := 2) (M := 2) rfl (fun x => absurd g.1 (by rw [Int32.not_le]; exact x)) g.2
                match j, hj with
                | 0, _ => exact absurd rfl y
                | 1, _ => exact absurd rfl y1
                | 2, _ => exact absurd rfl y2
              · exact g
            obtain ⟨j, hj, ej⟩ := inb_ex (by omega) hin
            rw [b1, b3, d1, d3, ej, ix_nI (by omega), a.2.2.2.2.1 j (by omega), a.2.2.2.2.2 j (by omega)]
            rw [ej, ix_nI (by omega)] at fin
            exact ⟨d2, vp_in_nI (by omega) (by omega), b2, vp_in_nI (by omega) (by omega), fin⟩
  unfold w_M_exchange
  refine t_M_isIn ⟨fun z => ⟨M_K hM.1, t_M_isColumn hM.1 hM.2.2.1 hn ⟨fun y => B false (by rw [z, y]; rfl), fun y => B true ?_⟩⟩, fun z => B true ?_⟩
  · rw [show inb (w - 10) n = true from by simpa using y, Bool.or_true]
  · rw [show (decide (0 ≤ w) && decide (w ≤ 2)) = true from by simpa using z, Bool.true_or]
