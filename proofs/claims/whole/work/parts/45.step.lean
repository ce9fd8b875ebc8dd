/-! The first of the best walks within a strip -/
variable {h : Hp}
/-- the gains are within -99 .. 99 -/
def GB (f : Nat → Int32) (n : Nat) : Prop := ∀ c, c < n → -99 ≤ (f (24 + c)).toInt ∧ (f (24 + c)).toInt ≤ 99
theorem gt_toInt (a b : Int32) : (gt a b).toInt = max a.toInt b.toInt := by
  unfold gt
  by_cases e : a ≤ b
  · rw [if_pos e]
    rw [Int32.le_iff_toInt_le] at e
    omega
  · rw [if_neg e]
    rw [Int32.le_iff_toInt_le] at e
    omega
/-- the greatest of some values, if there is one that is no less than nothing -/
theorem rzC_hit {b : Nat → Bool} {v : Nat → Int32} : ∀ {n : Nat}, (∀ c, c < n → b c = true → -1000000000 ≤ (v c).toInt) → (∀ c, c < n → b c = true → (v c).toInt ≤ (rzC b v n).toInt) ∧ ((∃ c, c < n ∧ b c = true) → ∃ c, c < n ∧ b c = true ∧ rzC b v n = v c) ∧ -1000000000 ≤ (rzC b v n).toInt := by
  intro n
  induction n with
  | zero => intro _; exact ⟨fun c hc => absurd hc (Nat.not_lt_zero _), fun ⟨c, hc, _⟩ => absurd hc (Nat.not_lt_zero _), by show -1000000000 ≤ (-1000000000 : Int32).toInt; decide⟩
  | succ n ih =>
    intro hv
    obtain ⟨i1, i2, i3⟩ := ih (fun c hc => hv c (by omega))
    rw [rzC]
    cases e : b n
    · rw [if_neg (by decide)]
      refine ⟨fun c hc hb => ?_, fun ⟨c, hc, hb⟩ => ?_, i3⟩
      · by_cases g : c = n
        · rw [g, e] at hb; cases hb
        · exact i1 c (by omega) hb
      · obtain ⟨c', h1, h2⟩ := i2 ⟨c, by
          by_cases g : c = n
          · rw [g, e] at hb; cases hb
          · omega, hb⟩
        exact ⟨c', by omega, h2⟩
    · rw [if_pos rfl]
      have hn := hv n (by omega) e
      have hg := gt_toInt (rzC b v n) (v n)
      refine ⟨fun c hc hb => ?_, fun _ => ?_, by omega⟩
      · by_cases g : c = n
        · rw [g]; omega
        · have := i1 c (by omega) hb
          omega
      · by_cases g : ∃ c, c < n ∧ b c = true
        · obtain ⟨c, h1, h2, h3⟩ := i2 g
          unfold gt
          by_cases e2 : rzC b v n ≤ v n
          · rw [if_pos e2]; exact ⟨n, by omega, e, rfl⟩
          · rw [if_neg e2]; exact ⟨c, by omega, h2, h3⟩
        · refine ⟨n, by omega, e, ?_⟩
          have : rzC b v n = -1000000000 := by
            have : ∀ m, m ≤ n → rzC b v m = -1000000000 := by
              intro m
              induction m with
              | zero => intro _; rfl
              | succ m ih2 =>
                intro hm
                rw [rzC, if_neg (fun y => g ⟨m, by omega, y⟩)]
                exact ih2 (by omega)
            exact this n (Nat.le_refl _)
          rw [this]
          unfold gt
          rw [if_pos (by rw [Int32.le_iff_toInt_le]; exact hn)]
theorem smN_pos {F : Nat → Nat} : ∀ {n : Nat}, smN F n ≠ 0 ↔ ∃ c, c < n ∧ F c ≠ 0 := by
  intro n
  induction n with
  | zero => exact ⟨fun h => absurd rfl h, fun ⟨c, hc, _⟩ => absurd hc (Nat.not_lt_zero _)⟩
  | succ n ih =>
    rw [smN]
    constructor
    · intro hx
      by_cases e : F n = 0
      · obtain ⟨c, h1, h2⟩ := ih.mp (by omega)
        exact ⟨c, by omega, h2⟩
      · exact ⟨n, by omega, e⟩
    · rintro ⟨c, h1, h2⟩
      by_cases e : c = n
      · rw [e] at h2; omega
      · have := ih.mpr ⟨c, by omega, h2⟩
        omega
theorem vz_wz {f : Nat → Int32} {r n t w m : Nat} {S : Nat → Int} (hx : vz f r n t w m S ≠ 0) : inZ f r t w (t - m) S = true ∧ wz f r n t w m S ≠ 0 := by
  unfold vz at hx
  cases e : inZ f r t w (t - m) S
  · rw [e] at hx; exact absurd rfl hx
  · rw [e] at hx; exact ⟨rfl, hx⟩
theorem rz_bd {f : Nat → Int32} {r n t w : Nat} (hG : GB f n) : ∀ (m : Nat), m ≤ 12 → ∀ (S : Nat → Int), wz f r n t w m S ≠ 0 → -(99 * (m : Int)) ≤ (rz f r n t w m S).toInt ∧ (rz f r n t w m S).toInt ≤ 99 * (m : Int) := by
  intro m
  induction m with
  | zero =>
    intro _ S hx
    rw [wz] at hx
    rw [rz]
    cases e : ndZ f r S
    · rw [e] at hx; exact absurd rfl hx
    · rw [if_pos rfl]; decide
  | succ m ih =>
    intro hm S hx
    rw [wz_vz] at hx
    have hv : ∀ c, c < n → vz f r n t w m (stZ f S c) ≠ 0 → (f (24 + c) + rz f r n t w m (stZ f S c)).toInt = (f (24 + c)).toInt + (rz f r n t w m (stZ f S c)).toInt ∧ -(99 * (m : Int)) ≤ (rz f r n t w m (stZ f S c)).toInt ∧ (rz f r n t w m (stZ f S c)).toInt ≤ 99 * (m : Int) := fun c hc hb => by
      have h1 := ih (by omega) _ (vz_wz hb).2
      have h2 := hG c hc
      refine ⟨?_, h1⟩
      rw [Jvm.Kit.i32_add (by omega) (by omega)]
    obtain ⟨i1, i2, i3⟩ := rzC_hit (b := fun c => decide (vz f r n t w m (stZ f S c) ≠ 0)) (v := fun c => f (24 + c) + rz f r n t w m (stZ f S c)) (n := n) (fun c hc hb => by
      have hb : vz f r n t w m (stZ f S c) ≠ 0 := of_decide_eq_true hb
      have h1 := hv c hc hb
      have h2 := hG c hc
      rw [h1.1]
      omega)
    obtain ⟨c, hc, hb⟩ := smN_pos.mp hx
    obtain ⟨c, hc, hb, e⟩ := i2 ⟨c, hc, decide_eq_true hb⟩
    have hb : vz f r n t w m (stZ f S c) ≠ 0 := of_decide_eq_true hb
    have h1 := hv c hc hb
    have h2 := hG c hc
    rw [rz, e, h1.1]
    omega
/-- a step of a column is one of a best walk's -/
def bB (f : Nat → Int32) (r n t w m : Nat) (S : Nat → Int) (c : Nat) : Bool := decide (vz f r n t w m (stZ f S c) ≠ 0) && decide (f (24 + c) + rz f r n t w m (stZ f S c) = rz f r n t w (m + 1) S)
theorem bB_ex {f : Nat → Int32} {r n t w m : Nat} {S : Nat → Int} (hG : GB f n) (hm : m < 12) (hx : wz f r n t w (m + 1) S ≠ 0) : ∃ c, c < n ∧ bB f r n t w m S c = true := by
  rw [wz_vz] at hx
  obtain ⟨i1, i2, i3⟩ := rzC_hit (b := fun c => decide (vz f r n t w m (stZ f S c) ≠ 0)) (v := fun c => f (24 + c) + rz f r n t w m (stZ f S c)) (n := n) (fun c hc hb => by
    have hb : vz f r n t w m (stZ f S c) ≠ 0 := of_decide_eq_true hb
    have h1 := rz_bd hG m (by omega) _ (vz_wz hb).2
    have h2 := hG c hc
    rw [Jvm.Kit.i32_add (by omega) (by omega)]
    omega)
  obtain ⟨c, hc, hb⟩ := smN_pos.mp hx
  obtain ⟨c, hc, hb, e⟩ := i2 ⟨c, hc, decide_eq_true hb⟩
  refine ⟨c, hc, ?_⟩
  unfold bB
  rw [Bool.and_eq_true]
  exact ⟨hb, decide_eq_true (by rw [rz, e])⟩
/-- the first that is so -/
def fnd (F : Nat → Bool) : Nat → Nat → Nat
  | 0, c => c
  | k + 1, c => if F c then c else fnd F k (c + 1)
theorem fnd_sp {F : Nat → Bool} : ∀ (k c : Nat), (∃ i, c ≤ i ∧ i < c + k ∧ F i = true) → c ≤ fnd F k c ∧ fnd F k c < c + k ∧ F (fnd F k c) = true ∧ ∀ i, c ≤ i → i < fnd F k c → F i = false := by
  intro k
  induction k with
  | zero => rintro c ⟨i, h1, h2, _⟩; omega
  | succ k ih =>
    rintro c ⟨i, h1, h2, h3⟩
    rw [fnd]
    cases e : F c
    · rw [if_neg (by decide)]
      obtain ⟨g1, g2, g3, g4⟩ := ih (c + 1) ⟨i, by
        by_cases g : i = c
        · rw [g, e] at h3; cases h3
        · omega, by omega, h3⟩
      refine ⟨by omega, by omega, g3, fun j j1 j2 => ?_⟩
      by_cases g : j = c
      · rw [g]; exact e
      · exact g4 j (by omega) j2
    · rw [if_pos rfl]
      exact ⟨Nat.le_refl _, by omega, e, fun j j1 j2 => by omega⟩
/-- the column of the next step -/
def bsC (f : Nat → Int32) (r n t w m : Nat) (S : Nat → Int) : Nat := fnd (bB f r n t w m S) n 0
/-- the sum behind so many steps of the first best walk -/
def swk (f : Nat → Int32) (r n t w : Nat) : Nat → (Nat → Int)
  | 0 => fun _ => 0
  | l + 1 => stZ f (swk f r n t w l) (bsC f r n t w (t - l - 1) (swk f r n t w l))
theorem bB_congr {f : Nat → Int32} {r n t w m : Nat} {S T : Nat → Int} (hz : ∀ j, j < r → S j = T j) (c : Nat) : bB f r n t w m S c = bB f r n t w m T c := by
  unfold bB
  rw [vz_congr (stZ_congr hz c), rz_congr _ (stZ_congr hz c), rz_congr _ hz]
theorem t_M_isBestStep {f : Nat → Int32} {r n t w l i c : Nat} {Q : Bool → Hp → Prop} (hM : Mrc h r n) (hf : gI h 86 = f) (hF : FB f n) (hN : NB f) (ht : t ≤ 12) (hw : w ≤ 12) (o : CV f r n t w h) (hl : l < t) (hi : i < (lay f r n t w l).length) (hc : c < n)
    (hq : ∀ h', Fr [92] [] [] [] h h' → Q (bB f r n t w (t - l - 1) (Zk ((lay f r n t w l).getD i 0)) c) h') : w_M_isBestStep 81 (nI (off (lay f r n t w) l + i)) (nI l) (nI c) h Q := by
  have hn := hM.2.2.2.2.2
  obtain ⟨m', hm'⟩ : ∃ m', t - l = m' + 1 := ⟨t - l - 1, by omega⟩
  have hm2 : t - m' = l + 1 := by omega
  have hm3 : t - (l + 1) = m' := by omega
  have hm4 : t - l - 1 = m' := by omega
  rw [hm4] at hq
  have o4 := o.2.2.2.1
  unfold w_M_isBestStep
  refine ⟨M_K hM.1, LC_behind hM hf hF hN ht hw o4 hl hi hc (fun h2 f2 z2 => ⟨fun _ => ?_, fun z => absurd (by decide) z⟩) (fun h2 i' f2 z2 hi' ek hz => ?_)⟩
  · have v0 : vz f r n t w m' (stZ f (Zk ((lay f r n t w l).getD i 0)) c) = 0 := by
      unfold vz
      rw [hm2, z2]
      rfl
    have := hq h2 f2
    unfold bB at this
    rw [v0] at this
    exact this
  · have hM2 := fr_Mrc f2 (by decide) (by decide) (by decide) hM
    have hb := LC_key hM.1 hn hF ht o4 (by omega) hi
    have hb2 := LC_key (l := l + 1) (i := i') hM.1 hn hF ht o4 (by omega) hi'
    obtain ⟨a1, a2, a3⟩ := M_ways hM2.1
    obtain ⟨b1, b2, b3⟩ := M_rest hM2.1
    have dj := W1_fr (o.2.2.2.2 (l + 1) i' (by omega) hi') f2
    have di := W1_fr (o.2.2.2.2 l i (by omega) hi) f2
    unfold W1 at dj di
    rw [hm3, wz_congr _ hz, rz_congr _ hz] at dj
    rw [hm'] at di
    have vv : vz f r n t w m' (stZ f (Zk ((lay f r n t w l).getD i 0)) c) = wz f r n t w m' (stZ f (Zk ((lay f r n t w l).getD i 0)) c) := by
      unfold vz
      rw [hm2, z2]
      rfl
    have vl := wz_lt (f := f) (r := r) (t := t) (w := w) (m := m') hn (by omega) (stZ f (Zk ((lay f r n t w l).getD i 0)) c)
    have hq := hq h2 f2
    unfold bB at hq
    rw [vv] at hq
    rw [a1, a3, ix_nI (n := off (lay f r n t w) (l + 1) + i') (by omega), dj.1]
    refine ⟨fun z => absurd z (nI_pos (by omega)), fun _ => ⟨M_K hM2.1, a2, vp_in_nI (by omega) (by omega), fun z => ?_, fun z => ?_⟩⟩
    · have v0 := (lN_le0 (by omega)).mp z
      rw [v0] at hq
      exact hq
    · rw [decide_eq_true (show wz f r n t w m' (stZ f (Zk ((lay f r n t w l).getD i 0)) c) ≠ 0 from fun g => z ((lN_le0 (by omega)).mpr g)), Bool.true_and] at hq
      refine t_M_gainOf hM2.1 (by omega) ?_
      rw [b1, b3, ix_nI (n := off (lay f r n t w) l + i) (by omega), dj.2, di.2, fr_I f2 (x := 86) (by decide) (by decide), hf]
      refine ⟨M_K hM2.1, b2, vp_in_nI (by omega) (by omega), vp_in_nI (by omega) (by omega), fun y => ?_, fun y => ?_⟩
      · rw [decide_eq_true y] at hq; exact hq
      · rw [decide_eq_false y] at hq; exact hq
theorem t_M_step {f : Nat → Int32} {r n : Nat} {t w v : Int32} {Q : Int32 → Hp → Prop} (hM : Mrc h r n) (hf : gI h 86 = f) (hF : FB f n) (hN : NB f) (hG : GB f n) (hV : SV f r n h) (hq0 : (isSt t w && (decide (0 ≤ v) && decide (v ≤ t - 1))) = false → Q (-1) h)
    (hq : ∀ h' t' w' i, t' ≤ 12 → w' ≤ 12 → i < t' → t = nI t' → w = nI w' → v = nI i → Fr [92, 93, 94, 95, 96] [38, 39, 40, 41] [97] [] h h' → CV f r n t' w' h' → Q (if wz f r n t' w' t' (fun _ => 0) = 0 then -1 else nI (bsC f r n t' w' (t' - i - 1) (swk f r n t' w' i))) h') : w_M_step 81 t w v h Q := by
  have hn := hM.2.2.2.2.2
  unfold w_M_step
  unfold isSt at hq0
  refine t_M_isStrip ⟨fun z => hq0 (by rw [z]; rfl), fun z => t_M_isIn ⟨fun z2 => hq0 (by rw [z2, Bool.and_false]), fun z2 => ⟨M_K hM.1, ?_⟩⟩⟩
  obtain ⟨t', w', ht, hw, rfl, rfl⟩ := isStrip_nI z
  have z2 := ntf z2
  rw [isIn_inb (by omega)] at z2
  obtain ⟨i, hi, rfl⟩ := inb_ex (by omega) z2
  refine t_M_laysStrip hM hf hF hN ht hw hV (fun h2 f2 c2 => ?_)
  have hM2 := fr_Mrc f2 (by decide) (by decide) (by decide) hM
  obtain ⟨a1, a2, a3⟩ := M_ways hM2.1
  have hq := fun h' f' c' => hq h' t' w' i ht hw hi rfl rfl rfl f' c'
  have vl := wz_lt (f := f) (r := r) (t := t') (w := w') (m := t') hn ht (fun _ => 0)
  rw [a1, a3, show ix (0 : Int32) = 0 from rfl, (CV_0 c2).1]
  refine ⟨M_K hM2.1, a2, vp_in_nI (n := 0) (by omega) (by omega), fun z4 => ?_, fun z4 => ?_⟩
  · have := hq h2 f2 c2
    rw [if_pos ((lN_e0 (by omega)).mp z4)] at this
    exact this
  · have e0 : wz f r n t' w' t' (fun _ => 0) ≠ 0 := fun g => z4 ((lN_e0 (by omega)).mpr g)
    refine loop_0 (fun m l (x : Int32 × Int32 × Hp) => w_M_step_L49 Q 81 (nI i) m x.1 x.2.1 (nI l) x.2.2) (fun l x => Fr [92, 93, 94, 95, 96] [38, 39, 40, 41] [97] [] h x.2.2 ∧ CV f r n t' w' x.2.2 ∧ (∃ q, q < (lay f r n t' w' l).length ∧ x.1 = nI (off (lay f r n t' w') l + q) ∧ ∀ j, j < r → Zk ((lay f r n t' w' l).getD q 0) j = swk f r n t' w' l j) ∧ wz f r n t' w' (t' - l) (swk f r n t' w' l) ≠ 0 ∧ (1 ≤ l → x.2.1 = nI (bsC f r n t' w' (t' - l) (swk f r n t' w' (l - 1))))) (i + 1) (0, 0, h2) ⟨f2, c2, ⟨0, by rw [lay]; decide, rfl, fun j _ => ?_⟩, e0, fun g => by omega⟩ ?_ ?_
    · show ((upk (kNo 60 60 60) j : Nat) : Int) - 60 = 0
      rw [upk_0]
      rfl
    · rintro m ⟨x1, x2, s⟩ ⟨g1, g2, g3, g4, g5⟩
      have g5 := g5 (by omega)
      dsimp only at g1 g2 g5 ⊢
      unfold w_M_step_L49
      refine ⟨fun _ => ?_, fun z => absurd (nI_lt (by omega) (by omega)) z⟩
      have := hq s g1 g2
      rw [if_neg e0] at this
      rw [g5]
      exact this
    · rintro m l ⟨x1, x2, s⟩ hl ⟨g1, g2, ⟨q, q1, q2, q3⟩, g4, g5⟩ ih
      dsimp only at g1 g2 q2 ⊢
      subst q2
      obtain ⟨m', hm'⟩ : ∃ m', t' - l = m' + 1 := ⟨t' - l - 1, by omega⟩
      have hm4 : t' - l - 1 = m' := by omega
      have hm5 : t' - (l + 1) = m' := by omega
      rw [hm'] at g4
      obtain ⟨c0, hc0, hb0⟩ := bB_ex hG (by omega) g4
      obtain ⟨p1, p2, p3, p4⟩ := fnd_sp (F := bB f r n t' w' m' (swk f r n t' w' l)) n 0 ⟨c0, Nat.zero_le _, by omega, hb0⟩
      have hbs : fnd (bB f r n t' w' m' (swk f r n t' w' l)) n 0 = bsC f r n t' w' m' (swk f r n t' w' l) := rfl
      rw [hbs] at p2 p3 p4
      unfold w_M_step_L49
      refine ⟨fun z => absurd z (nI_nlt (by omega) (by omega)), fun _ => ?_⟩
      refine loop_0 (fun m' c s => w_M_step_L58 Q (w_M_step_L49 Q 81 (nI i) m) 81 (nI i) (nI (off (lay f r n t' w') l + q)) (nI l) m' (nI c) s) (fun c s => Fr [92, 93, 94, 95, 96] [38, 39, 40, 41] [97] [] h s ∧ CV f r n t' w' s) (bsC f r n t' w' m' (swk f r n t' w' l)) s ⟨g1, g2⟩ ?_ ?_
      · rintro m2 s2 ⟨k1, k2⟩
        have hM3 := fr_Mrc k1 (by decide) (by decide) (by decide) hM
        have hf3 := (fr_I k1 (x := 86) (by decide) (by decide)).trans hf
        unfold w_M_step_L58
        refine ⟨M_K hM3.1, t_M_isBestStep hM3 hf3 hF hN ht hw k2 (by omega) q1 (by omega) (fun h4 f4 => ?_)⟩
        rw [bB_congr q3, hm4, p3]
        have k3 := fr_trans k1 (fr_mono (as' := [92, 93, 94, 95, 96]) (fs' := [38, 39, 40, 41]) (js' := [97]) (gs' := []) f4 (by simp) (by simp) (by simp) (by simp))
        have k4 := CV_fr k2 f4 (by decide) (by decide) (by decide) (by decide) (by decide) (by decide) (by decide) (by decide) (by decide) (by decide)
        have hM4 := fr_Mrc k3 (by decide) (by decide) (by decide) hM
        have hf4 := (fr_I k3 (x := 86) (by decide) (by decide)).trans hf
        have vb : vz f r n t' w' m' (stZ f (swk f r n t' w' l) (bsC f r n t' w' m' (swk f r n t' w' l))) ≠ 0 := by
          unfold bB at p3
          rw [Bool.and_eq_true] at p3
          exact of_decide_eq_true p3.1
        obtain ⟨vb1, vb2⟩ := vz_wz vb
        refine ⟨fun z => absurd z (by decide), fun _ => ⟨M_K hM4.1, LC_behind hM4 hf4 hF hN ht hw k4.2.2.2.1 (by omega) q1 (by omega) (fun h5 f5 z5 => ?_) (fun h5 q' f5 z5 hq' ek hz => ?_)⟩⟩
        · rw [inZ_congr (stZ_congr q3 _), show l + 1 = t' - m' from by omega, vb1] at z5
          cases z5
        · rw [nI_1]
          refine ih (nI (off (lay f r n t' w') (l + 1) + q'), nI (bsC f r n t' w' m' (swk f r n t' w' l)), h5) ⟨fr_trans k3 (fr_mono f5 (by simp) (by simp) (by simp) (by simp)), CV_fr k4 f5 (by decide) (by decide) (by decide) (by decide) (by decide) (by decide) (by decide) (by decide) (by decide) (by decide), ⟨q', hq', rfl, fun j hj => ?_⟩, ?_, fun _ => ?_⟩
          · rw [hz j hj, swk, hm4]
            exact stZ_congr q3 _ j hj
          · rw [hm5, swk, hm4]
            exact vb2
          · rw [hm5]
            rfl
      · rintro m2 c s2 hc ⟨k1, k2⟩ ih2
        have hM3 := fr_Mrc k1 (by decide) (by decide) (by decide) hM
        have hf3 := (fr_I k1 (x := 86) (by decide) (by decide)).trans hf
        unfold w_M_step_L58
        refine ⟨M_K hM3.1, t_M_isBestStep hM3 hf3 hF hN ht hw k2 (by omega) q1 (by omega) (fun h4 f4 => ?_)⟩
        rw [bB_congr q3, hm4, p4 c (Nat.zero_le _) hc, nI_1]
        have k3 := fr_trans k1 (fr_mono (as' := [92, 93, 94, 95, 96]) (fs' := [38, 39, 40, 41]) (js' := [97]) (gs' := []) f4 (by simp) (by simp) (by simp) (by simp))
        have k4 := CV_fr k2 f4 (by decide) (by decide) (by decide) (by decide) (by decide) (by decide) (by decide) (by decide) (by decide) (by decide)
        exact ⟨fun _ => ih2 h4 ⟨k3, k4⟩, fun z => absurd rfl z⟩
