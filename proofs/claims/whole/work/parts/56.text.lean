/-! The reference's text: fed, cut, read -/
variable {h : Hp}
/-- a text is taken over -/
def TO (s : PSt) (h : Hp) : Prop := (∀ k, k < 44 → gI h 84 k = s.2.1 k) ∧ (∀ k, k < 44 → gI h 86 k = s.2.1 k) ∧ gI h 81 17 = nI s.2.2.1 ∧ gI h 81 18 = nI s.2.2.2.1.length ∧ gI h 81 24 = 0 ∧ gI h 81 25 = 0 ∧ gI h 81 73 = 0 ∧ gI h 81 41 = 0 ∧ gI h 119 0 = 0 ∧ gI h 119 1 = 0
theorem t_M_program {B : Nat → Int32} {N : Nat} {Q : Int32 → Hp → Prop} (hM : MS h) (hN : N ≤ 700) (h1 : gI h 81 1 = nI N) (hB : ∀ i, i < N → gI h 82 i = B i ∧ 0 ≤ B i)
    (hq1 : ∀ s h', prog B N = .ok s → dS B N s → Fr [83, 84, 86, 119] [1, 2, 3, 4, 5, 6, 7, 8, 9, 10, 15, 16, 17, 18, 19, 20, 21, 24, 25, 41, 73] [85] [11] h h' → TO s h' → gI h' 81 1 = 0 → gI h' 81 9 = 0 → gI h' 81 10 = -1 → Q (nI s.2.2.2.1.length) h')
    (hq2 : ∀ e h', prog B N = .error e → Fr [83] [1, 2, 3, 4, 5, 6, 7, 8, 9, 10, 15, 16, 19, 20, 21] [85] [11] h h' → gI h' 81 1 = 0 → gI h' 81 9 = nI e.1 → gI h' 81 10 = nI e.2 → Q (-1) h') : w_M_program 81 h Q := by
  unfold w_M_program
  refine ⟨M_K hM, ?_⟩
  rw [h1]
  have f0 : Fr [] [1, 2, 3, 7, 8] [] [] h (sI (sI (sI (sI (sI h 81 2 (nI N)) 81 1 0) 81 3 0) 81 7 0) 81 8 (-1)) := fr_trans (fr_trans (fr_trans (fr_trans (fr_sI _ _ (Or.inr ⟨rfl, by simp⟩)) (fr_sI _ _ (Or.inr ⟨rfl, by simp⟩))) (fr_sI _ _ (Or.inr ⟨rfl, by simp⟩))) (fr_sI _ _ (Or.inr ⟨rfl, by simp⟩))) (fr_sI _ _ (Or.inr ⟨rfl, by simp⟩))
  have e2 : gI (sI (sI (sI (sI (sI h 81 2 (nI N)) 81 1 0) 81 3 0) 81 7 0) 81 8 (-1)) 81 2 = nI N := by rw [gI_sI, if_neg (by decide), gI_sI, if_neg (by decide), gI_sI, if_neg (by decide), gI_sI, if_neg (by decide), gI_sI, if_pos ⟨rfl, rfl⟩]
  have e1 : gI (sI (sI (sI (sI (sI h 81 2 (nI N)) 81 1 0) 81 3 0) 81 7 0) 81 8 (-1)) 81 1 = 0 := by rw [gI_sI, if_neg (by decide), gI_sI, if_neg (by decide), gI_sI, if_neg (by decide), gI_sI, if_pos ⟨rfl, rfl⟩]
  have e3 : gI (sI (sI (sI (sI (sI h 81 2 (nI N)) 81 1 0) 81 3 0) 81 7 0) 81 8 (-1)) 81 3 = 0 := by rw [gI_sI, if_neg (by decide), gI_sI, if_neg (by decide), gI_sI, if_pos ⟨rfl, rfl⟩]
  have e7 : gI (sI (sI (sI (sI (sI h 81 2 (nI N)) 81 1 0) 81 3 0) 81 7 0) 81 8 (-1)) 81 7 = 0 := by rw [gI_sI, if_neg (by decide), gI_sI, if_pos ⟨rfl, rfl⟩]
  have e8 : gI (sI (sI (sI (sI (sI h 81 2 (nI N)) 81 1 0) 81 3 0) 81 7 0) 81 8 (-1)) 81 8 = -1 := by rw [gI_sI, if_pos ⟨rfl, rfl⟩]
  revert f0 e2 e1 e3 e7 e8
  generalize sI (sI (sI (sI (sI h 81 2 (nI N)) 81 1 0) 81 3 0) 81 7 0) 81 8 (-1) = h1'
  intro f0 e2 e1 e3 e7 e8
  have hM1 := fr_MS f0 hM
  refine t_M_begins hM1 (fun h2 f2 t2 e15 e16 e19 e20 e21 => ?_)
  have hM2 := fr_MS f2 hM1
  have o2 : TX B N h2 := ⟨hN, (fr_F f2 (by decide) (by decide)).trans e2, fun i hi => by rw [fr_I f2 (x := 82) (by decide) (by decide), fr_I f0 (x := 82) (by decide) (by decide)]; exact hB i hi⟩
  have h72 : gI h2 81 7 = 0 := (fr_F f2 (by decide) (by decide)).trans e7
  have h82 : gI h2 81 8 = -1 := (fr_F f2 (by decide) (by decide)).trans e8
  have h12 : gI h2 81 1 = 0 := (fr_F f2 (by decide) (by decide)).trans e1
  have f02 : Fr [83] [1, 2, 3, 4, 5, 6, 7, 8, 9, 10, 15, 16, 19, 20, 21] [85] [11] h h2 := fr_trans (fr_mono f0 (by simp) (by simp) (by simp) (by simp)) (fr_mono f2 (by simp) (by simp) (by simp) (by simp))
  refine ⟨M_K hM2, t_M_goOn hM2 o2 ((fr_F f2 (by decide) (by decide)).trans e3) (Nat.zero_le _) (fun h3 f3 r3 => ?_)⟩
  have al : AL B N h2 s0L h3 := by
    refine ⟨⟨Nat.zero_le _, by decide, by decide, by decide, fun w hw => absurd hw List.not_mem_nil⟩, ⟨fr_mono f3 (by simp) (by simp) (by simp) (by simp), fun k hk => ?_, ?_, ?_, fun i hi => absurd hi (Nat.not_lt_zero _), ?_, ?_, ?_⟩, r3, (fr_F f3 (by decide) (by decide)).trans h72, fr_F f3 (by decide) (by decide)⟩
    · rw [fr_I f3 (x := 83) (by decide) (by decide)]; exact t2 k hk
    · rw [fr_F f3 (by decide) (by decide)]; exact e15
    · rw [fr_F f3 (by decide) (by decide)]; exact e16
    · rw [fr_F f3 (by decide) (by decide)]; exact e19
    · rw [fr_F f3 (by decide) (by decide)]; exact e20
    · rw [fr_F f3 (by decide) (by decide)]; exact e21
  have endd : ∀ (x : Except ER PSt) (h4 : Hp), prog B N = x → OX B N h2 x h4 → w_M_program_B57 Q 81 h4 := by
    intro x h4 hx ox
    cases x with
    | error e =>
      have d := ox.2 e rfl
      have hM4 := fr_MS d.1 hM2
      unfold w_M_program_B57
      refine ⟨M_K hM4, fun z => ?_, fun z => ?_⟩
      · rw [gI_sI, if_neg (by decide), gI_sI, if_neg (by decide)] at z
        exact absurd z (DE_pos d.2).1
      · refine hq2 e _ hx (fr_trans (fr_trans (fr_trans f02 (fr_mono d.1 (by simp) (by simp) (by simp) (by simp))) (fr_sI _ _ (Or.inr ⟨rfl, by simp⟩))) (fr_sI _ _ (Or.inr ⟨rfl, by simp⟩))) ?_ ?_ ?_
        · rw [gI_sI, if_neg (by decide), gI_sI, if_neg (by decide), fr_F d.1 (by decide) (by decide)]; exact h12
        · rw [gI_sI, if_neg (by decide), gI_sI, if_pos ⟨rfl, rfl⟩]; exact d.2.1
        · rw [gI_sI, if_pos ⟨rfl, rfl⟩, gI_sI, if_neg (by decide)]; exact d.2.2.1
    | ok s =>
      obtain ⟨xs, xd, xr, x7, x8⟩ := ox.1 s rfl
      have hM4 := fr_MS xd.1 hM2
      have f5 : Fr [] [9, 10] [] [] h4 (sI (sI h4 81 9 (gI h4 81 7)) 81 10 (gI (sI h4 81 9 (gI h4 81 7)) 81 8)) := fr_trans (fr_sI _ _ (Or.inr ⟨rfl, by simp⟩)) (fr_sI _ _ (Or.inr ⟨rfl, by simp⟩))
      have hM5 := fr_MS f5 hM4
      have k9 : gI (sI (sI h4 81 9 (gI h4 81 7)) 81 10 (gI (sI h4 81 9 (gI h4 81 7)) 81 8)) 81 9 = 0 := by rw [gI_sI, if_neg (by decide), gI_sI, if_pos ⟨rfl, rfl⟩]; exact x7
      have k10 : gI (sI (sI h4 81 9 (gI h4 81 7)) 81 10 (gI (sI h4 81 9 (gI h4 81 7)) 81 8)) 81 10 = -1 := by rw [gI_sI, if_pos ⟨rfl, rfl⟩, gI_sI, if_neg (by decide), x8]; exact h82
      unfold w_M_program_B57
      refine ⟨M_K hM4, fun z => ?_, fun z => ?_⟩
      · refine t_M_takesOver hM5 (fun h6 f6 q1 q2 q3 q4 q5 q6 q7 q8 q9 q10 => ?_)
        have hM6 := fr_MS f6 hM5
        obtain ⟨a1, a2, a3, a4, a5, a6, a7, a8⟩ := xd
        have e18 : gI h6 81 18 = nI s.2.2.2.1.length := by rw [q4, fr_F f5 (by decide) (by decide)]; exact a4
        rw [e18]
        refine ⟨M_K hM6, hq1 s h6 hx xs (fr_trans (fr_trans (fr_trans (fr_mono f02 (by simp) (by simp) (by simp) (by simp)) (fr_mono a1 (by simp) (by simp) (by simp) (by simp))) (fr_mono f5 (by simp) (by simp) (by simp) (by simp))) (fr_mono f6 (by simp) (by simp) (by simp) (by simp))) ⟨fun k hk => ?_, fun k hk => ?_, ?_, e18, q5, q6, q7, q8, q9, q10⟩ ?_ ?_ ?_⟩
        · rw [q1 k hk, fr_I f5 (x := 83) (by decide) (by decide)]; exact a2 k hk
        · rw [q2 k hk, fr_I f5 (x := 83) (by decide) (by decide)]; exact a2 k hk
        · rw [q3, fr_F f5 (by decide) (by decide)]; exact a3
        · rw [fr_F f6 (by decide) (by decide), fr_F f5 (by decide) (by decide), fr_F a1 (by decide) (by decide)]; exact h12
        · rw [fr_F f6 (by decide) (by decide)]; exact k9
        · rw [fr_F f6 (by decide) (by decide)]; exact k10
      · rw [gI_sI, if_neg (by decide), gI_sI, if_neg (by decide), x7] at z
        exact absurd (Int32.le_refl _) z
  have run : ∀ k s h4, AL B N h2 s h4 → N < s.1 + k → prgL B N k s = prog B N → w_M_program_L36 Q 81 (k + 1) h4 := by
    intro k
    induction k with
    | zero => intro s h4 a hk; exact absurd a.1.1 (by omega)
    | succ k ih =>
      intro s h4 a hk hp
      have hM4 := fr_MS a.2.1.1 hM2
      have hkd := kd_6 B N s.1
      unfold w_M_program_L36
      refine ⟨M_K hM4, t_M_isGood hM4 a.2.2.2.1 ⟨fun g => absurd g (by decide), fun _ => ⟨M_K hM4, ?_⟩⟩⟩
      rw [a.2.2.1.2.2.1]
      rw [prgL] at hp
      refine ⟨fun z => ?_, fun z => ?_⟩
      · rw [if_pos ((nI_eq (b := 0) (by omega) (by omega)).mp z)] at hp
        exact endd _ h4 hp.symm (OX_ok rfl a)
      · rw [if_neg (fun g => z (by rw [g]; rfl))] at hp
        refine t_M_line hM2 o2 a (fun h5 ox => ?_)
        cases e : lineL B N s with
        | error e' =>
          rw [e] at hp ox
          have d := ox.2 e' rfl
          have hM5 := fr_MS d.1 hM2
          unfold w_M_program_L36
          exact ⟨M_K hM5, t_M_isGood_d hM5 d.2 ⟨fun _ => endd _ h5 hp.symm ox, fun g => absurd rfl g⟩⟩
        | ok x =>
          rw [e] at hp ox
          have := (lineL_sp a.1 e).2
          exact ih x h5 (ox.1 x rfl) (by omega) hp
  exact ⟨N + 2, run (N + 1) s0L h3 al (by show N < 0 + (N + 1); omega) rfl⟩
theorem t_M_end {N : Nat} {v : Int32} {Q : Int32 → Hp → Prop} (hM : MS h) (h1 : gI h 81 1 = nI N) (hN : N ≤ 700) (hq0 : (decide (0 ≤ v) && decide (v ≤ nI N)) = false → Q (-1) h) (hq : ∀ n, n ≤ N → v = nI n → Q v (sI h 81 1 v)) : w_M_end 81 v h Q := by
  unfold w_M_end
  rw [h1]
  refine ⟨M_K hM, t_M_isIn ⟨fun z => hq0 z, fun z => ⟨M_K hM, ?_⟩⟩⟩
  obtain ⟨n, hn, e⟩ := in_nI (k := N) (v := v) (M := nI N) (nI_toInt (by omega)) z
  exact hq n hn e
/-- four bytes more -/
def fd4 (B : Nat → Int32) (N : Nat) (v : Int32) : Nat → Int32 := fun i => if i = N then jshr v 24 &&& 255 else if i = N + 1 then jshr v 16 &&& 255 else if i = N + 2 then jshr v 8 &&& 255 else if i = N + 3 then jshr v 0 &&& 255 else B i
theorem t_M_four {B : Nat → Int32} {N : Nat} {v : Int32} {Q : Hp → Prop} (hM : MS h) (h1 : gI h 81 1 = nI N) (hN : N + 4 ≤ 700) (hB : ∀ i, i < N → gI h 82 i = B i) (hq : ∀ h', Fr [82] [1] [] [] h h' → gI h' 81 1 = nI (N + 4) → (∀ i, i < N + 4 → gI h' 82 i = fd4 B N v i) → Q h') : w_M_four 81 v h Q := by
  obtain ⟨a1, a2, a3⟩ := M_tape hM
  have st : ∀ (m n : Nat) (sh : Int32) (B' : Nat → Int32) (s : Hp), Fr [82] [1] [] [] h s → gI s 81 1 = nI n → n < 700 → ¬ sh < 0 → (∀ s', Fr [82] [1] [] [] h s' → gI s' 81 1 = nI (n + 1) → (∀ i, gI s' 82 i = if i = n then jshr v sh &&& 255 else gI s 82 i) → w_M_four_L3 Q 81 v m (sh + (-8)) s') → w_M_four_L3 Q 81 v (m + 1) sh s := by
    intro m n sh B' s f e hn hs ih
    unfold w_M_four_L3
    refine ⟨fun z => absurd z hs, fun _ => ?_⟩
    rw [fr_K f, fr_R f, fr_N f, a1, a3, e, ix_nI (by omega), gI_sI, if_neg (fun y => absurd y.1 (by decide)), e, nI_1]
    refine ⟨M_K hM, a2, vp_in_nI (by omega) (by omega), ih _ (fr_trans f (fr_trans (fr_sI _ _ (Or.inl (by simp))) (fr_sI _ _ (Or.inr ⟨rfl, by simp⟩)))) ?_ (fun i => ?_)⟩
    · rw [gI_sI, if_pos ⟨rfl, rfl⟩]
    · rw [gI_sI, if_neg (fun y => absurd y.1 (by decide)), gI_sI]
      by_cases g : i = n
      · rw [if_pos ⟨rfl, g⟩, if_pos g]
      · rw [if_neg (fun y => g y.2), if_neg g]
  unfold w_M_four
  refine ⟨5, st 4 N 24 B h (fr_refl _ _ _ _ _) h1 (by omega) (by decide) (fun s1 f1 e1 g1 => ?_)⟩
  refine st 3 (N + 1) 16 B s1 f1 e1 (by omega) (by decide) (fun s2 f2 e2 g2 => ?_)
  refine st 2 (N + 2) 8 B s2 f2 e2 (by omega) (by decide) (fun s3 f3 e3 g3 => ?_)
  refine st 1 (N + 3) 0 B s3 f3 e3 (by omega) (by decide) (fun s4 f4 e4 g4 => ?_)
  unfold w_M_four_L3
  refine ⟨fun _ => hq s4 f4 e4 (fun i hi => ?_), fun z => absurd (by decide) z⟩
  rw [g4, g3, g2, g1]
  unfold fd4
  by_cases i0 : i = N
  · rw [if_neg (by omega), if_neg (by omega), if_neg (by omega), if_pos i0, if_pos i0]
  · rw [if_neg i0, if_neg i0]
    by_cases i1 : i = N + 1
    · rw [if_neg (by omega), if_neg (by omega), if_pos i1, if_pos i1]
    · rw [if_neg i1, if_neg i1]
      by_cases i2 : i = N + 2
      · rw [if_neg (by omega), if_pos i2, if_pos i2]
      · rw [if_neg i2, if_neg i2]
        by_cases i3 : i = N + 3
        · rw [if_pos i3, if_pos i3]
        · rw [if_neg i3, if_neg i3]
          exact hB i (by omega)
def fd20 (B : Nat → Int32) (N : Nat) (a b c d e : Int32) : Nat → Int32 := fd4 (fd4 (fd4 (fd4 (fd4 B N a) (N + 4) b) (N + 8) c) (N + 12) d) (N + 16) e
theorem t_M_feed {B : Nat → Int32} {N : Nat} {a b c d e : Int32} {Q : Int32 → Hp → Prop} (hM : MS h) (h1 : gI h 81 1 = nI N) (hN : N ≤ 700) (hB : ∀ i, i < N → gI h 82 i = B i) (hq0 : 700 < N + 20 → Q (-1) h) (hq : ∀ h', N + 20 ≤ 700 → Fr [82] [1] [] [] h h' → gI h' 81 1 = nI (N + 20) → (∀ i, i < N + 20 → gI h' 82 i = fd20 B N a b c d e i) → Q (nI (N + 20)) h') : w_M_feed 81 a b c d e h Q := by
  unfold w_M_feed
  rw [h1, show (20 : Int32) = nI 20 from rfl, nI_add]
  refine ⟨M_K hM, fun z => ?_, fun z => hq0 (Nat.lt_of_not_le (fun g => z (nI_le (b := 700) g (by omega))))⟩
  have hl := (nI_leI (b := 700) (by omega) (by omega)).mp z
  refine t_M_four hM h1 (by omega) hB (fun s1 f1 e1 g1 => ⟨M_K (fr_MS f1 hM), ?_⟩)
  refine t_M_four (fr_MS f1 hM) e1 (by omega) g1 (fun s2 f2 e2 g2 => ⟨M_K (fr_MS f2 (fr_MS f1 hM)), ?_⟩)
  have f12 := fr_trans f1 f2
  refine t_M_four (fr_MS f12 hM) e2 (by omega) g2 (fun s3 f3 e3 g3 => ?_)
  have f13 := fr_trans f12 f3
  refine ⟨M_K (fr_MS f13 hM), t_M_four (fr_MS f13 hM) e3 (by omega) g3 (fun s4 f4 e4 g4 => ?_)⟩
  have f14 := fr_trans f13 f4
  refine ⟨M_K (fr_MS f14 hM), t_M_four (fr_MS f14 hM) e4 (by omega) g4 (fun s5 f5 e5 g5 => ?_)⟩
  have f15 := fr_trans f14 f5
  refine ⟨M_K (fr_MS f15 hM), ?_⟩
  rw [e5]
  exact hq s5 (by omega) f15 e5 g5
