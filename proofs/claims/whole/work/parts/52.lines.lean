/-! The reference reads numbers -/
variable {h : Hp}
def DE (e : ER) (h : Hp) : Prop := gI h 81 7 = nI e.1 ∧ gI h 81 8 = nI e.2 ∧ 1 ≤ e.1 ∧ e.1 < 10
theorem DE_fr {e : ER} {as fs js gs : List Nat} {h' : Hp} (d : DE e h) (f : Fr as fs js gs h h') (h1 : 81 ∉ as) (h2 : 7 ∉ fs) (h3 : 8 ∉ fs) : DE e h' := ⟨(fr_F f h1 h2).trans d.1, (fr_F f h1 h3).trans d.2.1, d.2.2⟩
theorem DE_pos {e : ER} (d : DE e h) : ¬ gI h 81 7 ≤ 0 ∧ ¬ gI h 81 7 = 0 := by
  have := d.2.2
  rw [d.1]
  exact ⟨nI_nle (by omega) (by omega), nI_ne0 (by omega) (by omega)⟩
theorem t_M_wrong {B : Nat → Int32} {N p k : Nat} {Q : Hp → Prop} (hM : MS h) (hR : RT B N p h) (h7 : gI h 81 7 = 0) (hk : 1 ≤ k) (hk2 : k < 10) (hq : ∀ h', Fr [] [7, 8] [] [] h h' → DE (er B N p k) h' → Q h') : w_M_wrong 81 (nI k) h Q := by
  have bd := er_bd B N p k hk hk2
  have fin : ∀ v, v = nI (er B N p k).1 → Q (sI (sI h 81 7 v) 81 8 (gI (sI h 81 7 v) 81 4)) := fun v hv => by
    refine hq _ (fr_trans (fr_sI _ _ (Or.inr ⟨rfl, by simp⟩)) (fr_sI _ _ (Or.inr ⟨rfl, by simp⟩))) ⟨?_, ?_, bd⟩
    · rw [gI_sI, if_neg (by decide), gI_sI, if_pos ⟨rfl, rfl⟩]; exact hv
    · rw [gI_sI, if_pos ⟨rfl, rfl⟩, gI_sI, if_neg (by decide)]; exact hR.2.1
  have hkd : kd B N p < 6 := by
    unfold kd
    repeat' split
    all_goals omega
  unfold w_M_wrong
  rw [h7, hR.2.2.1]
  refine ⟨M_K hM, fun _ => ⟨fun z => fin 1 ?_, fun z => fin (nI k) ?_⟩, fun z => absurd (Int32.le_refl _) z⟩
  · have := (nI_eq (b := 5) (by omega) (by omega)).mp z
    unfold er
    rw [if_pos this]
    rfl
  · unfold er
    rw [if_neg (fun g => z (by rw [g]; rfl))]
theorem t_M_wrong_d {e : ER} {v : Int32} {Q : Hp → Prop} (hM : MS h) (d : DE e h) (hq : Q h) : w_M_wrong 81 v h Q := by
  unfold w_M_wrong
  exact ⟨M_K hM, fun z => absurd z (DE_pos d).1, fun _ => hq⟩
theorem t_M_isGood {Q : Bool → Hp → Prop} (hM : MS h) (h7 : gI h 81 7 = 0) (hq : Q true h) : w_M_isGood 81 h Q := by
  unfold w_M_isGood
  exact ⟨M_K hM, fun _ => hq, fun z => absurd h7 z⟩
theorem t_M_isGood_d {e : ER} {Q : Bool → Hp → Prop} (hM : MS h) (d : DE e h) (hq : Q false h) : w_M_isGood 81 h Q := by
  unfold w_M_isGood
  exact ⟨M_K hM, fun z => absurd z (DE_pos d).2, fun _ => hq⟩
theorem kd_6 (B : Nat → Int32) (N p : Nat) : kd B N p < 6 := by
  unfold kd
  repeat' split
  all_goals omega
theorem t_M_isWord {B : Nat → Int32} {N p : Nat} {w : List Nat} {v : Int64} {Q : Bool → Hp → Prop} (hM : MS h) (hR : RT B N p h) (h7 : gI h 81 7 = 0) (hv : v = lN (pkR w)) (hw : ∀ x ∈ w, 1 ≤ x ∧ x < 256) (hw2 : pkR w < 2 ^ 64) (hq : Q (isK B N p w) h) : w_M_isWord 81 v h Q := by
  have hkd := kd_6 B N p
  unfold w_M_isWord
  unfold isK at hq
  rw [hR.2.2.1]
  refine ⟨M_K hM, fun _ => ⟨fun z => ?_, fun z => ?_⟩, fun z => absurd h7 z⟩
  · have hk : kd B N p = 1 := (nI_eq (b := 1) (by omega) (by omega)).mp z
    rw [hR.2.2.2.2 hk, hv]
    rw [decide_eq_true hk, Bool.true_and] at hq
    refine ⟨fun y => ?_, fun y => ?_⟩
    · rw [decide_eq_true ((wd_eq hk hw hw2).mp y)] at hq; exact hq
    · rw [decide_eq_false (fun g => y ((wd_eq hk hw hw2).mpr g))] at hq; exact hq
  · rw [decide_eq_false (fun g => z (by rw [g]; rfl)), Bool.false_and] at hq
    exact hq
theorem t_M_isWord_d {e : ER} {v : Int64} {Q : Bool → Hp → Prop} (hM : MS h) (d : DE e h) (hq : Q false h) : w_M_isWord 81 v h Q := by
  unfold w_M_isWord
  exact ⟨M_K hM, fun z => absurd z (DE_pos d).2, fun _ => hq⟩
theorem t_M_numberIn {B : Nat → Int32} {N p : Nat} {lo hi : Int32} {Q : Int32 → Hp → Prop} (hM : MS h) (o : TX B N h) (hR : RT B N p h) (h7 : gI h 81 7 = 0)
    (hq1 : ∀ x h', nIn B N p lo hi = .ok x → Fr [] [3, 4, 5, 6] [] [11] h h' → RT B N x.2 h' → gI h' 81 7 = 0 → Q x.1 h')
    (hq2 : ∀ e v h', nIn B N p lo hi = .error e → Fr [] [7, 8] [] [] h h' → DE e h' → Q v h') : w_M_numberIn 81 lo hi h Q := by
  have hkd := kd_6 B N p
  have bad : ∀ k, 1 ≤ k → k < 10 → nIn B N p lo hi = .error (er B N p k) → w_M_wrong 81 (nI k) h (fun h9 => w_M_numberIn_B42 Q 81 h9) := fun k h1 h2 he => by
    refine t_M_wrong hM hR h7 h1 h2 (fun h' f' d' => ?_)
    unfold w_M_numberIn_B42
    exact ⟨M_K (fr_MS f' hM), t_M_isGood_d (fr_MS f' hM) d' ⟨fun _ => hq2 _ _ h' he f' d', fun z => absurd rfl z⟩⟩
  unfold w_M_numberIn
  rw [h7, hR.2.2.1]
  refine ⟨M_K hM, fun _ => ⟨fun z => t_M_isIn ?_, fun z => ?_⟩, fun z => absurd (Int32.le_refl _) z⟩
  · have hk : kd B N p = 2 := (nI_eq (b := 2) (by omega) (by omega)).mp z
    rw [hR.2.2.2.1 hk]
    refine ⟨fun y => ⟨M_K hM, bad 4 (by omega) (by omega) ?_⟩, fun y => ?_⟩
    · unfold nIn
      rw [if_pos hk, if_neg (by rw [y]; decide)]
    · have e : nIn B N p lo hi = .ok (vl B N p, sp B N p) := by
        unfold nIn
        rw [if_pos hk, if_pos (ntf y)]
      have a := sp_gt (B := B) (N := N) (p := p) (by omega)
      unfold w_M_numberIn_B42
      refine ⟨M_K hM, t_M_isGood hM h7 ⟨fun g => absurd g (by decide), fun _ => ⟨M_K hM, t_M_goOn hM o hR.1 a.2.2 (fun h' f' r' => ?_)⟩⟩⟩
      rw [hR.2.2.2.1 hk]
      exact hq1 _ h' e f' r' ((fr_F f' (by decide) (by decide)).trans h7)
  · refine bad 2 (by omega) (by omega) ?_
    unfold nIn
    rw [if_neg (fun g => z (by rw [g]; rfl))]
theorem t_M_numberIn_d {e : ER} {lo hi : Int32} {Q : Int32 → Hp → Prop} (hM : MS h) (d : DE e h) (hq : Q 0 h) : w_M_numberIn 81 lo hi h Q := by
  unfold w_M_numberIn
  exact ⟨M_K hM, fun z => absurd z (DE_pos d).1, fun _ => hq⟩
theorem t_M_signed {B : Nat → Int32} {N p : Nat} {most : Int32} {Q : Int32 → Hp → Prop} (hM : MS h) (o : TX B N h) (hR : RT B N p h) (h7 : gI h 81 7 = 0)
    (hq1 : ∀ x h', sgn B N p most = .ok x → Fr [] [3, 4, 5, 6] [] [11] h h' → RT B N x.2 h' → gI h' 81 7 = 0 → Q x.1 h')
    (hq2 : ∀ e v h', sgn B N p most = .error e → Fr [] [3, 4, 5, 6, 7, 8] [] [11] h h' → DE e h' → Q v h') : w_M_signed 81 most h Q := by
  have hkd := kd_6 B N p
  unfold w_M_signed
  refine ⟨M_K hM, t_M_isGood hM h7 ⟨fun g => absurd g (by decide), fun _ => ⟨M_K hM, ?_⟩⟩⟩
  rw [hR.2.2.1]
  refine ⟨fun z => ?_, fun z => ?_⟩
  · have hk : kd B N p = 4 := (nI_eq (b := 4) (by omega) (by omega)).mp z
    have a := sp_gt (B := B) (N := N) (p := p) (by omega)
    unfold w_M_signed_B20
    refine ⟨fun g => absurd g (by decide), fun _ => ⟨M_K hM, t_M_goOn hM o hR.1 a.2.2 (fun h2 f2 r2 => ?_)⟩⟩
    have hM2 := fr_MS f2 hM
    unfold w_M_signed_B29
    refine ⟨M_K hM2, t_M_numberIn hM2 (TX_fr o f2 (by decide) (by decide) (by decide)) r2 ((fr_F f2 (by decide) (by decide)).trans h7) (fun x h3 e3 f3 r3 h73 => ⟨fun g => absurd g (by decide), fun _ => ?_⟩) (fun e v h3 e3 f3 d3 => ⟨fun g => absurd g (by decide), fun _ => ?_⟩)⟩
    · refine hq1 (-x.1, x.2) h3 ?_ (fr_trans f2 f3) r3 h73
      unfold sgn
      rw [if_pos hk, e3]
    · refine hq2 e _ h3 ?_ (fr_trans (fr_mono f2 (by simp) (by simp) (by simp) (by simp)) (fr_mono f3 (by simp) (by simp) (by simp) (by simp))) d3
      unfold sgn
      rw [if_pos hk, e3]
  · have hk : ¬ kd B N p = 4 := fun g => z (by rw [g]; rfl)
    have e0 : sgn B N p most = nIn B N p 0 most := by unfold sgn; rw [if_neg hk]
    unfold w_M_signed_B19 w_M_signed_B20
    refine ⟨fun _ => ?_, fun g => absurd rfl g⟩
    unfold w_M_signed_B29
    refine ⟨M_K hM, t_M_numberIn hM o hR h7 (fun x h3 e3 f3 r3 h73 => ⟨fun _ => hq1 x h3 (e0.trans e3) f3 r3 h73, fun g => absurd rfl g⟩) (fun e v h3 e3 f3 d3 => ⟨fun _ => hq2 e v h3 (e0.trans e3) (fr_mono f3 (by simp) (by simp) (by simp) (by simp)) d3, fun g => absurd rfl g⟩)⟩
theorem t_M_signed_d {e : ER} {most : Int32} {Q : Int32 → Hp → Prop} (hM : MS h) (d : DE e h) (hq : Q 0 h) : w_M_signed 81 most h Q := by
  unfold w_M_signed
  refine ⟨M_K hM, t_M_isGood_d hM d ⟨fun _ => ?_, fun g => absurd rfl g⟩⟩
  unfold w_M_signed_B19 w_M_signed_B20
  refine ⟨fun _ => ?_, fun g => absurd rfl g⟩
  unfold w_M_signed_B29
  exact ⟨M_K hM, t_M_numberIn_d hM d ⟨fun _ => hq, fun g => absurd rfl g⟩⟩
/-- in the midst of a row of numbers -/
def RL (B : Nat → Int32) (N : Nat) (h0 : Hp) (x : Except ER (Nat × (Nat → Int32))) (h : Hp) : Prop := Fr [83] [3, 4, 5, 6, 7, 8] [] [11] h0 h ∧ (∀ y, x = .ok y → RT B N y.1 h ∧ (gI h 81 7 = 0 ∧ gI h 81 8 = gI h0 81 8) ∧ ∀ k, k < 44 → gI h 83 k = y.2 k) ∧ ∀ e, x = .error e → DE e h
theorem RL_step {B : Nat → Int32} {N p k base : Nat} {most : Int32} {f : Nat → Int32} {h0 : Hp} {C : Hp → Prop} (hM : MS h0) (o : TX B N h0) (a : RL B N h0 (sgs B N base most p f k) h) (hb : base + k < 44) (hC : ∀ h', RL B N h0 (sgs B N base most p f (k + 1)) h' → C h') : w_M_signed 81 most h (fun r h2 => gK h2 83 = 20 ∧ (vp_in (nI (base + k)) (gN h2 83) ∧ C (sI h2 83 (base + k) r))) := by
  obtain ⟨f1, a2, a3⟩ := a
  have hM1 := fr_MS f1 hM
  have o1 := TX_fr o f1 (by decide) (by decide) (by decide)
  cases e : sgs B N base most p f k with
  | error e' =>
    have d := a3 e' e
    obtain ⟨b1, b2, b3⟩ := M_told hM1
    refine t_M_signed_d hM1 d ⟨b2, by rw [b3]; exact vp_in_nI (by omega) (by omega), hC _ ⟨fr_trans f1 (fr_sI _ _ (Or.inl (by simp))), fun y hy => ?_, fun e2 he2 => ?_⟩⟩
    · rw [sgs, e] at hy; cases hy
    · rw [sgs, e] at he2
      injection he2 with he2
      rw [← he2]
      exact DE_fr (as := [83]) (fs := []) (js := []) (gs := []) d (fr_sI _ _ (Or.inl (by simp))) (by decide) (by decide) (by decide)
  | ok y =>
    obtain ⟨q1, ⟨q2, q8⟩, q3⟩ := a2 y e
    refine t_M_signed hM1 o1 q1 q2 (fun x h2 e2 f2 r2 h72 => ?_) (fun e' v h2 e2 f2 d2 => ?_)
    · have hM2 := fr_MS f2 hM1
      obtain ⟨b1, b2, b3⟩ := M_told hM2
      refine ⟨b2, by rw [b3]; exact vp_in_nI (by omega) (by omega), hC _ ⟨fr_trans (fr_trans f1 (fr_mono f2 (by simp) (by simp) (by simp) (by simp))) (fr_sI _ _ (Or.inl (by simp))), fun z hz => ?_, fun e3 he3 => ?_⟩⟩
      · rw [sgs, e] at hz
        dsimp only at hz
        rw [e2] at hz
        injection hz with hz
        rw [← hz]
        refine ⟨?_, ?_, fun k2 hk2 => ?_⟩
        · dsimp only
          unfold RT
          rw [gI_sI, if_neg (fun y => absurd y.1 (by decide)), gI_sI, if_neg (fun y => absurd y.1 (by decide)), gI_sI, if_neg (fun y => absurd y.1 (by decide)), gI_sI, if_neg (fun y => absurd y.1 (by decide)), gL_sI]
          exact r2
        · exact ⟨by rw [gI_sI, if_neg (fun y => absurd y.1 (by decide))]; exact h72, by rw [gI_sI, if_neg (fun y => absurd y.1 (by decide)), fr_F f2 (by decide) (by decide)]; exact q8⟩
        · rw [gI_sI]
          dsimp only
          by_cases g : k2 = base + k
          · rw [if_pos ⟨rfl, g⟩, g, pk_us]
          · rw [if_neg (fun y => g y.2), pk_un g, fr_I f2 (x := 83) (by decide) (by decide)]
            exact q3 k2 hk2
      · rw [sgs, e] at he3
        dsimp only at he3
        rw [e2] at he3
        cases he3
    · have hM2 := fr_MS f2 hM1
      obtain ⟨b1, b2, b3⟩ := M_told hM2
      refine ⟨b2, by rw [b3]; exact vp_in_nI (by omega) (by omega), hC _ ⟨fr_trans (fr_trans f1 (fr_mono f2 (by simp) (by simp) (by simp) (by simp))) (fr_sI _ _ (Or.inl (by simp))), fun z hz => ?_, fun e3 he3 => ?_⟩⟩
      · rw [sgs, e] at hz
        dsimp only at hz
        rw [e2] at hz
        cases hz
      · rw [sgs, e] at he3
        dsimp only at he3
        rw [e2] at he3
        injection he3 with he3
        rw [← he3]
        exact DE_fr (as := [83]) (fs := []) (js := []) (gs := []) d2 (fr_sI _ _ (Or.inl (by simp))) (by decide) (by decide) (by decide)
