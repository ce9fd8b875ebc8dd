/-! The reference reads lines -/
variable {h : Hp}
def AD (h0 : Hp) (s : PSt) (h : Hp) : Prop := Fr [83] [3, 4, 5, 6, 7, 8, 15, 16, 19, 20, 21] [85] [11] h0 h ∧ (∀ k, k < 44 → gI h 83 k = s.2.1 k) ∧ gI h 81 15 = nI s.2.2.1 ∧ gI h 81 16 = nI s.2.2.2.1.length ∧ (∀ i, i < s.2.2.2.1.length → gL h 85 i = lN (pkR (s.2.2.2.1.getD i []))) ∧ gI h 81 19 = b2i s.2.2.2.2.1 ∧ gI h 81 20 = b2i s.2.2.2.2.2.1 ∧ gI h 81 21 = b2i s.2.2.2.2.2.2
def AL (B : Nat → Int32) (N : Nat) (h0 : Hp) (s : PSt) (h : Hp) : Prop := dS B N s ∧ AD h0 s h ∧ RT B N s.1 h ∧ gI h 81 7 = 0 ∧ gI h 81 8 = gI h0 81 8
def DX (e : ER) (h0 h : Hp) : Prop := Fr [83] [3, 4, 5, 6, 7, 8, 15, 16, 19, 20, 21] [85] [11] h0 h ∧ DE e h
/-- the outcome of a line, or of a part of it -/
def OX (B : Nat → Int32) (N : Nat) (h0 : Hp) (x : Except ER PSt) (h : Hp) : Prop := (∀ s, x = .ok s → AL B N h0 s h) ∧ ∀ e, x = .error e → DX e h0 h
theorem AD_fr {h0 h' : Hp} {s : PSt} (a : AD h0 s h) (f : Fr [] [3, 4, 5, 6, 7, 8] [] [11] h h') : AD h0 s h' := by
  obtain ⟨a1, a2, a3, a4, a5, a6, a7, a8⟩ := a
  refine ⟨fr_trans a1 (fr_mono f (by simp) (by simp) (by simp) (by simp)), ?_, (fr_F f (by decide) (by decide)).trans a3, (fr_F f (by decide) (by decide)).trans a4, ?_, (fr_F f (by decide) (by decide)).trans a6, (fr_F f (by decide) (by decide)).trans a7, (fr_F f (by decide) (by decide)).trans a8⟩
  · rw [fr_I f (x := 83) (by decide) (by decide)]; exact a2
  · rw [fr_L f (x := 85) (by decide) (by decide)]; exact a5
theorem OX_err {B : Nat → Int32} {N : Nat} {h0 : Hp} {x : Except ER PSt} {e : ER} (hx : x = .error e) (d : DX e h0 h) : OX B N h0 x h := by
  refine ⟨fun s hs => ?_, fun e' he => ?_⟩
  · rw [hx] at hs; cases hs
  · rw [hx] at he; injection he with he; rw [← he]; exact d
theorem OX_ok {B : Nat → Int32} {N : Nat} {h0 : Hp} {x : Except ER PSt} {s : PSt} (hx : x = .ok s) (d : AL B N h0 s h) : OX B N h0 x h := by
  refine ⟨fun s' hs => ?_, fun e' he => ?_⟩
  · rw [hx] at hs; injection hs with hs; rw [← hs]; exact d
  · rw [hx] at he; cases he
theorem DX_fr {e : ER} {h0 h' : Hp} {as fs js gs : List Nat} (d : DX e h0 h) (f : Fr as fs js gs h h') (h1 : ∀ x ∈ as, x ∈ [83]) (h2 : ∀ x ∈ fs, x ∈ [3, 4, 5, 6, 15, 16, 19, 20, 21]) (h3 : ∀ x ∈ js, x ∈ [85]) (h4 : ∀ x ∈ gs, x ∈ [11]) : DX e h0 h' := by
  refine ⟨fr_trans d.1 (fr_mono f h1 (fun x hx => ?_) h3 h4), DE_fr d.2 f (fun g => absurd (h1 _ g) (by decide)) (fun g => absurd (h2 _ g) (by decide)) (fun g => absurd (h2 _ g) (by decide))⟩
  have := h2 x hx
  simp only [List.mem_cons, List.not_mem_nil, or_false] at this ⊢
  omega
theorem t_M_rowsLine {B : Nat → Int32} {N : Nat} {h0 : Hp} {s : PSt} {Q : Hp → Prop} (hM0 : MS h0) (o0 : TX B N h0) (a : AL B N h0 s h) (hk : isK B N s.1 wRows = true) (hq : ∀ h', OX B N h0 (bodL B N s) h' → Q h') : w_M_rowsLine 81 h Q := by
  obtain ⟨ds, ad, rt, h7, h8⟩ := a
  have hM := fr_MS ad.1 hM0
  have o := TX_fr o0 ad.1 (by decide) (by decide) (by decide)
  have eb : bodL B N s = rowL B N s := by unfold bodL; rw [if_pos hk]
  have hkd : kd B N s.1 = 1 := by
    unfold isK at hk
    rw [Bool.and_eq_true, decide_eq_true_eq] at hk
    exact hk.1
  have sg := sp_gt (B := B) (N := N) (p := s.1) (by omega)
  unfold w_M_rowsLine
  rw [ad.2.2.2.2.2.1]
  refine ⟨M_K hM, fun z => ?_, fun z => ?_⟩
  · have hl : ¬ s.2.2.2.2.1 = true := fun g => by rw [g] at z; exact absurd z (by decide)
    unfold w_M_rowsLine_B12
    refine ⟨M_K hM, t_M_isGood hM h7 ⟨fun g => absurd g (by decide), fun _ => ⟨M_K hM, t_M_goOn hM o rt.1 sg.2.2 (fun h2 f2 r2 => ?_)⟩⟩⟩
    have hM2 := fr_MS f2 hM
    have ad2 := AD_fr ad (fr_mono f2 (by simp) (by simp) (by simp) (by simp))
    unfold w_M_rowsLine_B23
    refine ⟨M_K hM2, t_M_numberIn hM2 (TX_fr o f2 (by decide) (by decide) (by decide)) r2 ((fr_F f2 (by decide) (by decide)).trans h7) (fun x h3 e3 f3 r3 h73 => ⟨M_K (fr_MS f3 hM2), hq _ ?_⟩) (fun e v h3 e3 f3 d3 => ⟨M_K (fr_MS f3 hM2), hq _ ?_⟩)⟩
    · have ad3 := AD_fr ad2 (fr_mono f3 (by simp) (by simp) (by simp) (by simp))
      have er : rowL B N s = .ok (x.2, s.2.1, ix x.1, s.2.2.2.1, s.2.2.2.2.1, s.2.2.2.2.2.1, s.2.2.2.2.2.2) := by unfold rowL; rw [if_neg hl, e3]
      obtain ⟨q1, q2, q3, q4⟩ := nIn_sp e3
      obtain ⟨v, hv, ev⟩ := nI_of2 (M := 3) (n := 3) rfl (fun g => absurd (Int32.lt_of_le_of_lt q3 g) (by decide)) q4
      obtain ⟨a1, a2, a3, a4, a5, a6, a7, a8⟩ := ad3
      refine OX_ok (eb.trans er) ⟨(bodL_sp ds (eb.trans er)).1, ⟨fr_trans a1 (fr_sI _ _ (Or.inr ⟨rfl, by simp⟩)), fun k hk => ?_, ?_, ?_, ?_, ?_, ?_, ?_⟩, ?_, ?_⟩
      · rw [gI_sI, if_neg (fun y => absurd y.1 (by decide))]; exact a2 k hk
      · rw [gI_sI, if_pos ⟨rfl, rfl⟩]; dsimp only; rw [ev, ix_nI (by omega)]
      · rw [gI_sI, if_neg (by decide)]; exact a4
      · rw [gL_sI]; exact a5
      · rw [gI_sI, if_neg (by decide)]; exact a6
      · rw [gI_sI, if_neg (by decide)]; exact a7
      · rw [gI_sI, if_neg (by decide)]; exact a8
      · unfold RT
        rw [gI_sI, if_neg (by decide), gI_sI, if_neg (by decide), gI_sI, if_neg (by decide), gI_sI, if_neg (by decide), gL_sI]
        exact r3
      · exact ⟨by rw [gI_sI, if_neg (by decide)]; exact h73, by rw [gI_sI, if_neg (by decide), fr_F f3 (by decide) (by decide), fr_F f2 (by decide) (by decide)]; exact h8⟩
    · have er : rowL B N s = .error e := by unfold rowL; rw [if_neg hl, e3]
      exact OX_err (eb.trans er) (DX_fr (as := []) (fs := [15]) (js := []) (gs := []) ⟨(AD_fr ad2 (fr_mono f3 (by simp) (by simp) (by simp) (by simp))).1, d3⟩ (fr_sI _ _ (Or.inr ⟨rfl, by simp⟩)) (by simp) (by simp) (by simp) (by simp))
  · have hl : s.2.2.2.2.1 = true := by
      cases g : s.2.2.2.2.1
      · rw [g] at z; exact absurd rfl z
      · rfl
    refine t_M_wrong (k := 2) hM rt h7 (by omega) (by omega) (fun h2 f2 d2 => ?_)
    have hM2 := fr_MS f2 hM
    unfold w_M_rowsLine_B12
    refine ⟨M_K hM2, t_M_isGood_d hM2 d2 ⟨fun _ => ?_, fun g => absurd rfl g⟩⟩
    unfold w_M_rowsLine_B23
    refine ⟨M_K hM2, t_M_numberIn_d hM2 d2 ⟨M_K hM2, hq _ ?_⟩⟩
    have er : rowL B N s = .error (er B N s.1 2) := by unfold rowL; rw [if_pos hl]
    exact OX_err (eb.trans er) (DX_fr (as := []) (fs := [15]) (js := []) (gs := []) ⟨(AD_fr ad (fr_mono f2 (by simp) (by simp) (by simp) (by simp))).1, d2⟩ (fr_sI _ _ (Or.inr ⟨rfl, by simp⟩)) (by simp) (by simp) (by simp) (by simp))
theorem t_M_stepsLine {B : Nat → Int32} {N : Nat} {h0 : Hp} {s : PSt} {Q : Hp → Prop} (hM0 : MS h0) (o0 : TX B N h0) (a : AL B N h0 s h) (hk0 : bodL B N s = stepL B N s) (hkd : kd B N s.1 = 1) (hq : ∀ h', OX B N h0 (bodL B N s) h' → Q h') : w_M_stepsLine 81 h Q := by
  obtain ⟨ds, ad, rt, h7, h8⟩ := a
  have hM := fr_MS ad.1 hM0
  have o := TX_fr o0 ad.1 (by decide) (by decide) (by decide)
  have sg := sp_gt (B := B) (N := N) (p := s.1) (by omega)
  unfold w_M_stepsLine
  rw [ad.2.2.2.2.2.2.2]
  refine ⟨M_K hM, fun z => ?_, fun z => ?_⟩
  · have hl : ¬ s.2.2.2.2.2.2 = true := fun g => by rw [g] at z; exact absurd z (by decide)
    unfold w_M_stepsLine_B12
    have f1 : Fr [] [21] [] [] h (sI h 81 21 1) := fr_sI _ _ (Or.inr ⟨rfl, by simp⟩)
    have hM1 := fr_MS f1 hM
    have rt1 : RT B N s.1 (sI h 81 21 1) := by
      unfold RT
      rw [gI_sI, if_neg (by decide), gI_sI, if_neg (by decide), gI_sI, if_neg (by decide), gI_sI, if_neg (by decide), gL_sI]
      exact rt
    have h71 : gI (sI h 81 21 1) 81 7 = 0 := (fr_F f1 (by decide) (by decide)).trans h7
    refine ⟨M_K hM, t_M_isGood hM1 h71 ⟨fun g => absurd g (by decide), fun _ => ⟨M_K hM1, t_M_goOn hM1 (TX_fr o f1 (by decide) (by decide) (by decide)) rt1.1 sg.2.2 (fun h2 f2 r2 => ?_)⟩⟩⟩
    have hM2 := fr_MS f2 hM1
    unfold w_M_stepsLine_B28
    obtain ⟨b1, b2, b3⟩ := M_told hM2
    refine ⟨M_K hM2, t_M_numberIn hM2 (TX_fr (TX_fr o f1 (by decide) (by decide) (by decide)) f2 (by decide) (by decide) (by decide)) r2 ((fr_F f2 (by decide) (by decide)).trans h71) (fun x h3 e3 f3 r3 h73 => ?_) (fun e v h3 e3 f3 d3 => ?_)⟩
    · rw [b1, fr_K f3, fr_N f3, b3, show ix (35 : Int32) = 35 from rfl]
      refine ⟨b2, vp_in_nI (n := 35) (by omega) (by omega), hq _ ?_⟩
      have er : stepL B N s = .ok (x.2, upd s.2.1 35 x.1, s.2.2.1, s.2.2.2.1, s.2.2.2.2.1, s.2.2.2.2.2.1, true) := by unfold stepL; rw [if_neg hl, e3]
      obtain ⟨a1, a2, a3, a4, a5, a6, a7, a8⟩ := ad
      have f23 := fr_trans f2 f3
      refine OX_ok (hk0.trans er) ⟨(bodL_sp ds (hk0.trans er)).1, ⟨fr_trans (fr_trans (fr_trans a1 (fr_mono f1 (by simp) (by simp) (by simp) (by simp))) (fr_mono f23 (by simp) (by simp) (by simp) (by simp))) (fr_sI _ _ (Or.inl (by simp))), fun k hk => ?_, ?_, ?_, ?_, ?_, ?_, ?_⟩, ?_, ?_⟩
      · dsimp only
        rw [gI_sI]
        by_cases g : k = 35
        · rw [if_pos ⟨rfl, g⟩, g, pk_us]
        · rw [if_neg (fun y => g y.2), pk_un g, fr_I f23 (x := 83) (by decide) (by decide), gI_sI, if_neg (fun y => absurd y.1 (by decide))]
          exact a2 k hk
      · rw [gI_sI, if_neg (by decide), fr_F f23 (by decide) (by decide), gI_sI, if_neg (by decide)]; exact a3
      · rw [gI_sI, if_neg (by decide), fr_F f23 (by decide) (by decide), gI_sI, if_neg (by decide)]; exact a4
      · rw [gL_sI, fr_L f23 (x := 85) (by decide) (by decide), gL_sI]; exact a5
      · rw [gI_sI, if_neg (by decide), fr_F f23 (by decide) (by decide), gI_sI, if_neg (by decide)]; exact a6
      · rw [gI_sI, if_neg (by decide), fr_F f23 (by decide) (by decide), gI_sI, if_neg (by decide)]; exact a7
      · rw [gI_sI, if_neg (by decide), fr_F f23 (by decide) (by decide), gI_sI, if_pos ⟨rfl, rfl⟩]; rfl
      · unfold RT
        rw [gI_sI, if_neg (by decide), gI_sI, if_neg (by decide), gI_sI, if_neg (by decide), gI_sI, if_neg (by decide), gL_sI]
        exact r3
      · exact ⟨by rw [gI_sI, if_neg (by decide)]; exact h73, by rw [gI_sI, if_neg (by decide), fr_F f23 (by decide) (by decide), gI_sI, if_neg (by decide)]; exact h8⟩
    · rw [b1, fr_K f3, fr_N f3, b3, show ix (35 : Int32) = 35 from rfl]
      refine ⟨b2, vp_in_nI (n := 35) (by omega) (by omega), hq _ ?_⟩
      have er : stepL B N s = .error e := by unfold stepL; rw [if_neg hl, e3]
      exact OX_err (hk0.trans er) (DX_fr (as := [83]) (fs := []) (js := []) (gs := []) ⟨fr_trans (fr_trans (fr_trans ad.1 (fr_mono f1 (by simp) (by simp) (by simp) (by simp))) (fr_mono f2 (by simp) (by simp) (by simp) (by simp))) (fr_mono f3 (by simp) (by simp) (by simp) (by simp)), d3⟩ (fr_sI _ _ (Or.inl (by simp))) (by simp) (by simp) (by simp) (by simp))
  · have hl : s.2.2.2.2.2.2 = true := by
      cases g : s.2.2.2.2.2.2
      · rw [g] at z; exact absurd rfl z
      · rfl
    refine t_M_wrong (k := 3) hM rt h7 (by omega) (by omega) (fun h2 f2 d2 => ?_)
    have hM2 := fr_MS f2 hM
    have f1 : Fr [] [21] [] [] h2 (sI h2 81 21 1) := fr_sI _ _ (Or.inr ⟨rfl, by simp⟩)
    have hM1 := fr_MS f1 hM2
    have d1 := DE_fr d2 f1 (by decide) (by decide) (by decide)
    unfold w_M_stepsLine_B12
    refine ⟨M_K hM2, t_M_isGood_d hM1 d1 ⟨fun _ => ?_, fun g => absurd rfl g⟩⟩
    unfold w_M_stepsLine_B28
    obtain ⟨b1, b2, b3⟩ := M_told hM1
    refine ⟨M_K hM1, t_M_numberIn_d hM1 d1 ?_⟩
    rw [b1, b3, show ix (35 : Int32) = 35 from rfl]
    refine ⟨b2, vp_in_nI (n := 35) (by omega) (by omega), hq _ ?_⟩
    have er : stepL B N s = .error (er B N s.1 3) := by unfold stepL; rw [if_pos hl]
    exact OX_err (hk0.trans er) (DX_fr (as := [83]) (fs := []) (js := []) (gs := []) ⟨fr_trans (fr_trans ad.1 (fr_mono f2 (by simp) (by simp) (by simp) (by simp))) (fr_mono f1 (by simp) (by simp) (by simp) (by simp)), d1⟩ (fr_sI _ _ (Or.inl (by simp))) (by simp) (by simp) (by simp) (by simp))
