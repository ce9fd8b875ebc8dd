/-! The reference reads needs and columns -/
variable {h : Hp}
theorem RL_0 {B : Nat → Int32} {N p base : Nat} {most : Int32} {f : Nat → Int32} (rt : RT B N p h) (h7 : gI h 81 7 = 0) (ht : ∀ k, k < 44 → gI h 83 k = f k) : RL B N h (sgs B N base most p f 0) h := by
  refine ⟨fr_refl _ _ _ _ _, fun y hy => ?_, fun e he => ?_⟩
  · rw [sgs] at hy; injection hy with hy; rw [← hy]; exact ⟨rt, ⟨h7, rfl⟩, ht⟩
  · rw [sgs] at he; cases he
theorem t_M_needLine {B : Nat → Int32} {N : Nat} {h0 : Hp} {s : PSt} {Q : Hp → Prop} (hM0 : MS h0) (o0 : TX B N h0) (a : AL B N h0 s h) (hk0 : bodL B N s = needL B N s) (hkd : kd B N s.1 = 1) (hq : ∀ h', OX B N h0 (bodL B N s) h' → Q h') : w_M_needLine 81 h Q := by
  obtain ⟨ds, ad, rt, h7, h8⟩ := a
  have hM := fr_MS ad.1 hM0
  have o := TX_fr o0 ad.1 (by decide) (by decide) (by decide)
  have sg := sp_gt (B := B) (N := N) (p := s.1) (by omega)
  have hr := ds.2.2.1
  unfold w_M_needLine
  rw [ad.2.2.2.2.2.2.1]
  refine ⟨M_K hM, fun z => ?_, fun z => ?_⟩
  · have hl : ¬ s.2.2.2.2.2.1 = true := fun g => by rw [g] at z; exact absurd z (by decide)
    unfold w_M_needLine_B12
    have f1 : Fr [] [20] [] [] h (sI h 81 20 1) := fr_sI _ _ (Or.inr ⟨rfl, by simp⟩)
    have hM1 := fr_MS f1 hM
    have rt1 : RT B N s.1 (sI h 81 20 1) := by
      unfold RT
      rw [gI_sI, if_neg (by decide), gI_sI, if_neg (by decide), gI_sI, if_neg (by decide), gI_sI, if_neg (by decide), gL_sI]
      exact rt
    have h71 : gI (sI h 81 20 1) 81 7 = 0 := (fr_F f1 (by decide) (by decide)).trans h7
    refine ⟨M_K hM, t_M_isGood hM1 h71 ⟨fun g => absurd g (by decide), fun _ => ⟨M_K hM1, t_M_goOn hM1 (TX_fr o f1 (by decide) (by decide) (by decide)) rt1.1 sg.2.2 (fun h2 f2 r2 => ?_)⟩⟩⟩
    have hM2 := fr_MS f2 hM1
    have o2 := TX_fr (TX_fr o f1 (by decide) (by decide) (by decide)) f2 (by decide) (by decide) (by decide)
    obtain ⟨a1, a2, a3, a4, a5, a6, a7, a8⟩ := ad
    have t2 : ∀ k, k < 44 → gI h2 83 k = s.2.1 k := fun k hk => by
      rw [fr_I f2 (x := 83) (by decide) (by decide), gI_sI, if_neg (fun y => absurd y.1 (by decide))]
      exact a2 k hk
    have e15 : gI h2 81 15 = nI s.2.2.1 := by rw [fr_F f2 (by decide) (by decide), gI_sI, if_neg (by decide)]; exact a3
    refine loop_0 (fun m k x => w_M_needLine_L30 Q 81 m (nI k) x) (fun k x => RL B N h2 (sgs B N 32 20 (sp B N s.1) s.2.1 k) x) s.2.2.1 _ (RL_0 r2 ((fr_F f2 (by decide) (by decide)).trans h71) t2) ?_ ?_
    · rintro m x ⟨fx, x1, x2⟩
      have hMx := fr_MS fx hM2
      unfold w_M_needLine_L30
      rw [fr_F fx (by decide) (by decide), e15]
      refine ⟨M_K hMx, fun _ => hq x ?_, fun g => absurd (Int32.le_refl _) g⟩
      have ftot : Fr [83] [3, 4, 5, 6, 7, 8, 15, 16, 19, 20, 21] [85] [11] h0 x := fr_trans (fr_trans (fr_trans a1 (fr_mono f1 (by simp) (by simp) (by simp) (by simp))) (fr_mono f2 (by simp) (by simp) (by simp) (by simp))) (fr_mono fx (by simp) (by simp) (by simp) (by simp))
      cases e : sgs B N 32 20 (sp B N s.1) s.2.1 s.2.2.1 with
      | error e' =>
        have er : needL B N s = .error e' := by unfold needL; rw [if_neg hl, e]
        exact OX_err (hk0.trans er) ⟨ftot, x2 e' e⟩
      | ok y =>
        have er : needL B N s = .ok (y.1, y.2, s.2.2.1, s.2.2.2.1, s.2.2.2.2.1, true, s.2.2.2.2.2.2) := by unfold needL; rw [if_neg hl, e]
        obtain ⟨y1, ⟨y2, y8⟩, y3⟩ := x1 y e
        refine OX_ok (hk0.trans er) ⟨(bodL_sp ds (hk0.trans er)).1, ⟨ftot, y3, ?_, ?_, ?_, ?_, ?_, ?_⟩, y1, y2, by rw [y8, fr_F f2 (by decide) (by decide), gI_sI, if_neg (by decide)]; exact h8⟩
        · rw [fr_F fx (by decide) (by decide)]; exact e15
        · rw [fr_F fx (by decide) (by decide), fr_F f2 (by decide) (by decide), gI_sI, if_neg (by decide)]; exact a4
        · rw [fr_L fx (x := 85) (by decide) (by decide), fr_L f2 (x := 85) (by decide) (by decide), gL_sI]; exact a5
        · rw [fr_F fx (by decide) (by decide), fr_F f2 (by decide) (by decide), gI_sI, if_neg (by decide)]; exact a6
        · rw [fr_F fx (by decide) (by decide), fr_F f2 (by decide) (by decide), gI_sI, if_pos ⟨rfl, rfl⟩]; rfl
        · rw [fr_F fx (by decide) (by decide), fr_F f2 (by decide) (by decide), gI_sI, if_neg (by decide)]; exact a8
    · rintro m k x hk rl ih
      have fx := rl.1
      have hMx := fr_MS fx hM2
      unfold w_M_needLine_L30
      rw [fr_F fx (by decide) (by decide), e15, (M_told hMx).1, show (32 : Int32) = nI 32 from rfl, nI_add, nI_1, ix_nI (by omega)]
      exact ⟨M_K hMx, fun g => absurd g (nI_ge hk (by omega)), fun _ => RL_step hM2 o2 rl (by omega) (fun h' r' => ih h' r')⟩
  · have hl : s.2.2.2.2.2.1 = true := by
      cases g : s.2.2.2.2.2.1
      · rw [g] at z; exact absurd rfl z
      · rfl
    have er : needL B N s = .error (er B N s.1 3) := by unfold needL; rw [if_pos hl]
    refine t_M_wrong (k := 3) hM rt h7 (by omega) (by omega) (fun h2 f2 d2 => ?_)
    have hM2 := fr_MS f2 hM
    have f1 : Fr [] [20] [] [] h2 (sI h2 81 20 1) := fr_sI _ _ (Or.inr ⟨rfl, by simp⟩)
    have hM1 := fr_MS f1 hM2
    have d1 : DX _ h0 _ := ⟨fr_trans (fr_trans ad.1 (fr_mono f2 (by simp) (by simp) (by simp) (by simp))) (fr_mono f1 (by simp) (by simp) (by simp) (by simp)), DE_fr d2 f1 (by decide) (by decide) (by decide)⟩
    have e15 : gI (sI h2 81 20 1) 81 15 = nI s.2.2.1 := by rw [gI_sI, if_neg (by decide), fr_F f2 (by decide) (by decide)]; exact ad.2.2.1
    unfold w_M_needLine_B12
    refine ⟨M_K hM2, t_M_isGood_d hM1 d1.2 ⟨fun _ => ?_, fun g => absurd rfl g⟩⟩
    revert hM1 d1 e15
    generalize sI h2 81 20 1 = h3
    intro hM1 d1 e15
    refine loop_0 (fun m k x => w_M_needLine_L30 Q 81 m (nI k) x) (fun k x => DX _ h0 x ∧ gI x 81 15 = nI s.2.2.1) s.2.2.1 _ ⟨d1, e15⟩ ?_ ?_
    · rintro m x ⟨dx, ex⟩
      have hMx := fr_MS dx.1 hM0
      unfold w_M_needLine_L30
      rw [ex]
      exact ⟨M_K hMx, fun _ => hq x (OX_err (hk0.trans er) dx), fun g => absurd (Int32.le_refl _) g⟩
    · rintro m k x hk ⟨dx, ex⟩ ih
      have hMx := fr_MS dx.1 hM0
      obtain ⟨b1, b2, b3⟩ := M_told hMx
      unfold w_M_needLine_L30
      rw [ex, b1, show (32 : Int32) = nI 32 from rfl, nI_add, nI_1, ix_nI (by omega)]
      refine ⟨M_K hMx, fun g => absurd g (nI_ge hk (by omega)), fun _ => t_M_signed_d hMx dx.2 ⟨b2, by rw [b3]; exact vp_in_nI (by omega) (by omega), ih _ ⟨DX_fr (as := [83]) (fs := []) (js := []) (gs := []) dx (fr_sI _ _ (Or.inl (by simp))) (by simp) (by simp) (by simp) (by simp), ?_⟩⟩⟩
      rw [gI_sI, if_neg (fun y => absurd y.1 (by decide))]
      exact ex
/-- the end of a column's line, with a fault -/
theorem t_col_dead {e : ER} {h0 : Hp} {c : Nat} {Q : Hp → Prop} (hM0 : MS h0) (d : DX e h0 h) (hc : c < 8) (hq : ∀ h', DX e h0 h' → Q h') : w_M_columnLine_B210 Q 81 (nI c) h := by
  have hM := fr_MS d.1 hM0
  obtain ⟨b1, b2, b3⟩ := M_told hM
  unfold w_M_columnLine_B210
  refine ⟨M_K hM, t_M_isGood_d hM d.2 ⟨fun _ => ?_, fun g => absurd rfl g⟩⟩
  unfold w_M_columnLine_B221
  refine ⟨M_K hM, t_M_signed_d hM d.2 ?_⟩
  rw [b1, b3, show (24 : Int32) = nI 24 from rfl, nI_add, ix_nI (by omega)]
  refine ⟨b2, vp_in_nI (by omega) (by omega), M_K hM, hq _ (DX_fr (as := [83]) (fs := [16]) (js := []) (gs := []) d (fr_trans (fr_sI _ _ (Or.inl (by simp))) (fr_sI _ _ (Or.inr ⟨rfl, by simp⟩))) (by simp) (by simp) (by simp) (by simp))⟩
/-- a name is taken, its numbers and its gain are read -/
theorem t_col_body {B : Nat → Int32} {N : Nat} {h0 : Hp} {s : PSt} {Q : Hp → Prop} (hM0 : MS h0) (o0 : TX B N h0) (ds : dS B N s) (ad : AD h0 s h) (rt : RT B N (sp B N s.1) h) (h7 : gI h 81 7 = 0) (h8 : gI h 81 8 = gI h0 81 8) (hk0 : bodL B N s = colL B N s) (g1 : ¬ s.2.2.2.1.length = 8) (g2 : ¬ (kd B N (sp B N s.1) ≠ 1 ∨ wd B N (sp B N s.1) ∈ wAll)) (g3 : ¬ wd B N (sp B N s.1) ∈ s.2.2.2.1) (hq : ∀ h', OX B N h0 (bodL B N s) h' → Q h') : w_M_columnLine_B142 Q 81 (nI s.2.2.2.1.length) h := by
  have hM := fr_MS ad.1 hM0
  have o := TX_fr o0 ad.1 (by decide) (by decide) (by decide)
  have hk : kd B N (sp B N s.1) = 1 := by
    by_cases g : kd B N (sp B N s.1) = 1
    · exact g
    · exact absurd (Or.inl g) g2
  have sg := sp_gt (B := B) (N := N) (p := sp B N s.1) (by omega)
  have hr := ds.2.2.1
  have hc : s.2.2.2.1.length < 8 := by have := ds.2.2.2.1; omega
  obtain ⟨n1, n2, n3⟩ := M_names hM
  unfold w_M_columnLine_B142
  rw [h7, n1, n3, ix_nI (by omega), rt.2.2.2.2 hk]
  refine ⟨M_K hM, fun _ => ⟨n2, vp_in_nI (by omega) (by omega), ?_⟩, fun g => absurd (Int32.le_refl _) g⟩
  have f1 : Fr [] [] [85] [] h (sL h 85 s.2.2.2.1.length (lN (pkR (wd B N (sp B N s.1))))) := fr_sL _ _ (Or.inl (by simp))
  have hM1 := fr_MS f1 hM
  have o1 := TX_fr o f1 (by decide) (by decide) (by decide)
  refine t_M_goOn hM1 o1 (by rw [gI_sL]; exact rt.1) sg.2.2 (fun h2 f2 r2 => ?_)
  have hM2 := fr_MS f2 hM1
  have o2 := TX_fr o1 f2 (by decide) (by decide) (by decide)
  obtain ⟨a1, a2, a3, a4, a5, a6, a7, a8⟩ := ad
  have t2 : ∀ k, k < 44 → gI h2 83 k = s.2.1 k := fun k hk => by
    rw [fr_I f2 (x := 83) (by decide) (by decide), gI_sL]
    exact a2 k hk
  have e15 : gI h2 81 15 = nI s.2.2.1 := by rw [fr_F f2 (by decide) (by decide), gI_sL]; exact a3
  have e16 : gI h2 81 16 = nI s.2.2.2.1.length := by rw [fr_F f2 (by decide) (by decide), gI_sL]; exact a4
  have h72 : gI h2 81 7 = 0 := by rw [fr_F f2 (by decide) (by decide), gI_sL]; exact h7
  have f02 : Fr [83] [3, 4, 5, 6, 7, 8, 15, 16, 19, 20, 21] [85] [11] h0 h2 := fr_trans (fr_trans a1 (fr_mono f1 (by simp) (by simp) (by simp) (by simp))) (fr_mono f2 (by simp) (by simp) (by simp) (by simp))
  refine loop_0 (fun m k x => w_M_columnLine_L166 Q 81 (nI s.2.2.2.1.length) m (nI k) x) (fun k x => RL B N h2 (sgs B N (3 * s.2.2.2.1.length) 5 (sp B N (sp B N s.1)) s.2.1 k) x) s.2.2.1 _ (RL_0 r2 h72 t2) ?_ ?_
  · rintro m x ⟨fx, x1, x2⟩
    have hMx := fr_MS fx hM2
    have ox := TX_fr o2 fx (by decide) (by decide) (by decide)
    have f0x := fr_trans f02 (fr_mono (as' := [83]) (fs' := [3, 4, 5, 6, 7, 8, 15, 16, 19, 20, 21]) (js' := [85]) (gs' := [11]) fx (by simp) (by simp) (by simp) (by simp))
    unfold w_M_columnLine_L166
    rw [fr_F fx (by decide) (by decide), e15]
    refine ⟨M_K hMx, fun _ => ?_, fun g => absurd (Int32.le_refl _) g⟩
    cases e : sgs B N (3 * s.2.2.2.1.length) 5 (sp B N (sp B N s.1)) s.2.1 s.2.2.1 with
    | error e' =>
      have er : colL B N s = .error e' := by unfold colL; rw [if_neg g1, if_neg g2, if_neg g3, e]
      have d := x2 e' e
      refine t_M_isWord_d hMx d ⟨fun _ => ⟨M_K hMx, t_M_wrong_d hMx d (t_col_dead hM0 ⟨f0x, d⟩ hc (fun h' d' => hq h' (OX_err (hk0.trans er) d')))⟩, fun g => absurd rfl g⟩
    | ok y =>
      obtain ⟨y1, ⟨y2, y8⟩, y3⟩ := x1 y e
      refine t_M_isWord (w := wGain) hMx y1 y2 (by decide) (by decide) (by decide) ⟨fun z => ⟨M_K hMx, ?_⟩, fun z => ?_⟩
      · have er : colL B N s = .error (er B N y.1 2) := by
          unfold colL
          rw [if_neg g1, if_neg g2, if_neg g3, e]
          dsimp only
          rw [if_neg (by rw [z]; decide)]
        exact t_M_wrong (k := 2) hMx y1 y2 (by omega) (by omega) (fun h3 f3 d3 => t_col_dead hM0 ⟨fr_trans f0x (fr_mono f3 (by simp) (by simp) (by simp) (by simp)), d3⟩ hc (fun h' d' => hq h' (OX_err (hk0.trans er) d')))
      · have z := ntf z
        have hk1 : kd B N y.1 = 1 := by
          unfold isK at z
          rw [Bool.and_eq_true, decide_eq_true_eq] at z
          exact z.1
        have sg1 := sp_gt (B := B) (N := N) (p := y.1) (by omega)
        unfold w_M_columnLine_B210
        refine ⟨M_K hMx, t_M_isGood hMx y2 ⟨fun g => absurd g (by decide), fun _ => ⟨M_K hMx, t_M_goOn hMx ox y1.1 sg1.2.2 (fun h4 f4 r4 => ?_)⟩⟩⟩
        have hM4 := fr_MS f4 hMx
        obtain ⟨b1, b2, b3⟩ := M_told hM4
        unfold w_M_columnLine_B221
        rw [b1, show (24 : Int32) = nI 24 from rfl, nI_add, ix_nI (by omega)]
        refine ⟨M_K hM4, t_M_signed hM4 (TX_fr ox f4 (by decide) (by decide) (by decide)) r4 ((fr_F f4 (by decide) (by decide)).trans y2) (fun w h5 e5 f5 r5 h75 => ?_) (fun e' v h5 e5 f5 d5 => ?_)⟩
        · have hM5 := fr_MS f5 hM4
          have f45 := fr_trans f4 f5
          have e165 : gI (sI h5 83 (24 + s.2.2.2.1.length) w.1) 81 16 = nI s.2.2.2.1.length := by rw [gI_sI, if_neg (fun y => absurd y.1 (by decide)), fr_F f45 (by decide) (by decide), fr_F fx (by decide) (by decide)]; exact e16
          rw [fr_K f5, fr_N f5, b3, e165, nI_1]
          refine ⟨b2, vp_in_nI (by omega) (by omega), M_K hM4, hq _ ?_⟩
          have er : colL B N s = .ok (w.2, upd y.2 (24 + s.2.2.2.1.length) w.1, s.2.2.1, s.2.2.2.1 ++ [wd B N (sp B N s.1)], s.2.2.2.2.1, s.2.2.2.2.2.1, s.2.2.2.2.2.2) := by
            unfold colL
            rw [if_neg g1, if_neg g2, if_neg g3, e]
            dsimp only
            rw [if_pos z, e5]
          refine OX_ok (hk0.trans er) ⟨(bodL_sp ds (hk0.trans er)).1, ⟨fr_trans (fr_trans (fr_trans f0x (fr_mono f45 (by simp) (by simp) (by simp) (by simp))) (fr_sI _ _ (Or.inl (by simp)))) (fr_sI _ _ (Or.inr ⟨rfl, by simp⟩)), fun k hk => ?_, ?_, ?_, fun i hi => ?_, ?_, ?_, ?_⟩, ?_, ?_⟩
          · dsimp only
            rw [gI_sI, if_neg (fun y => absurd y.1 (by decide)), gI_sI]
            by_cases g : k = 24 + s.2.2.2.1.length
            · rw [if_pos ⟨rfl, g⟩, g, pk_us]
            · rw [if_neg (fun y => g y.2), pk_un g, fr_I f45 (x := 83) (by decide) (by decide)]
              exact y3 k hk
          · rw [gI_sI, if_neg (by decide), gI_sI, if_neg (fun y => absurd y.1 (by decide)), fr_F f45 (by decide) (by decide), fr_F fx (by decide) (by decide)]; exact e15
          · rw [gI_sI, if_pos ⟨rfl, rfl⟩]; dsimp only; rw [List.length_append]; rfl
          · dsimp only at hi ⊢
            rw [List.length_append, List.length_singleton] at hi
            rw [gL_sI, gL_sI, fr_L f45 (x := 85) (by decide) (by decide), fr_L fx (x := 85) (by decide) (by decide), fr_L f2 (x := 85) (by decide) (by decide), gL_sL, getD_app]
            by_cases g : i = s.2.2.2.1.length
            · rw [if_pos ⟨rfl, g⟩, if_pos g]
            · rw [if_neg (fun y => g y.2), if_neg g]; exact a5 i (by omega)
          · rw [gI_sI, if_neg (by decide), gI_sI, if_neg (fun y => absurd y.1 (by decide)), fr_F f45 (by decide) (by decide), fr_F fx (by decide) (by decide), fr_F f2 (by decide) (by decide), gI_sL]; exact a6
          · rw [gI_sI, if_neg (by decide), gI_sI, if_neg (fun y => absurd y.1 (by decide)), fr_F f45 (by decide) (by decide), fr_F fx (by decide) (by decide), fr_F f2 (by decide) (by decide), gI_sL]; exact a7
          · rw [gI_sI, if_neg (by decide), gI_sI, if_neg (fun y => absurd y.1 (by decide)), fr_F f45 (by decide) (by decide), fr_F fx (by decide) (by decide), fr_F f2 (by decide) (by decide), gI_sL]; exact a8
          · unfold RT
            rw [gI_sI, if_neg (by decide), gI_sI, if_neg (fun y => absurd y.1 (by decide)), gI_sI, if_neg (by decide), gI_sI, if_neg (fun y => absurd y.1 (by decide)), gI_sI, if_neg (by decide), gI_sI, if_neg (fun y => absurd y.1 (by decide)), gI_sI, if_neg (by decide), gI_sI, if_neg (fun y => absurd y.1 (by decide)), gL_sI, gL_sI]
            exact r5
          · exact ⟨by rw [gI_sI, if_neg (by decide), gI_sI, if_neg (fun y => absurd y.1 (by decide))]; exact h75, by rw [gI_sI, if_neg (by decide), gI_sI, if_neg (fun y => absurd y.1 (by decide)), fr_F f45 (by decide) (by decide), y8, fr_F f2 (by decide) (by decide), gI_sL]; exact h8⟩
        · have er : colL B N s = .error e' := by
            unfold colL
            rw [if_neg g1, if_neg g2, if_neg g3, e]
            dsimp only
            rw [if_pos z, e5]
          rw [fr_K f5, fr_N f5, b3]
          refine ⟨b2, vp_in_nI (by omega) (by omega), M_K hM4, hq _ (OX_err (hk0.trans er) (DX_fr (as := [83]) (fs := [16]) (js := []) (gs := []) ⟨fr_trans (fr_trans f0x (fr_mono f4 (by simp) (by simp) (by simp) (by simp))) (fr_mono f5 (by simp) (by simp) (by simp) (by simp)), d5⟩ (fr_trans (fr_sI _ _ (Or.inl (by simp))) (fr_sI _ _ (Or.inr ⟨rfl, by simp⟩))) (by simp) (by simp) (by simp) (by simp)))⟩
  · rintro m k x hk rl ih
    have fx := rl.1
    have hMx := fr_MS fx hM2
    unfold w_M_columnLine_L166
    rw [fr_F fx (by decide) (by decide), e15, (M_told hMx).1, show (3 : Int32) = nI 3 from rfl, pk_mul, nI_add, nI_1, ix_nI (by omega)]
    exact ⟨M_K hMx, fun g => absurd g (nI_ge hk (by omega)), fun _ => RL_step hM2 o2 rl (by omega) (fun h' r' => ih h' r')⟩
