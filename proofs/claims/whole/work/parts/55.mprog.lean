/-! The reference reads a whole text -/
variable {h : Hp}
theorem t_M_columnLine {B : Nat → Int32} {N : Nat} {h0 : Hp} {s : PSt} {Q : Hp → Prop} (hM0 : MS h0) (o0 : TX B N h0) (a : AL B N h0 s h) (hk0 : bodL B N s = colL B N s) (hkd : kd B N s.1 = 1) (hq : ∀ h', OX B N h0 (bodL B N s) h' → Q h') : w_M_columnLine 81 h Q := by
  obtain ⟨ds, ad, rt, h7, h8⟩ := a
  have hM := fr_MS ad.1 hM0
  have o := TX_fr o0 ad.1 (by decide) (by decide) (by decide)
  have sg := sp_gt (B := B) (N := N) (p := s.1) (by omega)
  have hc8 := ds.2.2.2.1
  unfold w_M_columnLine
  rw [ad.2.2.2.1]
  refine ⟨M_K hM, fun z => ?_, fun z => ?_⟩
  · have g1 : s.2.2.2.1.length = 8 := (nI_eq (b := 8) (by omega) (by omega)).mp z
    have er : colL B N s = .error (er B N s.1 2) := by unfold colL; rw [if_pos g1]
    refine t_M_wrong (k := 2) hM rt h7 (by omega) (by omega) (fun h2 f2 d2 => ?_)
    have hM2 := fr_MS f2 hM
    unfold w_M_columnLine_B16
    refine ⟨M_K hM2, t_M_isGood_d hM2 d2 ⟨fun _ => ?_, fun g => absurd rfl g⟩⟩
    unfold w_M_columnLine_B27
    exact ⟨M_K hM2, fun g => absurd g (DE_pos d2).1, fun _ => hq h2 (OX_err (hk0.trans er) ⟨fr_trans ad.1 (fr_mono f2 (by simp) (by simp) (by simp) (by simp)), d2⟩)⟩
  · have g1 : ¬ s.2.2.2.1.length = 8 := fun g => z (by rw [g]; rfl)
    unfold w_M_columnLine_B16
    refine ⟨M_K hM, t_M_isGood hM h7 ⟨fun g => absurd g (by decide), fun _ => ⟨M_K hM, t_M_goOn hM o rt.1 sg.2.2 (fun h2 f2 r2 => ?_)⟩⟩⟩
    have hM2 := fr_MS f2 hM
    have o2 := TX_fr o f2 (by decide) (by decide) (by decide)
    have ad2 := AD_fr ad (fr_mono f2 (by simp) (by simp) (by simp) (by simp))
    have h72 := (fr_F f2 (by decide) (by decide)).trans h7
    have hkd2 := kd_6 B N (sp B N s.1)
    obtain ⟨n1, n2, n3⟩ := M_names hM2
    have bad : (kd B N (sp B N s.1) ≠ 1 ∨ wd B N (sp B N s.1) ∈ wAll) → w_M_columnLine_B98 Q 81 (nI s.2.2.2.1.length) h2 := fun g2 => by
      have er : colL B N s = .error (er B N (sp B N s.1) 2) := by unfold colL; rw [if_neg g1, if_pos g2]
      unfold w_M_columnLine_B98
      refine ⟨M_K hM2, t_M_wrong (k := 2) hM2 r2 h72 (by omega) (by omega) (fun h3 f3 d3 => ⟨1, ?_⟩)⟩
      have hM3 := fr_MS f3 hM2
      have fin : w_M_columnLine_B142 Q 81 (nI s.2.2.2.1.length) h3 := by
        unfold w_M_columnLine_B142
        exact ⟨M_K hM3, fun g => absurd g (DE_pos d3).1, fun _ => hq h3 (OX_err (hk0.trans er) ⟨fr_trans ad2.1 (fr_mono f3 (by simp) (by simp) (by simp) (by simp)), d3⟩)⟩
      unfold w_M_columnLine_L105
      exact ⟨fun _ => fin, fun _ => ⟨M_K hM3, t_M_isGood_d hM3 d3 ⟨fun _ => fin, fun g => absurd rfl g⟩⟩⟩
    unfold w_M_columnLine_B27
    rw [h72, r2.2.2.1]
    refine ⟨M_K hM2, fun _ => ⟨fun z1 => ?_, fun z1 => bad (Or.inl (fun g => z1 (by rw [g]; rfl)))⟩, fun g => absurd (Int32.le_refl _) g⟩
    have hk : kd B N (sp B N s.1) = 1 := (nI_eq (b := 1) (by omega) (by omega)).mp z1
    rw [r2.2.2.2.2 hk]
    have weq : ∀ (w : List Nat) (v : Int64), v = lN (pkR w) → (∀ x ∈ w, 1 ≤ x ∧ x < 256) → pkR w < 2 ^ 64 → (lN (pkR (wd B N (sp B N s.1))) = v ↔ wd B N (sp B N s.1) = w) := fun w v hv h1 h2 => by rw [hv]; exact wd_eq hk h1 h2
    refine ⟨fun y => bad (Or.inr ?_), fun y1 => ⟨fun y => bad (Or.inr ?_), fun y2 => ⟨fun y => bad (Or.inr ?_), fun y3 => ⟨fun y => bad (Or.inr ?_), fun y4 => ⟨fun y => bad (Or.inr ?_), fun y5 => ?_⟩⟩⟩⟩⟩
    · rw [(weq wRows _ (by decide) (by decide) (by decide)).mp y]; decide
    · rw [(weq wColumn _ (by decide) (by decide) (by decide)).mp y]; decide
    · rw [(weq wGain _ (by decide) (by decide) (by decide)).mp y]; decide
    · rw [(weq wNeed _ (by decide) (by decide) (by decide)).mp y]; decide
    · rw [(weq wSteps _ (by decide) (by decide) (by decide)).mp y]; decide
    · have g2 : ¬ (kd B N (sp B N s.1) ≠ 1 ∨ wd B N (sp B N s.1) ∈ wAll) := by
        rintro (g | g)
        · exact g hk
        · unfold wAll at g
          rcases List.mem_cons.mp g with g | g
          · exact y1 ((weq wRows _ (by decide) (by decide) (by decide)).mpr g)
          · rcases List.mem_cons.mp g with g | g
            · exact y2 ((weq wColumn _ (by decide) (by decide) (by decide)).mpr g)
            · rcases List.mem_cons.mp g with g | g
              · exact y3 ((weq wGain _ (by decide) (by decide) (by decide)).mpr g)
              · rcases List.mem_cons.mp g with g | g
                · exact y4 ((weq wNeed _ (by decide) (by decide) (by decide)).mpr g)
                · rcases List.mem_cons.mp g with g | g
                  · exact y5 ((weq wSteps _ (by decide) (by decide) (by decide)).mpr g)
                  · exact absurd g List.not_mem_nil
      refine loop_0 (fun m k x => w_M_columnLine_L105 Q 81 (nI s.2.2.2.1.length) m (nI k) x) (fun k x => Fr [] [7, 8] [] [] h2 x ∧ ((x = h2 ∧ ∀ k', k' < k → s.2.2.2.1.getD k' [] ≠ wd B N (sp B N s.1)) ∨ (wd B N (sp B N s.1) ∈ s.2.2.2.1 ∧ DE (er B N (sp B N s.1) 3) x))) s.2.2.2.1.length _ ⟨fr_refl _ _ _ _ _, Or.inl ⟨rfl, fun k' hk' => absurd hk' (Nat.not_lt_zero _)⟩⟩ ?_ ?_
      · rintro m x ⟨fx, g | g⟩
        · unfold w_M_columnLine_L105
          refine ⟨fun _ => ?_, fun g => absurd (Int32.le_refl _) g⟩
          rw [g.1]
          refine t_col_body hM0 o0 ds ad2 r2 h72 ((fr_F f2 (by decide) (by decide)).trans h8) hk0 g1 g2 (fun g3 => ?_) hq
          obtain ⟨i, hi, e⟩ := mem_getD (d := []) g3
          exact g.2 i hi e
        · have hMx := fr_MS fx hM2
          have er : colL B N s = .error (er B N (sp B N s.1) 3) := by unfold colL; rw [if_neg g1, if_neg g2, if_pos g.1]
          unfold w_M_columnLine_L105
          refine ⟨fun _ => ?_, fun g => absurd (Int32.le_refl _) g⟩
          unfold w_M_columnLine_B142
          exact ⟨M_K hMx, fun y => absurd y (DE_pos g.2).1, fun _ => hq x (OX_err (hk0.trans er) ⟨fr_trans ad2.1 (fr_mono fx (by simp) (by simp) (by simp) (by simp)), g.2⟩)⟩
      · rintro m k x hk1 ⟨fx, g | g⟩ ih
        · obtain ⟨rfl, g⟩ := g
          have hw := ds.2.2.2.2 _ (getD_mem (d := []) hk1)
          unfold w_M_columnLine_L105
          refine ⟨fun y => absurd y (nI_ge hk1 (by omega)), fun _ => ⟨M_K hM2, t_M_isGood hM2 h72 ⟨fun y => absurd y (by decide), fun _ => ⟨M_K hM2, ?_⟩⟩⟩⟩
          rw [n1, n3, ix_nI (by omega), ad2.2.2.2.2.1 k hk1, r2.2.2.2.2 hk, nI_1]
          refine ⟨n2, vp_in_nI (by omega) (by omega), fun y => ?_, fun y => ih x ⟨fx, Or.inl ⟨rfl, fun k' hk' => ?_⟩⟩⟩
          · have y : wd B N (sp B N s.1) = s.2.2.2.1.getD k [] := (wd_eq hk hw.1 hw.2).mp y.symm
            exact t_M_wrong (k := 3) hM2 r2 h72 (by omega) (by omega) (fun h3 f3 d3 => ih h3 ⟨f3, Or.inr ⟨by rw [y]; exact getD_mem hk1, d3⟩⟩)
          · by_cases e : k' = k
            · rw [e]
              exact fun e2 => y (by rw [e2])
            · exact g k' (by omega)
        · have hMx := fr_MS fx hM2
          have er : colL B N s = .error (er B N (sp B N s.1) 3) := by unfold colL; rw [if_neg g1, if_neg g2, if_pos g.1]
          unfold w_M_columnLine_L105
          refine ⟨fun y => absurd y (nI_ge hk1 (by omega)), fun _ => ⟨M_K hMx, t_M_isGood_d hMx g.2 ⟨fun _ => ?_, fun y => absurd rfl y⟩⟩⟩
          unfold w_M_columnLine_B142
          exact ⟨M_K hMx, fun y => absurd y (DE_pos g.2).1, fun _ => hq x (OX_err (hk0.trans er) ⟨fr_trans ad2.1 (fr_mono fx (by simp) (by simp) (by simp) (by simp)), g.2⟩)⟩
theorem t_M_line {B : Nat → Int32} {N : Nat} {h0 : Hp} {s : PSt} {Q : Hp → Prop} (hM0 : MS h0) (o0 : TX B N h0) (a : AL B N h0 s h) (hq : ∀ h', OX B N h0 (lineL B N s) h' → Q h') : w_M_line 81 h Q := by
  have a' := a
  obtain ⟨ds, ad, rt, h7, h8⟩ := a
  have hM := fr_MS ad.1 hM0
  have tail : ∀ h', OX B N h0 (bodL B N s) h' → w_M_line_B73 Q 81 h' := by
    intro h2 ox
    cases e : bodL B N s with
    | error e' =>
      have el : lineL B N s = .error e' := by unfold lineL; rw [e]
      have d := ox.2 e' e
      have d2 : DX e' h0 (sI h2 81 19 1) := DX_fr (as := []) (fs := [19]) (js := []) (gs := []) d (fr_sI _ _ (Or.inr ⟨rfl, by simp⟩)) (by simp) (by simp) (by simp) (by simp)
      have hM2 := fr_MS d.1 hM0
      have hM3 := fr_MS d2.1 hM0
      unfold w_M_line_B73
      refine ⟨M_K hM2, t_M_isGood_d hM3 d2.2 ⟨fun _ => ?_, fun g => absurd rfl g⟩⟩
      unfold w_M_line_B98
      exact ⟨M_K hM3, t_M_isGood_d hM3 d2.2 ⟨fun _ => hq _ (OX_err el d2), fun g => absurd rfl g⟩⟩
    | ok x =>
      obtain ⟨xs, xd, xr, x7, x8⟩ := ox.1 x e
      have hM2 := fr_MS xd.1 hM0
      have f1 : Fr [] [19] [] [] h2 (sI h2 81 19 1) := fr_sI _ _ (Or.inr ⟨rfl, by simp⟩)
      have hM3 := fr_MS f1 hM2
      have o3 := TX_fr (TX_fr o0 xd.1 (by decide) (by decide) (by decide)) f1 (by decide) (by decide) (by decide)
      have rt3 : RT B N x.1 (sI h2 81 19 1) := by
        unfold RT
        rw [gI_sI, if_neg (by decide), gI_sI, if_neg (by decide), gI_sI, if_neg (by decide), gI_sI, if_neg (by decide), gL_sI]
        exact xr
      have h73 : gI (sI h2 81 19 1) 81 7 = 0 := (fr_F f1 (by decide) (by decide)).trans x7
      have ad3 : AD h0 (x.1, x.2.1, x.2.2.1, x.2.2.2.1, true, x.2.2.2.2.2.1, x.2.2.2.2.2.2) (sI h2 81 19 1) := by
        obtain ⟨a1, a2, a3, a4, a5, a6, a7, a8⟩ := xd
        refine ⟨fr_trans a1 (fr_mono f1 (by simp) (by simp) (by simp) (by simp)), fun k hk => ?_, ?_, ?_, ?_, ?_, ?_, ?_⟩
        · rw [gI_sI, if_neg (fun y => absurd y.1 (by decide))]; exact a2 k hk
        · rw [gI_sI, if_neg (by decide)]; exact a3
        · rw [gI_sI, if_neg (by decide)]; exact a4
        · rw [gL_sI]; exact a5
        · rw [gI_sI, if_pos ⟨rfl, rfl⟩]; rfl
        · rw [gI_sI, if_neg (by decide)]; exact a7
        · rw [gI_sI, if_neg (by decide)]; exact a8
      have hkd := kd_6 B N x.1
      unfold w_M_line_B73
      refine ⟨M_K hM2, t_M_isGood hM3 h73 ⟨fun g => absurd g (by decide), fun _ => ⟨M_K hM3, ?_⟩⟩⟩
      rw [rt3.2.2.1]
      refine ⟨fun z => ?_, fun z => ?_⟩
      · have k3 : kd B N x.1 = 3 := (nI_eq (b := 3) (by omega) (by omega)).mp z
        have el : lineL B N s = .ok (sp B N x.1, x.2.1, x.2.2.1, x.2.2.2.1, true, x.2.2.2.2.2.1, x.2.2.2.2.2.2) := by
          unfold lineL
          rw [e]
          dsimp only
          rw [if_pos k3]
        have sg := sp_gt (B := B) (N := N) (p := x.1) (by omega)
        unfold w_M_line_B98
        refine ⟨M_K hM3, t_M_isGood hM3 h73 ⟨fun g => absurd g (by decide), fun _ => ⟨M_K hM3, t_M_goOn hM3 o3 rt3.1 sg.2.2 (fun h4 f4 r4 => hq h4 (OX_ok el ⟨(lineL_sp ds el).1, ?_, r4, (fr_F f4 (by decide) (by decide)).trans h73, (fr_F f4 (by decide) (by decide)).trans ((fr_F f1 (by decide) (by decide)).trans x8)⟩))⟩⟩⟩
        exact AD_fr (s := (sp B N x.1, x.2.1, x.2.2.1, x.2.2.2.1, true, x.2.2.2.2.2.1, x.2.2.2.2.2.2)) ad3 (fr_mono f4 (by simp) (by simp) (by simp) (by simp))
      · have k3 : ¬ kd B N x.1 = 3 := fun g => z (by rw [g]; rfl)
        have el : lineL B N s = .error (er B N x.1 2) := by
          unfold lineL
          rw [e]
          dsimp only
          rw [if_neg k3]
        refine t_M_wrong (k := 2) hM3 rt3 h73 (by omega) (by omega) (fun h4 f4 d4 => ?_)
        have hM4 := fr_MS f4 hM3
        unfold w_M_line_B98
        exact ⟨M_K hM4, t_M_isGood_d hM4 d4 ⟨fun _ => hq h4 (OX_err el ⟨fr_trans ad3.1 (fr_mono f4 (by simp) (by simp) (by simp) (by simp)), d4⟩), fun g => absurd rfl g⟩⟩
  have kdw : ∀ w, isK B N s.1 w = true → kd B N s.1 = 1 := fun w hw => by
    unfold isK at hw
    rw [Bool.and_eq_true, decide_eq_true_eq] at hw
    exact hw.1
  unfold w_M_line
  refine ⟨M_K hM, t_M_isWord (w := wRows) hM rt h7 (by decide) (by decide) (by decide) ⟨fun z1 => ⟨M_K hM, t_M_isWord (w := wColumn) hM rt h7 (by decide) (by decide) (by decide) ⟨fun z2 => ⟨M_K hM, t_M_isWord (w := wNeed) hM rt h7 (by decide) (by decide) (by decide) ⟨fun z3 => ⟨M_K hM, t_M_isWord (w := wSteps) hM rt h7 (by decide) (by decide) (by decide) ⟨fun z4 => ⟨M_K hM, ?_⟩, fun z4 => ⟨M_K hM, ?_⟩⟩⟩, fun z3 => ⟨M_K hM, ?_⟩⟩⟩, fun z2 => ⟨M_K hM, ?_⟩⟩⟩, fun z1 => ⟨M_K hM, ?_⟩⟩⟩
  · refine t_M_wrong (k := 2) hM rt h7 (by omega) (by omega) (fun h2 f2 d2 => tail h2 (OX_err ?_ ⟨fr_trans ad.1 (fr_mono f2 (by simp) (by simp) (by simp) (by simp)), d2⟩))
    unfold bodL
    rw [if_neg (by rw [z1]; decide), if_neg (by rw [z2]; decide), if_neg (by rw [z3]; decide), if_neg (by rw [z4]; decide)]
  · exact t_M_stepsLine hM0 o0 a' (by unfold bodL; rw [if_neg (by rw [z1]; decide), if_neg (by rw [z2]; decide), if_neg (by rw [z3]; decide), if_pos (ntf z4)]) (kdw _ (ntf z4)) tail
  · exact t_M_needLine hM0 o0 a' (by unfold bodL; rw [if_neg (by rw [z1]; decide), if_neg (by rw [z2]; decide), if_pos (ntf z3)]) (kdw _ (ntf z3)) tail
  · exact t_M_columnLine hM0 o0 a' (by unfold bodL; rw [if_neg (by rw [z1]; decide), if_pos (ntf z2)]) (kdw _ (ntf z2)) tail
  · exact t_M_rowsLine hM0 o0 a' (ntf z1) tail
theorem t_M_begins {Q : Hp → Prop} (hM : MS h) (hq : ∀ h', Fr [83] [15, 16, 19, 20, 21] [] [] h h' → (∀ k, k < 44 → gI h' 83 k = if k = 35 then 8 else 0) → gI h' 81 15 = nI 1 → gI h' 81 16 = nI 0 → gI h' 81 19 = 0 → gI h' 81 20 = 0 → gI h' 81 21 = 0 → Q h') : w_M_begins 81 h Q := by
  obtain ⟨b1, b2, b3⟩ := M_told hM
  unfold w_M_begins
  refine ⟨M_K hM, ?_⟩
  refine loop_0 (fun m i s => w_M_begins_L12 Q 81 m (nI i) s) (fun i s => Fr [83] [15, 16, 19, 20, 21] [] [] h s ∧ (∀ k, k < i → gI s 83 k = 0) ∧ gI s 81 15 = nI 1 ∧ gI s 81 16 = nI 0) 44 _ ⟨fr_trans (fr_sI _ _ (Or.inr ⟨rfl, by simp⟩)) (fr_sI _ _ (Or.inr ⟨rfl, by simp⟩)), fun k hk => absurd hk (Nat.not_lt_zero _), ?_, ?_⟩ ?_ ?_
  · rw [gI_sI, if_neg (by decide), gI_sI, if_pos ⟨rfl, rfl⟩]; rfl
  · rw [gI_sI, if_pos ⟨rfl, rfl⟩]; rfl
  · rintro m s ⟨f, e, e1, e2⟩
    unfold w_M_begins_L12
    rw [fr_K f, fr_R f, fr_N f, b1, b3, show ix (35 : Int32) = 35 from rfl]
    refine ⟨fun _ => ⟨M_K hM, b2, vp_in_nI (n := 35) (by omega) (by omega), hq _ (fr_trans f (fr_trans (fr_trans (fr_trans (fr_sI _ _ (Or.inl (by simp))) (fr_sI _ _ (Or.inr ⟨rfl, by simp⟩))) (fr_sI _ _ (Or.inr ⟨rfl, by simp⟩))) (fr_sI _ _ (Or.inr ⟨rfl, by simp⟩)))) (fun k hk => ?_) ?_ ?_ ?_ ?_ ?_⟩, fun z => absurd (Int32.le_refl _) z⟩
    · rw [gI_sI, if_neg (fun y => absurd y.1 (by decide)), gI_sI, if_neg (fun y => absurd y.1 (by decide)), gI_sI, if_neg (fun y => absurd y.1 (by decide)), gI_sI]
      by_cases g : k = 35
      · rw [if_pos ⟨rfl, g⟩, if_pos g]
      · rw [if_neg (fun y => g y.2), if_neg g]; exact e k hk
    · rw [gI_sI, if_neg (by decide), gI_sI, if_neg (by decide), gI_sI, if_neg (by decide), gI_sI, if_neg (by decide)]; exact e1
    · rw [gI_sI, if_neg (by decide), gI_sI, if_neg (by decide), gI_sI, if_neg (by decide), gI_sI, if_neg (by decide)]; exact e2
    · rw [gI_sI, if_neg (by decide), gI_sI, if_neg (by decide), gI_sI, if_pos ⟨rfl, rfl⟩]
    · rw [gI_sI, if_neg (by decide), gI_sI, if_pos ⟨rfl, rfl⟩]
    · rw [gI_sI, if_pos ⟨rfl, rfl⟩]
  · rintro m i s hi ⟨f, e, e1, e2⟩ ih
    unfold w_M_begins_L12
    refine ⟨fun z => absurd z (nI_ge (b := 44) hi (by omega)), fun _ => ?_⟩
    rw [fr_K f, fr_R f, fr_N f, b1, b3, ix_nI (by omega), nI_1]
    refine ⟨M_K hM, b2, vp_in_nI (by omega) (by omega), ih _ ⟨fr_trans f (fr_sI _ _ (Or.inl (by simp))), fun k hk => ?_, ?_, ?_⟩⟩
    · rw [gI_sI]
      by_cases g : k = i
      · rw [if_pos ⟨rfl, g⟩]
      · rw [if_neg (fun y => g y.2)]; exact e k (by omega)
    · rw [gI_sI, if_neg (fun y => absurd y.1 (by decide))]; exact e1
    · rw [gI_sI, if_neg (fun y => absurd y.1 (by decide))]; exact e2
theorem t_M_takesOver {Q : Hp → Prop} (hM : MS h) (hq : ∀ h', Fr [84, 86, 119] [17, 18, 24, 25, 41, 73] [] [] h h' → (∀ k, k < 44 → gI h' 84 k = gI h 83 k) → (∀ k, k < 44 → gI h' 86 k = gI h 83 k) → gI h' 81 17 = gI h 81 15 → gI h' 81 18 = gI h 81 16 → gI h' 81 24 = 0 → gI h' 81 25 = 0 → gI h' 81 73 = 0 → gI h' 81 41 = 0 → gI h' 119 0 = 0 → gI h' 119 1 = 0 → Q h') : w_M_takesOver 81 h Q := by
  obtain ⟨b1, b2, b3⟩ := M_told hM
  obtain ⟨c1, c2, c3⟩ := M_toldNow hM
  obtain ⟨d1, d2, d3⟩ := M_now hM
  obtain ⟨k1, k2, k3⟩ := M_isKept hM
  unfold w_M_takesOver
  refine ⟨M_K hM, ?_⟩
  refine loop_0 (fun m i s => w_M_takesOver_L18 Q 81 m (nI i) s) (fun i s => Fr [84, 86, 119] [17, 18, 24, 25, 41, 73] [] [] h s ∧ (∀ k, k < i → gI s 84 k = gI h 83 k ∧ gI s 86 k = gI h 83 k) ∧ gI s 81 17 = gI h 81 15 ∧ gI s 81 18 = gI h 81 16) 44 _ ⟨fr_trans (fr_sI _ _ (Or.inr ⟨rfl, by simp⟩)) (fr_sI _ _ (Or.inr ⟨rfl, by simp⟩)), fun k hk => absurd hk (Nat.not_lt_zero _), ?_, ?_⟩ ?_ ?_
  · rw [gI_sI, if_neg (by decide), gI_sI, if_pos ⟨rfl, rfl⟩]
  · rw [gI_sI, if_pos ⟨rfl, rfl⟩, gI_sI, if_neg (by decide)]
  · rintro m s ⟨f, e, e1, e2⟩
    have hM1 := fr_MS f hM
    unfold w_M_takesOver_L18
    refine ⟨fun _ => ⟨M_K hM1, ?_⟩, fun z => absurd (Int32.le_refl _) z⟩
    have f2 : Fr [84, 86, 119] [17, 18, 24, 25, 41, 73] [] [] h (sI (sI (sI (sI s 81 24 0) 81 25 0) 81 73 0) 81 41 0) := fr_trans f (fr_trans (fr_trans (fr_trans (fr_sI _ _ (Or.inr ⟨rfl, by simp⟩)) (fr_sI _ _ (Or.inr ⟨rfl, by simp⟩))) (fr_sI _ _ (Or.inr ⟨rfl, by simp⟩))) (fr_sI _ _ (Or.inr ⟨rfl, by simp⟩)))
    refine loop_0 (fun m i s => w_M_takesOver_L76 Q 81 m (nI i) s) (fun i x => Fr [119] [] [] [] (sI (sI (sI (sI s 81 24 0) 81 25 0) 81 73 0) 81 41 0) x ∧ ∀ k, k < i → gI x 119 k = 0) 2 _ ⟨fr_refl _ _ _ _ _, fun k hk => absurd hk (Nat.not_lt_zero _)⟩ ?_ ?_
    · rintro m x ⟨fx, ex⟩
      unfold w_M_takesOver_L76
      refine ⟨fun _ => hq x (fr_trans f2 (fr_mono fx (by simp) (by simp) (by simp) (by simp))) (fun k hk => ?_) (fun k hk => ?_) ?_ ?_ ?_ ?_ ?_ ?_ (ex 0 (by omega)) (ex 1 (by omega)), fun z => absurd (Int32.le_refl _) z⟩
      · rw [fr_I fx (x := 84) (by decide) (by decide), gI_sI, if_neg (fun y => absurd y.1 (by decide)), gI_sI, if_neg (fun y => absurd y.1 (by decide)), gI_sI, if_neg (fun y => absurd y.1 (by decide)), gI_sI, if_neg (fun y => absurd y.1 (by decide))]; exact (e k hk).1
      · rw [fr_I fx (x := 86) (by decide) (by decide), gI_sI, if_neg (fun y => absurd y.1 (by decide)), gI_sI, if_neg (fun y => absurd y.1 (by decide)), gI_sI, if_neg (fun y => absurd y.1 (by decide)), gI_sI, if_neg (fun y => absurd y.1 (by decide))]; exact (e k hk).2
      · rw [fr_F fx (by decide) (by decide), gI_sI, if_neg (by decide), gI_sI, if_neg (by decide), gI_sI, if_neg (by decide), gI_sI, if_neg (by decide)]; exact e1
      · rw [fr_F fx (by decide) (by decide), gI_sI, if_neg (by decide), gI_sI, if_neg (by decide), gI_sI, if_neg (by decide), gI_sI, if_neg (by decide)]; exact e2
      · rw [fr_F fx (by decide) (by decide), gI_sI, if_neg (by decide), gI_sI, if_neg (by decide), gI_sI, if_neg (by decide), gI_sI, if_pos ⟨rfl, rfl⟩]
      · rw [fr_F fx (by decide) (by decide), gI_sI, if_neg (by decide), gI_sI, if_neg (by decide), gI_sI, if_pos ⟨rfl, rfl⟩]
      · rw [fr_F fx (by decide) (by decide), gI_sI, if_neg (by decide), gI_sI, if_pos ⟨rfl, rfl⟩]
      · rw [fr_F fx (by decide) (by decide), gI_sI, if_pos ⟨rfl, rfl⟩]
    · rintro m i x hi ⟨fx, ex⟩ ih
      have hMx := fr_MS fx (fr_MS f2 hM)
      obtain ⟨k1, k2, k3⟩ := M_isKept hMx
      unfold w_M_takesOver_L76
      refine ⟨fun z => absurd z (nI_ge (b := 2) hi (by omega)), fun _ => ?_⟩
      rw [k1, k3, ix_nI (by omega), nI_1]
      refine ⟨M_K hMx, k2, vp_in_nI (by omega) (by omega), ih _ ⟨fr_trans fx (fr_sI _ _ (Or.inl (by simp))), fun k hk => ?_⟩⟩
      rw [gI_sI]
      by_cases g : k = i
      · rw [if_pos ⟨rfl, g⟩]
      · rw [if_neg (fun y => g y.2)]; exact ex k (by omega)
  · rintro m i s hi ⟨f, e, e1, e2⟩ ih
    unfold w_M_takesOver_L18
    refine ⟨fun z => absurd z (nI_ge (b := 44) hi (by omega)), fun _ => ?_⟩
    rw [fr_K f, fr_R f, fr_N f, b1, b3, c1, c3, d1, d3, ix_nI (by omega), nI_1, gI_sI, if_neg (fun y => absurd y.1 (by decide)), fr_I f (x := 83) (by decide) (by decide)]
    refine ⟨M_K hM, b2, vp_in_nI (by omega) (by omega), c2, vp_in_nI (by omega) (by omega), d2, vp_in_nI (by omega) (by omega), ih _ ⟨fr_trans f (fr_trans (fr_sI _ _ (Or.inl (by simp))) (fr_sI _ _ (Or.inl (by simp)))), fun k hk => ?_, ?_, ?_⟩⟩
    · rw [gI_sI, if_neg (fun y => absurd y.1 (by decide)), gI_sI, gI_sI]
      by_cases g : k = i
      · rw [if_pos ⟨rfl, g⟩, if_pos ⟨rfl, g⟩, g]; exact ⟨rfl, rfl⟩
      · rw [if_neg (fun y => g y.2), if_neg (fun y => g y.2), gI_sI, if_neg (fun y => absurd y.1 (by decide))]; exact e k (by omega)
    · rw [gI_sI, if_neg (fun y => absurd y.1 (by decide)), gI_sI, if_neg (fun y => absurd y.1 (by decide))]; exact e1
    · rw [gI_sI, if_neg (fun y => absurd y.1 (by decide)), gI_sI, if_neg (fun y => absurd y.1 (by decide))]; exact e2
