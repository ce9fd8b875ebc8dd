/-! The class's reader: a column's line, all lines -/
variable {h : Hp}
set_option maxHeartbeats 1000000 in
theorem t_Rd_readColumn {B : Nat → Int32} {N : Nat} {h0 : Hp} {s : PSt} {Q : Bool → Hp → Prop} (m0 : XS h0) (a : AY B N h0 s h) (hk0 : bodL B N s = colL B N s) (hc : s.2.2.2.1.length < 8) (hqE : ∀ e h', lineL B N s = .error e → EE e h0 h' → Q false h') (hqO : ∀ s' h', lineL B N s = .ok s' → AY B N h0 s' h' → Q true h') : w_Rd_readColumn 23 h Q := by
  have a0 := a
  obtain ⟨ds, x, o, d, r⟩ := a
  have m := fx_XS x m0
  have hr3 := ds.2.2.1
  have n8 : ¬ s.2.2.2.1.length = 8 := by omega
  have hN := o.1
  unfold w_Rd_readColumn
  rw [X_r23_0 m]
  refine ⟨X_k23 m, X_k17 m, t_Rd_adv m0 a0 (fun h2 x2 a2 => ?_)⟩
  have m2 := fx_XS a2.2.1 m0
  refine ⟨X_k23 m2, t_Rd_isNewName m0 a2 (fun g h' ee => ⟨fun _ => hqE _ h' ?_ ee, fun z => absurd rfl z⟩) (fun g g3 h' ee => ⟨fun _ => hqE _ h' ?_ ee, fun z => absurd rfl z⟩) (fun g2 g3 => ⟨fun z => absurd z (by decide), fun _ => ⟨X_k23 m2, ?_⟩⟩)⟩
  · have g : kd B N (sp B N s.1) ≠ 1 ∨ wd B N (sp B N s.1) ∈ wAll := g
    unfold lineL
    rw [hk0]
    unfold colL
    rw [if_neg n8, if_pos g]
  · have g : ¬ (kd B N (sp B N s.1) ≠ 1 ∨ wd B N (sp B N s.1) ∈ wAll) := g
    have g3 : wd B N (sp B N s.1) ∈ s.2.2.2.1 := g3
    unfold lineL
    rw [hk0]
    unfold colL
    rw [if_neg n8, if_neg g, if_pos g3]
  · have g2 : ¬ (kd B N (sp B N s.1) ≠ 1 ∨ wd B N (sp B N s.1) ∈ wAll) := g2
    have g3 : ¬ wd B N (sp B N s.1) ∈ s.2.2.2.1 := g3
    have hkw : kd B N (sp B N s.1) = 1 := by
      by_cases g : kd B N (sp B N s.1) = 1
      · exact g
      · exact absurd (Or.inl g) g2
    have colE : ∀ e, sgs B N (3 * s.2.2.2.1.length) 5 (sp B N (sp B N s.1)) s.2.1 s.2.2.1 = .error e → lineL B N s = .error e := fun e he => by
      unfold lineL
      rw [hk0]
      unfold colL
      rw [if_neg n8, if_neg g2, if_neg g3, he]
    obtain ⟨k1, k2, k3, k4, k5⟩ := kd_word hkw
    have b1 := sp_gt (B := B) (N := N) (p := sp B N s.1) (by omega)
    have plsp : pl B N (sp B N s.1) ≤ sp B N (sp B N s.1) := by
      have := (ru_sp isL_f (B := B) (N := N) (pl B N (sp B N s.1))).1
      rw [k3]
      exact this
    obtain ⟨d2, x02, o2, dr2, r2⟩ := a2
    have c2 : gI h2 24 2 = nI s.2.2.2.1.length := dr2.2.2.1
    have r23 : gI h2 17 3 = nI (pl B N (sp B N s.1)) := r2.2.1
    have r24 : gI h2 17 4 = nI (sp B N (sp B N s.1)) := r2.2.2
    rw [X_r23_0 m2, X_r23_1 m2, X_r23_2 m2, X_r23_3 m2, c2, X_n26 m2, X_n27 m2, ix_nI (by omega), r23, show gI (sI h2 26 s.2.2.2.1.length (nI (pl B N (sp B N s.1)))) 17 4 = nI (sp B N (sp B N s.1)) from by rw [gI_sI, if_neg (fun q => absurd q.1 (by decide))]; exact r24]
    refine ⟨X_k24 m2, fun _ => ⟨X_k17 m2, X_k26 m2, vp_in_nI (by omega) (by omega), X_k27 m2, vp_in_nI (by omega) (by omega), ?_⟩, fun z => absurd (nI_lt hc (by omega)) z⟩
    have x3 : Fx [26, 27] [] h2 (sI (sI h2 26 s.2.2.2.1.length (nI (pl B N (sp B N s.1)))) 27 s.2.2.2.1.length (nI (sp B N (sp B N s.1)))) := fx_trans (fx_sI _ _ (by simp)) (fx_sI _ _ (by simp))
    have f26 : gI (sI (sI h2 26 s.2.2.2.1.length (nI (pl B N (sp B N s.1)))) 27 s.2.2.2.1.length (nI (sp B N (sp B N s.1)))) 26 s.2.2.2.1.length = nI (pl B N (sp B N s.1)) := by rw [gI_sI, if_neg (fun q => absurd q.1 (by decide)), gI_sI, if_pos ⟨rfl, rfl⟩]
    have f27 : gI (sI (sI h2 26 s.2.2.2.1.length (nI (pl B N (sp B N s.1)))) 27 s.2.2.2.1.length (nI (sp B N (sp B N s.1)))) 27 s.2.2.2.1.length = nI (sp B N (sp B N s.1)) := by rw [gI_sI, if_pos ⟨rfl, rfl⟩]
    have a3 : AY B N h0 (sp B N s.1, s.2) (sI (sI h2 26 s.2.2.2.1.length (nI (pl B N (sp B N s.1)))) 27 s.2.2.2.1.length (nI (sp B N (sp B N s.1)))) := by
      refine ⟨d2, fx_trans x02 (fx_mono x3 (by simp) (by simp)), TY_eq o2 (by rw [fx_I x3 (by decide)]) (fx_I x3 (by decide)), ⟨?_, ?_, ?_, fun c hc' => ?_, ?_⟩, ?_⟩
      · rw [fx_I x3 (x := 25) (by decide)]; exact dr2.1
      · rw [fx_I x3 (x := 24) (by decide)]; exact dr2.2.1
      · rw [fx_I x3 (x := 24) (by decide)]; exact dr2.2.2.1
      · have hc' : c < s.2.2.2.1.length := hc'
        rw [gI_sI, if_neg (fun q => absurd q.1 (by decide)), gI_sI, if_neg (fun q => absurd q.2 (by omega)), gI_sI, if_neg (fun q => absurd q.2 (by omega)), gI_sI, if_neg (fun q => absurd q.1 (by decide))]
        exact dr2.2.2.2.1 c hc'
      · rw [fx_I x3 (x := 23) (by decide)]; exact dr2.2.2.2.2
      · unfold RY
        rw [fx_I x3 (x := 17) (by decide)]
        exact r2
    generalize sI (sI h2 26 s.2.2.2.1.length (nI (pl B N (sp B N s.1)))) 27 s.2.2.2.1.length (nI (sp B N (sp B N s.1))) = h3 at x3 f26 f27 a3 ⊢
    refine t_Rd_adv m0 a3 (fun h4 x4 a4 => ?_)
    refine loop_0 (fun q i st => w_Rd_readColumn_L71 Q 23 (nI s.2.2.2.1.length) q (nI i) st) (fun i st => ∃ y, sgs B N (3 * s.2.2.2.1.length) 5 (sp B N (sp B N s.1)) s.2.1 i = .ok y ∧ AY B N h0 (y.1, y.2, s.2.2) st ∧ gI st 26 s.2.2.2.1.length = nI (pl B N (sp B N s.1)) ∧ gI st 27 s.2.2.2.1.length = nI (sp B N (sp B N s.1))) s.2.2.1 h4 ⟨(sp B N (sp B N s.1), s.2.1), rfl, a4, by rw [fx_I x4 (by decide)]; exact f26, by rw [fx_I x4 (by decide)]; exact f27⟩ ?_ ?_
    · rintro q st ⟨y, hy, ay, e26, e27⟩
      have ms := fx_XS ay.2.1 m0
      unfold w_Rd_readColumn_L71
      rw [X_r23_0 ms, X_r23_1 ms, show gI st 24 1 = nI s.2.2.1 from ay.2.2.2.1.2.1]
      refine ⟨X_k23 ms, X_k24 ms, fun _ => ⟨X_k17 ms, t_Tp_isWord ms ay.2.2.1 ay.2.2.2.2 (v := 2) (by decide) ⟨fun zg => ⟨X_k23 ms, t_Rd_fail (k := 2) m0 ay (fun h' ee => hqE _ h' ?_ ee)⟩, fun zg => ⟨X_k23 ms, ?_⟩⟩⟩, fun z => absurd (Int32.le_refl _) z⟩
      · have zg : isK B N y.1 wGain = false := zg
        unfold lineL
        rw [hk0]
        unfold colL
        rw [if_neg n8, if_neg g2, if_neg g3, hy]
        dsimp only
        rw [if_neg (fun q => by rw [zg] at q; cases q)]
      · have zg : isK B N y.1 wGain = true := ntf zg
        rw [X_r23_0 ms]
        refine ⟨X_k17 ms, t_Rd_adv m0 ay (fun h5 x5 a5 => ⟨X_k23 (fx_XS a5.2.1 m0), ?_⟩)⟩
        rw [show (24 : Int32) = nI 24 from rfl, nI_add]
        refine t_Rd_readSigned m0 a5 (by omega) (fun e h' he ee => ⟨fun _ => hqE e h' ?_ ee, fun z => absurd rfl z⟩) (fun z h6 he x6 a6 => ⟨fun z => absurd z (by decide), fun _ => ?_⟩)
        · have he : sgn B N (sp B N y.1) 99 = .error e := he
          unfold lineL
          rw [hk0]
          unfold colL
          rw [if_neg n8, if_neg g2, if_neg g3, hy]
          dsimp only
          rw [if_pos zg, he]
        · have he : sgn B N (sp B N y.1) 99 = .ok z := he
          have m6 := fx_XS a6.2.1 m0
          have hb : bodL B N s = .ok (z.2, upd y.2 (24 + s.2.2.2.1.length) z.1, s.2.2.1, s.2.2.2.1 ++ [wd B N (sp B N s.1)], s.2.2.2.2.1, s.2.2.2.2.2.1, s.2.2.2.2.2.2) := by
            rw [hk0]
            unfold colL
            rw [if_neg n8, if_neg g2, if_neg g3, hy]
            dsimp only
            rw [if_pos zg, he]
          have dx := (bodL_sp ds hb).1
          obtain ⟨d6, x06, o6, dr6, r6⟩ := a6
          have c6 : gI h6 24 2 = nI s.2.2.2.1.length := dr6.2.2.1
          have q26 : gI h6 26 s.2.2.2.1.length = nI (pl B N (sp B N s.1)) := by rw [fx_I x6 (by decide), fx_I x5 (by decide)]; exact e26
          have q27 : gI h6 27 s.2.2.2.1.length = nI (sp B N (sp B N s.1)) := by rw [fx_I x6 (by decide), fx_I x5 (by decide)]; exact e27
          rw [X_r23_1 m6, c6, nI_1]
          have x7 : Fx [24] [] h6 (sI h6 24 2 (nI (s.2.2.2.1.length + 1))) := fx_sI _ _ (by simp)
          refine ⟨X_k23 m6, X_k24 m6, t_Rd_endLine m0 (x := (z.2, upd y.2 (24 + s.2.2.2.1.length) z.1, s.2.2.1, s.2.2.2.1 ++ [wd B N (sp B N s.1)], s.2.2.2.2.1, s.2.2.2.2.2.1, s.2.2.2.2.2.2)) ⟨dx, fx_trans x06 (fx_mono x7 (by simp) (by simp)), TY_eq o6 (by rw [fx_I x7 (by decide)]) (fx_I x7 (by decide)), ⟨?_, ?_, ?_, fun c hc' => ?_, ?_⟩, ?_⟩ hb hqE hqO⟩
          · rw [fx_I x7 (x := 25) (by decide)]; exact dr6.1
          · rw [gI_sI, if_neg (by decide)]; exact dr6.2.1
          · rw [gI_sI, if_pos ⟨rfl, rfl⟩]
            show _ = nI (s.2.2.2.1 ++ [wd B N (sp B N s.1)]).length
            rw [List.length_append, List.length_singleton]
          · have hc' : c < (s.2.2.2.1 ++ [wd B N (sp B N s.1)]).length := hc'
            rw [List.length_append, List.length_singleton] at hc'
            rw [fx_I x7 (x := 26) (by decide), fx_I x7 (x := 27) (by decide)]
            show ∃ a e, a ≤ e ∧ e ≤ N ∧ gI h6 26 c = nI a ∧ gI h6 27 c = nI e ∧ (s.2.2.2.1 ++ [wd B N (sp B N s.1)]).getD c [] = wr B a (e - a) ∧ ∀ i, i < e - a → isLb (B (a + i)) = true
            by_cases g : c = s.2.2.2.1.length
            · subst g
              refine ⟨pl B N (sp B N s.1), sp B N (sp B N s.1), plsp, b1.2.2, q26, q27, ?_, k5⟩
              rw [List.getD_eq_getElem?_getD, List.getElem?_append_right (Nat.le_refl _), Nat.sub_self]
              rfl
            · rw [List.getD_eq_getElem?_getD, List.getElem?_append_left (by omega), ← List.getD_eq_getElem?_getD]
              exact dr6.2.2.2.1 c (by show c < s.2.2.2.1.length; omega)
          · rw [fx_I x7 (x := 23) (by decide)]; exact dr6.2.2.2.2
          · unfold RY
            rw [fx_I x7 (x := 17) (by decide)]
            exact r6
    · rintro q i st hi ⟨y, hy, ay, e26, e27⟩ ih
      have ms := fx_XS ay.2.1 m0
      unfold w_Rd_readColumn_L71
      rw [X_r23_1 ms, show gI st 24 1 = nI s.2.2.1 from ay.2.2.2.1.2.1, show (3 : Int32) = nI 3 from rfl, pk_mul, nI_add, Nat.mul_comm _ 3]
      refine ⟨X_k23 ms, X_k24 ms, fun z => absurd z (nI_ge (by omega) (by omega)), fun _ => t_Rd_readSigned m0 ay (by omega) (fun e' h' he ee => ⟨fun _ => ?_, fun z => absurd rfl z⟩) (fun y' h' he x' a' => ⟨fun z => absurd z (by decide), fun _ => ?_⟩)⟩
      · refine hqE e' h' (colE e' ?_) ee
        have := sgs_err (sgs_e hy he) (s.2.2.1 - (i + 1))
        rwa [show i + 1 + (s.2.2.1 - (i + 1)) = s.2.2.1 from by omega] at this
      · rw [nI_1]
        exact ih h' ⟨(y'.2, upd y.2 (3 * s.2.2.2.1.length + i) y'.1), sgs_s hy he, a', by rw [fx_I x' (by decide)]; exact e26, by rw [fx_I x' (by decide)]; exact e27⟩
theorem t_Rd_readLine {B : Nat → Int32} {N line : Nat} {h0 : Hp} {s : PSt} {Q : Bool → Hp → Prop} (m0 : XS h0) (a : AY B N h0 s h) (hl : s.2.2.2.2.1 = decide (line ≠ 0)) (hline : line < 2 ^ 31) (hqE : ∀ e h', lineL B N s = .error e → EE e h0 h' → Q false h') (hqO : ∀ s' h', lineL B N s = .ok s' → AY B N h0 s' h' → Q true h') : w_Rd_readLine 23 (nI line) h Q := by
  have a0 := a
  obtain ⟨ds, x, o, d, r⟩ := a
  have m := fx_XS x m0
  have c2 : gI h 24 2 = nI s.2.2.2.1.length := d.2.2.1
  have h8 := ds.2.2.2.1
  have fail : ∀ k, bodL B N s = .error (er B N s.1 k) → w_Rd_fail 23 (nI k) h (fun r18 h17 => Q r18 h17) := fun k hb => t_Rd_fail m0 a0 (fun h' ee => hqE _ h' (by unfold lineL; rw [hb]) ee)
  unfold w_Rd_readLine
  rw [X_r23_0 m]
  refine ⟨X_k23 m, X_k17 m, t_Tp_isWord m o r (v := 0) (by decide) ⟨fun z0 => ⟨X_k23 m, ?_⟩, fun z0 => ⟨fun zl => ⟨X_k23 m, ?_⟩, fun zl => ⟨X_k23 m, fail 2 ?_⟩⟩⟩⟩
  · have z0 : ¬ isK B N s.1 wRows = true := fun q => by rw [show isK B N s.1 wRows = false from z0] at q; cases q
    rw [X_r23_0 m]
    refine ⟨X_k17 m, t_Tp_isWord m o r (v := 1) (by decide) ⟨fun z1 => ⟨X_k23 m, ?_⟩, fun z1 => ⟨X_k23 m, ?_⟩⟩⟩
    · have z1 : ¬ isK B N s.1 wColumn = true := fun q => by rw [show isK B N s.1 wColumn = false from z1] at q; cases q
      rw [X_r23_0 m]
      refine ⟨X_k17 m, t_Tp_isWord m o r (v := 3) (by decide) ⟨fun z3 => ⟨X_k23 m, ?_⟩, fun z3 => ⟨X_k23 m, ?_⟩⟩⟩
      · have z3 : ¬ isK B N s.1 wNeed = true := fun q => by rw [show isK B N s.1 wNeed = false from z3] at q; cases q
        rw [X_r23_0 m]
        refine ⟨X_k17 m, t_Tp_isWord m o r (v := 4) (by decide) ⟨fun z4 => ⟨X_k23 m, fail 2 ?_⟩, fun z4 => ⟨X_k23 m, ?_⟩⟩⟩
        · have z4 : ¬ isK B N s.1 wSteps = true := fun q => by rw [show isK B N s.1 wSteps = false from z4] at q; cases q
          unfold bodL
          rw [if_neg z0, if_neg z1, if_neg z3, if_neg z4]
        · have z4 : isK B N s.1 wSteps = true := ntf z4
          have hk0 : bodL B N s = stepL B N s := by unfold bodL; rw [if_neg z0, if_neg z1, if_neg z3, if_pos z4]
          rw [show gI h 23 5 = b2i s.2.2.2.2.2.2 from d.2.2.2.2.2.1]
          cases hf : s.2.2.2.2.2.2 with
          | false => exact ⟨fun _ => t_Rd_readSteps m0 a0 hk0 hf hqE hqO, fun z => absurd rfl z⟩
          | true => exact ⟨fun z => absurd z (by decide), fun _ => fail 3 (by rw [hk0]; unfold stepL; rw [if_pos hf])⟩
      · have z3 : isK B N s.1 wNeed = true := ntf z3
        have hk0 : bodL B N s = needL B N s := by unfold bodL; rw [if_neg z0, if_neg z1, if_pos z3]
        rw [show gI h 23 4 = b2i s.2.2.2.2.2.1 from d.2.2.2.2.1]
        cases hf : s.2.2.2.2.2.1 with
        | false => exact ⟨fun _ => t_Rd_readNeed m0 a0 hk0 hf hqE hqO, fun z => absurd rfl z⟩
        | true => exact ⟨fun z => absurd z (by decide), fun _ => fail 3 (by rw [hk0]; unfold needL; rw [if_pos hf])⟩
    · have z1 : isK B N s.1 wColumn = true := ntf z1
      have hk0 : bodL B N s = colL B N s := by unfold bodL; rw [if_neg z0, if_pos z1]
      rw [X_r23_1 m, c2]
      refine ⟨X_k24 m, fun z => fail 2 ?_, fun z => t_Rd_readColumn m0 a0 hk0 (Nat.lt_of_not_le (fun q => z (nI_le (a := 8) q (by omega)))) hqE hqO⟩
      rw [hk0]
      unfold colL
      rw [if_pos (by have := (nI_leI (a := 8) (by omega) (by omega)).mp z; omega)]
  · have z0 : isK B N s.1 wRows = true := ntf z0
    have l0 : line = 0 := (nI_eq (b := 0) hline (by omega)).mp zl
    have hf : s.2.2.2.2.1 = false := by rw [hl, l0]; rfl
    exact t_Rd_readRows m0 a0 (by unfold bodL; rw [if_pos z0]) hf hqE hqO
  · have z0 : isK B N s.1 wRows = true := ntf z0
    have hf : s.2.2.2.2.1 = true := by rw [hl]; exact decide_eq_true (fun q => zl (by rw [q]; rfl))
    unfold bodL
    rw [if_pos z0]
    unfold rowL
    rw [if_pos hf]
theorem kd_N {B : Nat → Int32} {N : Nat} : kd B N N = 0 := by
  have : pl B N N = N := by
    unfold pl ru
    rw [Nat.sub_self]
    rfl
  unfold kd
  rw [if_pos (by rw [this]; exact Nat.le_refl _)]
theorem t_Rd_lines {B : Nat → Int32} {N : Nat} {h0 : Hp} {Q : Bool → Hp → Prop} (m0 : XS h0) : ∀ k line s st, line + k = N + 1 → line ≤ s.1 → s.2.2.2.2.1 = decide (line ≠ 0) → AY B N h0 s st → (∀ e h', prgL B N k s = .error e → EE e h0 h' → Q false h') → (∀ s' h', prgL B N k s = .ok s' → AY B N h0 s' h' → Q true h') → w_Rd_read_L36 Q 23 k (nI line) st := by
  intro k
  induction k with
  | zero =>
    intro line s st e1 e2 _ ay
    have := ay.1.1
    omega
  | succ k ih =>
    intro line s st e1 e2 e3 ay hqE hqO
    have ms := fx_XS ay.2.1 m0
    have sN := ay.1.1
    have hN := ay.2.2.1.1
    have done : kd B N s.1 = 0 → Q true st := fun q => hqO s st (by rw [prgL, if_pos q]) ay
    unfold w_Rd_read_L36
    rw [X_r23_0 ms, ay.2.2.2.2.1]
    refine ⟨fun z => done ?_, fun z => ⟨X_k23 ms, X_k17 ms, fun z2 => done ((kcl_eq (k := 0) (by decide)).mp z2), fun z2 => ?_⟩⟩
    · have := (nI_leI (a := 700) (by omega) (by omega)).mp z
      rw [show s.1 = N from by omega]
      exact kd_N
    · have nk : ¬ kd B N s.1 = 0 := fun q => z2 ((kcl_eq (k := 0) (by decide)).mpr q)
      refine t_Rd_readLine m0 ay e3 (by omega) (fun e h' he ee => ⟨fun _ => hqE e h' (by rw [prgL, if_neg nk, he]) ee, fun z => absurd rfl z⟩) (fun s' h' he a' => ⟨fun z => absurd z (by decide), fun _ => ?_⟩)
      have ls := lineL_sp ay.1 he
      have fl : s'.2.2.2.2.1 = true := by
        unfold lineL at he
        cases g : bodL B N s with
        | error e => rw [g] at he; cases he
        | ok y =>
          rw [g] at he
          dsimp only at he
          by_cases q : kd B N y.1 = 3
          · rw [if_pos q] at he
            injection he with he
            rw [← he]
          · rw [if_neg q] at he
            cases he
      rw [nI_1]
      exact ih (line + 1) s' h' (by omega) (by omega) (by rw [fl]; rfl) a' (fun e h2 h3 h4 => hqE e h2 (by rw [prgL, if_neg nk, he]; exact h3) h4) (fun s2 h2 h3 h4 => hqO s2 h2 (by rw [prgL, if_neg nk, he]; exact h3) h4)
