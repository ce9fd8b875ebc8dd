set_option maxRecDepth 100000 in
set_option maxHeartbeats 4000000 in
theorem s_X_want {d : Nat} (hd : 3 ≤ d) {v0 : Nat} {v1 : Int32} {v2 : Int32} {h : Hp} {Q : Int32 → Hp → Prop} {QQ : Option AV → Hp → Prop} (hw : w_X_want v0 v1 v2 h Q) (hQ : ∀ r9 h9, Q r9 h9 → QQ (some (ai r9)) h9) : aCall m_X_want d [ar v0, ai v1, ai v2] h 0 0 QQ := by
  obtain ⟨d, rfl⟩ : ∃ d9, d = d9 + 1 := ⟨d - 1, by omega⟩
  refine aCall_in pl_X_want (nle rfl) ?_
  show aW none m_X_want (d + 1) 0 [(0, ar v0), (1, ai v1), (2, ai v2)] [] h 0 0 QQ
  unfold w_X_want at hw
  refine r_aload_n (j := 0) d_X_want_0 rfl ?_
  obtain ⟨q1, hw⟩ := hw
  refine r_getR d_X_want_1 ok_11 (nle rfl) (nle rfl) rfl lf_X_23 q1 ?_
  refine r_iload_n (j := 1) d_X_want_4 rfl ?_
  obtain ⟨q4, hw⟩ := hw
  refine r_callV (av := [ai v1]) (rest := []) (ci := 1) d_X_want_5 mk_Co_hasRow ll_X_142 im_Co_hasRow se_Co_hasRow rfl (nle rfl) rfl rfl (nle rfl) q4 (s_Co_hasRow  hw (fun r3 h2 hw => ?_))
  show aW none m_X_want (d + 1) 8 [(0, ar v0), (1, ai v1), (2, ai v2)] [ai (b2i r3)] h2 0 0 QQ
  refine r_if_ne d_X_want_8 (fun w9 => ?_) (fun w9 => ?_)
  · replace hw := hw.2 (fun g9 => w9 (b2i_0.mpr g9))
    refine r_aload_n (j := 0) d_X_want_14 rfl ?_
    refine r_bipush d_X_want_15 kb_32 ?_
    refine r_iload_n (j := 1) d_X_want_17 rfl ?_
    refine r_iadd d_X_want_18 ?_
    refine r_iload_n (j := 2) d_X_want_19 rfl ?_
    refine r_bipush d_X_want_20 kb_m20 ?_
    refine r_bipush d_X_want_22 kb_20 ?_
    obtain ⟨q7, hw⟩ := hw
    refine r_callV (av := [ai ((32 : Int32) + v1), ai v2, ai (-20 : Int32), ai (20 : Int32)]) (rest := []) (ci := 11) d_X_want_24 mk_X_turn ll_X_157 im_X_turn se_X_turn rfl (nle rfl) rfl rfl (nle rfl) q7 (s_X_turn (by omega) hw (fun r6 h5 hw => ?_))
    show aW none m_X_want (d + 1) 27 [(0, ar v0), (1, ai v1), (2, ai v2)] [ai r6] h5 0 0 QQ
    exact r_ireturn d_X_want_27.1 rfl (hQ _ _ hw)
  · replace hw := hw.1 (b2i_0.mp w9)
    refine r_ldc d_X_want_11 lc_X_145 ?_
    exact r_ireturn d_X_want_13.1 rfl (hQ _ _ hw)
set_option maxRecDepth 100000 in
set_option maxHeartbeats 4000000 in
theorem s_X_allow {d : Nat} (hd : 3 ≤ d) {v0 : Nat} {v1 : Int32} {h : Hp} {Q : Int32 → Hp → Prop} {QQ : Option AV → Hp → Prop} (hw : w_X_allow v0 v1 h Q) (hQ : ∀ r9 h9, Q r9 h9 → QQ (some (ai r9)) h9) : aCall m_X_allow d [ar v0, ai v1] h 0 0 QQ := by
  obtain ⟨d, rfl⟩ : ∃ d9, d = d9 + 1 := ⟨d - 1, by omega⟩
  refine aCall_in pl_X_allow (nle rfl) ?_
  show aW none m_X_allow (d + 1) 0 [(0, ar v0), (1, ai v1)] [] h 0 0 QQ
  unfold w_X_allow at hw
  refine r_aload_n (j := 0) d_X_allow_0 rfl ?_
  refine r_bipush d_X_allow_1 kb_35 ?_
  refine r_iload_n (j := 1) d_X_allow_3 rfl ?_
  refine r_iconst d_X_allow_4 kc_1 ?_
  refine r_bipush d_X_allow_5 kb_12 ?_
  obtain ⟨q3, hw⟩ := hw
  refine r_callV (av := [ai (35 : Int32), ai v1, ai (1 : Int32), ai (12 : Int32)]) (rest := []) (ci := 11) d_X_allow_7 mk_X_turn ll_X_157 im_X_turn se_X_turn rfl (nle rfl) rfl rfl (nle rfl) q3 (s_X_turn (by omega) hw (fun r2 h1 hw => ?_))
  show aW none m_X_allow (d + 1) 10 [(0, ar v0), (1, ai v1)] [ai r2] h1 0 0 QQ
  exact r_ireturn d_X_allow_10.1 rfl (hQ _ _ hw)
set_option maxRecDepth 100000 in
set_option maxHeartbeats 4000000 in
theorem s_X_hold {d : Nat} (hd : 3 ≤ d) {v0 : Nat} {v1 : Int32} {v2 : Int32} {h : Hp} {Q : Int32 → Hp → Prop} {QQ : Option AV → Hp → Prop} (hw : w_X_hold v0 v1 v2 h Q) (hQ : ∀ r9 h9, Q r9 h9 → QQ (some (ai r9)) h9) : aCall m_X_hold d [ar v0, ai v1, ai v2] h 0 0 QQ := by
  obtain ⟨d, rfl⟩ : ∃ d9, d = d9 + 1 := ⟨d - 1, by omega⟩
  refine aCall_in pl_X_hold (nle rfl) ?_
  show aW none m_X_hold (d + 1) 0 [(0, ar v0), (1, ai v1), (2, ai v2)] [] h 0 0 QQ
  unfold w_X_hold at hw
  refine r_aload_n (j := 0) d_X_hold_0 rfl ?_
  obtain ⟨q1, hw⟩ := hw
  refine r_getR d_X_hold_1 ok_11 (nle rfl) (nle rfl) rfl lf_X_23 q1 ?_
  refine r_iload_n (j := 1) d_X_hold_4 rfl ?_
  obtain ⟨q4, hw⟩ := hw
  refine r_callV (av := [ai v1]) (rest := []) (ci := 1) d_X_hold_5 mk_Co_hasColumn ll_X_138 im_Co_hasColumn se_Co_hasColumn rfl (nle rfl) rfl rfl (nle rfl) q4 (s_Co_hasColumn  hw (fun r3 h2 hw => ?_))
  show aW none m_X_hold (d + 1) 8 [(0, ar v0), (1, ai v1), (2, ai v2)] [ai (b2i r3)] h2 0 0 QQ
  refine r_if_ne d_X_hold_8 (fun w9 => ?_) (fun w9 => ?_)
  · replace hw := hw.2 (fun g9 => w9 (b2i_0.mpr g9))
    refine r_aload_n (j := 0) d_X_hold_13 rfl ?_
    refine r_bipush d_X_hold_14 kb_36 ?_
    refine r_iload_n (j := 1) d_X_hold_16 rfl ?_
    refine r_iadd d_X_hold_17 ?_
    refine r_iload_n (j := 2) d_X_hold_18 rfl ?_
    refine r_iconst d_X_hold_19 kc_0 ?_
    refine r_bipush d_X_hold_20 kb_99 ?_
    obtain ⟨q7, hw⟩ := hw
    refine r_callV (av := [ai ((36 : Int32) + v1), ai v2, ai (0 : Int32), ai (99 : Int32)]) (rest := []) (ci := 11) d_X_hold_22 mk_X_turn ll_X_157 im_X_turn se_X_turn rfl (nle rfl) rfl rfl (nle rfl) q7 (s_X_turn (by omega) hw (fun r6 h5 hw => ?_))
    show aW none m_X_hold (d + 1) 25 [(0, ar v0), (1, ai v1), (2, ai v2)] [ai r6] h5 0 0 QQ
    refine r_istore_n (ls2 := [(3, ai r6), (0, ar v0), (1, ai v1), (2, ai v2)]) d_X_hold_25 (nle rfl) rfl ?_
    refine r_iload_n (j := 0) d_X_hold_26 rfl ?_
    refine r_ldc d_X_hold_27 lc_X_145 ?_
    refine r_icmp_ne d_X_hold_29 (fun w9 => ?_) (fun w9 => ?_)
    · replace hw := hw.2 w9
      refine r_iload_n (j := 0) d_X_hold_36 rfl ?_
      exact r_ireturn d_X_hold_37.1 rfl (hQ _ _ hw)
    · replace hw := hw.1 w9
      refine r_iconst d_X_hold_32 kc_m1 ?_
      refine r_goto d_X_hold_33 ?_
      exact r_ireturn d_X_hold_37.1 rfl (hQ _ _ hw)
  · replace hw := hw.1 (b2i_0.mp w9)
    refine r_iconst d_X_hold_11 kc_m1 ?_
    exact r_ireturn d_X_hold_12.1 rfl (hQ _ _ hw)
set_option maxRecDepth 100000 in
set_option maxHeartbeats 4000000 in
theorem s_X_better {d : Nat} (hd : 5 ≤ d) {v0 : Nat} {v1 : Int32} {h : Hp} {Q : Int32 → Hp → Prop} {QQ : Option AV → Hp → Prop} (hw : w_X_better v0 v1 h Q) (hQ : ∀ r9 h9, Q r9 h9 → QQ (some (ai r9)) h9) : aCall m_X_better d [ar v0, ai v1] h 0 0 QQ := by
  obtain ⟨d, rfl⟩ : ∃ d9, d = d9 + 1 := ⟨d - 1, by omega⟩
  refine aCall_in pl_X_better (nle rfl) ?_
  show aW none m_X_better (d + 1) 0 [(0, ar v0), (1, ai v1)] [] h 0 0 QQ
  unfold w_X_better at hw
  refine r_aload_n (j := 0) d_X_better_0 rfl ?_
  obtain ⟨q1, hw⟩ := hw
  refine r_getR d_X_better_1 ok_11 (nle rfl) (nle rfl) rfl lf_X_85 q1 ?_
  refine r_iload_n (j := 1) d_X_better_4 rfl ?_
  obtain ⟨q4, hw⟩ := hw
  refine r_callV (av := [ai v1]) (rest := []) (ci := 4) d_X_better_5 mk_Ex_find ll_X_171 im_Ex_find se_Ex_find rfl (nle rfl) rfl rfl (nle rfl) q4 (s_Ex_find (by omega) hw (fun r3 h2 hw => ?_))
  show aW none m_X_better (d + 1) 8 [(0, ar v0), (1, ai v1)] [ai (b2i r3)] h2 0 0 QQ
  refine r_if_ne d_X_better_8 (fun w9 => ?_) (fun w9 => ?_)
  · replace hw := hw.2 (fun g9 => w9 (b2i_0.mpr g9))
    refine r_aload_n (j := 0) d_X_better_14 rfl ?_
    obtain ⟨q5, hw⟩ := hw
    refine r_getR d_X_better_15 ok_11 (nle rfl) (nle rfl) rfl lf_X_46 q5 ?_
    refine r_aload_n (j := 0) d_X_better_18 rfl ?_
    refine r_getR d_X_better_19 ok_11 (nle rfl) (nle rfl) rfl lf_X_85 q5 ?_
    obtain ⟨q7, hw⟩ := hw
    refine r_callV (av := [ar (gR h2 v0 11)]) (rest := []) (ci := 0) d_X_better_22 mk_Ac_keepShifts ll_X_174 im_Ac_keepShifts se_Ac_keepShifts rfl (nle rfl) rfl rfl (nle rfl) q7 (s_Ac_keepShifts (by omega) hw (fun h6 hw => ?_))
    show aW none m_X_better (d + 1) 25 [(0, ar v0), (1, ai v1)] [] h6 0 0 QQ
    refine r_aload_n (j := 0) d_X_better_25 rfl ?_
    obtain ⟨q8, hw⟩ := hw
    refine r_getR d_X_better_26 ok_11 (nle rfl) (nle rfl) rfl lf_X_46 q8 ?_
    refine r_aload_n (j := 0) d_X_better_29 rfl ?_
    refine r_getR d_X_better_30 ok_11 (nle rfl) (nle rfl) rfl lf_X_23 q8 ?_
    refine r_aload_n (j := 0) d_X_better_33 rfl ?_
    refine r_getR d_X_better_34 ok_11 (nle rfl) (nle rfl) rfl lf_X_46 q8 ?_
    obtain ⟨q11, hw⟩ := hw
    refine r_callV (av := []) (rest := [ar (gR h6 v0 2), ar (gR h6 v0 6)]) (ci := 0) d_X_better_37 mk_Ac_latest ll_X_178 im_Ac_latest se_Ac_latest rfl (nle rfl) rfl rfl (nle rfl) q11 (s_Ac_latest  hw (fun r10 h9 hw => ?_))
    show aW none m_X_better (d + 1) 40 [(0, ar v0), (1, ai v1)] [ai r10, ar (gR h6 v0 2), ar (gR h6 v0 6)] h9 0 0 QQ
    refine r_iconst d_X_better_40 kc_1 ?_
    obtain ⟨q13, hw⟩ := hw
    refine r_callV (av := [ar (gR h6 v0 2), ai r10, ai (1 : Int32)]) (rest := []) (ci := 0) d_X_better_41 mk_Ac_apply ll_X_182 im_Ac_apply se_Ac_apply rfl (nle rfl) rfl rfl (nle rfl) q13 (s_Ac_apply (by omega) hw (fun h12 hw => ?_))
    show aW none m_X_better (d + 1) 44 [(0, ar v0), (1, ai v1)] [] h12 0 0 QQ
    refine r_aload_n (j := 0) d_X_better_44 rfl ?_
    obtain ⟨q14, hw⟩ := hw
    refine r_getR d_X_better_45 ok_11 (nle rfl) (nle rfl) rfl lf_X_23 q14 ?_
    obtain ⟨q17, hw⟩ := hw
    refine r_callV (av := []) (rest := []) (ci := 1) d_X_better_48 mk_Co_heldGain ll_X_186 im_Co_heldGain se_Co_heldGain rfl (nle rfl) rfl rfl (nle rfl) q17 (s_Co_heldGain (by omega) hw (fun r16 h15 hw => ?_))
    show aW none m_X_better (d + 1) 51 [(0, ar v0), (1, ai v1)] [ai r16] h15 0 0 QQ
    exact r_ireturn d_X_better_51.1 rfl (hQ _ _ hw)
  · replace hw := hw.1 (b2i_0.mp w9)
    refine r_ldc d_X_better_11 lc_X_145 ?_
    exact r_ireturn d_X_better_13.1 rfl (hQ _ _ hw)
set_option maxRecDepth 100000 in
set_option maxHeartbeats 4000000 in
theorem s_X_undo {d : Nat} (hd : 3 ≤ d) {v0 : Nat} {h : Hp} {Q : Bool → Hp → Prop} {QQ : Option AV → Hp → Prop} (hw : w_X_undo v0 h Q) (hQ : ∀ r9 h9, Q r9 h9 → QQ (some (ai (b2i r9))) h9) : aCall m_X_undo d [ar v0] h 0 0 QQ := by
  obtain ⟨d, rfl⟩ : ∃ d9, d = d9 + 1 := ⟨d - 1, by omega⟩
  refine aCall_in pl_X_undo (nle rfl) ?_
  show aW none m_X_undo (d + 1) 0 [(0, ar v0)] [] h 0 0 QQ
  unfold w_X_undo at hw
  refine r_aload_n (j := 0) d_X_undo_0 rfl ?_
  obtain ⟨q1, hw⟩ := hw
  refine r_getR d_X_undo_1 ok_11 (nle rfl) (nle rfl) rfl lf_X_46 q1 ?_
  refine r_aload_n (j := 0) d_X_undo_4 rfl ?_
  refine r_getR d_X_undo_5 ok_11 (nle rfl) (nle rfl) rfl lf_X_23 q1 ?_
  obtain ⟨q4, hw⟩ := hw
  refine r_callV (av := [ar (gR h v0 2)]) (rest := []) (ci := 0) d_X_undo_8 mk_Ac_takeBack ll_X_189 im_Ac_takeBack se_Ac_takeBack rfl (nle rfl) rfl rfl (nle rfl) q4 (s_Ac_takeBack (by omega) hw (fun r3 h2 hw => ?_))
  show aW none m_X_undo (d + 1) 11 [(0, ar v0)] [ai (b2i r3)] h2 0 0 QQ
  exact r_zreturn d_X_undo_11.1 rfl (b2i_B _) (hQ _ _ hw)
set_option maxRecDepth 100000 in
set_option maxHeartbeats 4000000 in
theorem s_X_redo {d : Nat} (hd : 3 ≤ d) {v0 : Nat} {h : Hp} {Q : Bool → Hp → Prop} {QQ : Option AV → Hp → Prop} (hw : w_X_redo v0 h Q) (hQ : ∀ r9 h9, Q r9 h9 → QQ (some (ai (b2i r9))) h9) : aCall m_X_redo d [ar v0] h 0 0 QQ := by
  obtain ⟨d, rfl⟩ : ∃ d9, d = d9 + 1 := ⟨d - 1, by omega⟩
  refine aCall_in pl_X_redo (nle rfl) ?_
  show aW none m_X_redo (d + 1) 0 [(0, ar v0)] [] h 0 0 QQ
  unfold w_X_redo at hw
  refine r_aload_n (j := 0) d_X_redo_0 rfl ?_
  obtain ⟨q1, hw⟩ := hw
  refine r_getR d_X_redo_1 ok_11 (nle rfl) (nle rfl) rfl lf_X_46 q1 ?_
  refine r_aload_n (j := 0) d_X_redo_4 rfl ?_
  refine r_getR d_X_redo_5 ok_11 (nle rfl) (nle rfl) rfl lf_X_23 q1 ?_
  obtain ⟨q4, hw⟩ := hw
  refine r_callV (av := [ar (gR h v0 2)]) (rest := []) (ci := 0) d_X_redo_8 mk_Ac_doAgain ll_X_193 im_Ac_doAgain se_Ac_doAgain rfl (nle rfl) rfl rfl (nle rfl) q4 (s_Ac_doAgain (by omega) hw (fun r3 h2 hw => ?_))
  show aW none m_X_redo (d + 1) 11 [(0, ar v0)] [ai (b2i r3)] h2 0 0 QQ
  exact r_zreturn d_X_redo_11.1 rfl (b2i_B _) (hQ _ _ hw)
set_option maxRecDepth 100000 in
set_option maxHeartbeats 4000000 in
theorem s_X_held {d : Nat} (hd : 1 ≤ d) {v0 : Nat} {v1 : Int32} {h : Hp} {Q : Int32 → Hp → Prop} {QQ : Option AV → Hp → Prop} (hw : w_X_held v0 v1 h Q) (hQ : ∀ r9 h9, Q r9 h9 → QQ (some (ai r9)) h9) : aCall m_X_held d [ar v0, ai v1] h 0 0 QQ := by
  obtain ⟨d, rfl⟩ : ∃ d9, d = d9 + 1 := ⟨d - 1, by omega⟩
  refine aCall_in pl_X_held (nle rfl) ?_
  show aW none m_X_held (d + 1) 0 [(0, ar v0), (1, ai v1)] [] h 0 0 QQ
  unfold w_X_held at hw
  refine r_aload_n (j := 0) d_X_held_0 rfl ?_
  obtain ⟨q1, hw⟩ := hw
  refine r_getR d_X_held_1 ok_11 (nle rfl) (nle rfl) rfl lf_X_23 q1 ?_
  refine r_iload_n (j := 1) d_X_held_4 rfl ?_
  obtain ⟨q4, hw⟩ := hw
  refine r_callV (av := [ai v1]) (rest := []) (ci := 1) d_X_held_5 mk_Co_hasColumn ll_X_138 im_Co_hasColumn se_Co_hasColumn rfl (nle rfl) rfl rfl (nle rfl) q4 (s_Co_hasColumn  hw (fun r3 h2 hw => ?_))
  show aW none m_X_held (d + 1) 8 [(0, ar v0), (1, ai v1)] [ai (b2i r3)] h2 0 0 QQ
  refine r_if_eq d_X_held_8 (fun w9 => ?_) (fun w9 => ?_)
  · replace hw := hw.1 (b2i_0.mp w9)
    refine r_iconst d_X_held_22 kc_m1 ?_
    exact r_ireturn d_X_held_23.1 rfl (hQ _ _ hw)
  · replace hw := hw.2 (fun g9 => w9 (b2i_0.mpr g9))
    refine r_aload_n (j := 0) d_X_held_11 rfl ?_
    obtain ⟨q5, hw⟩ := hw
    refine r_getR d_X_held_12 ok_11 (nle rfl) (nle rfl) rfl lf_X_23 q5 ?_
    refine r_iload_n (j := 1) d_X_held_15 rfl ?_
    obtain ⟨q8, hw⟩ := hw
    refine r_callV (av := [ai v1]) (rest := []) (ci := 1) d_X_held_16 mk_Co_heldOf ll_X_196 im_Co_heldOf se_Co_heldOf rfl (nle rfl) rfl rfl (nle rfl) q8 (s_Co_heldOf  hw (fun r7 h6 hw => ?_))
    show aW none m_X_held (d + 1) 19 [(0, ar v0), (1, ai v1)] [ai r7] h6 0 0 QQ
    refine r_goto d_X_held_19 ?_
    exact r_ireturn d_X_held_23.1 rfl (hQ _ _ hw)
set_option maxRecDepth 100000 in
set_option maxHeartbeats 4000000 in
theorem s_X_holding_B45 {d : Nat} (hd : 3 ≤ d + 1) {Q : Int32 → Hp → Prop} {QQ : Option AV → Hp → Prop} (hQ : ∀ r9 h9, Q r9 h9 → QQ (some (ai r9)) h9) {v0 : Nat} {v1 : Int32} {h : Hp} (hw : w_X_holding_B45 Q  v0 v1 h) : aW none m_X_holding (d + 1) 45 [(0, ar v0), (1, ai v1)] [] h 0 0 QQ := by
  unfold w_X_holding_B45 at hw
  refine r_aload_n (j := 0) d_X_holding_45 rfl ?_
  obtain ⟨q1, hw⟩ := hw
  refine r_getR d_X_holding_46 ok_11 (nle rfl) (nle rfl) rfl lf_X_23 q1 ?_
  refine r_aload_n (j := 0) d_X_holding_49 rfl ?_
  refine r_getR d_X_holding_50 ok_11 (nle rfl) (nle rfl) rfl lf_X_103 q1 ?_
  obtain ⟨q3, hw⟩ := hw
  refine r_callV (av := [ar (gR h v0 14)]) (rest := []) (ci := 1) d_X_holding_53 mk_Co_heldSums ll_X_202 im_Co_heldSums se_Co_heldSums rfl (nle rfl) rfl rfl (nle rfl) q3 (s_Co_heldSums (by omega) hw (fun h2 hw => ?_))
  show aW none m_X_holding (d + 1) 56 [(0, ar v0), (1, ai v1)] [] h2 0 0 QQ
  refine r_iload_n (j := 1) d_X_holding_56 rfl ?_
  refine r_iconst d_X_holding_57 kc_5 ?_
  refine r_icmp_ne d_X_holding_58 (fun w9 => ?_) (fun w9 => ?_)
  · replace hw := hw.2 w9
    refine r_aload_n (j := 0) d_X_holding_75 rfl ?_
    obtain ⟨q4, hw⟩ := hw
    refine r_getR d_X_holding_76 ok_11 (nle rfl) (nle rfl) rfl lf_X_103 q4 ?_
    refine r_iload_n (j := 1) d_X_holding_79 rfl ?_
    obtain ⟨q5, hw⟩ := hw
    obtain ⟨q6, hw⟩ := hw
    refine r_iald d_X_holding_80 q5 q6 ?_
    exact r_ireturn d_X_holding_81.1 rfl (hQ _ _ hw)
  · replace hw := hw.1 w9
    refine r_aload_n (j := 0) d_X_holding_61 rfl ?_
    obtain ⟨q7, hw⟩ := hw
    refine r_getR d_X_holding_62 ok_11 (nle rfl) (nle rfl) rfl lf_X_23 q7 ?_
    refine r_aload_n (j := 0) d_X_holding_65 rfl ?_
    refine r_getR d_X_holding_66 ok_11 (nle rfl) (nle rfl) rfl lf_X_103 q7 ?_
    obtain ⟨q10, hw⟩ := hw
    refine r_callV (av := [ar (gR h2 v0 14)]) (rest := []) (ci := 1) d_X_holding_69 mk_Co_farFromNeed ll_X_206 im_Co_farFromNeed se_Co_farFromNeed rfl (nle rfl) rfl rfl (nle rfl) q10 (s_Co_farFromNeed (by omega) hw (fun r9 h8 hw => ?_))
    show aW none m_X_holding (d + 1) 72 [(0, ar v0), (1, ai v1)] [ai r9] h8 0 0 QQ
    refine r_goto d_X_holding_72 ?_
    exact r_ireturn d_X_holding_81.1 rfl (hQ _ _ hw)
set_option maxRecDepth 100000 in
set_option maxHeartbeats 4000000 in
theorem s_X_holding {d : Nat} (hd : 3 ≤ d) {v0 : Nat} {v1 : Int32} {h : Hp} {Q : Int32 → Hp → Prop} {QQ : Option AV → Hp → Prop} (hw : w_X_holding v0 v1 h Q) (hQ : ∀ r9 h9, Q r9 h9 → QQ (some (ai r9)) h9) : aCall m_X_holding d [ar v0, ai v1] h 0 0 QQ := by
  obtain ⟨d, rfl⟩ : ∃ d9, d = d9 + 1 := ⟨d - 1, by omega⟩
  refine aCall_in pl_X_holding (nle rfl) ?_
  show aW none m_X_holding (d + 1) 0 [(0, ar v0), (1, ai v1)] [] h 0 0 QQ
  unfold w_X_holding at hw
  refine r_iload_n (j := 1) d_X_holding_0 rfl ?_
  refine r_iconst d_X_holding_1 kc_3 ?_
  refine r_icmp_ne d_X_holding_2 (fun w9 => ?_) (fun w9 => ?_)
  · replace hw := hw.2 w9
    refine r_iload_n (j := 1) d_X_holding_13 rfl ?_
    refine r_iconst d_X_holding_14 kc_4 ?_
    refine r_icmp_ne d_X_holding_15 (fun w9 => ?_) (fun w9 => ?_)
    · replace hw := hw.2 w9
      refine r_iload_n (j := 1) d_X_holding_26 rfl ?_
      refine r_iconst d_X_holding_27 kc_5 ?_
      refine r_icmp_eq d_X_holding_28 (fun w9 => ?_) (fun w9 => ?_)
      · replace hw := hw.1 w9
        exact s_X_holding_B45 hd hQ  hw
      · replace hw := hw.2 w9
        refine r_aload_n (j := 0) d_X_holding_31 rfl ?_
        obtain ⟨q11, hw⟩ := hw
        refine r_getR d_X_holding_32 ok_11 (nle rfl) (nle rfl) rfl lf_X_23 q11 ?_
        refine r_iload_n (j := 1) d_X_holding_35 rfl ?_
        obtain ⟨q14, hw⟩ := hw
        refine r_callV (av := [ai v1]) (rest := []) (ci := 1) d_X_holding_36 mk_Co_hasRow ll_X_142 im_Co_hasRow se_Co_hasRow rfl (nle rfl) rfl rfl (nle rfl) q14 (s_Co_hasRow  hw (fun r13 h12 hw => ?_))
        show aW none m_X_holding (d + 1) 39 [(0, ar v0), (1, ai v1)] [ai (b2i r13)] h12 0 0 QQ
        refine r_if_ne d_X_holding_39 (fun w9 => ?_) (fun w9 => ?_)
        · replace hw := hw.2 (fun g9 => w9 (b2i_0.mpr g9))
          exact s_X_holding_B45 hd hQ  hw
        · replace hw := hw.1 (b2i_0.mp w9)
          refine r_ldc d_X_holding_42 lc_X_145 ?_
          exact r_ireturn d_X_holding_44.1 rfl (hQ _ _ hw)
    · replace hw := hw.1 w9
      refine r_aload_n (j := 0) d_X_holding_18 rfl ?_
      obtain ⟨q15, hw⟩ := hw
      refine r_getR d_X_holding_19 ok_11 (nle rfl) (nle rfl) rfl lf_X_23 q15 ?_
      obtain ⟨q18, hw⟩ := hw
      refine r_callV (av := []) (rest := []) (ci := 1) d_X_holding_22 mk_Co_heldSteps ll_X_199 im_Co_heldSteps se_Co_heldSteps rfl (nle rfl) rfl rfl (nle rfl) q18 (s_Co_heldSteps (by omega) hw (fun r17 h16 hw => ?_))
      show aW none m_X_holding (d + 1) 25 [(0, ar v0), (1, ai v1)] [ai r17] h16 0 0 QQ
      exact r_ireturn d_X_holding_25.1 rfl (hQ _ _ hw)
  · replace hw := hw.1 w9
    refine r_aload_n (j := 0) d_X_holding_5 rfl ?_
    obtain ⟨q19, hw⟩ := hw
    refine r_getR d_X_holding_6 ok_11 (nle rfl) (nle rfl) rfl lf_X_23 q19 ?_
    obtain ⟨q22, hw⟩ := hw
    refine r_callV (av := []) (rest := []) (ci := 1) d_X_holding_9 mk_Co_heldGain ll_X_186 im_Co_heldGain se_Co_heldGain rfl (nle rfl) rfl rfl (nle rfl) q22 (s_Co_heldGain (by omega) hw (fun r21 h20 hw => ?_))
    show aW none m_X_holding (d + 1) 12 [(0, ar v0), (1, ai v1)] [ai r21] h20 0 0 QQ
    exact r_ireturn d_X_holding_12.1 rfl (hQ _ _ hw)
set_option maxRecDepth 100000 in
set_option maxHeartbeats 4000000 in
theorem s_X_exchange {d : Nat} (hd : 5 ≤ d) {v0 : Nat} {v1 : Int32} {v2 : Int32} {h : Hp} {Q : Int32 → Hp → Prop} {QQ : Option AV → Hp → Prop} (hw : w_X_exchange v0 v1 v2 h Q) (hQ : ∀ r9 h9, Q r9 h9 → QQ (some (ai r9)) h9) : aCall m_X_exchange d [ar v0, ai v1, ai v2] h 0 0 QQ := by
  obtain ⟨d, rfl⟩ : ∃ d9, d = d9 + 1 := ⟨d - 1, by omega⟩
  refine aCall_in pl_X_exchange (nle rfl) ?_
  show aW none m_X_exchange (d + 1) 0 [(0, ar v0), (1, ai v1), (2, ai v2)] [] h 0 0 QQ
  unfold w_X_exchange at hw
  refine r_aload_n (j := 0) d_X_exchange_0 rfl ?_
  obtain ⟨q1, hw⟩ := hw
  refine r_getR d_X_exchange_1 ok_11 (nle rfl) (nle rfl) rfl lf_X_85 q1 ?_
  refine r_iload_n (j := 1) d_X_exchange_4 rfl ?_
  obtain ⟨q4, hw⟩ := hw
  refine r_callV (av := [ai v1]) (rest := []) (ci := 4) d_X_exchange_5 mk_Ex_find ll_X_171 im_Ex_find se_Ex_find rfl (nle rfl) rfl rfl (nle rfl) q4 (s_Ex_find (by omega) hw (fun r3 h2 hw => ?_))
  show aW none m_X_exchange (d + 1) 8 [(0, ar v0), (1, ai v1), (2, ai v2)] [ai (b2i r3)] h2 0 0 QQ
  refine r_if_ne d_X_exchange_8 (fun w9 => ?_) (fun w9 => ?_)
  · replace hw := hw.2 (fun g9 => w9 (b2i_0.mpr g9))
    refine r_iload_n (j := 2) d_X_exchange_14 rfl ?_
    by_cases o9 : v2.toInt < 0 ∨ 2 < v2.toInt
    · refine r_tabOut (tgt := 64) d_X_exchange_15 o9 (by decide) ?_
      replace hw := hw.1 o9
      refine r_iload_n (j := 2) d_X_exchange_64 rfl ?_
      refine r_bipush d_X_exchange_65 kb_10 ?_
      refine r_icmp_lt d_X_exchange_67 (fun w9 => ?_) (fun w9 => ?_)
      · replace hw := hw.1 w9
        refine r_ldc d_X_exchange_84 lc_X_145 ?_
        exact r_ireturn d_X_exchange_86.1 rfl (hQ _ _ hw)
      · replace hw := hw.2 w9
        refine r_aload_n (j := 0) d_X_exchange_70 rfl ?_
        obtain ⟨q5, hw⟩ := hw
        refine r_getR d_X_exchange_71 ok_11 (nle rfl) (nle rfl) rfl lf_X_23 q5 ?_
        refine r_iload_n (j := 2) d_X_exchange_74 rfl ?_
        refine r_bipush d_X_exchange_75 kb_10 ?_
        refine r_isub d_X_exchange_77 ?_
        obtain ⟨q8, hw⟩ := hw
        refine r_callV (av := [ai (v2 - (10 : Int32))]) (rest := []) (ci := 1) d_X_exchange_78 mk_Co_hasColumn ll_X_138 im_Co_hasColumn se_Co_hasColumn rfl (nle rfl) rfl rfl (nle rfl) q8 (s_Co_hasColumn  hw (fun r7 h6 hw => ?_))
        show aW none m_X_exchange (d + 1) 81 [(0, ar v0), (1, ai v1), (2, ai v2)] [ai (b2i r7)] h6 0 0 QQ
        refine r_if_ne d_X_exchange_81 (fun w9 => ?_) (fun w9 => ?_)
        · replace hw := hw.2 (fun g9 => w9 (b2i_0.mpr g9))
          refine r_aload_n (j := 0) d_X_exchange_87 rfl ?_
          obtain ⟨q9, hw⟩ := hw
          refine r_getR d_X_exchange_88 ok_11 (nle rfl) (nle rfl) rfl lf_X_85 q9 ?_
          refine r_iload_n (j := 2) d_X_exchange_91 rfl ?_
          refine r_bipush d_X_exchange_92 kb_10 ?_
          refine r_isub d_X_exchange_94 ?_
          obtain ⟨q12, hw⟩ := hw
          refine r_callV (av := [ai (v2 - (10 : Int32))]) (rest := []) (ci := 4) d_X_exchange_95 mk_Ex_shiftOf ll_X_219 im_Ex_shiftOf se_Ex_shiftOf rfl (nle rfl) rfl rfl (nle rfl) q12 (s_Ex_shiftOf (by omega) hw (fun r11 h10 hw => ?_))
          show aW none m_X_exchange (d + 1) 98 [(0, ar v0), (1, ai v1), (2, ai v2)] [ai r11] h10 0 0 QQ
          exact r_ireturn d_X_exchange_98.1 rfl (hQ _ _ hw)
        · replace hw := hw.1 (b2i_0.mp w9)
          refine r_ldc d_X_exchange_84 lc_X_145 ?_
          exact r_ireturn d_X_exchange_86.1 rfl (hQ _ _ hw)
    · have o8 : v2.toInt = 0 ∨ v2.toInt = 1 ∨ v2.toInt = 2 := by omega
      replace hw := hw.2
      rcases o8 with o8 | o8 | o8
      · refine r_tabIn (off := 25) (tgt := 40) d_X_exchange_15 (by omega) (by omega) (by rw [o8]; rfl) (by decide) ?_
        replace hw := hw.1 o8
        refine r_aload_n (j := 0) d_X_exchange_40 rfl ?_
        obtain ⟨q13, hw⟩ := hw
        refine r_getR d_X_exchange_41 ok_11 (nle rfl) (nle rfl) rfl lf_X_85 q13 ?_
        obtain ⟨q14, hw⟩ := hw
        refine r_getI d_X_exchange_44 ok_4 (nle rfl) (nle rfl) rfl lf_X_210 q14 ?_
        exact r_ireturn d_X_exchange_47.1 rfl (hQ _ _ hw)
      · refine r_tabIn (off := 33) (tgt := 48) d_X_exchange_15 (by omega) (by omega) (by rw [o8]; rfl) (by decide) ?_
        replace hw := hw.2.1 o8
        refine r_aload_n (j := 0) d_X_exchange_48 rfl ?_
        obtain ⟨q15, hw⟩ := hw
        refine r_getR d_X_exchange_49 ok_11 (nle rfl) (nle rfl) rfl lf_X_85 q15 ?_
        obtain ⟨q16, hw⟩ := hw
        refine r_getI d_X_exchange_52 ok_4 (nle rfl) (nle rfl) rfl lf_X_213 q16 ?_
        exact r_ireturn d_X_exchange_55.1 rfl (hQ _ _ hw)
      · refine r_tabIn (off := 41) (tgt := 56) d_X_exchange_15 (by omega) (by omega) (by rw [o8]; rfl) (by decide) ?_
        replace hw := hw.2.2 o8
        refine r_aload_n (j := 0) d_X_exchange_56 rfl ?_
        obtain ⟨q17, hw⟩ := hw
        refine r_getR d_X_exchange_57 ok_11 (nle rfl) (nle rfl) rfl lf_X_85 q17 ?_
        obtain ⟨q18, hw⟩ := hw
        refine r_getI d_X_exchange_60 ok_4 (nle rfl) (nle rfl) rfl lf_X_216 q18 ?_
        exact r_ireturn d_X_exchange_63.1 rfl (hQ _ _ hw)
  · replace hw := hw.1 (b2i_0.mp w9)
    refine r_ldc d_X_exchange_11 lc_X_145 ?_
    exact r_ireturn d_X_exchange_13.1 rfl (hQ _ _ hw)
set_option maxRecDepth 100000 in
set_option maxHeartbeats 4000000 in
theorem s_X_isLength {d : Nat} {v0 : Int32} {h : Hp} {Q : Bool → Hp → Prop} {QQ : Option AV → Hp → Prop} (hw : w_X_isLength v0 h Q) (hQ : ∀ r9 h9, Q r9 h9 → QQ (some (ai (b2i r9))) h9) : aCall m_X_isLength d [ai v0] h 0 0 QQ := by
  refine aCall_in pl_X_isLength (nle rfl) ?_
  show aW none m_X_isLength d 0 [(0, ai v0)] [] h 0 0 QQ
  unfold w_X_isLength at hw
  refine r_iload_n (j := 0) d_X_isLength_0 rfl ?_
  refine r_if_lt d_X_isLength_1 (fun w9 => ?_) (fun w9 => ?_)
  · replace hw := hw.1 w9
    refine r_iconst d_X_isLength_14 kc_0 ?_
    exact r_zreturn d_X_isLength_15.1 rfl (Or.inl rfl) (hQ _ _ hw)
  · replace hw := hw.2 w9
    refine r_iload_n (j := 0) d_X_isLength_4 rfl ?_
    refine r_bipush d_X_isLength_5 kb_12 ?_
    refine r_icmp_gt d_X_isLength_7 (fun w9 => ?_) (fun w9 => ?_)
    · replace hw := hw.1 w9
      refine r_iconst d_X_isLength_14 kc_0 ?_
      exact r_zreturn d_X_isLength_15.1 rfl (Or.inl rfl) (hQ _ _ hw)
    · replace hw := hw.2 w9
      refine r_iconst d_X_isLength_10 kc_1 ?_
      refine r_goto d_X_isLength_11 ?_
      exact r_zreturn d_X_isLength_15.1 rfl (Or.inr rfl) (hQ _ _ hw)
set_option maxRecDepth 100000 in
set_option maxHeartbeats 4000000 in
theorem s_X_isStrip {d : Nat} (hd : 1 ≤ d) {v0 : Int32} {v1 : Int32} {h : Hp} {Q : Bool → Hp → Prop} {QQ : Option AV → Hp → Prop} (hw : w_X_isStrip v0 v1 h Q) (hQ : ∀ r9 h9, Q r9 h9 → QQ (some (ai (b2i r9))) h9) : aCall m_X_isStrip d [ai v0, ai v1] h 0 0 QQ := by
  obtain ⟨d, rfl⟩ : ∃ d9, d = d9 + 1 := ⟨d - 1, by omega⟩
  refine aCall_in pl_X_isStrip (nle rfl) ?_
  show aW none m_X_isStrip (d + 1) 0 [(0, ai v0), (1, ai v1)] [] h 0 0 QQ
  unfold w_X_isStrip at hw
  refine r_iload_n (j := 0) d_X_isStrip_0 rfl ?_
  refine r_callS (av := [ai v0]) (rest := []) d_X_isStrip_1 mk_X_isLength ll_X_222 st_X_isLength rfl rfl (nle rfl) (s_X_isLength  hw (fun r2 h1 hw => ?_))
  show aW none m_X_isStrip (d + 1) 4 [(0, ai v0), (1, ai v1)] [ai (b2i r2)] h1 0 0 QQ
  refine r_if_eq d_X_isStrip_4 (fun w9 => ?_) (fun w9 => ?_)
  · replace hw := hw.1 (b2i_0.mp w9)
    refine r_iconst d_X_isStrip_21 kc_0 ?_
    exact r_zreturn d_X_isStrip_22.1 rfl (Or.inl rfl) (hQ _ _ hw)
  · replace hw := hw.2 (fun g9 => w9 (b2i_0.mpr g9))
    refine r_iload_n (j := 1) d_X_isStrip_7 rfl ?_
    refine r_if_lt d_X_isStrip_8 (fun w9 => ?_) (fun w9 => ?_)
    · replace hw := hw.1 w9
      refine r_iconst d_X_isStrip_21 kc_0 ?_
      exact r_zreturn d_X_isStrip_22.1 rfl (Or.inl rfl) (hQ _ _ hw)
    · replace hw := hw.2 w9
      refine r_iload_n (j := 1) d_X_isStrip_11 rfl ?_
      refine r_bipush d_X_isStrip_12 kb_12 ?_
      refine r_icmp_gt d_X_isStrip_14 (fun w9 => ?_) (fun w9 => ?_)
      · replace hw := hw.1 w9
        refine r_iconst d_X_isStrip_21 kc_0 ?_
        exact r_zreturn d_X_isStrip_22.1 rfl (Or.inl rfl) (hQ _ _ hw)
      · replace hw := hw.2 w9
        refine r_iconst d_X_isStrip_17 kc_1 ?_
        refine r_goto d_X_isStrip_18 ?_
        exact r_zreturn d_X_isStrip_22.1 rfl (Or.inr rfl) (hQ _ _ hw)
set_option maxRecDepth 100000 in
set_option maxHeartbeats 4000000 in
theorem s_X_strip {d : Nat} (hd : 5 ≤ d) {v0 : Nat} {v1 : Int32} {v2 : Int32} {v3 : Int32} {bc bs : Nat} {h : Hp} {Q : Int32 → Hp → Prop} {QQ : Option AV → Hp → Prop} (hw : w_X_strip bc bs v0 v1 v2 v3 h Q) (hQ : ∀ r9 h9, Q r9 h9 → QQ (some (ai r9)) h9) : aCall m_X_strip d [ar v0, ai v1, ai v2, ai v3] h bc bs QQ := by
  obtain ⟨d, rfl⟩ : ∃ d9, d = d9 + 1 := ⟨d - 1, by omega⟩
  refine aCall_in pl_X_strip (nle rfl) ?_
  show aW none m_X_strip (d + 1) 0 [(0, ar v0), (1, ai v1), (2, ai v2), (3, ai v3)] [] h bc bs QQ
  unfold w_X_strip at hw
  refine r_iload_n (j := 1) d_X_strip_0 rfl ?_
  refine r_iload_n (j := 2) d_X_strip_1 rfl ?_
  refine r_callS (av := [ai v1, ai v2]) (rest := []) d_X_strip_2 mk_X_isStrip ll_X_225 st_X_isStrip rfl rfl (nle rfl) (s_X_isStrip (by omega) hw (fun r2 h1 hv => ?_))
  replace hw := hv
  clear hv
  show aW none m_X_strip (d + 1) 5 [(0, ar v0), (1, ai v1), (2, ai v2), (3, ai v3)] [ai (b2i r2)] h1 bc bs QQ
  refine r_if_eq d_X_strip_5 (fun w9 => ?_) (fun w9 => ?_)
  · replace hw := hw.1 (b2i_0.mp w9)
    refine r_iconst d_X_strip_17 kc_m1 ?_
    exact r_ireturn d_X_strip_18.1 rfl (hQ _ _ hw)
  · replace hw := hw.2 (fun g9 => w9 (b2i_0.mpr g9))
    refine r_iload_n (j := 3) d_X_strip_8 rfl ?_
    refine r_if_lt d_X_strip_9 (fun w9 => ?_) (fun w9 => ?_)
    · replace hw := hw.1 w9
      refine r_iconst d_X_strip_17 kc_m1 ?_
      exact r_ireturn d_X_strip_18.1 rfl (hQ _ _ hw)
    · replace hw := hw.2 w9
      refine r_iload_n (j := 3) d_X_strip_12 rfl ?_
      refine r_iconst d_X_strip_13 kc_1 ?_
      refine r_icmp_le d_X_strip_14 (fun w9 => ?_) (fun w9 => ?_)
      · replace hw := hw.1 w9
        refine r_aload_n (j := 0) d_X_strip_19 rfl ?_
        obtain ⟨q3, hw⟩ := hw
        refine r_getR d_X_strip_20 ok_11 (nle rfl) (nle rfl) rfl lf_X_62 q3 ?_
        refine r_iload_n (j := 1) d_X_strip_23 rfl ?_
        refine r_iload_n (j := 2) d_X_strip_24 rfl ?_
        obtain ⟨q5, hw⟩ := hw
        obtain ⟨q10, hw⟩ := hw
        obtain ⟨b6, t7, m8, m9, u8, u9, hw⟩ := hw
        subst u8 u9
        refine r_callA (av := [ai v1, ai v2]) (rest := []) (ci := 9) d_X_strip_25 mk_St_sweep ll_X_229 im_St_sweep se_St_sweep rfl (nle rfl) rfl rfl (nle rfl) refB_n (refL_r q5 (refL_i (refL_i (refL_i refL_n)))) q10 (s_St_sweep (by omega) hw (fun h4 hv => ?_))
        replace hw := hv
        clear hv
        show aW none m_X_strip (d + 1) 28 [(0, ar v0), (1, ai v1), (2, ai v2), (3, ai v3)] [] h4 b6 t7 QQ
        refine r_iload_n (j := 3) d_X_strip_28 rfl ?_
        refine r_iconst d_X_strip_29 kc_1 ?_
        refine r_icmp_ne d_X_strip_30 (fun w9 => ?_) (fun w9 => ?_)
        · replace hw := hw.2 w9
          refine r_aload_n (j := 0) d_X_strip_41 rfl ?_
          obtain ⟨q11, hw⟩ := hw
          refine r_getR d_X_strip_42 ok_11 (nle rfl) (nle rfl) rfl lf_X_62 q11 ?_
          obtain ⟨q12, hw⟩ := hw
          refine r_getL d_X_strip_45 ok_9 (nle rfl) (nle rfl) rfl lf_X_235 q12 ?_
          refine r_lconst d_X_strip_48 kl_0 ?_
          refine r_lcmp d_X_strip_49 ?_
          refine r_if_le d_X_strip_50 (fun w9 => ?_) (fun w9 => ?_)
          · replace hw := hw.1 ((lg_cmp_le _ _).mp w9)
            refine r_iconst d_X_strip_57 kc_0 ?_
            exact r_ireturn d_X_strip_58.1 rfl (hQ _ _ hw)
          · replace hw := hw.2 (fun g9 => w9 ((lg_cmp_le _ _).mpr g9))
            refine r_iconst d_X_strip_53 kc_1 ?_
            refine r_goto d_X_strip_54 ?_
            exact r_ireturn d_X_strip_58.1 rfl (hQ _ _ hw)
        · replace hw := hw.1 w9
          refine r_aload_n (j := 0) d_X_strip_33 rfl ?_
          obtain ⟨q13, hw⟩ := hw
          refine r_getR d_X_strip_34 ok_11 (nle rfl) (nle rfl) rfl lf_X_62 q13 ?_
          obtain ⟨q14, hw⟩ := hw
          refine r_getI d_X_strip_37 ok_9 (nle rfl) (nle rfl) rfl lf_X_232 q14 ?_
          exact r_ireturn d_X_strip_40.1 rfl (hQ _ _ hw)
      · replace hw := hw.2 w9
        refine r_iconst d_X_strip_17 kc_m1 ?_
        exact r_ireturn d_X_strip_18.1 rfl (hQ _ _ hw)
set_option maxRecDepth 100000 in
set_option maxHeartbeats 4000000 in
theorem s_X_walks {d : Nat} (hd : 5 ≤ d) {v0 : Nat} {v1 : Int32} {v2 : Int32} {bc bs : Nat} {h : Hp} {Q : Int64 → Hp → Prop} {QQ : Option AV → Hp → Prop} (hw : w_X_walks bc bs v0 v1 v2 h Q) (hQ : ∀ r9 h9, Q r9 h9 → QQ (some (al r9)) h9) : aCall m_X_walks d [ar v0, ai v1, ai v2] h bc bs QQ := by
  obtain ⟨d, rfl⟩ : ∃ d9, d = d9 + 1 := ⟨d - 1, by omega⟩
  refine aCall_in pl_X_walks (nle rfl) ?_
  show aW none m_X_walks (d + 1) 0 [(0, ar v0), (1, ai v1), (2, ai v2)] [] h bc bs QQ
  unfold w_X_walks at hw
  refine r_iload_n (j := 1) d_X_walks_0 rfl ?_
  refine r_iload_n (j := 2) d_X_walks_1 rfl ?_
  refine r_callS (av := [ai v1, ai v2]) (rest := []) d_X_walks_2 mk_X_isStrip ll_X_225 st_X_isStrip rfl rfl (nle rfl) (s_X_isStrip (by omega) hw (fun r2 h1 hv => ?_))
  replace hw := hv
  clear hv
  show aW none m_X_walks (d + 1) 5 [(0, ar v0), (1, ai v1), (2, ai v2)] [ai (b2i r2)] h1 bc bs QQ
  refine r_if_ne d_X_walks_5 (fun w9 => ?_) (fun w9 => ?_)
  · replace hw := hw.2 (fun g9 => w9 (b2i_0.mpr g9))
    refine r_aload_n (j := 0) d_X_walks_12 rfl ?_
    obtain ⟨q3, hw⟩ := hw
    refine r_getR d_X_walks_13 ok_11 (nle rfl) (nle rfl) rfl lf_X_62 q3 ?_
    refine r_iload_n (j := 1) d_X_walks_16 rfl ?_
    refine r_iload_n (j := 2) d_X_walks_17 rfl ?_
    obtain ⟨q5, hw⟩ := hw
    obtain ⟨q10, hw⟩ := hw
    obtain ⟨b6, t7, m8, m9, u8, u9, hw⟩ := hw
    subst u8 u9
    refine r_callA (av := [ai v1, ai v2]) (rest := []) (ci := 9) d_X_walks_18 mk_St_sweep ll_X_229 im_St_sweep se_St_sweep rfl (nle rfl) rfl rfl (nle rfl) refB_n (refL_r q5 (refL_i (refL_i refL_n))) q10 (s_St_sweep (by omega) hw (fun h4 hv => ?_))
    replace hw := hv
    clear hv
    show aW none m_X_walks (d + 1) 21 [(0, ar v0), (1, ai v1), (2, ai v2)] [] h4 b6 t7 QQ
    refine r_aload_n (j := 0) d_X_walks_21 rfl ?_
    obtain ⟨q11, hw⟩ := hw
    refine r_getR d_X_walks_22 ok_11 (nle rfl) (nle rfl) rfl lf_X_62 q11 ?_
    obtain ⟨q12, hw⟩ := hw
    refine r_getL d_X_walks_25 ok_9 (nle rfl) (nle rfl) rfl lf_X_235 q12 ?_
    exact r_lreturn d_X_walks_28.1 rfl (hQ _ _ hw)
  · replace hw := hw.1 (b2i_0.mp w9)
    refine r_ldc2 d_X_walks_8 lc_X_239 ?_
    exact r_lreturn d_X_walks_11.1 rfl (hQ _ _ hw)
set_option maxRecDepth 100000 in
set_option maxHeartbeats 4000000 in
theorem s_X_best {d : Nat} (hd : 5 ≤ d) {v0 : Nat} {v1 : Int32} {v2 : Int32} {bc bs : Nat} {h : Hp} {Q : Int32 → Hp → Prop} {QQ : Option AV → Hp → Prop} (hw : w_X_best bc bs v0 v1 v2 h Q) (hQ : ∀ r9 h9, Q r9 h9 → QQ (some (ai r9)) h9) : aCall m_X_best d [ar v0, ai v1, ai v2] h bc bs QQ := by
  obtain ⟨d, rfl⟩ : ∃ d9, d = d9 + 1 := ⟨d - 1, by omega⟩
  refine aCall_in pl_X_best (nle rfl) ?_
  show aW none m_X_best (d + 1) 0 [(0, ar v0), (1, ai v1), (2, ai v2)] [] h bc bs QQ
  unfold w_X_best at hw
  refine r_iload_n (j := 1) d_X_best_0 rfl ?_
  refine r_iload_n (j := 2) d_X_best_1 rfl ?_
  refine r_callS (av := [ai v1, ai v2]) (rest := []) d_X_best_2 mk_X_isStrip ll_X_225 st_X_isStrip rfl rfl (nle rfl) (s_X_isStrip (by omega) hw (fun r2 h1 hv => ?_))
  replace hw := hv
  clear hv
  show aW none m_X_best (d + 1) 5 [(0, ar v0), (1, ai v1), (2, ai v2)] [ai (b2i r2)] h1 bc bs QQ
  refine r_if_ne d_X_best_5 (fun w9 => ?_) (fun w9 => ?_)
  · replace hw := hw.2 (fun g9 => w9 (b2i_0.mpr g9))
    refine r_aload_n (j := 0) d_X_best_11 rfl ?_
    obtain ⟨q3, hw⟩ := hw
    refine r_getR d_X_best_12 ok_11 (nle rfl) (nle rfl) rfl lf_X_62 q3 ?_
    refine r_iload_n (j := 1) d_X_best_15 rfl ?_
    refine r_iload_n (j := 2) d_X_best_16 rfl ?_
    obtain ⟨q5, hw⟩ := hw
    obtain ⟨q10, hw⟩ := hw
    obtain ⟨b6, t7, m8, m9, u8, u9, hw⟩ := hw
    subst u8 u9
    refine r_callA (av := [ai v1, ai v2]) (rest := []) (ci := 9) d_X_best_17 mk_St_sweep ll_X_229 im_St_sweep se_St_sweep rfl (nle rfl) rfl rfl (nle rfl) refB_n (refL_r q5 (refL_i (refL_i refL_n))) q10 (s_St_sweep (by omega) hw (fun h4 hv => ?_))
    replace hw := hv
    clear hv
    show aW none m_X_best (d + 1) 20 [(0, ar v0), (1, ai v1), (2, ai v2)] [] h4 b6 t7 QQ
    refine r_aload_n (j := 0) d_X_best_20 rfl ?_
    obtain ⟨q11, hw⟩ := hw
    refine r_getR d_X_best_21 ok_11 (nle rfl) (nle rfl) rfl lf_X_62 q11 ?_
    obtain ⟨q12, hw⟩ := hw
    refine r_getL d_X_best_24 ok_9 (nle rfl) (nle rfl) rfl lf_X_235 q12 ?_
    refine r_lconst d_X_best_27 kl_0 ?_
    refine r_lcmp d_X_best_28 ?_
    refine r_if_le d_X_best_29 (fun w9 => ?_) (fun w9 => ?_)
    · replace hw := hw.1 ((lg_cmp_le _ _).mp w9)
      refine r_ldc d_X_best_42 lc_X_145 ?_
      exact r_ireturn d_X_best_44.1 rfl (hQ _ _ hw)
    · replace hw := hw.2 (fun g9 => w9 ((lg_cmp_le _ _).mpr g9))
      refine r_aload_n (j := 0) d_X_best_32 rfl ?_
      refine r_getR d_X_best_33 ok_11 (nle rfl) (nle rfl) rfl lf_X_62 q11 ?_
      refine r_getI d_X_best_36 ok_9 (nle rfl) (nle rfl) rfl lf_X_241 q12 ?_
      refine r_goto d_X_best_39 ?_
      exact r_ireturn d_X_best_44.1 rfl (hQ _ _ hw)
  · replace hw := hw.1 (b2i_0.mp w9)
    refine r_ldc d_X_best_8 lc_X_145 ?_
    exact r_ireturn d_X_best_10.1 rfl (hQ _ _ hw)
set_option maxRecDepth 100000 in
set_option maxHeartbeats 4000000 in
theorem s_X_step {d : Nat} (hd : 5 ≤ d) {v0 : Nat} {v1 : Int32} {v2 : Int32} {v3 : Int32} {bc bs : Nat} {h : Hp} {Q : Int32 → Hp → Prop} {QQ : Option AV → Hp → Prop} (hw : w_X_step bc bs v0 v1 v2 v3 h Q) (hQ : ∀ r9 h9, Q r9 h9 → QQ (some (ai r9)) h9) : aCall m_X_step d [ar v0, ai v1, ai v2, ai v3] h bc bs QQ := by
  obtain ⟨d, rfl⟩ : ∃ d9, d = d9 + 1 := ⟨d - 1, by omega⟩
  refine aCall_in pl_X_step (nle rfl) ?_
  show aW none m_X_step (d + 1) 0 [(0, ar v0), (1, ai v1), (2, ai v2), (3, ai v3)] [] h bc bs QQ
  unfold w_X_step at hw
  refine r_iload_n (j := 1) d_X_step_0 rfl ?_
  refine r_iload_n (j := 2) d_X_step_1 rfl ?_
  refine r_callS (av := [ai v1, ai v2]) (rest := []) d_X_step_2 mk_X_isStrip ll_X_225 st_X_isStrip rfl rfl (nle rfl) (s_X_isStrip (by omega) hw (fun r2 h1 hv => ?_))
  replace hw := hv
  clear hv
  show aW none m_X_step (d + 1) 5 [(0, ar v0), (1, ai v1), (2, ai v2), (3, ai v3)] [ai (b2i r2)] h1 bc bs QQ
  refine r_if_eq d_X_step_5 (fun w9 => ?_) (fun w9 => ?_)
  · replace hw := hw.1 (b2i_0.mp w9)
    refine r_iconst d_X_step_17 kc_m1 ?_
    exact r_ireturn d_X_step_18.1 rfl (hQ _ _ hw)
  · replace hw := hw.2 (fun g9 => w9 (b2i_0.mpr g9))
    refine r_iload_n (j := 3) d_X_step_8 rfl ?_
    refine r_if_lt d_X_step_9 (fun w9 => ?_) (fun w9 => ?_)
    · replace hw := hw.1 w9
      refine r_iconst d_X_step_17 kc_m1 ?_
      exact r_ireturn d_X_step_18.1 rfl (hQ _ _ hw)
    · replace hw := hw.2 w9
      refine r_iload_n (j := 3) d_X_step_12 rfl ?_
      refine r_iload_n (j := 1) d_X_step_13 rfl ?_
      refine r_icmp_lt d_X_step_14 (fun w9 => ?_) (fun w9 => ?_)
      · replace hw := hw.1 w9
        refine r_aload_n (j := 0) d_X_step_19 rfl ?_
        obtain ⟨q3, hw⟩ := hw
        refine r_getR d_X_step_20 ok_11 (nle rfl) (nle rfl) rfl lf_X_62 q3 ?_
        refine r_iload_n (j := 1) d_X_step_23 rfl ?_
        refine r_iload_n (j := 2) d_X_step_24 rfl ?_
        obtain ⟨q5, hw⟩ := hw
        obtain ⟨q10, hw⟩ := hw
        obtain ⟨b6, t7, m8, m9, u8, u9, hw⟩ := hw
        subst u8 u9
        refine r_callA (av := [ai v1, ai v2]) (rest := []) (ci := 9) d_X_step_25 mk_St_sweep ll_X_229 im_St_sweep se_St_sweep rfl (nle rfl) rfl rfl (nle rfl) refB_n (refL_r q5 (refL_i (refL_i (refL_i refL_n)))) q10 (s_St_sweep (by omega) hw (fun h4 hv => ?_))
        replace hw := hv
        clear hv
        show aW none m_X_step (d + 1) 28 [(0, ar v0), (1, ai v1), (2, ai v2), (3, ai v3)] [] h4 b6 t7 QQ
        refine r_aload_n (j := 0) d_X_step_28 rfl ?_
        obtain ⟨q11, hw⟩ := hw
        refine r_getR d_X_step_29 ok_11 (nle rfl) (nle rfl) rfl lf_X_62 q11 ?_
        obtain ⟨q12, hw⟩ := hw
        refine r_getL d_X_step_32 ok_9 (nle rfl) (nle rfl) rfl lf_X_235 q12 ?_
        refine r_lconst d_X_step_35 kl_0 ?_
        refine r_lcmp d_X_step_36 ?_
        refine r_if_le d_X_step_37 (fun w9 => ?_) (fun w9 => ?_)
        · replace hw := hw.1 ((lg_cmp_le _ _).mp w9)
          refine r_iconst d_X_step_51 kc_m1 ?_
          exact r_ireturn d_X_step_52.1 rfl (hQ _ _ hw)
        · replace hw := hw.2 (fun g9 => w9 ((lg_cmp_le _ _).mpr g9))
          refine r_aload_n (j := 0) d_X_step_40 rfl ?_
          refine r_getR d_X_step_41 ok_11 (nle rfl) (nle rfl) rfl lf_X_62 q11 ?_
          refine r_iload_n (j := 3) d_X_step_44 rfl ?_
          refine r_callV (av := [ai v3]) (rest := []) (ci := 9) d_X_step_45 mk_St_columnAt ll_X_244 im_St_columnAt se_St_columnAt rfl (nle rfl) rfl rfl (nle rfl) q12 (s_St_columnAt (by omega) hw (fun r14 h13 hv => ?_))
          replace hw := hv
          clear hv
          show aW none m_X_step (d + 1) 48 [(0, ar v0), (1, ai v1), (2, ai v2), (3, ai v3)] [ai r14] h13 b6 t7 QQ
          refine r_goto d_X_step_48 ?_
          exact r_ireturn d_X_step_52.1 rfl (hQ _ _ hw)
      · replace hw := hw.2 w9
        refine r_iconst d_X_step_17 kc_m1 ?_
        exact r_ireturn d_X_step_18.1 rfl (hQ _ _ hw)
set_option maxRecDepth 100000 in
set_option maxHeartbeats 4000000 in
theorem s_X_countPlans_L2 {d : Nat} (hd : 62 ≤ d + 1) {Q : Int32 → Hp → Prop} {QQ : Option AV → Hp → Prop} (hQ : ∀ r9 h9, Q r9 h9 → QQ (some (ai r9)) h9) {v0 : Nat} {v1 : Int32} {v2 : Int32} : ∀ (n : Nat) (v3 : Int32) (h : Hp), w_X_countPlans_L2 Q  v0 v1 v2 n v3 h → aW none m_X_countPlans (d + 1) 2 [(0, ar v0), (1, ai v1), (2, ai v2), (3, ai v3)] [] h 0 0 QQ := by
  intro n
  induction n with
  | zero => intro v3 h hw; exact hw.elim
  | succ n ih =>
    intro v3 h hw
    unfold w_X_countPlans_L2 at hw
    refine r_iload_n (j := 3) d_X_countPlans_2 rfl ?_
    refine r_iconst d_X_countPlans_3 kc_3 ?_
    refine r_icmp_ge d_X_countPlans_4 (fun w9 => ?_) (fun w9 => ?_)
    · replace hw := hw.1 w9
      refine r_aload_n (j := 0) d_X_countPlans_27 rfl ?_
      obtain ⟨q1, hw⟩ := hw
      refine r_getR d_X_countPlans_28 ok_11 (nle rfl) (nle rfl) rfl lf_X_53 q1 ?_
      refine r_aload_n (j := 0) d_X_countPlans_31 rfl ?_
      refine r_getR d_X_countPlans_32 ok_11 (nle rfl) (nle rfl) rfl lf_X_23 q1 ?_
      refine r_iconst d_X_countPlans_35 kc_m1 ?_
      refine r_iload_n (j := 1) d_X_countPlans_36 rfl ?_
      refine r_aload_n (j := 0) d_X_countPlans_37 rfl ?_
      refine r_getR d_X_countPlans_38 ok_11 (nle rfl) (nle rfl) rfl lf_X_103 q1 ?_
      refine r_iload_n (j := 2) d_X_countPlans_41 rfl ?_
      obtain ⟨q3, hw⟩ := hw
      refine r_callV (av := [ar (gR h v0 2), ai (-1 : Int32), ai v1, ar (gR h v0 14), ai v2]) (rest := []) (ci := 7) d_X_countPlans_42 mk_Ps_run ll_X_250 im_Ps_run se_Ps_run rfl (nle rfl) rfl rfl (nle rfl) q3 (s_Ps_run (by omega) hw (fun h2 hw => ?_))
      show aW none m_X_countPlans (d + 1) 45 [(0, ar v0), (1, ai v1), (2, ai v2), (3, ai v3)] [] h2 0 0 QQ
      refine r_aload_n (j := 0) d_X_countPlans_45 rfl ?_
      obtain ⟨q4, hw⟩ := hw
      refine r_getR d_X_countPlans_46 ok_11 (nle rfl) (nle rfl) rfl lf_X_53 q4 ?_
      obtain ⟨q5, hw⟩ := hw
      refine r_getI d_X_countPlans_49 ok_7 (nle rfl) (nle rfl) rfl lf_X_254 q5 ?_
      exact r_ireturn d_X_countPlans_52.1 rfl (hQ _ _ hw)
    · replace hw := hw.2 w9
      refine r_aload_n (j := 0) d_X_countPlans_7 rfl ?_
      obtain ⟨q6, hw⟩ := hw
      refine r_getR d_X_countPlans_8 ok_11 (nle rfl) (nle rfl) rfl lf_X_103 q6 ?_
      refine r_iload_n (j := 3) d_X_countPlans_11 rfl ?_
      refine r_aload_n (j := 0) d_X_countPlans_12 rfl ?_
      refine r_getR d_X_countPlans_13 ok_11 (nle rfl) (nle rfl) rfl lf_X_23 q6 ?_
      refine r_iload_n (j := 3) d_X_countPlans_16 rfl ?_
      obtain ⟨q9, hw⟩ := hw
      refine r_callV (av := [ai v3]) (rest := [ai v3, ar (gR h v0 14)]) (ci := 1) d_X_countPlans_17 mk_Co_needOf ll_X_154 im_Co_needOf se_Co_needOf rfl (nle rfl) rfl rfl (nle rfl) q9 (s_Co_needOf  hw (fun r8 h7 hw => ?_))
      show aW none m_X_countPlans (d + 1) 20 [(0, ar v0), (1, ai v1), (2, ai v2), (3, ai v3)] [ai r8, ai v3, ar (gR h v0 14)] h7 0 0 QQ
      obtain ⟨q10, hw⟩ := hw
      obtain ⟨q11, hw⟩ := hw
      refine r_iast d_X_countPlans_20 q10 q11 ?_
      refine r_iinc (j := 3) (ls2 := [(3, ai (v3 + (1 : Int32))), (0, ar v0), (1, ai v1), (2, ai v2)]) d_X_countPlans_21 rfl (congrArg (HAdd.hAdd v3) kc_1) (nle rfl) rfl ?_
      refine r_goto d_X_countPlans_24 ?_
      refine r_pick (ls2 := [(0, ar v0), (1, ai v1), (2, ai v2), (3, ai (v3 + (1 : Int32)))]) [1, 2, 3, 0] rfl ?_
      exact ih _ _ hw
set_option maxRecDepth 100000 in
set_option maxHeartbeats 4000000 in
theorem s_X_countPlans {d : Nat} (hd : 62 ≤ d) {v0 : Nat} {v1 : Int32} {v2 : Int32} {h : Hp} {Q : Int32 → Hp → Prop} {QQ : Option AV → Hp → Prop} (hw : w_X_countPlans v0 v1 v2 h Q) (hQ : ∀ r9 h9, Q r9 h9 → QQ (some (ai r9)) h9) : aCall m_X_countPlans d [ar v0, ai v1, ai v2] h 0 0 QQ := by
  obtain ⟨d, rfl⟩ : ∃ d9, d = d9 + 1 := ⟨d - 1, by omega⟩
  refine aCall_in pl_X_countPlans (nle rfl) ?_
  show aW none m_X_countPlans (d + 1) 0 [(0, ar v0), (1, ai v1), (2, ai v2)] [] h 0 0 QQ
  unfold w_X_countPlans at hw
  refine r_iconst d_X_countPlans_0 kc_0 ?_
  refine r_istore_n (ls2 := [(3, ai (0 : Int32)), (0, ar v0), (1, ai v1), (2, ai v2)]) d_X_countPlans_1 (nle rfl) rfl ?_
  obtain ⟨n12, hw⟩ := hw
  refine r_pick (ls2 := [(0, ar v0), (1, ai v1), (2, ai v2), (3, ai (0 : Int32))]) [1, 2, 3, 0] rfl ?_
  exact s_X_countPlans_L2 hd hQ  n12 _ _ hw
set_option maxRecDepth 100000 in
set_option maxHeartbeats 4000000 in
theorem s_X_narrow_L20 {d : Nat} (hd : 63 ≤ d + 1) {Q : Int32 → Hp → Prop} {QQ : Option AV → Hp → Prop} (hQ : ∀ r9 h9, Q r9 h9 → QQ (some (ai r9)) h9) {v0 : Nat} {v1 : Int32} : ∀ (n : Nat) (v2 : Int32) (bc : Nat) (bs : Nat) (h : Hp), w_X_narrow_L20 Q  v0 v1 n v2 bc bs h → aW none m_X_narrow (d + 1) 20 [(0, ar v0), (1, ai v1), (2, ai v2)] [] h bc bs QQ := by
  intro n
  induction n with
  | zero => intro v2 bc bs h hw; exact hw.elim
  | succ n ih =>
    intro v2 bc bs h hw
    unfold w_X_narrow_L20 at hw
    refine r_iload_n (j := 2) d_X_narrow_20 rfl ?_
    refine r_bipush d_X_narrow_21 kb_12 ?_
    refine r_icmp_gt d_X_narrow_23 (fun w9 => ?_) (fun w9 => ?_)
    · replace hw := hw.1 w9
      refine r_iconst d_X_narrow_55 kc_m1 ?_
      exact r_ireturn d_X_narrow_56.1 rfl (hQ _ _ hw)
    · replace hw := hw.2 w9
      refine r_aload_n (j := 0) d_X_narrow_26 rfl ?_
      obtain ⟨q6, hw⟩ := hw
      refine r_getR d_X_narrow_27 ok_11 (nle rfl) (nle rfl) rfl lf_X_62 q6 ?_
      refine r_iload_n (j := 1) d_X_narrow_30 rfl ?_
      refine r_iload_n (j := 2) d_X_narrow_31 rfl ?_
      obtain ⟨q8, hw⟩ := hw
      obtain ⟨q13, hw⟩ := hw
      obtain ⟨b9, t10, m11, m12, u8, u9, hw⟩ := hw
      subst u8 u9
      refine r_callA (av := [ai v1, ai v2]) (rest := []) (ci := 9) d_X_narrow_32 mk_St_sweep ll_X_229 im_St_sweep se_St_sweep rfl (nle rfl) rfl rfl (nle rfl) refB_n (refL_r q8 (refL_i (refL_i refL_n))) q13 (s_St_sweep (by omega) hw (fun h7 hv => ?_))
      replace hw := hv
      clear hv
      show aW none m_X_narrow (d + 1) 35 [(0, ar v0), (1, ai v1), (2, ai v2)] [] h7 b9 t10 QQ
      refine r_aload_n (j := 0) d_X_narrow_35 rfl ?_
      obtain ⟨q14, hw⟩ := hw
      refine r_getR d_X_narrow_36 ok_11 (nle rfl) (nle rfl) rfl lf_X_62 q14 ?_
      obtain ⟨q15, hw⟩ := hw
      refine r_getL d_X_narrow_39 ok_9 (nle rfl) (nle rfl) rfl lf_X_235 q15 ?_
      refine r_lconst d_X_narrow_42 kl_0 ?_
      refine r_lcmp d_X_narrow_43 ?_
      refine r_if_le d_X_narrow_44 (fun w9 => ?_) (fun w9 => ?_)
      · replace hw := hw.1 ((lg_cmp_le _ _).mp w9)
        refine r_iinc (j := 2) (ls2 := [(2, ai (v2 + (1 : Int32))), (0, ar v0), (1, ai v1)]) d_X_narrow_49 rfl (congrArg (HAdd.hAdd v2) kc_1) (nle rfl) rfl ?_
        refine r_goto d_X_narrow_52 ?_
        refine r_pick (ls2 := [(0, ar v0), (1, ai v1), (2, ai (v2 + (1 : Int32)))]) [1, 2, 0] rfl ?_
        exact ih _ _ _ _ hw
      · replace hw := hw.2 (fun g9 => w9 ((lg_cmp_le _ _).mpr g9))
        refine r_iload_n (j := 2) d_X_narrow_47 rfl ?_
        exact r_ireturn d_X_narrow_48.1 rfl (hQ _ _ hw)
set_option maxRecDepth 100000 in
set_option maxHeartbeats 4000000 in
theorem s_X_narrow {d : Nat} (hd : 63 ≤ d) {v0 : Nat} {v1 : Int32} {bc bs : Nat} {h : Hp} {Q : Int32 → Hp → Prop} {QQ : Option AV → Hp → Prop} (hw : w_X_narrow bc bs v0 v1 h Q) (hQ : ∀ r9 h9, Q r9 h9 → QQ (some (ai r9)) h9) : aCall m_X_narrow d [ar v0, ai v1] h bc bs QQ := by
  obtain ⟨d, rfl⟩ : ∃ d9, d = d9 + 1 := ⟨d - 1, by omega⟩
  refine aCall_in pl_X_narrow (nle rfl) ?_
  show aW none m_X_narrow (d + 1) 0 [(0, ar v0), (1, ai v1)] [] h bc bs QQ
  unfold w_X_narrow at hw
  refine r_iload_n (j := 1) d_X_narrow_0 rfl ?_
  refine r_callS (av := [ai v1]) (rest := []) d_X_narrow_1 mk_X_isLength ll_X_222 st_X_isLength rfl rfl (nle rfl) (s_X_isLength  hw (fun r2 h1 hv => ?_))
  replace hw := hv
  clear hv
  show aW none m_X_narrow (d + 1) 4 [(0, ar v0), (1, ai v1)] [ai (b2i r2)] h1 bc bs QQ
  refine r_if_eq d_X_narrow_4 (fun w9 => ?_) (fun w9 => ?_)
  · replace hw := hw.1 (b2i_0.mp w9)
    refine r_iconst d_X_narrow_16 kc_m1 ?_
    exact r_ireturn d_X_narrow_17.1 rfl (hQ _ _ hw)
  · replace hw := hw.2 (fun g9 => w9 (b2i_0.mpr g9))
    refine r_aload_n (j := 0) d_X_narrow_7 rfl ?_
    refine r_iload_n (j := 1) d_X_narrow_8 rfl ?_
    refine r_iconst d_X_narrow_9 kc_1 ?_
    obtain ⟨q5, hw⟩ := hw
    refine r_callV (av := [ai v1, ai (1 : Int32)]) (rest := []) (ci := 11) d_X_narrow_10 mk_X_countPlans ll_X_247 im_X_countPlans se_X_countPlans rfl (nle rfl) rfl rfl (nle rfl) q5 (s_X_countPlans (by omega) hw (fun r4 h3 hv => ?_))
    replace hw := hv
    clear hv
    show aW none m_X_narrow (d + 1) 13 [(0, ar v0), (1, ai v1)] [ai r4] h3 bc bs QQ
    refine r_if_ne d_X_narrow_13 (fun w9 => ?_) (fun w9 => ?_)
    · replace hw := hw.2 w9
      refine r_iconst d_X_narrow_18 kc_0 ?_
      refine r_istore_n (ls2 := [(2, ai (0 : Int32)), (0, ar v0), (1, ai v1)]) d_X_narrow_19 (nle rfl) rfl ?_
      obtain ⟨n16, hw⟩ := hw
      refine r_pick (ls2 := [(0, ar v0), (1, ai v1), (2, ai (0 : Int32))]) [1, 2, 0] rfl ?_
      exact s_X_narrow_L20 hd hQ  n16 _ _ _ _ hw
    · replace hw := hw.1 w9
      refine r_iconst d_X_narrow_16 kc_m1 ?_
      exact r_ireturn d_X_narrow_17.1 rfl (hQ _ _ hw)
set_option maxRecDepth 100000 in
set_option maxHeartbeats 4000000 in
theorem s_X_fewest_L2 {d : Nat} (hd : 63 ≤ d + 1) {Q : Int32 → Hp → Prop} {QQ : Option AV → Hp → Prop} (hQ : ∀ r9 h9, Q r9 h9 → QQ (some (ai r9)) h9) {v0 : Nat} : ∀ (n : Nat) (v1 : Int32) (h : Hp), w_X_fewest_L2 Q  v0 n v1 h → aW none m_X_fewest (d + 1) 2 [(0, ar v0), (1, ai v1)] [] h 0 0 QQ := by
  intro n
  induction n with
  | zero => intro v1 h hw; exact hw.elim
  | succ n ih =>
    intro v1 h hw
    unfold w_X_fewest_L2 at hw
    refine r_iload_n (j := 1) d_X_fewest_2 rfl ?_
    refine r_bipush d_X_fewest_3 kb_12 ?_
    refine r_icmp_gt d_X_fewest_5 (fun w9 => ?_) (fun w9 => ?_)
    · replace hw := hw.1 w9
      refine r_iconst d_X_fewest_25 kc_m1 ?_
      exact r_ireturn d_X_fewest_26.1 rfl (hQ _ _ hw)
    · replace hw := hw.2 w9
      refine r_aload_n (j := 0) d_X_fewest_8 rfl ?_
      refine r_iload_n (j := 1) d_X_fewest_9 rfl ?_
      refine r_iconst d_X_fewest_10 kc_1 ?_
      obtain ⟨q3, hw⟩ := hw
      refine r_callV (av := [ai v1, ai (1 : Int32)]) (rest := []) (ci := 11) d_X_fewest_11 mk_X_countPlans ll_X_247 im_X_countPlans se_X_countPlans rfl (nle rfl) rfl rfl (nle rfl) q3 (s_X_countPlans (by omega) hw (fun r2 h1 hw => ?_))
      show aW none m_X_fewest (d + 1) 14 [(0, ar v0), (1, ai v1)] [ai r2] h1 0 0 QQ
      refine r_if_le d_X_fewest_14 (fun w9 => ?_) (fun w9 => ?_)
      · replace hw := hw.1 w9
        refine r_iinc (j := 1) (ls2 := [(1, ai (v1 + (1 : Int32))), (0, ar v0)]) d_X_fewest_19 rfl (congrArg (HAdd.hAdd v1) kc_1) (nle rfl) rfl ?_
        refine r_goto d_X_fewest_22 ?_
        refine r_pick (ls2 := [(0, ar v0), (1, ai (v1 + (1 : Int32)))]) [1, 0] rfl ?_
        exact ih _ _ hw
      · replace hw := hw.2 w9
        refine r_iload_n (j := 1) d_X_fewest_17 rfl ?_
        exact r_ireturn d_X_fewest_18.1 rfl (hQ _ _ hw)
set_option maxRecDepth 100000 in
set_option maxHeartbeats 4000000 in
theorem s_X_fewest {d : Nat} (hd : 63 ≤ d) {v0 : Nat} {h : Hp} {Q : Int32 → Hp → Prop} {QQ : Option AV → Hp → Prop} (hw : w_X_fewest v0 h Q) (hQ : ∀ r9 h9, Q r9 h9 → QQ (some (ai r9)) h9) : aCall m_X_fewest d [ar v0] h 0 0 QQ := by
  obtain ⟨d, rfl⟩ : ∃ d9, d = d9 + 1 := ⟨d - 1, by omega⟩
  refine aCall_in pl_X_fewest (nle rfl) ?_
  show aW none m_X_fewest (d + 1) 0 [(0, ar v0)] [] h 0 0 QQ
  unfold w_X_fewest at hw
  refine r_iconst d_X_fewest_0 kc_0 ?_
  refine r_istore_n (ls2 := [(1, ai (0 : Int32)), (0, ar v0)]) d_X_fewest_1 (nle rfl) rfl ?_
  obtain ⟨n4, hw⟩ := hw
  refine r_pick (ls2 := [(0, ar v0), (1, ai (0 : Int32))]) [1, 0] rfl ?_
  exact s_X_fewest_L2 hd hQ  n4 _ _ hw
set_option maxRecDepth 100000 in
set_option maxHeartbeats 4000000 in
theorem s_X_optimum {d : Nat} (hd : 64 ≤ d) {v0 : Nat} {v1 : Int32} {h : Hp} {Q : Int32 → Hp → Prop} {QQ : Option AV → Hp → Prop} (hw : w_X_optimum v0 v1 h Q) (hQ : ∀ r9 h9, Q r9 h9 → QQ (some (ai r9)) h9) : aCall m_X_optimum d [ar v0, ai v1] h 0 0 QQ := by
  obtain ⟨d, rfl⟩ : ∃ d9, d = d9 + 1 := ⟨d - 1, by omega⟩
  refine aCall_in pl_X_optimum (nle rfl) ?_
  show aW none m_X_optimum (d + 1) 0 [(0, ar v0), (1, ai v1)] [] h 0 0 QQ
  unfold w_X_optimum at hw
  refine r_iload_n (j := 1) d_X_optimum_0 rfl ?_
  refine r_if_lt d_X_optimum_1 (fun w9 => ?_) (fun w9 => ?_)
  · replace hw := hw.1 w9
    refine r_ldc d_X_optimum_19 lc_X_145 ?_
    exact r_ireturn d_X_optimum_21.1 rfl (hQ _ _ hw)
  · replace hw := hw.2 w9
    refine r_iload_n (j := 1) d_X_optimum_4 rfl ?_
    refine r_iconst d_X_optimum_5 kc_1 ?_
    refine r_icmp_gt d_X_optimum_6 (fun w9 => ?_) (fun w9 => ?_)
    · replace hw := hw.1 w9
      refine r_ldc d_X_optimum_19 lc_X_145 ?_
      exact r_ireturn d_X_optimum_21.1 rfl (hQ _ _ hw)
    · replace hw := hw.2 w9
      refine r_aload_n (j := 0) d_X_optimum_9 rfl ?_
      obtain ⟨q1, hw⟩ := hw
      refine r_getR d_X_optimum_10 ok_11 (nle rfl) (nle rfl) rfl lf_X_71 q1 ?_
      obtain ⟨q4, hw⟩ := hw
      refine r_callV (av := []) (rest := []) (ci := 6) d_X_optimum_13 mk_Op_find ll_X_257 im_Op_find se_Op_find rfl (nle rfl) rfl rfl (nle rfl) q4 (s_Op_find (by omega) hw (fun r3 h2 hw => ?_))
      show aW none m_X_optimum (d + 1) 16 [(0, ar v0), (1, ai v1)] [ai (b2i r3)] h2 0 0 QQ
      refine r_if_ne d_X_optimum_16 (fun w9 => ?_) (fun w9 => ?_)
      · replace hw := hw.2 (fun g9 => w9 (b2i_0.mpr g9))
        refine r_iload_n (j := 1) d_X_optimum_22 rfl ?_
        refine r_if_ne d_X_optimum_23 (fun w9 => ?_) (fun w9 => ?_)
        · replace hw := hw.2 w9
          refine r_aload_n (j := 0) d_X_optimum_36 rfl ?_
          obtain ⟨q5, hw⟩ := hw
          refine r_getR d_X_optimum_37 ok_11 (nle rfl) (nle rfl) rfl lf_X_71 q5 ?_
          obtain ⟨q6, hw⟩ := hw
          refine r_getI d_X_optimum_40 ok_6 (nle rfl) (nle rfl) rfl lf_X_260 q6 ?_
          exact r_ireturn d_X_optimum_43.1 rfl (hQ _ _ hw)
        · replace hw := hw.1 w9
          refine r_aload_n (j := 0) d_X_optimum_26 rfl ?_
          obtain ⟨q7, hw⟩ := hw
          refine r_getR d_X_optimum_27 ok_11 (nle rfl) (nle rfl) rfl lf_X_71 q7 ?_
          obtain ⟨q8, hw⟩ := hw
          refine r_getI d_X_optimum_30 ok_6 (nle rfl) (nle rfl) rfl lf_X_259 q8 ?_
          refine r_goto d_X_optimum_33 ?_
          exact r_ireturn d_X_optimum_43.1 rfl (hQ _ _ hw)
      · replace hw := hw.1 (b2i_0.mp w9)
        refine r_ldc d_X_optimum_19 lc_X_145 ?_
        exact r_ireturn d_X_optimum_21.1 rfl (hQ _ _ hw)
set_option maxRecDepth 100000 in
set_option maxHeartbeats 4000000 in
theorem s_X_plan {d : Nat} (hd : 64 ≤ d) {v0 : Nat} {v1 : Int32} {h : Hp} {Q : Int32 → Hp → Prop} {QQ : Option AV → Hp → Prop} (hw : w_X_plan v0 v1 h Q) (hQ : ∀ r9 h9, Q r9 h9 → QQ (some (ai r9)) h9) : aCall m_X_plan d [ar v0, ai v1] h 0 0 QQ := by
  obtain ⟨d, rfl⟩ : ∃ d9, d = d9 + 1 := ⟨d - 1, by omega⟩
  refine aCall_in pl_X_plan (nle rfl) ?_
  show aW none m_X_plan (d + 1) 0 [(0, ar v0), (1, ai v1)] [] h 0 0 QQ
  unfold w_X_plan at hw
  refine r_aload_n (j := 0) d_X_plan_0 rfl ?_
  obtain ⟨q1, hw⟩ := hw
  refine r_getR d_X_plan_1 ok_11 (nle rfl) (nle rfl) rfl lf_X_23 q1 ?_
  refine r_iload_n (j := 1) d_X_plan_4 rfl ?_
  obtain ⟨q4, hw⟩ := hw
  refine r_callV (av := [ai v1]) (rest := []) (ci := 1) d_X_plan_5 mk_Co_hasColumn ll_X_138 im_Co_hasColumn se_Co_hasColumn rfl (nle rfl) rfl rfl (nle rfl) q4 (s_Co_hasColumn  hw (fun r3 h2 hw => ?_))
  show aW none m_X_plan (d + 1) 8 [(0, ar v0), (1, ai v1)] [ai (b2i r3)] h2 0 0 QQ
  refine r_if_eq d_X_plan_8 (fun w9 => ?_) (fun w9 => ?_)
  · replace hw := hw.1 (b2i_0.mp w9)
    refine r_iconst d_X_plan_21 kc_m1 ?_
    exact r_ireturn d_X_plan_22.1 rfl (hQ _ _ hw)
  · replace hw := hw.2 (fun g9 => w9 (b2i_0.mpr g9))
    refine r_aload_n (j := 0) d_X_plan_11 rfl ?_
    obtain ⟨q5, hw⟩ := hw
    refine r_getR d_X_plan_12 ok_11 (nle rfl) (nle rfl) rfl lf_X_71 q5 ?_
    obtain ⟨q8, hw⟩ := hw
    refine r_callV (av := []) (rest := []) (ci := 6) d_X_plan_15 mk_Op_find ll_X_257 im_Op_find se_Op_find rfl (nle rfl) rfl rfl (nle rfl) q8 (s_Op_find (by omega) hw (fun r7 h6 hw => ?_))
    show aW none m_X_plan (d + 1) 18 [(0, ar v0), (1, ai v1)] [ai (b2i r7)] h6 0 0 QQ
    refine r_if_ne d_X_plan_18 (fun w9 => ?_) (fun w9 => ?_)
    · replace hw := hw.2 (fun g9 => w9 (b2i_0.mpr g9))
      refine r_aload_n (j := 0) d_X_plan_23 rfl ?_
      obtain ⟨q9, hw⟩ := hw
      refine r_getR d_X_plan_24 ok_11 (nle rfl) (nle rfl) rfl lf_X_71 q9 ?_
      refine r_iload_n (j := 1) d_X_plan_27 rfl ?_
      obtain ⟨q12, hw⟩ := hw
      refine r_callV (av := [ai v1]) (rest := []) (ci := 6) d_X_plan_28 mk_Op_oftenOf ll_X_261 im_Op_oftenOf se_Op_oftenOf rfl (nle rfl) rfl rfl (nle rfl) q12 (s_Op_oftenOf  hw (fun r11 h10 hw => ?_))
      show aW none m_X_plan (d + 1) 31 [(0, ar v0), (1, ai v1)] [ai r11] h10 0 0 QQ
      exact r_ireturn d_X_plan_31.1 rfl (hQ _ _ hw)
    · replace hw := hw.1 (b2i_0.mp w9)
      refine r_iconst d_X_plan_21 kc_m1 ?_
      exact r_ireturn d_X_plan_22.1 rfl (hQ _ _ hw)
set_option maxRecDepth 100000 in
set_option maxHeartbeats 4000000 in
theorem s_X_plans {d : Nat} (hd : 63 ≤ d) {v0 : Nat} {v1 : Int32} {h : Hp} {Q : Int32 → Hp → Prop} {QQ : Option AV → Hp → Prop} (hw : w_X_plans v0 v1 h Q) (hQ : ∀ r9 h9, Q r9 h9 → QQ (some (ai r9)) h9) : aCall m_X_plans d [ar v0, ai v1] h 0 0 QQ := by
  obtain ⟨d, rfl⟩ : ∃ d9, d = d9 + 1 := ⟨d - 1, by omega⟩
  refine aCall_in pl_X_plans (nle rfl) ?_
  show aW none m_X_plans (d + 1) 0 [(0, ar v0), (1, ai v1)] [] h 0 0 QQ
  unfold w_X_plans at hw
  refine r_iload_n (j := 1) d_X_plans_0 rfl ?_
  refine r_callS (av := [ai v1]) (rest := []) d_X_plans_1 mk_X_isLength ll_X_222 st_X_isLength rfl rfl (nle rfl) (s_X_isLength  hw (fun r2 h1 hw => ?_))
  show aW none m_X_plans (d + 1) 4 [(0, ar v0), (1, ai v1)] [ai (b2i r2)] h1 0 0 QQ
  refine r_if_eq d_X_plans_4 (fun w9 => ?_) (fun w9 => ?_)
  · replace hw := hw.1 (b2i_0.mp w9)
    refine r_iconst d_X_plans_18 kc_m1 ?_
    exact r_ireturn d_X_plans_19.1 rfl (hQ _ _ hw)
  · replace hw := hw.2 (fun g9 => w9 (b2i_0.mpr g9))
    refine r_aload_n (j := 0) d_X_plans_7 rfl ?_
    refine r_iload_n (j := 1) d_X_plans_8 rfl ?_
    refine r_ldcw d_X_plans_9 lc_X_264 ?_
    obtain ⟨q5, hw⟩ := hw
    refine r_callV (av := [ai v1, ai (1000000 : Int32)]) (rest := []) (ci := 11) d_X_plans_12 mk_X_countPlans ll_X_247 im_X_countPlans se_X_countPlans rfl (nle rfl) rfl rfl (nle rfl) q5 (s_X_countPlans (by omega) hw (fun r4 h3 hw => ?_))
    show aW none m_X_plans (d + 1) 15 [(0, ar v0), (1, ai v1)] [ai r4] h3 0 0 QQ
    refine r_goto d_X_plans_15 ?_
    exact r_ireturn d_X_plans_19.1 rfl (hQ _ _ hw)
set_option maxRecDepth 100000 in
set_option maxHeartbeats 4000000 in
theorem s_X_order {d : Nat} (hd : 64 ≤ d) {v0 : Nat} {v1 : Int32} {h : Hp} {Q : Int32 → Hp → Prop} {QQ : Option AV → Hp → Prop} (hw : w_X_order v0 v1 h Q) (hQ : ∀ r9 h9, Q r9 h9 → QQ (some (ai r9)) h9) : aCall m_X_order d [ar v0, ai v1] h 0 0 QQ := by
  obtain ⟨d, rfl⟩ : ∃ d9, d = d9 + 1 := ⟨d - 1, by omega⟩
  refine aCall_in pl_X_order (nle rfl) ?_
  show aW none m_X_order (d + 1) 0 [(0, ar v0), (1, ai v1)] [] h 0 0 QQ
  unfold w_X_order at hw
  refine r_aload_n (j := 0) d_X_order_0 rfl ?_
  obtain ⟨q1, hw⟩ := hw
  refine r_getR d_X_order_1 ok_11 (nle rfl) (nle rfl) rfl lf_X_71 q1 ?_
  obtain ⟨q4, hw⟩ := hw
  refine r_callV (av := []) (rest := []) (ci := 6) d_X_order_4 mk_Op_find ll_X_257 im_Op_find se_Op_find rfl (nle rfl) rfl rfl (nle rfl) q4 (s_Op_find (by omega) hw (fun r3 h2 hw => ?_))
  show aW none m_X_order (d + 1) 7 [(0, ar v0), (1, ai v1)] [ai (b2i r3)] h2 0 0 QQ
  refine r_if_eq d_X_order_7 (fun w9 => ?_) (fun w9 => ?_)
  · replace hw := hw.1 (b2i_0.mp w9)
    refine r_iconst d_X_order_25 kc_m1 ?_
    exact r_ireturn d_X_order_26.1 rfl (hQ _ _ hw)
  · replace hw := hw.2 (fun g9 => w9 (b2i_0.mpr g9))
    refine r_iload_n (j := 1) d_X_order_10 rfl ?_
    refine r_if_lt d_X_order_11 (fun w9 => ?_) (fun w9 => ?_)
    · replace hw := hw.1 w9
      refine r_iconst d_X_order_25 kc_m1 ?_
      exact r_ireturn d_X_order_26.1 rfl (hQ _ _ hw)
    · replace hw := hw.2 w9
      refine r_iload_n (j := 1) d_X_order_14 rfl ?_
      refine r_aload_n (j := 0) d_X_order_15 rfl ?_
      obtain ⟨q5, hw⟩ := hw
      refine r_getR d_X_order_16 ok_11 (nle rfl) (nle rfl) rfl lf_X_71 q5 ?_
      obtain ⟨q6, hw⟩ := hw
      refine r_getI d_X_order_19 ok_6 (nle rfl) (nle rfl) rfl lf_X_260 q6 ?_
      refine r_icmp_lt d_X_order_22 (fun w9 => ?_) (fun w9 => ?_)
      · replace hw := hw.1 w9
        refine r_aload_n (j := 0) d_X_order_27 rfl ?_
        refine r_getR d_X_order_28 ok_11 (nle rfl) (nle rfl) rfl lf_X_71 q5 ?_
        refine r_iload_n (j := 1) d_X_order_31 rfl ?_
        refine r_callV (av := [ai v1]) (rest := []) (ci := 6) d_X_order_32 mk_Op_columnAt ll_X_265 im_Op_columnAt se_Op_columnAt rfl (nle rfl) rfl rfl (nle rfl) q6 (s_Op_columnAt  hw (fun r8 h7 hw => ?_))
        show aW none m_X_order (d + 1) 35 [(0, ar v0), (1, ai v1)] [ai r8] h7 0 0 QQ
        exact r_ireturn d_X_order_35.1 rfl (hQ _ _ hw)
      · replace hw := hw.2 w9
        refine r_iconst d_X_order_25 kc_m1 ?_
        exact r_ireturn d_X_order_26.1 rfl (hQ _ _ hw)
set_option maxRecDepth 100000 in
set_option maxHeartbeats 4000000 in
theorem s_X_strays {d : Nat} (hd : 64 ≤ d) {v0 : Nat} {h : Hp} {Q : Int32 → Hp → Prop} {QQ : Option AV → Hp → Prop} (hw : w_X_strays v0 h Q) (hQ : ∀ r9 h9, Q r9 h9 → QQ (some (ai r9)) h9) : aCall m_X_strays d [ar v0] h 0 0 QQ := by
  obtain ⟨d, rfl⟩ : ∃ d9, d = d9 + 1 := ⟨d - 1, by omega⟩
  refine aCall_in pl_X_strays (nle rfl) ?_
  show aW none m_X_strays (d + 1) 0 [(0, ar v0)] [] h 0 0 QQ
  unfold w_X_strays at hw
  refine r_aload_n (j := 0) d_X_strays_0 rfl ?_
  obtain ⟨q1, hw⟩ := hw
  refine r_getR d_X_strays_1 ok_11 (nle rfl) (nle rfl) rfl lf_X_71 q1 ?_
  obtain ⟨q4, hw⟩ := hw
  refine r_callV (av := []) (rest := []) (ci := 6) d_X_strays_4 mk_Op_find ll_X_257 im_Op_find se_Op_find rfl (nle rfl) rfl rfl (nle rfl) q4 (s_Op_find (by omega) hw (fun r3 h2 hw => ?_))
  show aW none m_X_strays (d + 1) 7 [(0, ar v0)] [ai (b2i r3)] h2 0 0 QQ
  refine r_if_eq d_X_strays_7 (fun w9 => ?_) (fun w9 => ?_)
  · replace hw := hw.1 (b2i_0.mp w9)
    refine r_iconst d_X_strays_20 kc_m1 ?_
    exact r_ireturn d_X_strays_21.1 rfl (hQ _ _ hw)
  · replace hw := hw.2 (fun g9 => w9 (b2i_0.mpr g9))
    refine r_aload_n (j := 0) d_X_strays_10 rfl ?_
    obtain ⟨q5, hw⟩ := hw
    refine r_getR d_X_strays_11 ok_11 (nle rfl) (nle rfl) rfl lf_X_71 q5 ?_
    obtain ⟨q6, hw⟩ := hw
    refine r_getI d_X_strays_14 ok_6 (nle rfl) (nle rfl) rfl lf_X_266 q6 ?_
    refine r_goto d_X_strays_17 ?_
    exact r_ireturn d_X_strays_21.1 rfl (hQ _ _ hw)
set_option maxRecDepth 100000 in
set_option maxHeartbeats 4000000 in
theorem s_X_sorted {d : Nat} (hd : 64 ≤ d) {v0 : Nat} {h : Hp} {Q : Int32 → Hp → Prop} {QQ : Option AV → Hp → Prop} (hw : w_X_sorted v0 h Q) (hQ : ∀ r9 h9, Q r9 h9 → QQ (some (ai r9)) h9) : aCall m_X_sorted d [ar v0] h 0 0 QQ := by
  obtain ⟨d, rfl⟩ : ∃ d9, d = d9 + 1 := ⟨d - 1, by omega⟩
  refine aCall_in pl_X_sorted (nle rfl) ?_
  show aW none m_X_sorted (d + 1) 0 [(0, ar v0)] [] h 0 0 QQ
  unfold w_X_sorted at hw
  refine r_aload_n (j := 0) d_X_sorted_0 rfl ?_
  obtain ⟨q1, hw⟩ := hw
  refine r_getR d_X_sorted_1 ok_11 (nle rfl) (nle rfl) rfl lf_X_71 q1 ?_
  obtain ⟨q4, hw⟩ := hw
  refine r_callV (av := []) (rest := []) (ci := 6) d_X_sorted_4 mk_Op_find ll_X_257 im_Op_find se_Op_find rfl (nle rfl) rfl rfl (nle rfl) q4 (s_Op_find (by omega) hw (fun r3 h2 hw => ?_))
  show aW none m_X_sorted (d + 1) 7 [(0, ar v0)] [ai (b2i r3)] h2 0 0 QQ
  refine r_if_eq d_X_sorted_7 (fun w9 => ?_) (fun w9 => ?_)
  · replace hw := hw.1 (b2i_0.mp w9)
    refine r_iconst d_X_sorted_20 kc_m1 ?_
    exact r_ireturn d_X_sorted_21.1 rfl (hQ _ _ hw)
  · replace hw := hw.2 (fun g9 => w9 (b2i_0.mpr g9))
    refine r_aload_n (j := 0) d_X_sorted_10 rfl ?_
    obtain ⟨q5, hw⟩ := hw
    refine r_getR d_X_sorted_11 ok_11 (nle rfl) (nle rfl) rfl lf_X_71 q5 ?_
    obtain ⟨q6, hw⟩ := hw
    refine r_getI d_X_sorted_14 ok_6 (nle rfl) (nle rfl) rfl lf_X_269 q6 ?_
    refine r_goto d_X_sorted_17 ?_
    exact r_ireturn d_X_sorted_21.1 rfl (hQ _ _ hw)
set_option maxRecDepth 100000 in
set_option maxHeartbeats 4000000 in
theorem s_X_doubled_B41 {d : Nat} (hd : 4 ≤ d + 1) {Q : Int32 → Hp → Prop} {QQ : Option AV → Hp → Prop} (hQ : ∀ r9 h9, Q r9 h9 → QQ (some (ai r9)) h9) {v0 : Nat} {v1 : Int32} {v2 : Int32} {v3 : Int32} {h : Hp} (hw : w_X_doubled_B41 Q  v0 v1 v2 v3 h) : aW none m_X_doubled (d + 1) 41 [(0, ar v0), (1, ai v1), (2, ai v2), (3, ai v3)] [] h 0 0 QQ := by
  unfold w_X_doubled_B41 at hw
  refine r_aload_n (j := 0) d_X_doubled_41 rfl ?_
  obtain ⟨q1, hw⟩ := hw
  refine r_getR d_X_doubled_42 ok_11 (nle rfl) (nle rfl) rfl lf_X_92 q1 ?_
  refine r_iload_n (j := 1) d_X_doubled_45 rfl ?_
  refine r_iload_n (j := 2) d_X_doubled_46 rfl ?_
  obtain ⟨q3, hw⟩ := hw
  refine r_callV (av := [ai v1, ai v2]) (rest := []) (ci := 3) d_X_doubled_47 mk_Db_raise ll_X_272 im_Db_raise se_Db_raise rfl (nle rfl) rfl rfl (nle rfl) q3 (s_Db_raise (by omega) hw (fun h2 hw => ?_))
  show aW none m_X_doubled (d + 1) 50 [(0, ar v0), (1, ai v1), (2, ai v2), (3, ai v3)] [] h2 0 0 QQ
  refine r_iload_n (j := 3) d_X_doubled_50 rfl ?_
  refine r_iconst d_X_doubled_51 kc_5 ?_
  refine r_icmp_ne d_X_doubled_52 (fun w9 => ?_) (fun w9 => ?_)
  · replace hw := hw.2 w9
    refine r_aload_n (j := 0) d_X_doubled_71 rfl ?_
    obtain ⟨q4, hw⟩ := hw
    refine r_getR d_X_doubled_72 ok_11 (nle rfl) (nle rfl) rfl lf_X_92 q4 ?_
    refine r_iload_n (j := 3) d_X_doubled_75 rfl ?_
    obtain ⟨q7, hw⟩ := hw
    refine r_callV (av := [ai v3]) (rest := []) (ci := 3) d_X_doubled_76 mk_Db_sizeOf ll_X_279 im_Db_sizeOf se_Db_sizeOf rfl (nle rfl) rfl rfl (nle rfl) q7 (s_Db_sizeOf  hw (fun r6 h5 hw => ?_))
    show aW none m_X_doubled (d + 1) 79 [(0, ar v0), (1, ai v1), (2, ai v2), (3, ai v3)] [ai r6] h5 0 0 QQ
    exact r_ireturn d_X_doubled_79.1 rfl (hQ _ _ hw)
  · replace hw := hw.1 w9
    refine r_aload_n (j := 0) d_X_doubled_55 rfl ?_
    obtain ⟨q8, hw⟩ := hw
    refine r_getR d_X_doubled_56 ok_11 (nle rfl) (nle rfl) rfl lf_X_92 q8 ?_
    obtain ⟨q9, hw⟩ := hw
    refine r_getI d_X_doubled_59 ok_3 (nle rfl) (nle rfl) rfl lf_X_275 q9 ?_
    refine r_if_eq d_X_doubled_62 (fun w9 => ?_) (fun w9 => ?_)
    · replace hw := hw.1 w9
      refine r_iconst d_X_doubled_69 kc_0 ?_
      exact r_ireturn d_X_doubled_70.1 rfl (hQ _ _ hw)
    · replace hw := hw.2 w9
      refine r_iconst d_X_doubled_65 kc_1 ?_
      refine r_goto d_X_doubled_66 ?_
      exact r_ireturn d_X_doubled_70.1 rfl (hQ _ _ hw)
set_option maxRecDepth 100000 in
set_option maxHeartbeats 4000000 in
theorem s_X_doubled {d : Nat} (hd : 4 ≤ d) {v0 : Nat} {v1 : Int32} {v2 : Int32} {v3 : Int32} {h : Hp} {Q : Int32 → Hp → Prop} {QQ : Option AV → Hp → Prop} (hw : w_X_doubled v0 v1 v2 v3 h Q) (hQ : ∀ r9 h9, Q r9 h9 → QQ (some (ai r9)) h9) : aCall m_X_doubled d [ar v0, ai v1, ai v2, ai v3] h 0 0 QQ := by
  obtain ⟨d, rfl⟩ : ∃ d9, d = d9 + 1 := ⟨d - 1, by omega⟩
  refine aCall_in pl_X_doubled (nle rfl) ?_
  show aW none m_X_doubled (d + 1) 0 [(0, ar v0), (1, ai v1), (2, ai v2), (3, ai v3)] [] h 0 0 QQ
  unfold w_X_doubled at hw
  refine r_iload_n (j := 1) d_X_doubled_0 rfl ?_
  refine r_if_lt d_X_doubled_1 (fun w9 => ?_) (fun w9 => ?_)
  · replace hw := hw.1 w9
    refine r_iconst d_X_doubled_27 kc_m1 ?_
    exact r_ireturn d_X_doubled_28.1 rfl (hQ _ _ hw)
  · replace hw := hw.2 w9
    refine r_iload_n (j := 1) d_X_doubled_4 rfl ?_
    refine r_iconst d_X_doubled_5 kc_4 ?_
    refine r_icmp_gt d_X_doubled_6 (fun w9 => ?_) (fun w9 => ?_)
    · replace hw := hw.1 w9
      refine r_iconst d_X_doubled_27 kc_m1 ?_
      exact r_ireturn d_X_doubled_28.1 rfl (hQ _ _ hw)
    · replace hw := hw.2 w9
      refine r_iload_n (j := 2) d_X_doubled_9 rfl ?_
      refine r_if_lt d_X_doubled_10 (fun w9 => ?_) (fun w9 => ?_)
      · replace hw := hw.1 w9
        refine r_iconst d_X_doubled_27 kc_m1 ?_
        exact r_ireturn d_X_doubled_28.1 rfl (hQ _ _ hw)
      · replace hw := hw.2 w9
        refine r_iload_n (j := 2) d_X_doubled_13 rfl ?_
        refine r_iconst d_X_doubled_14 kc_3 ?_
        refine r_icmp_gt d_X_doubled_15 (fun w9 => ?_) (fun w9 => ?_)
        · replace hw := hw.1 w9
          refine r_iconst d_X_doubled_27 kc_m1 ?_
          exact r_ireturn d_X_doubled_28.1 rfl (hQ _ _ hw)
        · replace hw := hw.2 w9
          refine r_iload_n (j := 3) d_X_doubled_18 rfl ?_
          refine r_if_lt d_X_doubled_19 (fun w9 => ?_) (fun w9 => ?_)
          · replace hw := hw.1 w9
            refine r_iconst d_X_doubled_27 kc_m1 ?_
            exact r_ireturn d_X_doubled_28.1 rfl (hQ _ _ hw)
          · replace hw := hw.2 w9
            refine r_iload_n (j := 3) d_X_doubled_22 rfl ?_
            refine r_iconst d_X_doubled_23 kc_5 ?_
            refine r_icmp_le d_X_doubled_24 (fun w9 => ?_) (fun w9 => ?_)
            · replace hw := hw.1 w9
              refine r_iload_n (j := 3) d_X_doubled_29 rfl ?_
              refine r_iconst d_X_doubled_30 kc_5 ?_
              refine r_icmp_ge d_X_doubled_31 (fun w9 => ?_) (fun w9 => ?_)
              · replace hw := hw.1 w9
                exact s_X_doubled_B41 hd hQ  hw
              · replace hw := hw.2 w9
                refine r_iload_n (j := 3) d_X_doubled_34 rfl ?_
                refine r_iload_n (j := 1) d_X_doubled_35 rfl ?_
                refine r_icmp_le d_X_doubled_36 (fun w9 => ?_) (fun w9 => ?_)
                · replace hw := hw.1 w9
                  exact s_X_doubled_B41 hd hQ  hw
                · replace hw := hw.2 w9
                  refine r_iconst d_X_doubled_39 kc_m1 ?_
                  exact r_ireturn d_X_doubled_40.1 rfl (hQ _ _ hw)
            · replace hw := hw.2 w9
              refine r_iconst d_X_doubled_27 kc_m1 ?_
              exact r_ireturn d_X_doubled_28.1 rfl (hQ _ _ hw)
