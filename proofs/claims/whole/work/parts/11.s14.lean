set_option maxRecDepth 100000 in
set_option maxHeartbeats 4000000 in
theorem s_M_line {d : Nat} (hd : 5 ≤ d) {v0 : Nat} {h : Hp} {Q : Hp → Prop} {QQ : Option AV → Hp → Prop} (hw : w_M_line v0 h Q) (hQ : ∀ h9, Q h9 → QQ none h9) : aCall m_M_line d [ar v0] h 0 0 QQ := by
  obtain ⟨d, rfl⟩ : ∃ d9, d = d9 + 1 := ⟨d - 1, by omega⟩
  refine aCall_in pl_M_line (nle rfl) ?_
  show aW none m_M_line (d + 1) 0 [(0, ar v0)] [] h 0 0 QQ
  unfold w_M_line at hw
  refine r_aload_n (j := 0) d_M_line_0 rfl ?_
  refine r_ldc2 d_M_line_1 lc_M_215 ?_
  obtain ⟨q3, hw⟩ := hw
  refine r_callV (av := [al (1919907699 : Int64)]) (rest := []) (ci := 12) d_M_line_4 mk_M_isWord ll_M_228 im_M_isWord se_M_isWord rfl (nle rfl) rfl rfl (nle rfl) q3 (s_M_isWord  hw (fun r2 h1 hw => ?_))
  show aW none m_M_line (d + 1) 7 [(0, ar v0)] [ai (b2i r2)] h1 0 0 QQ
  refine r_if_eq d_M_line_7 (fun w9 => ?_) (fun w9 => ?_)
  · replace hw := hw.1 (b2i_0.mp w9)
    refine r_aload_n (j := 0) d_M_line_17 rfl ?_
    refine r_ldc2 d_M_line_18 lc_M_217 ?_
    obtain ⟨q6, hw⟩ := hw
    refine r_callV (av := [al (109330212154734 : Int64)]) (rest := []) (ci := 12) d_M_line_21 mk_M_isWord ll_M_228 im_M_isWord se_M_isWord rfl (nle rfl) rfl rfl (nle rfl) q6 (s_M_isWord  hw (fun r5 h4 hw => ?_))
    show aW none m_M_line (d + 1) 24 [(0, ar v0)] [ai (b2i r5)] h4 0 0 QQ
    refine r_if_eq d_M_line_24 (fun w9 => ?_) (fun w9 => ?_)
    · replace hw := hw.1 (b2i_0.mp w9)
      refine r_aload_n (j := 0) d_M_line_34 rfl ?_
      refine r_ldc2 d_M_line_35 lc_M_221 ?_
      obtain ⟨q9, hw⟩ := hw
      refine r_callV (av := [al (1852138852 : Int64)]) (rest := []) (ci := 12) d_M_line_38 mk_M_isWord ll_M_228 im_M_isWord se_M_isWord rfl (nle rfl) rfl rfl (nle rfl) q9 (s_M_isWord  hw (fun r8 h7 hw => ?_))
      show aW none m_M_line (d + 1) 41 [(0, ar v0)] [ai (b2i r8)] h7 0 0 QQ
      refine r_if_eq d_M_line_41 (fun w9 => ?_) (fun w9 => ?_)
      · replace hw := hw.1 (b2i_0.mp w9)
        refine r_aload_n (j := 0) d_M_line_51 rfl ?_
        refine r_ldc2 d_M_line_52 lc_M_223 ?_
        obtain ⟨q12, hw⟩ := hw
        refine r_callV (av := [al (495874044019 : Int64)]) (rest := []) (ci := 12) d_M_line_55 mk_M_isWord ll_M_228 im_M_isWord se_M_isWord rfl (nle rfl) rfl rfl (nle rfl) q12 (s_M_isWord  hw (fun r11 h10 hw => ?_))
        show aW none m_M_line (d + 1) 58 [(0, ar v0)] [ai (b2i r11)] h10 0 0 QQ
        refine r_if_eq d_M_line_58 (fun w9 => ?_) (fun w9 => ?_)
        · replace hw := hw.1 (b2i_0.mp w9)
          refine r_aload_n (j := 0) d_M_line_68 rfl ?_
          refine r_iconst d_M_line_69 kc_2 ?_
          obtain ⟨q14, hw⟩ := hw
          refine r_callV (av := [ai (2 : Int32)]) (rest := []) (ci := 12) d_M_line_70 mk_M_wrong ll_M_185 im_M_wrong se_M_wrong rfl (nle rfl) rfl rfl (nle rfl) q14 (s_M_wrong  hw (fun h13 hw => ?_))
          show aW none m_M_line (d + 1) 73 [(0, ar v0)] [] h13 0 0 QQ
          exact s_M_line_B73 hd hQ  hw
        · replace hw := hw.2 (fun g9 => w9 (b2i_0.mpr g9))
          refine r_aload_n (j := 0) d_M_line_61 rfl ?_
          obtain ⟨q26, hw⟩ := hw
          refine r_callV (av := []) (rest := []) (ci := 12) d_M_line_62 mk_M_stepsLine ll_M_241 im_M_stepsLine se_M_stepsLine rfl (nle rfl) rfl rfl (nle rfl) q26 (s_M_stepsLine (by omega) hw (fun h25 hw => ?_))
          show aW none m_M_line (d + 1) 65 [(0, ar v0)] [] h25 0 0 QQ
          refine r_goto d_M_line_65 ?_
          exact s_M_line_B73 hd hQ  hw
      · replace hw := hw.2 (fun g9 => w9 (b2i_0.mpr g9))
        refine r_aload_n (j := 0) d_M_line_44 rfl ?_
        obtain ⟨q28, hw⟩ := hw
        refine r_callV (av := []) (rest := []) (ci := 12) d_M_line_45 mk_M_needLine ll_M_238 im_M_needLine se_M_needLine rfl (nle rfl) rfl rfl (nle rfl) q28 (s_M_needLine (by omega) hw (fun h27 hw => ?_))
        show aW none m_M_line (d + 1) 48 [(0, ar v0)] [] h27 0 0 QQ
        refine r_goto d_M_line_48 ?_
        exact s_M_line_B73 hd hQ  hw
    · replace hw := hw.2 (fun g9 => w9 (b2i_0.mpr g9))
      refine r_aload_n (j := 0) d_M_line_27 rfl ?_
      obtain ⟨q30, hw⟩ := hw
      refine r_callV (av := []) (rest := []) (ci := 12) d_M_line_28 mk_M_columnLine ll_M_235 im_M_columnLine se_M_columnLine rfl (nle rfl) rfl rfl (nle rfl) q30 (s_M_columnLine (by omega) hw (fun h29 hw => ?_))
      show aW none m_M_line (d + 1) 31 [(0, ar v0)] [] h29 0 0 QQ
      refine r_goto d_M_line_31 ?_
      exact s_M_line_B73 hd hQ  hw
  · replace hw := hw.2 (fun g9 => w9 (b2i_0.mpr g9))
    refine r_aload_n (j := 0) d_M_line_10 rfl ?_
    obtain ⟨q32, hw⟩ := hw
    refine r_callV (av := []) (rest := []) (ci := 12) d_M_line_11 mk_M_rowsLine ll_M_232 im_M_rowsLine se_M_rowsLine rfl (nle rfl) rfl rfl (nle rfl) q32 (s_M_rowsLine (by omega) hw (fun h31 hw => ?_))
    show aW none m_M_line (d + 1) 14 [(0, ar v0)] [] h31 0 0 QQ
    refine r_goto d_M_line_14 ?_
    exact s_M_line_B73 hd hQ  hw
set_option maxRecDepth 100000 in
set_option maxHeartbeats 4000000 in
theorem s_M_program_B57 {d : Nat} (hd : 6 ≤ d + 1) {Q : Int32 → Hp → Prop} {QQ : Option AV → Hp → Prop} (hQ : ∀ r9 h9, Q r9 h9 → QQ (some (ai r9)) h9) {v0 : Nat} {h : Hp} (hw : w_M_program_B57 Q  v0 h) : aW none m_M_program (d + 1) 57 [(0, ar v0)] [] h 0 0 QQ := by
  unfold w_M_program_B57 at hw
  refine r_aload_n (j := 0) d_M_program_57 rfl ?_
  refine r_aload_n (j := 0) d_M_program_58 rfl ?_
  obtain ⟨q8, hw⟩ := hw
  refine r_getI d_M_program_59 ok_12 (nle rfl) (nle rfl) rfl lf_M_182 q8 ?_
  refine r_putI d_M_program_62 ok_12 (nle rfl) (nle rfl) rfl lf_M_265 rfl q8 ?_
  refine r_aload_n (j := 0) d_M_program_65 rfl ?_
  refine r_aload_n (j := 0) d_M_program_66 rfl ?_
  refine r_getI d_M_program_67 ok_12 (nle rfl) (nle rfl) rfl lf_M_13 (kt eKI q8) ?_
  refine r_putI d_M_program_70 ok_12 (nle rfl) (nle rfl) rfl lf_M_17 rfl (kt eKI q8) ?_
  refine r_aload_n (j := 0) d_M_program_73 rfl ?_
  refine r_getI d_M_program_74 ok_12 (nle rfl) (nle rfl) rfl lf_M_182 (kt (eKI.trans eKI) q8) ?_
  refine r_if_le d_M_program_77 (fun w9 => ?_) (fun w9 => ?_)
  · replace hw := hw.1 w9
    refine r_aload_n (j := 0) d_M_program_82 rfl ?_
    refine r_callV (av := []) (rest := []) (ci := 12) d_M_program_83 mk_M_takesOver ll_M_138 im_M_takesOver se_M_takesOver rfl (nle rfl) rfl rfl (nle rfl) (kt (eKI.trans eKI) q8) (s_M_takesOver  hw (fun h9 hw => ?_))
    show aW none m_M_program (d + 1) 86 [(0, ar v0)] [] h9 0 0 QQ
    refine r_aload_n (j := 0) d_M_program_86 rfl ?_
    obtain ⟨q10, hw⟩ := hw
    refine r_getI d_M_program_87 ok_12 (nle rfl) (nle rfl) rfl lf_M_247 q10 ?_
    exact r_ireturn d_M_program_90.1 rfl (hQ _ _ hw)
  · replace hw := hw.2 w9
    refine r_iconst d_M_program_80 kc_m1 ?_
    exact r_ireturn d_M_program_81.1 rfl (hQ _ _ hw)
set_option maxRecDepth 100000 in
set_option maxHeartbeats 4000000 in
theorem s_M_program_L36 {d : Nat} (hd : 6 ≤ d + 1) {Q : Int32 → Hp → Prop} {QQ : Option AV → Hp → Prop} (hQ : ∀ r9 h9, Q r9 h9 → QQ (some (ai r9)) h9) {v0 : Nat} : ∀ (n : Nat) (h : Hp), w_M_program_L36 Q  v0 n h → aW none m_M_program (d + 1) 36 [(0, ar v0)] [] h 0 0 QQ := by
  intro n
  induction n with
  | zero => intro h hw; exact hw.elim
  | succ n ih =>
    intro h hw
    unfold w_M_program_L36 at hw
    refine r_aload_n (j := 0) d_M_program_36 rfl ?_
    obtain ⟨q7, hw⟩ := hw
    refine r_callV (av := []) (rest := []) (ci := 12) d_M_program_37 mk_M_isGood ll_M_188 im_M_isGood se_M_isGood rfl (nle rfl) rfl rfl (nle rfl) q7 (s_M_isGood  hw (fun r6 h5 hw => ?_))
    show aW none m_M_program (d + 1) 40 [(0, ar v0)] [ai (b2i r6)] h5 0 0 QQ
    refine r_if_eq d_M_program_40 (fun w9 => ?_) (fun w9 => ?_)
    · replace hw := hw.1 (b2i_0.mp w9)
      exact s_M_program_B57 hd hQ  hw
    · replace hw := hw.2 (fun g9 => w9 (b2i_0.mpr g9))
      refine r_aload_n (j := 0) d_M_program_43 rfl ?_
      obtain ⟨q11, hw⟩ := hw
      refine r_getI d_M_program_44 ok_12 (nle rfl) (nle rfl) rfl lf_M_172 q11 ?_
      refine r_if_eq d_M_program_47 (fun w9 => ?_) (fun w9 => ?_)
      · replace hw := hw.1 w9
        exact s_M_program_B57 hd hQ  hw
      · replace hw := hw.2 w9
        refine r_aload_n (j := 0) d_M_program_50 rfl ?_
        refine r_callV (av := []) (rest := []) (ci := 12) d_M_program_51 mk_M_line ll_M_262 im_M_line se_M_line rfl (nle rfl) rfl rfl (nle rfl) q11 (s_M_line (by omega) hw (fun h12 hw => ?_))
        show aW none m_M_program (d + 1) 54 [(0, ar v0)] [] h12 0 0 QQ
        refine r_goto d_M_program_54 ?_
        exact ih _ hw
set_option maxRecDepth 100000 in
set_option maxHeartbeats 4000000 in
theorem s_M_program {d : Nat} (hd : 6 ≤ d) {v0 : Nat} {h : Hp} {Q : Int32 → Hp → Prop} {QQ : Option AV → Hp → Prop} (hw : w_M_program v0 h Q) (hQ : ∀ r9 h9, Q r9 h9 → QQ (some (ai r9)) h9) : aCall m_M_program d [ar v0] h 0 0 QQ := by
  obtain ⟨d, rfl⟩ : ∃ d9, d = d9 + 1 := ⟨d - 1, by omega⟩
  refine aCall_in pl_M_program (nle rfl) ?_
  show aW none m_M_program (d + 1) 0 [(0, ar v0)] [] h 0 0 QQ
  unfold w_M_program at hw
  refine r_aload_n (j := 0) d_M_program_0 rfl ?_
  refine r_aload_n (j := 0) d_M_program_1 rfl ?_
  obtain ⟨q1, hw⟩ := hw
  refine r_getI d_M_program_2 ok_12 (nle rfl) (nle rfl) rfl lf_M_141 q1 ?_
  refine r_putI d_M_program_5 ok_12 (nle rfl) (nle rfl) rfl lf_M_155 rfl q1 ?_
  refine r_aload_n (j := 0) d_M_program_8 rfl ?_
  refine r_iconst d_M_program_9 kc_0 ?_
  refine r_putI d_M_program_10 ok_12 (nle rfl) (nle rfl) rfl lf_M_141 rfl (kt eKI q1) ?_
  refine r_aload_n (j := 0) d_M_program_13 rfl ?_
  refine r_iconst d_M_program_14 kc_0 ?_
  refine r_putI d_M_program_15 ok_12 (nle rfl) (nle rfl) rfl lf_M_152 rfl (kt (eKI.trans eKI) q1) ?_
  refine r_aload_n (j := 0) d_M_program_18 rfl ?_
  refine r_iconst d_M_program_19 kc_0 ?_
  refine r_putI d_M_program_20 ok_12 (nle rfl) (nle rfl) rfl lf_M_182 rfl (kt (eKI.trans (eKI.trans eKI)) q1) ?_
  refine r_aload_n (j := 0) d_M_program_23 rfl ?_
  refine r_iconst d_M_program_24 kc_m1 ?_
  refine r_putI d_M_program_25 ok_12 (nle rfl) (nle rfl) rfl lf_M_13 rfl (kt (eKI.trans (eKI.trans (eKI.trans eKI))) q1) ?_
  refine r_aload_n (j := 0) d_M_program_28 rfl ?_
  refine r_callV (av := []) (rest := []) (ci := 12) d_M_program_29 mk_M_begins ll_M_135 im_M_begins se_M_begins rfl (nle rfl) rfl rfl (nle rfl) (kt (eKI.trans (eKI.trans (eKI.trans (eKI.trans eKI)))) q1) (s_M_begins  hw (fun h2 hw => ?_))
  show aW none m_M_program (d + 1) 32 [(0, ar v0)] [] h2 0 0 QQ
  refine r_aload_n (j := 0) d_M_program_32 rfl ?_
  obtain ⟨q4, hw⟩ := hw
  refine r_callV (av := []) (rest := []) (ci := 12) d_M_program_33 mk_M_goOn ll_M_192 im_M_goOn se_M_goOn rfl (nle rfl) rfl rfl (nle rfl) q4 (s_M_goOn (by omega) hw (fun h3 hw => ?_))
  show aW none m_M_program (d + 1) 36 [(0, ar v0)] [] h3 0 0 QQ
  obtain ⟨n13, hw⟩ := hw
  exact s_M_program_L36 hd hQ  n13 _ hw
set_option maxRecDepth 100000 in
set_option maxHeartbeats 4000000 in
theorem s_M_fault {d : Nat} {v0 : Nat} {v1 : Int32} {h : Hp} {Q : Int32 → Hp → Prop} {QQ : Option AV → Hp → Prop} (hw : w_M_fault v0 v1 h Q) (hQ : ∀ r9 h9, Q r9 h9 → QQ (some (ai r9)) h9) : aCall m_M_fault d [ar v0, ai v1] h 0 0 QQ := by
  refine aCall_in pl_M_fault (nle rfl) ?_
  show aW none m_M_fault d 0 [(0, ar v0), (1, ai v1)] [] h 0 0 QQ
  unfold w_M_fault at hw
  refine r_iload_n (j := 1) d_M_fault_0 rfl ?_
  refine r_if_ne d_M_fault_1 (fun w9 => ?_) (fun w9 => ?_)
  · replace hw := hw.2 w9
    refine r_iload_n (j := 1) d_M_fault_11 rfl ?_
    refine r_iconst d_M_fault_12 kc_1 ?_
    refine r_icmp_ne d_M_fault_13 (fun w9 => ?_) (fun w9 => ?_)
    · replace hw := hw.2 w9
      refine r_iconst d_M_fault_23 kc_m1 ?_
      exact r_ireturn d_M_fault_24.1 rfl (hQ _ _ hw)
    · replace hw := hw.1 w9
      refine r_aload_n (j := 0) d_M_fault_16 rfl ?_
      obtain ⟨q1, hw⟩ := hw
      refine r_getI d_M_fault_17 ok_12 (nle rfl) (nle rfl) rfl lf_M_17 q1 ?_
      refine r_goto d_M_fault_20 ?_
      exact r_ireturn d_M_fault_24.1 rfl (hQ _ _ hw)
  · replace hw := hw.1 w9
    refine r_aload_n (j := 0) d_M_fault_4 rfl ?_
    obtain ⟨q2, hw⟩ := hw
    refine r_getI d_M_fault_5 ok_12 (nle rfl) (nle rfl) rfl lf_M_265 q2 ?_
    refine r_goto d_M_fault_8 ?_
    exact r_ireturn d_M_fault_24.1 rfl (hQ _ _ hw)
set_option maxRecDepth 100000 in
set_option maxHeartbeats 4000000 in
theorem s_M_isColumn {d : Nat} (hd : 1 ≤ d) {v0 : Nat} {v1 : Int32} {h : Hp} {Q : Bool → Hp → Prop} {QQ : Option AV → Hp → Prop} (hw : w_M_isColumn v0 v1 h Q) (hQ : ∀ r9 h9, Q r9 h9 → QQ (some (ai (b2i r9))) h9) : aCall m_M_isColumn d [ar v0, ai v1] h 0 0 QQ := by
  obtain ⟨d, rfl⟩ : ∃ d9, d = d9 + 1 := ⟨d - 1, by omega⟩
  refine aCall_in pl_M_isColumn (nle rfl) ?_
  show aW none m_M_isColumn (d + 1) 0 [(0, ar v0), (1, ai v1)] [] h 0 0 QQ
  unfold w_M_isColumn at hw
  refine r_iload_n (j := 1) d_M_isColumn_0 rfl ?_
  refine r_iconst d_M_isColumn_1 kc_0 ?_
  refine r_aload_n (j := 0) d_M_isColumn_2 rfl ?_
  obtain ⟨q1, hw⟩ := hw
  refine r_getI d_M_isColumn_3 ok_12 (nle rfl) (nle rfl) rfl lf_M_247 q1 ?_
  refine r_iconst d_M_isColumn_6 kc_1 ?_
  refine r_isub d_M_isColumn_7 ?_
  refine r_callS (av := [ai v1, ai (0 : Int32), ai ((gI h v0 18) - (1 : Int32))]) (rest := []) d_M_isColumn_8 mk_M_isIn ll_M_148 st_M_isIn rfl rfl (nle rfl) (s_M_isIn  hw (fun r3 h2 hw => ?_))
  show aW none m_M_isColumn (d + 1) 11 [(0, ar v0), (1, ai v1)] [ai (b2i r3)] h2 0 0 QQ
  exact r_zreturn d_M_isColumn_11.1 rfl (b2i_B _) (hQ _ _ hw)
set_option maxRecDepth 100000 in
set_option maxHeartbeats 4000000 in
theorem s_M_isRow {d : Nat} (hd : 1 ≤ d) {v0 : Nat} {v1 : Int32} {h : Hp} {Q : Bool → Hp → Prop} {QQ : Option AV → Hp → Prop} (hw : w_M_isRow v0 v1 h Q) (hQ : ∀ r9 h9, Q r9 h9 → QQ (some (ai (b2i r9))) h9) : aCall m_M_isRow d [ar v0, ai v1] h 0 0 QQ := by
  obtain ⟨d, rfl⟩ : ∃ d9, d = d9 + 1 := ⟨d - 1, by omega⟩
  refine aCall_in pl_M_isRow (nle rfl) ?_
  show aW none m_M_isRow (d + 1) 0 [(0, ar v0), (1, ai v1)] [] h 0 0 QQ
  unfold w_M_isRow at hw
  refine r_iload_n (j := 1) d_M_isRow_0 rfl ?_
  refine r_iconst d_M_isRow_1 kc_0 ?_
  refine r_aload_n (j := 0) d_M_isRow_2 rfl ?_
  obtain ⟨q1, hw⟩ := hw
  refine r_getI d_M_isRow_3 ok_12 (nle rfl) (nle rfl) rfl lf_M_244 q1 ?_
  refine r_iconst d_M_isRow_6 kc_1 ?_
  refine r_isub d_M_isRow_7 ?_
  refine r_callS (av := [ai v1, ai (0 : Int32), ai ((gI h v0 17) - (1 : Int32))]) (rest := []) d_M_isRow_8 mk_M_isIn ll_M_148 st_M_isIn rfl rfl (nle rfl) (s_M_isIn  hw (fun r3 h2 hw => ?_))
  show aW none m_M_isRow (d + 1) 11 [(0, ar v0), (1, ai v1)] [ai (b2i r3)] h2 0 0 QQ
  exact r_zreturn d_M_isRow_11.1 rfl (b2i_B _) (hQ _ _ hw)
set_option maxRecDepth 100000 in
set_option maxHeartbeats 4000000 in
theorem s_M_numberOf {d : Nat} {v0 : Nat} {v1 : Int32} {v2 : Int32} {h : Hp} {Q : Int32 → Hp → Prop} {QQ : Option AV → Hp → Prop} (hw : w_M_numberOf v0 v1 v2 h Q) (hQ : ∀ r9 h9, Q r9 h9 → QQ (some (ai r9)) h9) : aCall m_M_numberOf d [ar v0, ai v1, ai v2] h 0 0 QQ := by
  refine aCall_in pl_M_numberOf (nle rfl) ?_
  show aW none m_M_numberOf d 0 [(0, ar v0), (1, ai v1), (2, ai v2)] [] h 0 0 QQ
  unfold w_M_numberOf at hw
  refine r_aload_n (j := 0) d_M_numberOf_0 rfl ?_
  obtain ⟨q1, hw⟩ := hw
  refine r_getR d_M_numberOf_1 ok_12 (nle rfl) (nle rfl) rfl lf_M_30 q1 ?_
  refine r_iconst d_M_numberOf_4 kc_3 ?_
  refine r_iload_n (j := 1) d_M_numberOf_5 rfl ?_
  refine r_imul d_M_numberOf_6 ?_
  refine r_iload_n (j := 2) d_M_numberOf_7 rfl ?_
  refine r_iadd d_M_numberOf_8 ?_
  obtain ⟨q2, hw⟩ := hw
  obtain ⟨q3, hw⟩ := hw
  refine r_iald d_M_numberOf_9 q2 q3 ?_
  exact r_ireturn d_M_numberOf_10.1 rfl (hQ _ _ hw)
set_option maxRecDepth 100000 in
set_option maxHeartbeats 4000000 in
theorem s_M_gainOf {d : Nat} {v0 : Nat} {v1 : Int32} {h : Hp} {Q : Int32 → Hp → Prop} {QQ : Option AV → Hp → Prop} (hw : w_M_gainOf v0 v1 h Q) (hQ : ∀ r9 h9, Q r9 h9 → QQ (some (ai r9)) h9) : aCall m_M_gainOf d [ar v0, ai v1] h 0 0 QQ := by
  refine aCall_in pl_M_gainOf (nle rfl) ?_
  show aW none m_M_gainOf d 0 [(0, ar v0), (1, ai v1)] [] h 0 0 QQ
  unfold w_M_gainOf at hw
  refine r_aload_n (j := 0) d_M_gainOf_0 rfl ?_
  obtain ⟨q1, hw⟩ := hw
  refine r_getR d_M_gainOf_1 ok_12 (nle rfl) (nle rfl) rfl lf_M_30 q1 ?_
  refine r_bipush d_M_gainOf_4 kb_24 ?_
  refine r_iload_n (j := 1) d_M_gainOf_6 rfl ?_
  refine r_iadd d_M_gainOf_7 ?_
  obtain ⟨q2, hw⟩ := hw
  obtain ⟨q3, hw⟩ := hw
  refine r_iald d_M_gainOf_8 q2 q3 ?_
  exact r_ireturn d_M_gainOf_9.1 rfl (hQ _ _ hw)
set_option maxRecDepth 100000 in
set_option maxHeartbeats 4000000 in
theorem s_M_needOf {d : Nat} {v0 : Nat} {v1 : Int32} {h : Hp} {Q : Int32 → Hp → Prop} {QQ : Option AV → Hp → Prop} (hw : w_M_needOf v0 v1 h Q) (hQ : ∀ r9 h9, Q r9 h9 → QQ (some (ai r9)) h9) : aCall m_M_needOf d [ar v0, ai v1] h 0 0 QQ := by
  refine aCall_in pl_M_needOf (nle rfl) ?_
  show aW none m_M_needOf d 0 [(0, ar v0), (1, ai v1)] [] h 0 0 QQ
  unfold w_M_needOf at hw
  refine r_aload_n (j := 0) d_M_needOf_0 rfl ?_
  obtain ⟨q1, hw⟩ := hw
  refine r_getR d_M_needOf_1 ok_12 (nle rfl) (nle rfl) rfl lf_M_30 q1 ?_
  refine r_bipush d_M_needOf_4 kb_32 ?_
  refine r_iload_n (j := 1) d_M_needOf_6 rfl ?_
  refine r_iadd d_M_needOf_7 ?_
  obtain ⟨q2, hw⟩ := hw
  obtain ⟨q3, hw⟩ := hw
  refine r_iald d_M_needOf_8 q2 q3 ?_
  exact r_ireturn d_M_needOf_9.1 rfl (hQ _ _ hw)
set_option maxRecDepth 100000 in
set_option maxHeartbeats 4000000 in
theorem s_M_number {d : Nat} (hd : 2 ≤ d) {v0 : Nat} {v1 : Int32} {v2 : Int32} {h : Hp} {Q : Int32 → Hp → Prop} {QQ : Option AV → Hp → Prop} (hw : w_M_number v0 v1 v2 h Q) (hQ : ∀ r9 h9, Q r9 h9 → QQ (some (ai r9)) h9) : aCall m_M_number d [ar v0, ai v1, ai v2] h 0 0 QQ := by
  obtain ⟨d, rfl⟩ : ∃ d9, d = d9 + 1 := ⟨d - 1, by omega⟩
  refine aCall_in pl_M_number (nle rfl) ?_
  show aW none m_M_number (d + 1) 0 [(0, ar v0), (1, ai v1), (2, ai v2)] [] h 0 0 QQ
  unfold w_M_number at hw
  refine r_aload_n (j := 0) d_M_number_0 rfl ?_
  refine r_iload_n (j := 1) d_M_number_1 rfl ?_
  obtain ⟨q3, hw⟩ := hw
  refine r_callV (av := [ai v1]) (rest := []) (ci := 12) d_M_number_2 mk_M_isColumn ll_M_268 im_M_isColumn se_M_isColumn rfl (nle rfl) rfl rfl (nle rfl) q3 (s_M_isColumn (by omega) hw (fun r2 h1 hw => ?_))
  show aW none m_M_number (d + 1) 5 [(0, ar v0), (1, ai v1), (2, ai v2)] [ai (b2i r2)] h1 0 0 QQ
  refine r_if_eq d_M_number_5 (fun w9 => ?_) (fun w9 => ?_)
  · replace hw := hw.1 (b2i_0.mp w9)
    refine r_ldcw d_M_number_25 lc_M_277 ?_
    exact r_ireturn d_M_number_28.1 rfl (hQ _ _ hw)
  · replace hw := hw.2 (fun g9 => w9 (b2i_0.mpr g9))
    refine r_aload_n (j := 0) d_M_number_8 rfl ?_
    refine r_iload_n (j := 2) d_M_number_9 rfl ?_
    obtain ⟨q6, hw⟩ := hw
    refine r_callV (av := [ai v2]) (rest := []) (ci := 12) d_M_number_10 mk_M_isRow ll_M_271 im_M_isRow se_M_isRow rfl (nle rfl) rfl rfl (nle rfl) q6 (s_M_isRow (by omega) hw (fun r5 h4 hw => ?_))
    show aW none m_M_number (d + 1) 13 [(0, ar v0), (1, ai v1), (2, ai v2)] [ai (b2i r5)] h4 0 0 QQ
    refine r_if_eq d_M_number_13 (fun w9 => ?_) (fun w9 => ?_)
    · replace hw := hw.1 (b2i_0.mp w9)
      refine r_ldcw d_M_number_25 lc_M_277 ?_
      exact r_ireturn d_M_number_28.1 rfl (hQ _ _ hw)
    · replace hw := hw.2 (fun g9 => w9 (b2i_0.mpr g9))
      refine r_aload_n (j := 0) d_M_number_16 rfl ?_
      refine r_iload_n (j := 1) d_M_number_17 rfl ?_
      refine r_iload_n (j := 2) d_M_number_18 rfl ?_
      obtain ⟨q9, hw⟩ := hw
      refine r_callV (av := [ai v1, ai v2]) (rest := []) (ci := 12) d_M_number_19 mk_M_numberOf ll_M_274 im_M_numberOf se_M_numberOf rfl (nle rfl) rfl rfl (nle rfl) q9 (s_M_numberOf  hw (fun r8 h7 hw => ?_))
      show aW none m_M_number (d + 1) 22 [(0, ar v0), (1, ai v1), (2, ai v2)] [ai r8] h7 0 0 QQ
      refine r_goto d_M_number_22 ?_
      exact r_ireturn d_M_number_28.1 rfl (hQ _ _ hw)
set_option maxRecDepth 100000 in
set_option maxHeartbeats 4000000 in
theorem s_M_gain {d : Nat} (hd : 2 ≤ d) {v0 : Nat} {v1 : Int32} {h : Hp} {Q : Int32 → Hp → Prop} {QQ : Option AV → Hp → Prop} (hw : w_M_gain v0 v1 h Q) (hQ : ∀ r9 h9, Q r9 h9 → QQ (some (ai r9)) h9) : aCall m_M_gain d [ar v0, ai v1] h 0 0 QQ := by
  obtain ⟨d, rfl⟩ : ∃ d9, d = d9 + 1 := ⟨d - 1, by omega⟩
  refine aCall_in pl_M_gain (nle rfl) ?_
  show aW none m_M_gain (d + 1) 0 [(0, ar v0), (1, ai v1)] [] h 0 0 QQ
  unfold w_M_gain at hw
  refine r_aload_n (j := 0) d_M_gain_0 rfl ?_
  refine r_iload_n (j := 1) d_M_gain_1 rfl ?_
  obtain ⟨q3, hw⟩ := hw
  refine r_callV (av := [ai v1]) (rest := []) (ci := 12) d_M_gain_2 mk_M_isColumn ll_M_268 im_M_isColumn se_M_isColumn rfl (nle rfl) rfl rfl (nle rfl) q3 (s_M_isColumn (by omega) hw (fun r2 h1 hw => ?_))
  show aW none m_M_gain (d + 1) 5 [(0, ar v0), (1, ai v1)] [ai (b2i r2)] h1 0 0 QQ
  refine r_if_eq d_M_gain_5 (fun w9 => ?_) (fun w9 => ?_)
  · replace hw := hw.1 (b2i_0.mp w9)
    refine r_ldcw d_M_gain_16 lc_M_277 ?_
    exact r_ireturn d_M_gain_19.1 rfl (hQ _ _ hw)
  · replace hw := hw.2 (fun g9 => w9 (b2i_0.mpr g9))
    refine r_aload_n (j := 0) d_M_gain_8 rfl ?_
    refine r_iload_n (j := 1) d_M_gain_9 rfl ?_
    obtain ⟨q6, hw⟩ := hw
    refine r_callV (av := [ai v1]) (rest := []) (ci := 12) d_M_gain_10 mk_M_gainOf ll_M_278 im_M_gainOf se_M_gainOf rfl (nle rfl) rfl rfl (nle rfl) q6 (s_M_gainOf  hw (fun r5 h4 hw => ?_))
    show aW none m_M_gain (d + 1) 13 [(0, ar v0), (1, ai v1)] [ai r5] h4 0 0 QQ
    refine r_goto d_M_gain_13 ?_
    exact r_ireturn d_M_gain_19.1 rfl (hQ _ _ hw)
set_option maxRecDepth 100000 in
set_option maxHeartbeats 4000000 in
theorem s_M_need {d : Nat} (hd : 2 ≤ d) {v0 : Nat} {v1 : Int32} {h : Hp} {Q : Int32 → Hp → Prop} {QQ : Option AV → Hp → Prop} (hw : w_M_need v0 v1 h Q) (hQ : ∀ r9 h9, Q r9 h9 → QQ (some (ai r9)) h9) : aCall m_M_need d [ar v0, ai v1] h 0 0 QQ := by
  obtain ⟨d, rfl⟩ : ∃ d9, d = d9 + 1 := ⟨d - 1, by omega⟩
  refine aCall_in pl_M_need (nle rfl) ?_
  show aW none m_M_need (d + 1) 0 [(0, ar v0), (1, ai v1)] [] h 0 0 QQ
  unfold w_M_need at hw
  refine r_aload_n (j := 0) d_M_need_0 rfl ?_
  refine r_iload_n (j := 1) d_M_need_1 rfl ?_
  obtain ⟨q3, hw⟩ := hw
  refine r_callV (av := [ai v1]) (rest := []) (ci := 12) d_M_need_2 mk_M_isRow ll_M_271 im_M_isRow se_M_isRow rfl (nle rfl) rfl rfl (nle rfl) q3 (s_M_isRow (by omega) hw (fun r2 h1 hw => ?_))
  show aW none m_M_need (d + 1) 5 [(0, ar v0), (1, ai v1)] [ai (b2i r2)] h1 0 0 QQ
  refine r_if_eq d_M_need_5 (fun w9 => ?_) (fun w9 => ?_)
  · replace hw := hw.1 (b2i_0.mp w9)
    refine r_ldcw d_M_need_16 lc_M_277 ?_
    exact r_ireturn d_M_need_19.1 rfl (hQ _ _ hw)
  · replace hw := hw.2 (fun g9 => w9 (b2i_0.mpr g9))
    refine r_aload_n (j := 0) d_M_need_8 rfl ?_
    refine r_iload_n (j := 1) d_M_need_9 rfl ?_
    obtain ⟨q6, hw⟩ := hw
    refine r_callV (av := [ai v1]) (rest := []) (ci := 12) d_M_need_10 mk_M_needOf ll_M_281 im_M_needOf se_M_needOf rfl (nle rfl) rfl rfl (nle rfl) q6 (s_M_needOf  hw (fun r5 h4 hw => ?_))
    show aW none m_M_need (d + 1) 13 [(0, ar v0), (1, ai v1)] [ai r5] h4 0 0 QQ
    refine r_goto d_M_need_13 ?_
    exact r_ireturn d_M_need_19.1 rfl (hQ _ _ hw)
set_option maxRecDepth 100000 in
set_option maxHeartbeats 4000000 in
theorem s_M_act_L52 {d : Nat} {Q : Hp → Prop} {QQ : Option AV → Hp → Prop} (hQ : ∀ h9, Q h9 → QQ none h9) {v0 : Nat} : ∀ (n : Nat) (v1 : Int32) (h : Hp), w_M_act_L52 Q  v0 n v1 h → aW none m_M_act d 52 [(0, ar v0), (1, ai v1)] [] h 0 0 QQ := by
  intro n
  induction n with
  | zero => intro v1 h hw; exact hw.elim
  | succ n ih =>
    intro v1 h hw
    unfold w_M_act_L52 at hw
    refine r_iload_n (j := 1) d_M_act_52 rfl ?_
    refine r_bipush d_M_act_53 kb_44 ?_
    refine r_icmp_ge d_M_act_55 (fun w9 => ?_) (fun w9 => ?_)
    · replace hw := hw.1 w9
      refine r_aload_n (j := 0) d_M_act_84 rfl ?_
      refine r_dup d_M_act_85 rfl ?_
      obtain ⟨q2, hw⟩ := hw
      refine r_getI d_M_act_86 ok_12 (nle rfl) (nle rfl) rfl lf_M_250 q2 ?_
      refine r_iconst d_M_act_89 kc_1 ?_
      refine r_iadd d_M_act_90 ?_
      refine r_putI d_M_act_91 ok_12 (nle rfl) (nle rfl) rfl lf_M_250 rfl q2 ?_
      refine r_aload_n (j := 0) d_M_act_94 rfl ?_
      refine r_iconst d_M_act_95 kc_0 ?_
      refine r_putI d_M_act_96 ok_12 (nle rfl) (nle rfl) rfl lf_M_253 rfl (kt eKI q2) ?_
      refine r_aload_n (j := 0) d_M_act_99 rfl ?_
      refine r_iconst d_M_act_100 kc_0 ?_
      refine r_putZ d_M_act_101 ok_12 (nle rfl) (nle rfl) rfl lf_M_259 rfl (kt (eKI.trans eKI) q2) (Or.inl rfl) ?_
      exact r_return d_M_act_104.1 rfl (hQ _ hw)
    · replace hw := hw.2 w9
      refine r_aload_n (j := 0) d_M_act_58 rfl ?_
      obtain ⟨q3, hw⟩ := hw
      refine r_getR d_M_act_59 ok_12 (nle rfl) (nle rfl) rfl lf_M_33 q3 ?_
      refine r_bipush d_M_act_62 kb_44 ?_
      refine r_aload_n (j := 0) d_M_act_64 rfl ?_
      refine r_getI d_M_act_65 ok_12 (nle rfl) (nle rfl) rfl lf_M_250 q3 ?_
      refine r_imul d_M_act_68 ?_
      refine r_iload_n (j := 1) d_M_act_69 rfl ?_
      refine r_iadd d_M_act_70 ?_
      refine r_aload_n (j := 0) d_M_act_71 rfl ?_
      refine r_getR d_M_act_72 ok_12 (nle rfl) (nle rfl) rfl lf_M_30 q3 ?_
      refine r_iload_n (j := 1) d_M_act_75 rfl ?_
      obtain ⟨q4, hw⟩ := hw
      obtain ⟨q5, hw⟩ := hw
      refine r_iald d_M_act_76 q4 q5 ?_
      obtain ⟨q6, hw⟩ := hw
      obtain ⟨q7, hw⟩ := hw
      refine r_iast d_M_act_77 q6 q7 ?_
      refine r_iinc (j := 1) (ls2 := [(1, ai (v1 + (1 : Int32))), (0, ar v0)]) d_M_act_78 rfl (congrArg (HAdd.hAdd v1) kc_1) (nle rfl) rfl ?_
      refine r_goto d_M_act_81 ?_
      refine r_pick (ls2 := [(0, ar v0), (1, ai (v1 + (1 : Int32)))]) [1, 0] rfl ?_
      exact ih _ _ hw
set_option maxRecDepth 100000 in
set_option maxHeartbeats 4000000 in
theorem s_M_act_L12 {d : Nat} {Q : Hp → Prop} {QQ : Option AV → Hp → Prop} (hQ : ∀ h9, Q h9 → QQ none h9) {v0 : Nat} : ∀ (n : Nat) (v1 : Int32) (h : Hp), w_M_act_L12 Q  v0 n v1 h → aW none m_M_act d 12 [(0, ar v0), (1, ai v1)] [] h 0 0 QQ := by
  intro n
  induction n with
  | zero => intro v1 h hw; exact hw.elim
  | succ n ih =>
    intro v1 h hw
    unfold w_M_act_L12 at hw
    refine r_iload_n (j := 1) d_M_act_12 rfl ?_
    refine r_sipush d_M_act_13 ks_880 ?_
    refine r_icmp_ge d_M_act_16 (fun w9 => ?_) (fun w9 => ?_)
    · replace hw := hw.1 w9
      refine r_aload_n (j := 0) d_M_act_40 rfl ?_
      refine r_dup d_M_act_41 rfl ?_
      obtain ⟨q9, hw⟩ := hw
      refine r_getI d_M_act_42 ok_12 (nle rfl) (nle rfl) rfl lf_M_250 q9 ?_
      refine r_iconst d_M_act_45 kc_1 ?_
      refine r_isub d_M_act_46 ?_
      refine r_putI d_M_act_47 ok_12 (nle rfl) (nle rfl) rfl lf_M_250 rfl q9 ?_
      refine r_iconst d_M_act_50 kc_0 ?_
      refine r_istore_n (ls2 := [(1, ai (0 : Int32)), (0, ar v0)]) d_M_act_51 (nle rfl) rfl ?_
      obtain ⟨n10, hw⟩ := hw
      refine r_pick (ls2 := [(0, ar v0), (1, ai (0 : Int32))]) [1, 0] rfl ?_
      exact s_M_act_L52 hQ  n10 _ _ hw
    · replace hw := hw.2 w9
      refine r_aload_n (j := 0) d_M_act_19 rfl ?_
      obtain ⟨q11, hw⟩ := hw
      refine r_getR d_M_act_20 ok_12 (nle rfl) (nle rfl) rfl lf_M_33 q11 ?_
      refine r_iload_n (j := 1) d_M_act_23 rfl ?_
      refine r_bipush d_M_act_24 kb_44 ?_
      refine r_isub d_M_act_26 ?_
      refine r_aload_n (j := 0) d_M_act_27 rfl ?_
      refine r_getR d_M_act_28 ok_12 (nle rfl) (nle rfl) rfl lf_M_33 q11 ?_
      refine r_iload_n (j := 1) d_M_act_31 rfl ?_
      obtain ⟨q12, hw⟩ := hw
      obtain ⟨q13, hw⟩ := hw
      refine r_iald d_M_act_32 q12 q13 ?_
      obtain ⟨q14, hw⟩ := hw
      refine r_iast d_M_act_33 q12 q14 ?_
      refine r_iinc (j := 1) (ls2 := [(1, ai (v1 + (1 : Int32))), (0, ar v0)]) d_M_act_34 rfl (congrArg (HAdd.hAdd v1) kc_1) (nle rfl) rfl ?_
      refine r_goto d_M_act_37 ?_
      refine r_pick (ls2 := [(0, ar v0), (1, ai (v1 + (1 : Int32)))]) [1, 0] rfl ?_
      exact ih _ _ hw
set_option maxRecDepth 100000 in
set_option maxHeartbeats 4000000 in
theorem s_M_act {d : Nat} {v0 : Nat} {h : Hp} {Q : Hp → Prop} {QQ : Option AV → Hp → Prop} (hw : w_M_act v0 h Q) (hQ : ∀ h9, Q h9 → QQ none h9) : aCall m_M_act d [ar v0] h 0 0 QQ := by
  refine aCall_in pl_M_act (nle rfl) ?_
  show aW none m_M_act d 0 [(0, ar v0)] [] h 0 0 QQ
  unfold w_M_act at hw
  refine r_aload_n (j := 0) d_M_act_0 rfl ?_
  obtain ⟨q1, hw⟩ := hw
  refine r_getI d_M_act_1 ok_12 (nle rfl) (nle rfl) rfl lf_M_250 q1 ?_
  refine r_bipush d_M_act_4 kb_20 ?_
  refine r_icmp_ne d_M_act_6 (fun w9 => ?_) (fun w9 => ?_)
  · replace hw := hw.2 w9
    refine r_iconst d_M_act_50 kc_0 ?_
    refine r_istore_n (ls2 := [(1, ai (0 : Int32)), (0, ar v0)]) d_M_act_51 (nle rfl) rfl ?_
    obtain ⟨n8, hw⟩ := hw
    refine r_pick (ls2 := [(0, ar v0), (1, ai (0 : Int32))]) [1, 0] rfl ?_
    exact s_M_act_L52 hQ  n8 _ _ hw
  · replace hw := hw.1 w9
    refine r_bipush d_M_act_9 kb_44 ?_
    refine r_istore_n (ls2 := [(1, ai (44 : Int32)), (0, ar v0)]) d_M_act_11 (nle rfl) rfl ?_
    obtain ⟨n15, hw⟩ := hw
    refine r_pick (ls2 := [(0, ar v0), (1, ai (44 : Int32))]) [1, 0] rfl ?_
    exact s_M_act_L12 hQ  n15 _ _ hw
set_option maxRecDepth 100000 in
set_option maxHeartbeats 4000000 in
theorem s_M_exchanges_L2 {d : Nat} {Q : Hp → Prop} {QQ : Option AV → Hp → Prop} (hQ : ∀ h9, Q h9 → QQ none h9) {v0 : Nat} {v1 : Int32} : ∀ (n : Nat) (v2 : Int32) (h : Hp), w_M_exchanges_L2 Q  v0 v1 n v2 h → aW none m_M_exchanges d 2 [(0, ar v0), (1, ai v1), (2, ai v2)] [] h 0 0 QQ := by
  intro n
  induction n with
  | zero => intro v2 h hw; exact hw.elim
  | succ n ih =>
    intro v2 h hw
    unfold w_M_exchanges_L2 at hw
    refine r_iload_n (j := 2) d_M_exchanges_2 rfl ?_
    refine r_bipush d_M_exchanges_3 kb_44 ?_
    refine r_icmp_ge d_M_exchanges_5 (fun w9 => ?_) (fun w9 => ?_)
    · replace hw := hw.1 w9
      refine r_aload_n (j := 0) d_M_exchanges_50 rfl ?_
      refine r_iconst d_M_exchanges_51 kc_0 ?_
      obtain ⟨q1, hw⟩ := hw
      refine r_putZ d_M_exchanges_52 ok_12 (nle rfl) (nle rfl) rfl lf_M_259 rfl q1 (Or.inl rfl) ?_
      exact r_return d_M_exchanges_55.1 rfl (hQ _ hw)
    · replace hw := hw.2 w9
      refine r_aload_n (j := 0) d_M_exchanges_8 rfl ?_
      obtain ⟨q2, hw⟩ := hw
      refine r_getR d_M_exchanges_9 ok_12 (nle rfl) (nle rfl) rfl lf_M_33 q2 ?_
      refine r_bipush d_M_exchanges_12 kb_44 ?_
      refine r_iload_n (j := 1) d_M_exchanges_14 rfl ?_
      refine r_imul d_M_exchanges_15 ?_
      refine r_iload_n (j := 2) d_M_exchanges_16 rfl ?_
      refine r_iadd d_M_exchanges_17 ?_
      obtain ⟨q3, hw⟩ := hw
      obtain ⟨q4, hw⟩ := hw
      refine r_iald d_M_exchanges_18 q3 q4 ?_
      refine r_istore_n (ls2 := [(3, ai (gI h (gR h v0 23) (ix (((44 : Int32) * v1) + v2)))), (0, ar v0), (1, ai v1), (2, ai v2)]) d_M_exchanges_19 (nle rfl) rfl ?_
      refine r_aload_n (j := 1) d_M_exchanges_20 rfl ?_
      refine r_getR d_M_exchanges_21 ok_12 (nle rfl) (nle rfl) rfl lf_M_33 q2 ?_
      refine r_bipush d_M_exchanges_24 kb_44 ?_
      refine r_iload_n (j := 2) d_M_exchanges_26 rfl ?_
      refine r_imul d_M_exchanges_27 ?_
      refine r_iload_n (j := 3) d_M_exchanges_28 rfl ?_
      refine r_iadd d_M_exchanges_29 ?_
      refine r_aload_n (j := 1) d_M_exchanges_30 rfl ?_
      refine r_getR d_M_exchanges_31 ok_12 (nle rfl) (nle rfl) rfl lf_M_30 q2 ?_
      refine r_iload_n (j := 3) d_M_exchanges_34 rfl ?_
      obtain ⟨q5, hw⟩ := hw
      obtain ⟨q6, hw⟩ := hw
      refine r_iald d_M_exchanges_35 q5 q6 ?_
      refine r_iast d_M_exchanges_36 q3 q4 ?_
      refine r_aload_n (j := 1) d_M_exchanges_37 rfl ?_
      refine r_getRb eRI d_M_exchanges_38 ok_12 (nle rfl) (nle rfl) rfl lf_M_30 (kt eKI q2) ?_
      refine r_iload_n (j := 3) d_M_exchanges_41 rfl ?_
      refine r_iload_n (j := 0) d_M_exchanges_42 rfl ?_
      refine r_iast d_M_exchanges_43 (kt eKI q5) (nt eNI q6) ?_
      refine r_iinc (j := 3) (ls2 := [(2, ai (v2 + (1 : Int32))), (3, ai (gI h (gR h v0 23) (ix (((44 : Int32) * v1) + v2)))), (0, ar v0), (1, ai v1)]) d_M_exchanges_44 rfl (congrArg (HAdd.hAdd v2) kc_1) (nle rfl) rfl ?_
      refine r_goto d_M_exchanges_47 ?_
      refine r_pick (ls2 := [(0, ar v0), (1, ai v1), (2, ai (v2 + (1 : Int32)))]) [2, 3, 0] rfl ?_
      exact ih _ _ hw
set_option maxRecDepth 100000 in
set_option maxHeartbeats 4000000 in
theorem s_M_exchanges {d : Nat} {v0 : Nat} {v1 : Int32} {h : Hp} {Q : Hp → Prop} {QQ : Option AV → Hp → Prop} (hw : w_M_exchanges v0 v1 h Q) (hQ : ∀ h9, Q h9 → QQ none h9) : aCall m_M_exchanges d [ar v0, ai v1] h 0 0 QQ := by
  refine aCall_in pl_M_exchanges (nle rfl) ?_
  show aW none m_M_exchanges d 0 [(0, ar v0), (1, ai v1)] [] h 0 0 QQ
  unfold w_M_exchanges at hw
  refine r_iconst d_M_exchanges_0 kc_0 ?_
  refine r_istore_n (ls2 := [(2, ai (0 : Int32)), (0, ar v0), (1, ai v1)]) d_M_exchanges_1 (nle rfl) rfl ?_
  obtain ⟨n7, hw⟩ := hw
  refine r_pick (ls2 := [(0, ar v0), (1, ai v1), (2, ai (0 : Int32))]) [1, 2, 0] rfl ?_
  exact s_M_exchanges_L2 hQ  n7 _ _ hw
set_option maxRecDepth 100000 in
set_option maxHeartbeats 4000000 in
theorem s_M_undo {d : Nat} (hd : 1 ≤ d) {v0 : Nat} {h : Hp} {Q : Bool → Hp → Prop} {QQ : Option AV → Hp → Prop} (hw : w_M_undo v0 h Q) (hQ : ∀ r9 h9, Q r9 h9 → QQ (some (ai (b2i r9))) h9) : aCall m_M_undo d [ar v0] h 0 0 QQ := by
  obtain ⟨d, rfl⟩ : ∃ d9, d = d9 + 1 := ⟨d - 1, by omega⟩
  refine aCall_in pl_M_undo (nle rfl) ?_
  show aW none m_M_undo (d + 1) 0 [(0, ar v0)] [] h 0 0 QQ
  unfold w_M_undo at hw
  refine r_aload_n (j := 0) d_M_undo_0 rfl ?_
  obtain ⟨q1, hw⟩ := hw
  refine r_getI d_M_undo_1 ok_12 (nle rfl) (nle rfl) rfl lf_M_250 q1 ?_
  refine r_if_ne d_M_undo_4 (fun w9 => ?_) (fun w9 => ?_)
  · replace hw := hw.2 w9
    refine r_aload_n (j := 0) d_M_undo_9 rfl ?_
    refine r_dup d_M_undo_10 rfl ?_
    refine r_getI d_M_undo_11 ok_12 (nle rfl) (nle rfl) rfl lf_M_250 q1 ?_
    refine r_iconst d_M_undo_14 kc_1 ?_
    refine r_isub d_M_undo_15 ?_
    refine r_putI d_M_undo_16 ok_12 (nle rfl) (nle rfl) rfl lf_M_250 rfl q1 ?_
    refine r_aload_n (j := 0) d_M_undo_19 rfl ?_
    refine r_dup d_M_undo_20 rfl ?_
    refine r_getI d_M_undo_21 ok_12 (nle rfl) (nle rfl) rfl lf_M_253 (kt eKI q1) ?_
    refine r_iconst d_M_undo_24 kc_1 ?_
    refine r_iadd d_M_undo_25 ?_
    refine r_putI d_M_undo_26 ok_12 (nle rfl) (nle rfl) rfl lf_M_253 rfl (kt eKI q1) ?_
    refine r_aload_n (j := 0) d_M_undo_29 rfl ?_
    refine r_aload_n (j := 0) d_M_undo_30 rfl ?_
    refine r_getI d_M_undo_31 ok_12 (nle rfl) (nle rfl) rfl lf_M_250 (kt (eKI.trans eKI) q1) ?_
    refine r_callV (av := [ai (gI (sI (sI h v0 24 ((gI h v0 24) - (1 : Int32))) v0 25 ((gI (sI h v0 24 ((gI h v0 24) - (1 : Int32))) v0 25) + (1 : Int32))) v0 24)]) (rest := []) (ci := 12) d_M_undo_34 mk_M_exchanges ll_M_284 im_M_exchanges se_M_exchanges rfl (nle rfl) rfl rfl (nle rfl) (kt (eKI.trans eKI) q1) (s_M_exchanges  hw (fun h2 hw => ?_))
    show aW none m_M_undo (d + 1) 37 [(0, ar v0)] [] h2 0 0 QQ
    refine r_iconst d_M_undo_37 kc_1 ?_
    exact r_zreturn d_M_undo_38.1 rfl (Or.inr rfl) (hQ _ _ hw)
  · replace hw := hw.1 w9
    refine r_iconst d_M_undo_7 kc_0 ?_
    exact r_zreturn d_M_undo_8.1 rfl (Or.inl rfl) (hQ _ _ hw)
set_option maxRecDepth 100000 in
set_option maxHeartbeats 4000000 in
theorem s_M_redo {d : Nat} (hd : 1 ≤ d) {v0 : Nat} {h : Hp} {Q : Bool → Hp → Prop} {QQ : Option AV → Hp → Prop} (hw : w_M_redo v0 h Q) (hQ : ∀ r9 h9, Q r9 h9 → QQ (some (ai (b2i r9))) h9) : aCall m_M_redo d [ar v0] h 0 0 QQ := by
  obtain ⟨d, rfl⟩ : ∃ d9, d = d9 + 1 := ⟨d - 1, by omega⟩
  refine aCall_in pl_M_redo (nle rfl) ?_
  show aW none m_M_redo (d + 1) 0 [(0, ar v0)] [] h 0 0 QQ
  unfold w_M_redo at hw
  refine r_aload_n (j := 0) d_M_redo_0 rfl ?_
  obtain ⟨q1, hw⟩ := hw
  refine r_getI d_M_redo_1 ok_12 (nle rfl) (nle rfl) rfl lf_M_253 q1 ?_
  refine r_if_ne d_M_redo_4 (fun w9 => ?_) (fun w9 => ?_)
  · replace hw := hw.2 w9
    refine r_aload_n (j := 0) d_M_redo_9 rfl ?_
    refine r_dup d_M_redo_10 rfl ?_
    refine r_getI d_M_redo_11 ok_12 (nle rfl) (nle rfl) rfl lf_M_253 q1 ?_
    refine r_iconst d_M_redo_14 kc_1 ?_
    refine r_isub d_M_redo_15 ?_
    refine r_putI d_M_redo_16 ok_12 (nle rfl) (nle rfl) rfl lf_M_253 rfl q1 ?_
    refine r_aload_n (j := 0) d_M_redo_19 rfl ?_
    refine r_aload_n (j := 0) d_M_redo_20 rfl ?_
    refine r_getI d_M_redo_21 ok_12 (nle rfl) (nle rfl) rfl lf_M_250 (kt eKI q1) ?_
    refine r_callV (av := [ai (gI (sI h v0 25 ((gI h v0 25) - (1 : Int32))) v0 24)]) (rest := []) (ci := 12) d_M_redo_24 mk_M_exchanges ll_M_284 im_M_exchanges se_M_exchanges rfl (nle rfl) rfl rfl (nle rfl) (kt eKI q1) (s_M_exchanges  hw (fun h2 hw => ?_))
    show aW none m_M_redo (d + 1) 27 [(0, ar v0)] [] h2 0 0 QQ
    refine r_aload_n (j := 0) d_M_redo_27 rfl ?_
    refine r_dup d_M_redo_28 rfl ?_
    obtain ⟨q3, hw⟩ := hw
    refine r_getI d_M_redo_29 ok_12 (nle rfl) (nle rfl) rfl lf_M_250 q3 ?_
    refine r_iconst d_M_redo_32 kc_1 ?_
    refine r_iadd d_M_redo_33 ?_
    refine r_putI d_M_redo_34 ok_12 (nle rfl) (nle rfl) rfl lf_M_250 rfl q3 ?_
    refine r_iconst d_M_redo_37 kc_1 ?_
    exact r_zreturn d_M_redo_38.1 rfl (Or.inr rfl) (hQ _ _ hw)
  · replace hw := hw.1 w9
    refine r_iconst d_M_redo_7 kc_0 ?_
    exact r_zreturn d_M_redo_8.1 rfl (Or.inl rfl) (hQ _ _ hw)
set_option maxRecDepth 100000 in
set_option maxHeartbeats 4000000 in
theorem s_M_becomes {d : Nat} (hd : 1 ≤ d) {v0 : Nat} {v1 : Int32} {v2 : Int32} {h : Hp} {Q : Int32 → Hp → Prop} {QQ : Option AV → Hp → Prop} (hw : w_M_becomes v0 v1 v2 h Q) (hQ : ∀ r9 h9, Q r9 h9 → QQ (some (ai r9)) h9) : aCall m_M_becomes d [ar v0, ai v1, ai v2] h 0 0 QQ := by
  obtain ⟨d, rfl⟩ : ∃ d9, d = d9 + 1 := ⟨d - 1, by omega⟩
  refine aCall_in pl_M_becomes (nle rfl) ?_
  show aW none m_M_becomes (d + 1) 0 [(0, ar v0), (1, ai v1), (2, ai v2)] [] h 0 0 QQ
  unfold w_M_becomes at hw
  refine r_aload_n (j := 0) d_M_becomes_0 rfl ?_
  obtain ⟨q1, hw⟩ := hw
  refine r_getR d_M_becomes_1 ok_12 (nle rfl) (nle rfl) rfl lf_M_30 q1 ?_
  refine r_iload_n (j := 1) d_M_becomes_4 rfl ?_
  obtain ⟨q2, hw⟩ := hw
  obtain ⟨q3, hw⟩ := hw
  refine r_iald d_M_becomes_5 q2 q3 ?_
  refine r_istore_n (ls2 := [(3, ai (gI h (gR h v0 22) (ix v1))), (0, ar v0), (1, ai v1), (2, ai v2)]) d_M_becomes_6 (nle rfl) rfl ?_
  refine r_iload_n (j := 0) d_M_becomes_7 rfl ?_
  refine r_iload_n (j := 3) d_M_becomes_8 rfl ?_
  refine r_icmp_ne d_M_becomes_9 (fun w9 => ?_) (fun w9 => ?_)
  · replace hw := hw.2 w9
    refine r_aload_n (j := 1) d_M_becomes_16 rfl ?_
    refine r_callV (av := []) (rest := []) (ci := 12) d_M_becomes_17 mk_M_act ll_M_287 im_M_act se_M_act rfl (nle rfl) rfl rfl (nle rfl) q1 (s_M_act  hw (fun h4 hw => ?_))
    show aW none m_M_becomes (d + 1) 20 [(3, ai (gI h (gR h v0 22) (ix v1))), (0, ar v0), (1, ai v1), (2, ai v2)] [] h4 0 0 QQ
    refine r_aload_n (j := 1) d_M_becomes_20 rfl ?_
    obtain ⟨q5, hw⟩ := hw
    refine r_getR d_M_becomes_21 ok_12 (nle rfl) (nle rfl) rfl lf_M_30 q5 ?_
    refine r_iload_n (j := 2) d_M_becomes_24 rfl ?_
    refine r_iload_n (j := 3) d_M_becomes_25 rfl ?_
    obtain ⟨q6, hw⟩ := hw
    obtain ⟨q7, hw⟩ := hw
    refine r_iast d_M_becomes_26 q6 q7 ?_
    refine r_iload_n (j := 0) d_M_becomes_27 rfl ?_
    exact r_ireturn d_M_becomes_28.1 rfl (hQ _ _ hw)
  · replace hw := hw.1 w9
    refine r_ldcw d_M_becomes_12 lc_M_277 ?_
    exact r_ireturn d_M_becomes_15.1 rfl (hQ _ _ hw)
set_option maxRecDepth 100000 in
set_option maxHeartbeats 4000000 in
theorem s_M_change {d : Nat} (hd : 2 ≤ d) {v0 : Nat} {v1 : Int32} {v2 : Int32} {v3 : Int32} {h : Hp} {Q : Int32 → Hp → Prop} {QQ : Option AV → Hp → Prop} (hw : w_M_change v0 v1 v2 v3 h Q) (hQ : ∀ r9 h9, Q r9 h9 → QQ (some (ai r9)) h9) : aCall m_M_change d [ar v0, ai v1, ai v2, ai v3] h 0 0 QQ := by
  obtain ⟨d, rfl⟩ : ∃ d9, d = d9 + 1 := ⟨d - 1, by omega⟩
  refine aCall_in pl_M_change (nle rfl) ?_
  show aW none m_M_change (d + 1) 0 [(0, ar v0), (1, ai v1), (2, ai v2), (3, ai v3)] [] h 0 0 QQ
  unfold w_M_change at hw
  refine r_aload_n (j := 0) d_M_change_0 rfl ?_
  refine r_iload_n (j := 1) d_M_change_1 rfl ?_
  obtain ⟨q3, hw⟩ := hw
  refine r_callV (av := [ai v1]) (rest := []) (ci := 12) d_M_change_2 mk_M_isColumn ll_M_268 im_M_isColumn se_M_isColumn rfl (nle rfl) rfl rfl (nle rfl) q3 (s_M_isColumn (by omega) hw (fun r2 h1 hw => ?_))
  show aW none m_M_change (d + 1) 5 [(0, ar v0), (1, ai v1), (2, ai v2), (3, ai v3)] [ai (b2i r2)] h1 0 0 QQ
  refine r_if_eq d_M_change_5 (fun w9 => ?_) (fun w9 => ?_)
  · replace hw := hw.1 (b2i_0.mp w9)
    refine r_ldcw d_M_change_39 lc_M_277 ?_
    exact r_ireturn d_M_change_42.1 rfl (hQ _ _ hw)
  · replace hw := hw.2 (fun g9 => w9 (b2i_0.mpr g9))
    refine r_aload_n (j := 0) d_M_change_8 rfl ?_
    refine r_iload_n (j := 2) d_M_change_9 rfl ?_
    obtain ⟨q6, hw⟩ := hw
    refine r_callV (av := [ai v2]) (rest := []) (ci := 12) d_M_change_10 mk_M_isRow ll_M_271 im_M_isRow se_M_isRow rfl (nle rfl) rfl rfl (nle rfl) q6 (s_M_isRow (by omega) hw (fun r5 h4 hw => ?_))
    show aW none m_M_change (d + 1) 13 [(0, ar v0), (1, ai v1), (2, ai v2), (3, ai v3)] [ai (b2i r5)] h4 0 0 QQ
    refine r_if_eq d_M_change_13 (fun w9 => ?_) (fun w9 => ?_)
    · replace hw := hw.1 (b2i_0.mp w9)
      refine r_ldcw d_M_change_39 lc_M_277 ?_
      exact r_ireturn d_M_change_42.1 rfl (hQ _ _ hw)
    · replace hw := hw.2 (fun g9 => w9 (b2i_0.mpr g9))
      refine r_iload_n (j := 3) d_M_change_16 rfl ?_
      refine r_bipush d_M_change_17 kb_m5 ?_
      refine r_iconst d_M_change_19 kc_5 ?_
      refine r_callS (av := [ai v3, ai (-5 : Int32), ai (5 : Int32)]) (rest := []) d_M_change_20 mk_M_isIn ll_M_148 st_M_isIn rfl rfl (nle rfl) (s_M_isIn  hw (fun r8 h7 hw => ?_))
      show aW none m_M_change (d + 1) 23 [(0, ar v0), (1, ai v1), (2, ai v2), (3, ai v3)] [ai (b2i r8)] h7 0 0 QQ
      refine r_if_eq d_M_change_23 (fun w9 => ?_) (fun w9 => ?_)
      · replace hw := hw.1 (b2i_0.mp w9)
        refine r_ldcw d_M_change_39 lc_M_277 ?_
        exact r_ireturn d_M_change_42.1 rfl (hQ _ _ hw)
      · replace hw := hw.2 (fun g9 => w9 (b2i_0.mpr g9))
        refine r_aload_n (j := 0) d_M_change_26 rfl ?_
        refine r_iconst d_M_change_27 kc_3 ?_
        refine r_iload_n (j := 1) d_M_change_28 rfl ?_
        refine r_imul d_M_change_29 ?_
        refine r_iload_n (j := 2) d_M_change_30 rfl ?_
        refine r_iadd d_M_change_31 ?_
        refine r_iload_n (j := 3) d_M_change_32 rfl ?_
        obtain ⟨q11, hw⟩ := hw
        refine r_callV (av := [ai (((3 : Int32) * v1) + v2), ai v3]) (rest := []) (ci := 12) d_M_change_33 mk_M_becomes ll_M_290 im_M_becomes se_M_becomes rfl (nle rfl) rfl rfl (nle rfl) q11 (s_M_becomes (by omega) hw (fun r10 h9 hw => ?_))
        show aW none m_M_change (d + 1) 36 [(0, ar v0), (1, ai v1), (2, ai v2), (3, ai v3)] [ai r10] h9 0 0 QQ
        refine r_goto d_M_change_36 ?_
        exact r_ireturn d_M_change_42.1 rfl (hQ _ _ hw)
set_option maxRecDepth 100000 in
set_option maxHeartbeats 4000000 in
theorem s_M_worth {d : Nat} (hd : 2 ≤ d) {v0 : Nat} {v1 : Int32} {v2 : Int32} {h : Hp} {Q : Int32 → Hp → Prop} {QQ : Option AV → Hp → Prop} (hw : w_M_worth v0 v1 v2 h Q) (hQ : ∀ r9 h9, Q r9 h9 → QQ (some (ai r9)) h9) : aCall m_M_worth d [ar v0, ai v1, ai v2] h 0 0 QQ := by
  obtain ⟨d, rfl⟩ : ∃ d9, d = d9 + 1 := ⟨d - 1, by omega⟩
  refine aCall_in pl_M_worth (nle rfl) ?_
  show aW none m_M_worth (d + 1) 0 [(0, ar v0), (1, ai v1), (2, ai v2)] [] h 0 0 QQ
  unfold w_M_worth at hw
  refine r_aload_n (j := 0) d_M_worth_0 rfl ?_
  refine r_iload_n (j := 1) d_M_worth_1 rfl ?_
  obtain ⟨q3, hw⟩ := hw
  refine r_callV (av := [ai v1]) (rest := []) (ci := 12) d_M_worth_2 mk_M_isColumn ll_M_268 im_M_isColumn se_M_isColumn rfl (nle rfl) rfl rfl (nle rfl) q3 (s_M_isColumn (by omega) hw (fun r2 h1 hw => ?_))
  show aW none m_M_worth (d + 1) 5 [(0, ar v0), (1, ai v1), (2, ai v2)] [ai (b2i r2)] h1 0 0 QQ
  refine r_if_eq d_M_worth_5 (fun w9 => ?_) (fun w9 => ?_)
  · replace hw := hw.1 (b2i_0.mp w9)
    refine r_ldcw d_M_worth_31 lc_M_277 ?_
    exact r_ireturn d_M_worth_34.1 rfl (hQ _ _ hw)
  · replace hw := hw.2 (fun g9 => w9 (b2i_0.mpr g9))
    refine r_iload_n (j := 2) d_M_worth_8 rfl ?_
    refine r_bipush d_M_worth_9 kb_m99 ?_
    refine r_bipush d_M_worth_11 kb_99 ?_
    refine r_callS (av := [ai v2, ai (-99 : Int32), ai (99 : Int32)]) (rest := []) d_M_worth_13 mk_M_isIn ll_M_148 st_M_isIn rfl rfl (nle rfl) (s_M_isIn  hw (fun r5 h4 hw => ?_))
    show aW none m_M_worth (d + 1) 16 [(0, ar v0), (1, ai v1), (2, ai v2)] [ai (b2i r5)] h4 0 0 QQ
    refine r_if_eq d_M_worth_16 (fun w9 => ?_) (fun w9 => ?_)
    · replace hw := hw.1 (b2i_0.mp w9)
      refine r_ldcw d_M_worth_31 lc_M_277 ?_
      exact r_ireturn d_M_worth_34.1 rfl (hQ _ _ hw)
    · replace hw := hw.2 (fun g9 => w9 (b2i_0.mpr g9))
      refine r_aload_n (j := 0) d_M_worth_19 rfl ?_
      refine r_bipush d_M_worth_20 kb_24 ?_
      refine r_iload_n (j := 1) d_M_worth_22 rfl ?_
      refine r_iadd d_M_worth_23 ?_
      refine r_iload_n (j := 2) d_M_worth_24 rfl ?_
      obtain ⟨q8, hw⟩ := hw
      refine r_callV (av := [ai ((24 : Int32) + v1), ai v2]) (rest := []) (ci := 12) d_M_worth_25 mk_M_becomes ll_M_290 im_M_becomes se_M_becomes rfl (nle rfl) rfl rfl (nle rfl) q8 (s_M_becomes (by omega) hw (fun r7 h6 hw => ?_))
      show aW none m_M_worth (d + 1) 28 [(0, ar v0), (1, ai v1), (2, ai v2)] [ai r7] h6 0 0 QQ
      refine r_goto d_M_worth_28 ?_
      exact r_ireturn d_M_worth_34.1 rfl (hQ _ _ hw)
set_option maxRecDepth 100000 in
set_option maxHeartbeats 4000000 in
theorem s_M_want {d : Nat} (hd : 2 ≤ d) {v0 : Nat} {v1 : Int32} {v2 : Int32} {h : Hp} {Q : Int32 → Hp → Prop} {QQ : Option AV → Hp → Prop} (hw : w_M_want v0 v1 v2 h Q) (hQ : ∀ r9 h9, Q r9 h9 → QQ (some (ai r9)) h9) : aCall m_M_want d [ar v0, ai v1, ai v2] h 0 0 QQ := by
  obtain ⟨d, rfl⟩ : ∃ d9, d = d9 + 1 := ⟨d - 1, by omega⟩
  refine aCall_in pl_M_want (nle rfl) ?_
  show aW none m_M_want (d + 1) 0 [(0, ar v0), (1, ai v1), (2, ai v2)] [] h 0 0 QQ
  unfold w_M_want at hw
  refine r_aload_n (j := 0) d_M_want_0 rfl ?_
  refine r_iload_n (j := 1) d_M_want_1 rfl ?_
  obtain ⟨q3, hw⟩ := hw
  refine r_callV (av := [ai v1]) (rest := []) (ci := 12) d_M_want_2 mk_M_isRow ll_M_271 im_M_isRow se_M_isRow rfl (nle rfl) rfl rfl (nle rfl) q3 (s_M_isRow (by omega) hw (fun r2 h1 hw => ?_))
  show aW none m_M_want (d + 1) 5 [(0, ar v0), (1, ai v1), (2, ai v2)] [ai (b2i r2)] h1 0 0 QQ
  refine r_if_eq d_M_want_5 (fun w9 => ?_) (fun w9 => ?_)
  · replace hw := hw.1 (b2i_0.mp w9)
    refine r_ldcw d_M_want_31 lc_M_277 ?_
    exact r_ireturn d_M_want_34.1 rfl (hQ _ _ hw)
  · replace hw := hw.2 (fun g9 => w9 (b2i_0.mpr g9))
    refine r_iload_n (j := 2) d_M_want_8 rfl ?_
    refine r_bipush d_M_want_9 kb_m20 ?_
    refine r_bipush d_M_want_11 kb_20 ?_
    refine r_callS (av := [ai v2, ai (-20 : Int32), ai (20 : Int32)]) (rest := []) d_M_want_13 mk_M_isIn ll_M_148 st_M_isIn rfl rfl (nle rfl) (s_M_isIn  hw (fun r5 h4 hw => ?_))
    show aW none m_M_want (d + 1) 16 [(0, ar v0), (1, ai v1), (2, ai v2)] [ai (b2i r5)] h4 0 0 QQ
    refine r_if_eq d_M_want_16 (fun w9 => ?_) (fun w9 => ?_)
    · replace hw := hw.1 (b2i_0.mp w9)
      refine r_ldcw d_M_want_31 lc_M_277 ?_
      exact r_ireturn d_M_want_34.1 rfl (hQ _ _ hw)
    · replace hw := hw.2 (fun g9 => w9 (b2i_0.mpr g9))
      refine r_aload_n (j := 0) d_M_want_19 rfl ?_
      refine r_bipush d_M_want_20 kb_32 ?_
      refine r_iload_n (j := 1) d_M_want_22 rfl ?_
      refine r_iadd d_M_want_23 ?_
      refine r_iload_n (j := 2) d_M_want_24 rfl ?_
      obtain ⟨q8, hw⟩ := hw
      refine r_callV (av := [ai ((32 : Int32) + v1), ai v2]) (rest := []) (ci := 12) d_M_want_25 mk_M_becomes ll_M_290 im_M_becomes se_M_becomes rfl (nle rfl) rfl rfl (nle rfl) q8 (s_M_becomes (by omega) hw (fun r7 h6 hw => ?_))
      show aW none m_M_want (d + 1) 28 [(0, ar v0), (1, ai v1), (2, ai v2)] [ai r7] h6 0 0 QQ
      refine r_goto d_M_want_28 ?_
      exact r_ireturn d_M_want_34.1 rfl (hQ _ _ hw)
set_option maxRecDepth 100000 in
set_option maxHeartbeats 4000000 in
theorem s_M_allow {d : Nat} (hd : 2 ≤ d) {v0 : Nat} {v1 : Int32} {h : Hp} {Q : Int32 → Hp → Prop} {QQ : Option AV → Hp → Prop} (hw : w_M_allow v0 v1 h Q) (hQ : ∀ r9 h9, Q r9 h9 → QQ (some (ai r9)) h9) : aCall m_M_allow d [ar v0, ai v1] h 0 0 QQ := by
  obtain ⟨d, rfl⟩ : ∃ d9, d = d9 + 1 := ⟨d - 1, by omega⟩
  refine aCall_in pl_M_allow (nle rfl) ?_
  show aW none m_M_allow (d + 1) 0 [(0, ar v0), (1, ai v1)] [] h 0 0 QQ
  unfold w_M_allow at hw
  refine r_iload_n (j := 1) d_M_allow_0 rfl ?_
  refine r_iconst d_M_allow_1 kc_1 ?_
  refine r_bipush d_M_allow_2 kb_12 ?_
  refine r_callS (av := [ai v1, ai (1 : Int32), ai (12 : Int32)]) (rest := []) d_M_allow_4 mk_M_isIn ll_M_148 st_M_isIn rfl rfl (nle rfl) (s_M_isIn  hw (fun r2 h1 hw => ?_))
  show aW none m_M_allow (d + 1) 7 [(0, ar v0), (1, ai v1)] [ai (b2i r2)] h1 0 0 QQ
  refine r_if_eq d_M_allow_7 (fun w9 => ?_) (fun w9 => ?_)
  · replace hw := hw.1 (b2i_0.mp w9)
    refine r_ldcw d_M_allow_20 lc_M_277 ?_
    exact r_ireturn d_M_allow_23.1 rfl (hQ _ _ hw)
  · replace hw := hw.2 (fun g9 => w9 (b2i_0.mpr g9))
    refine r_aload_n (j := 0) d_M_allow_10 rfl ?_
    refine r_bipush d_M_allow_11 kb_35 ?_
    refine r_iload_n (j := 1) d_M_allow_13 rfl ?_
    obtain ⟨q5, hw⟩ := hw
    refine r_callV (av := [ai (35 : Int32), ai v1]) (rest := []) (ci := 12) d_M_allow_14 mk_M_becomes ll_M_290 im_M_becomes se_M_becomes rfl (nle rfl) rfl rfl (nle rfl) q5 (s_M_becomes (by omega) hw (fun r4 h3 hw => ?_))
    show aW none m_M_allow (d + 1) 17 [(0, ar v0), (1, ai v1)] [ai r4] h3 0 0 QQ
    refine r_goto d_M_allow_17 ?_
    exact r_ireturn d_M_allow_23.1 rfl (hQ _ _ hw)
set_option maxRecDepth 100000 in
set_option maxHeartbeats 4000000 in
theorem s_M_hold {d : Nat} (hd : 2 ≤ d) {v0 : Nat} {v1 : Int32} {v2 : Int32} {h : Hp} {Q : Int32 → Hp → Prop} {QQ : Option AV → Hp → Prop} (hw : w_M_hold v0 v1 v2 h Q) (hQ : ∀ r9 h9, Q r9 h9 → QQ (some (ai r9)) h9) : aCall m_M_hold d [ar v0, ai v1, ai v2] h 0 0 QQ := by
  obtain ⟨d, rfl⟩ : ∃ d9, d = d9 + 1 := ⟨d - 1, by omega⟩
  refine aCall_in pl_M_hold (nle rfl) ?_
  show aW none m_M_hold (d + 1) 0 [(0, ar v0), (1, ai v1), (2, ai v2)] [] h 0 0 QQ
  unfold w_M_hold at hw
  refine r_aload_n (j := 0) d_M_hold_0 rfl ?_
  refine r_iload_n (j := 1) d_M_hold_1 rfl ?_
  obtain ⟨q3, hw⟩ := hw
  refine r_callV (av := [ai v1]) (rest := []) (ci := 12) d_M_hold_2 mk_M_isColumn ll_M_268 im_M_isColumn se_M_isColumn rfl (nle rfl) rfl rfl (nle rfl) q3 (s_M_isColumn (by omega) hw (fun r2 h1 hw => ?_))
  show aW none m_M_hold (d + 1) 5 [(0, ar v0), (1, ai v1), (2, ai v2)] [ai (b2i r2)] h1 0 0 QQ
  refine r_if_eq d_M_hold_5 (fun w9 => ?_) (fun w9 => ?_)
  · replace hw := hw.1 (b2i_0.mp w9)
    refine r_iconst d_M_hold_18 kc_m1 ?_
    exact r_ireturn d_M_hold_19.1 rfl (hQ _ _ hw)
  · replace hw := hw.2 (fun g9 => w9 (b2i_0.mpr g9))
    refine r_iload_n (j := 2) d_M_hold_8 rfl ?_
    refine r_iconst d_M_hold_9 kc_0 ?_
    refine r_bipush d_M_hold_10 kb_99 ?_
    refine r_callS (av := [ai v2, ai (0 : Int32), ai (99 : Int32)]) (rest := []) d_M_hold_12 mk_M_isIn ll_M_148 st_M_isIn rfl rfl (nle rfl) (s_M_isIn  hw (fun r5 h4 hw => ?_))
    show aW none m_M_hold (d + 1) 15 [(0, ar v0), (1, ai v1), (2, ai v2)] [ai (b2i r5)] h4 0 0 QQ
    refine r_if_ne d_M_hold_15 (fun w9 => ?_) (fun w9 => ?_)
    · replace hw := hw.2 (fun g9 => w9 (b2i_0.mpr g9))
      refine r_aload_n (j := 0) d_M_hold_20 rfl ?_
      refine r_bipush d_M_hold_21 kb_36 ?_
      refine r_iload_n (j := 1) d_M_hold_23 rfl ?_
      refine r_iadd d_M_hold_24 ?_
      refine r_iload_n (j := 2) d_M_hold_25 rfl ?_
      obtain ⟨q8, hw⟩ := hw
      refine r_callV (av := [ai ((36 : Int32) + v1), ai v2]) (rest := []) (ci := 12) d_M_hold_26 mk_M_becomes ll_M_290 im_M_becomes se_M_becomes rfl (nle rfl) rfl rfl (nle rfl) q8 (s_M_becomes (by omega) hw (fun r7 h6 hw => ?_))
      show aW none m_M_hold (d + 1) 29 [(0, ar v0), (1, ai v1), (2, ai v2)] [ai r7] h6 0 0 QQ
      refine r_istore_n (ls2 := [(3, ai r7), (0, ar v0), (1, ai v1), (2, ai v2)]) d_M_hold_29 (nle rfl) rfl ?_
      refine r_iload_n (j := 0) d_M_hold_30 rfl ?_
      refine r_ldcw d_M_hold_31 lc_M_277 ?_
      refine r_icmp_ne d_M_hold_34 (fun w9 => ?_) (fun w9 => ?_)
      · replace hw := hw.2 w9
        refine r_iload_n (j := 0) d_M_hold_41 rfl ?_
        exact r_ireturn d_M_hold_42.1 rfl (hQ _ _ hw)
      · replace hw := hw.1 w9
        refine r_iconst d_M_hold_37 kc_m1 ?_
        refine r_goto d_M_hold_38 ?_
        exact r_ireturn d_M_hold_42.1 rfl (hQ _ _ hw)
    · replace hw := hw.1 (b2i_0.mp w9)
      refine r_iconst d_M_hold_18 kc_m1 ?_
      exact r_ireturn d_M_hold_19.1 rfl (hQ _ _ hw)
set_option maxRecDepth 100000 in
set_option maxHeartbeats 4000000 in
theorem s_M_held {d : Nat} (hd : 2 ≤ d) {v0 : Nat} {v1 : Int32} {h : Hp} {Q : Int32 → Hp → Prop} {QQ : Option AV → Hp → Prop} (hw : w_M_held v0 v1 h Q) (hQ : ∀ r9 h9, Q r9 h9 → QQ (some (ai r9)) h9) : aCall m_M_held d [ar v0, ai v1] h 0 0 QQ := by
  obtain ⟨d, rfl⟩ : ∃ d9, d = d9 + 1 := ⟨d - 1, by omega⟩
  refine aCall_in pl_M_held (nle rfl) ?_
  show aW none m_M_held (d + 1) 0 [(0, ar v0), (1, ai v1)] [] h 0 0 QQ
  unfold w_M_held at hw
  refine r_aload_n (j := 0) d_M_held_0 rfl ?_
  refine r_iload_n (j := 1) d_M_held_1 rfl ?_
  obtain ⟨q3, hw⟩ := hw
  refine r_callV (av := [ai v1]) (rest := []) (ci := 12) d_M_held_2 mk_M_isColumn ll_M_268 im_M_isColumn se_M_isColumn rfl (nle rfl) rfl rfl (nle rfl) q3 (s_M_isColumn (by omega) hw (fun r2 h1 hw => ?_))
  show aW none m_M_held (d + 1) 5 [(0, ar v0), (1, ai v1)] [ai (b2i r2)] h1 0 0 QQ
  refine r_if_eq d_M_held_5 (fun w9 => ?_) (fun w9 => ?_)
  · replace hw := hw.1 (b2i_0.mp w9)
    refine r_iconst d_M_held_20 kc_m1 ?_
    exact r_ireturn d_M_held_21.1 rfl (hQ _ _ hw)
  · replace hw := hw.2 (fun g9 => w9 (b2i_0.mpr g9))
    refine r_aload_n (j := 0) d_M_held_8 rfl ?_
    obtain ⟨q4, hw⟩ := hw
    refine r_getR d_M_held_9 ok_12 (nle rfl) (nle rfl) rfl lf_M_30 q4 ?_
    refine r_bipush d_M_held_12 kb_36 ?_
    refine r_iload_n (j := 1) d_M_held_14 rfl ?_
    refine r_iadd d_M_held_15 ?_
    obtain ⟨q5, hw⟩ := hw
    obtain ⟨q6, hw⟩ := hw
    refine r_iald d_M_held_16 q5 q6 ?_
    refine r_goto d_M_held_17 ?_
    exact r_ireturn d_M_held_21.1 rfl (hQ _ _ hw)
set_option maxRecDepth 100000 in
set_option maxHeartbeats 4000000 in
theorem s_M_heldSum_L4 {d : Nat} (hd : 1 ≤ d + 1) {Q : Int32 → Hp → Prop} {QQ : Option AV → Hp → Prop} (hQ : ∀ r9 h9, Q r9 h9 → QQ (some (ai r9)) h9) {v0 : Nat} {v1 : Int32} : ∀ (n : Nat) (v2 : Int32) (v3 : Int32) (h : Hp), w_M_heldSum_L4 Q  v0 v1 n v2 v3 h → aW none m_M_heldSum (d + 1) 4 [(0, ar v0), (1, ai v1), (2, ai v2), (3, ai v3)] [] h 0 0 QQ := by
  intro n
  induction n with
  | zero => intro v2 v3 h hw; exact hw.elim
  | succ n ih =>
    intro v2 v3 h hw
    unfold w_M_heldSum_L4 at hw
    refine r_iload_n (j := 3) d_M_heldSum_4 rfl ?_
    refine r_aload_n (j := 0) d_M_heldSum_5 rfl ?_
    obtain ⟨q1, hw⟩ := hw
    refine r_getI d_M_heldSum_6 ok_12 (nle rfl) (nle rfl) rfl lf_M_247 q1 ?_
    refine r_icmp_ge d_M_heldSum_9 (fun w9 => ?_) (fun w9 => ?_)
    · replace hw := hw.1 w9
      refine r_iload_n (j := 2) d_M_heldSum_37 rfl ?_
      exact r_ireturn d_M_heldSum_38.1 rfl (hQ _ _ hw)
    · replace hw := hw.2 w9
      refine r_iload_n (j := 2) d_M_heldSum_12 rfl ?_
      refine r_aload_n (j := 0) d_M_heldSum_13 rfl ?_
      refine r_getR d_M_heldSum_14 ok_12 (nle rfl) (nle rfl) rfl lf_M_30 q1 ?_
      refine r_bipush d_M_heldSum_17 kb_36 ?_
      refine r_iload_n (j := 3) d_M_heldSum_19 rfl ?_
      refine r_iadd d_M_heldSum_20 ?_
      obtain ⟨q2, hw⟩ := hw
      obtain ⟨q3, hw⟩ := hw
      refine r_iald d_M_heldSum_21 q2 q3 ?_
      refine r_aload_n (j := 0) d_M_heldSum_22 rfl ?_
      refine r_iload_n (j := 3) d_M_heldSum_23 rfl ?_
      refine r_iload_n (j := 1) d_M_heldSum_24 rfl ?_
      refine r_callV (av := [ai v3, ai v1]) (rest := [ai (gI h (gR h v0 22) (ix ((36 : Int32) + v3))), ai v2]) (ci := 12) d_M_heldSum_25 mk_M_numberOf ll_M_274 im_M_numberOf se_M_numberOf rfl (nle rfl) rfl rfl (nle rfl) q1 (s_M_numberOf  hw (fun r5 h4 hw => ?_))
      show aW none m_M_heldSum (d + 1) 28 [(0, ar v0), (1, ai v1), (2, ai v2), (3, ai v3)] [ai r5, ai (gI h (gR h v0 22) (ix ((36 : Int32) + v3))), ai v2] h4 0 0 QQ
      refine r_imul d_M_heldSum_28 ?_
      refine r_iadd d_M_heldSum_29 ?_
      refine r_istore_n (ls2 := [(2, ai (v2 + ((gI h (gR h v0 22) (ix ((36 : Int32) + v3))) * r5))), (0, ar v0), (1, ai v1), (3, ai v3)]) d_M_heldSum_30 (nle rfl) rfl ?_
      refine r_iinc (j := 3) (ls2 := [(3, ai (v3 + (1 : Int32))), (2, ai (v2 + ((gI h (gR h v0 22) (ix ((36 : Int32) + v3))) * r5))), (0, ar v0), (1, ai v1)]) d_M_heldSum_31 rfl (congrArg (HAdd.hAdd v3) kc_1) (nle rfl) rfl ?_
      refine r_goto d_M_heldSum_34 ?_
      refine r_pick (ls2 := [(0, ar v0), (1, ai v1), (2, ai (v2 + ((gI h (gR h v0 22) (ix ((36 : Int32) + v3))) * r5))), (3, ai (v3 + (1 : Int32)))]) [2, 3, 1, 0] rfl ?_
      exact ih _ _ _ hw
set_option maxRecDepth 100000 in
set_option maxHeartbeats 4000000 in
theorem s_M_heldSum {d : Nat} (hd : 1 ≤ d) {v0 : Nat} {v1 : Int32} {h : Hp} {Q : Int32 → Hp → Prop} {QQ : Option AV → Hp → Prop} (hw : w_M_heldSum v0 v1 h Q) (hQ : ∀ r9 h9, Q r9 h9 → QQ (some (ai r9)) h9) : aCall m_M_heldSum d [ar v0, ai v1] h 0 0 QQ := by
  obtain ⟨d, rfl⟩ : ∃ d9, d = d9 + 1 := ⟨d - 1, by omega⟩
  refine aCall_in pl_M_heldSum (nle rfl) ?_
  show aW none m_M_heldSum (d + 1) 0 [(0, ar v0), (1, ai v1)] [] h 0 0 QQ
  unfold w_M_heldSum at hw
  refine r_iconst d_M_heldSum_0 kc_0 ?_
  refine r_istore_n (ls2 := [(2, ai (0 : Int32)), (0, ar v0), (1, ai v1)]) d_M_heldSum_1 (nle rfl) rfl ?_
  refine r_iconst d_M_heldSum_2 kc_0 ?_
  refine r_istore_n (ls2 := [(3, ai (0 : Int32)), (2, ai (0 : Int32)), (0, ar v0), (1, ai v1)]) d_M_heldSum_3 (nle rfl) rfl ?_
  obtain ⟨n6, hw⟩ := hw
  refine r_pick (ls2 := [(0, ar v0), (1, ai v1), (2, ai (0 : Int32)), (3, ai (0 : Int32))]) [2, 3, 1, 0] rfl ?_
  exact s_M_heldSum_L4 hd hQ  n6 _ _ _ hw
set_option maxRecDepth 100000 in
set_option maxHeartbeats 4000000 in
theorem s_M_heldGain_L4 {d : Nat} (hd : 1 ≤ d + 1) {Q : Int32 → Hp → Prop} {QQ : Option AV → Hp → Prop} (hQ : ∀ r9 h9, Q r9 h9 → QQ (some (ai r9)) h9) {v0 : Nat} : ∀ (n : Nat) (v1 : Int32) (v2 : Int32) (h : Hp), w_M_heldGain_L4 Q  v0 n v1 v2 h → aW none m_M_heldGain (d + 1) 4 [(0, ar v0), (1, ai v1), (2, ai v2)] [] h 0 0 QQ := by
  intro n
  induction n with
  | zero => intro v1 v2 h hw; exact hw.elim
  | succ n ih =>
    intro v1 v2 h hw
    unfold w_M_heldGain_L4 at hw
    refine r_iload_n (j := 2) d_M_heldGain_4 rfl ?_
    refine r_aload_n (j := 0) d_M_heldGain_5 rfl ?_
    obtain ⟨q1, hw⟩ := hw
    refine r_getI d_M_heldGain_6 ok_12 (nle rfl) (nle rfl) rfl lf_M_247 q1 ?_
    refine r_icmp_ge d_M_heldGain_9 (fun w9 => ?_) (fun w9 => ?_)
    · replace hw := hw.1 w9
      refine r_iload_n (j := 1) d_M_heldGain_36 rfl ?_
      exact r_ireturn d_M_heldGain_37.1 rfl (hQ _ _ hw)
    · replace hw := hw.2 w9
      refine r_iload_n (j := 1) d_M_heldGain_12 rfl ?_
      refine r_aload_n (j := 0) d_M_heldGain_13 rfl ?_
      refine r_getR d_M_heldGain_14 ok_12 (nle rfl) (nle rfl) rfl lf_M_30 q1 ?_
      refine r_bipush d_M_heldGain_17 kb_36 ?_
      refine r_iload_n (j := 2) d_M_heldGain_19 rfl ?_
      refine r_iadd d_M_heldGain_20 ?_
      obtain ⟨q2, hw⟩ := hw
      obtain ⟨q3, hw⟩ := hw
      refine r_iald d_M_heldGain_21 q2 q3 ?_
      refine r_aload_n (j := 0) d_M_heldGain_22 rfl ?_
      refine r_iload_n (j := 2) d_M_heldGain_23 rfl ?_
      refine r_callV (av := [ai v2]) (rest := [ai (gI h (gR h v0 22) (ix ((36 : Int32) + v2))), ai v1]) (ci := 12) d_M_heldGain_24 mk_M_gainOf ll_M_278 im_M_gainOf se_M_gainOf rfl (nle rfl) rfl rfl (nle rfl) q1 (s_M_gainOf  hw (fun r5 h4 hw => ?_))
      show aW none m_M_heldGain (d + 1) 27 [(0, ar v0), (1, ai v1), (2, ai v2)] [ai r5, ai (gI h (gR h v0 22) (ix ((36 : Int32) + v2))), ai v1] h4 0 0 QQ
      refine r_imul d_M_heldGain_27 ?_
      refine r_iadd d_M_heldGain_28 ?_
      refine r_istore_n (ls2 := [(1, ai (v1 + ((gI h (gR h v0 22) (ix ((36 : Int32) + v2))) * r5))), (0, ar v0), (2, ai v2)]) d_M_heldGain_29 (nle rfl) rfl ?_
      refine r_iinc (j := 2) (ls2 := [(2, ai (v2 + (1 : Int32))), (1, ai (v1 + ((gI h (gR h v0 22) (ix ((36 : Int32) + v2))) * r5))), (0, ar v0)]) d_M_heldGain_30 rfl (congrArg (HAdd.hAdd v2) kc_1) (nle rfl) rfl ?_
      refine r_goto d_M_heldGain_33 ?_
      refine r_pick (ls2 := [(0, ar v0), (1, ai (v1 + ((gI h (gR h v0 22) (ix ((36 : Int32) + v2))) * r5))), (2, ai (v2 + (1 : Int32)))]) [2, 1, 0] rfl ?_
      exact ih _ _ _ hw
set_option maxRecDepth 100000 in
set_option maxHeartbeats 4000000 in
theorem s_M_heldGain {d : Nat} (hd : 1 ≤ d) {v0 : Nat} {h : Hp} {Q : Int32 → Hp → Prop} {QQ : Option AV → Hp → Prop} (hw : w_M_heldGain v0 h Q) (hQ : ∀ r9 h9, Q r9 h9 → QQ (some (ai r9)) h9) : aCall m_M_heldGain d [ar v0] h 0 0 QQ := by
  obtain ⟨d, rfl⟩ : ∃ d9, d = d9 + 1 := ⟨d - 1, by omega⟩
  refine aCall_in pl_M_heldGain (nle rfl) ?_
  show aW none m_M_heldGain (d + 1) 0 [(0, ar v0)] [] h 0 0 QQ
  unfold w_M_heldGain at hw
  refine r_iconst d_M_heldGain_0 kc_0 ?_
  refine r_istore_n (ls2 := [(1, ai (0 : Int32)), (0, ar v0)]) d_M_heldGain_1 (nle rfl) rfl ?_
  refine r_iconst d_M_heldGain_2 kc_0 ?_
  refine r_istore_n (ls2 := [(2, ai (0 : Int32)), (1, ai (0 : Int32)), (0, ar v0)]) d_M_heldGain_3 (nle rfl) rfl ?_
  obtain ⟨n6, hw⟩ := hw
  refine r_pick (ls2 := [(0, ar v0), (1, ai (0 : Int32)), (2, ai (0 : Int32))]) [2, 1, 0] rfl ?_
  exact s_M_heldGain_L4 hd hQ  n6 _ _ _ hw
set_option maxRecDepth 100000 in
set_option maxHeartbeats 4000000 in
theorem s_M_heldSteps_L4 {d : Nat} {Q : Int32 → Hp → Prop} {QQ : Option AV → Hp → Prop} (hQ : ∀ r9 h9, Q r9 h9 → QQ (some (ai r9)) h9) {v0 : Nat} : ∀ (n : Nat) (v1 : Int32) (v2 : Int32) (h : Hp), w_M_heldSteps_L4 Q  v0 n v1 v2 h → aW none m_M_heldSteps d 4 [(0, ar v0), (1, ai v1), (2, ai v2)] [] h 0 0 QQ := by
  intro n
  induction n with
  | zero => intro v1 v2 h hw; exact hw.elim
  | succ n ih =>
    intro v1 v2 h hw
    unfold w_M_heldSteps_L4 at hw
    refine r_iload_n (j := 2) d_M_heldSteps_4 rfl ?_
    refine r_aload_n (j := 0) d_M_heldSteps_5 rfl ?_
    obtain ⟨q1, hw⟩ := hw
    refine r_getI d_M_heldSteps_6 ok_12 (nle rfl) (nle rfl) rfl lf_M_247 q1 ?_
    refine r_icmp_ge d_M_heldSteps_9 (fun w9 => ?_) (fun w9 => ?_)
    · replace hw := hw.1 w9
      refine r_iload_n (j := 1) d_M_heldSteps_30 rfl ?_
      exact r_ireturn d_M_heldSteps_31.1 rfl (hQ _ _ hw)
    · replace hw := hw.2 w9
      refine r_iload_n (j := 1) d_M_heldSteps_12 rfl ?_
      refine r_aload_n (j := 0) d_M_heldSteps_13 rfl ?_
      refine r_getR d_M_heldSteps_14 ok_12 (nle rfl) (nle rfl) rfl lf_M_30 q1 ?_
      refine r_bipush d_M_heldSteps_17 kb_36 ?_
      refine r_iload_n (j := 2) d_M_heldSteps_19 rfl ?_
      refine r_iadd d_M_heldSteps_20 ?_
      obtain ⟨q2, hw⟩ := hw
      obtain ⟨q3, hw⟩ := hw
      refine r_iald d_M_heldSteps_21 q2 q3 ?_
      refine r_iadd d_M_heldSteps_22 ?_
      refine r_istore_n (ls2 := [(1, ai (v1 + (gI h (gR h v0 22) (ix ((36 : Int32) + v2))))), (0, ar v0), (2, ai v2)]) d_M_heldSteps_23 (nle rfl) rfl ?_
      refine r_iinc (j := 2) (ls2 := [(2, ai (v2 + (1 : Int32))), (1, ai (v1 + (gI h (gR h v0 22) (ix ((36 : Int32) + v2))))), (0, ar v0)]) d_M_heldSteps_24 rfl (congrArg (HAdd.hAdd v2) kc_1) (nle rfl) rfl ?_
      refine r_goto d_M_heldSteps_27 ?_
      refine r_pick (ls2 := [(0, ar v0), (1, ai (v1 + (gI h (gR h v0 22) (ix ((36 : Int32) + v2))))), (2, ai (v2 + (1 : Int32)))]) [2, 1, 0] rfl ?_
      exact ih _ _ _ hw
set_option maxRecDepth 100000 in
set_option maxHeartbeats 4000000 in
theorem s_M_heldSteps {d : Nat} {v0 : Nat} {h : Hp} {Q : Int32 → Hp → Prop} {QQ : Option AV → Hp → Prop} (hw : w_M_heldSteps v0 h Q) (hQ : ∀ r9 h9, Q r9 h9 → QQ (some (ai r9)) h9) : aCall m_M_heldSteps d [ar v0] h 0 0 QQ := by
  refine aCall_in pl_M_heldSteps (nle rfl) ?_
  show aW none m_M_heldSteps d 0 [(0, ar v0)] [] h 0 0 QQ
  unfold w_M_heldSteps at hw
  refine r_iconst d_M_heldSteps_0 kc_0 ?_
  refine r_istore_n (ls2 := [(1, ai (0 : Int32)), (0, ar v0)]) d_M_heldSteps_1 (nle rfl) rfl ?_
  refine r_iconst d_M_heldSteps_2 kc_0 ?_
  refine r_istore_n (ls2 := [(2, ai (0 : Int32)), (1, ai (0 : Int32)), (0, ar v0)]) d_M_heldSteps_3 (nle rfl) rfl ?_
  obtain ⟨n4, hw⟩ := hw
  refine r_pick (ls2 := [(0, ar v0), (1, ai (0 : Int32)), (2, ai (0 : Int32))]) [2, 1, 0] rfl ?_
  exact s_M_heldSteps_L4 hQ  n4 _ _ _ hw
set_option maxRecDepth 100000 in
set_option maxHeartbeats 4000000 in
theorem s_M_heldOff_L4 {d : Nat} (hd : 2 ≤ d + 1) {Q : Int32 → Hp → Prop} {QQ : Option AV → Hp → Prop} (hQ : ∀ r9 h9, Q r9 h9 → QQ (some (ai r9)) h9) {v0 : Nat} : ∀ (n : Nat) (v1 : Int32) (v2 : Int32) (h : Hp), w_M_heldOff_L4 Q  v0 n v1 v2 h → aW none m_M_heldOff (d + 1) 4 [(0, ar v0), (1, ai v1), (2, ai v2)] [] h 0 0 QQ := by
  intro n
  induction n with
  | zero => intro v1 v2 h hw; exact hw.elim
  | succ n ih =>
    intro v1 v2 h hw
    unfold w_M_heldOff_L4 at hw
    refine r_iload_n (j := 2) d_M_heldOff_4 rfl ?_
    refine r_aload_n (j := 0) d_M_heldOff_5 rfl ?_
    obtain ⟨q1, hw⟩ := hw
    refine r_getI d_M_heldOff_6 ok_12 (nle rfl) (nle rfl) rfl lf_M_244 q1 ?_
    refine r_icmp_ge d_M_heldOff_9 (fun w9 => ?_) (fun w9 => ?_)
    · replace hw := hw.1 w9
      refine r_iload_n (j := 1) d_M_heldOff_35 rfl ?_
      exact r_ireturn d_M_heldOff_36.1 rfl (hQ _ _ hw)
    · replace hw := hw.2 w9
      refine r_iload_n (j := 1) d_M_heldOff_12 rfl ?_
      refine r_aload_n (j := 0) d_M_heldOff_13 rfl ?_
      refine r_iload_n (j := 2) d_M_heldOff_14 rfl ?_
      refine r_callV (av := [ai v2]) (rest := [ai v1]) (ci := 12) d_M_heldOff_15 mk_M_heldSum ll_M_293 im_M_heldSum se_M_heldSum rfl (nle rfl) rfl rfl (nle rfl) q1 (s_M_heldSum (by omega) hw (fun r3 h2 hw => ?_))
      show aW none m_M_heldOff (d + 1) 18 [(0, ar v0), (1, ai v1), (2, ai v2)] [ai r3, ai v1] h2 0 0 QQ
      refine r_aload_n (j := 0) d_M_heldOff_18 rfl ?_
      refine r_iload_n (j := 2) d_M_heldOff_19 rfl ?_
      obtain ⟨q6, hw⟩ := hw
      refine r_callV (av := [ai v2]) (rest := [ai r3, ai v1]) (ci := 12) d_M_heldOff_20 mk_M_needOf ll_M_281 im_M_needOf se_M_needOf rfl (nle rfl) rfl rfl (nle rfl) q6 (s_M_needOf  hw (fun r5 h4 hw => ?_))
      show aW none m_M_heldOff (d + 1) 23 [(0, ar v0), (1, ai v1), (2, ai v2)] [ai r5, ai r3, ai v1] h4 0 0 QQ
      refine r_isub d_M_heldOff_23 ?_
      refine r_callS (av := [ai (r3 - r5)]) (rest := [ai v1]) d_M_heldOff_24 mk_M_plus ll_M_296 st_M_plus rfl rfl (nle rfl) (s_M_plus  hw (fun r8 h7 hw => ?_))
      show aW none m_M_heldOff (d + 1) 27 [(0, ar v0), (1, ai v1), (2, ai v2)] [ai r8, ai v1] h7 0 0 QQ
      refine r_iadd d_M_heldOff_27 ?_
      refine r_istore_n (ls2 := [(1, ai (v1 + r8)), (0, ar v0), (2, ai v2)]) d_M_heldOff_28 (nle rfl) rfl ?_
      refine r_iinc (j := 2) (ls2 := [(2, ai (v2 + (1 : Int32))), (1, ai (v1 + r8)), (0, ar v0)]) d_M_heldOff_29 rfl (congrArg (HAdd.hAdd v2) kc_1) (nle rfl) rfl ?_
      refine r_goto d_M_heldOff_32 ?_
      refine r_pick (ls2 := [(0, ar v0), (1, ai (v1 + r8)), (2, ai (v2 + (1 : Int32)))]) [2, 1, 0] rfl ?_
      exact ih _ _ _ hw
set_option maxRecDepth 100000 in
set_option maxHeartbeats 4000000 in
theorem s_M_heldOff {d : Nat} (hd : 2 ≤ d) {v0 : Nat} {h : Hp} {Q : Int32 → Hp → Prop} {QQ : Option AV → Hp → Prop} (hw : w_M_heldOff v0 h Q) (hQ : ∀ r9 h9, Q r9 h9 → QQ (some (ai r9)) h9) : aCall m_M_heldOff d [ar v0] h 0 0 QQ := by
  obtain ⟨d, rfl⟩ : ∃ d9, d = d9 + 1 := ⟨d - 1, by omega⟩
  refine aCall_in pl_M_heldOff (nle rfl) ?_
  show aW none m_M_heldOff (d + 1) 0 [(0, ar v0)] [] h 0 0 QQ
  unfold w_M_heldOff at hw
  refine r_iconst d_M_heldOff_0 kc_0 ?_
  refine r_istore_n (ls2 := [(1, ai (0 : Int32)), (0, ar v0)]) d_M_heldOff_1 (nle rfl) rfl ?_
  refine r_iconst d_M_heldOff_2 kc_0 ?_
  refine r_istore_n (ls2 := [(2, ai (0 : Int32)), (1, ai (0 : Int32)), (0, ar v0)]) d_M_heldOff_3 (nle rfl) rfl ?_
  obtain ⟨n9, hw⟩ := hw
  refine r_pick (ls2 := [(0, ar v0), (1, ai (0 : Int32)), (2, ai (0 : Int32))]) [2, 1, 0] rfl ?_
  exact s_M_heldOff_L4 hd hQ  n9 _ _ _ hw
