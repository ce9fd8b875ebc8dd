set_option maxRecDepth 100000 in
set_option maxHeartbeats 4000000 in
theorem s_Rd_readColumn_L71 {d : Nat} (hd : 7 ≤ d + 1) {Q : Bool → Hp → Prop} {QQ : Option AV → Hp → Prop} (hQ : ∀ r9 h9, Q r9 h9 → QQ (some (ai (b2i r9))) h9) {v0 : Nat} {v1 : Int32} : ∀ (n : Nat) (v2 : Int32) (h : Hp), w_Rd_readColumn_L71 Q  v0 v1 n v2 h → aW none m_Rd_readColumn (d + 1) 71 [(0, ar v0), (1, ai v1), (2, ai v2)] [] h 0 0 QQ := by
  intro n
  induction n with
  | zero => intro v2 h hw; exact hw.elim
  | succ n ih =>
    intro v2 h hw
    unfold w_Rd_readColumn_L71 at hw
    refine r_iload_n (j := 2) d_Rd_readColumn_71 rfl ?_
    refine r_aload_n (j := 0) d_Rd_readColumn_72 rfl ?_
    obtain ⟨q15, hw⟩ := hw
    refine r_getR d_Rd_readColumn_73 ok_8 (nle rfl) (nle rfl) rfl lf_Rd_12 q15 ?_
    obtain ⟨q16, hw⟩ := hw
    refine r_getI d_Rd_readColumn_76 ok_1 (nle rfl) (nle rfl) rfl lf_Rd_103 q16 ?_
    refine r_icmp_ge d_Rd_readColumn_79 (fun w9 => ?_) (fun w9 => ?_)
    · replace hw := hw.1 w9
      refine r_aload_n (j := 0) d_Rd_readColumn_103 rfl ?_
      refine r_getR d_Rd_readColumn_104 ok_8 (nle rfl) (nle rfl) rfl lf_Rd_29 q15 ?_
      refine r_ldcS (i := 2) (nle rfl) d_Rd_readColumn_107 rfl ?_
      obtain ⟨q19, hw⟩ := hw
      refine r_callV (av := [ar (2 + 2)]) (rest := []) (ci := 10) d_Rd_readColumn_109 mk_Tp_isWord ll_Rd_63 im_Tp_isWord se_Tp_isWord rfl (nle rfl) rfl rfl (nle rfl) q19 (s_Tp_isWord (by omega) hw (fun r18 h17 hw => ?_))
      show aW none m_Rd_readColumn (d + 1) 112 [(0, ar v0), (1, ai v1), (2, ai v2)] [ai (b2i r18)] h17 0 0 QQ
      refine r_if_ne d_Rd_readColumn_112 (fun w9 => ?_) (fun w9 => ?_)
      · replace hw := hw.2 (fun g9 => w9 (b2i_0.mpr g9))
        refine r_aload_n (j := 0) d_Rd_readColumn_121 rfl ?_
        obtain ⟨q20, hw⟩ := hw
        refine r_getR d_Rd_readColumn_122 ok_8 (nle rfl) (nle rfl) rfl lf_Rd_29 q20 ?_
        obtain ⟨q22, hw⟩ := hw
        refine r_callV (av := []) (rest := []) (ci := 10) d_Rd_readColumn_125 mk_Tp_advance ll_Rd_92 im_Tp_advance se_Tp_advance rfl (nle rfl) rfl rfl (nle rfl) q22 (s_Tp_advance (by omega) hw (fun h21 hw => ?_))
        show aW none m_Rd_readColumn (d + 1) 128 [(0, ar v0), (1, ai v1), (2, ai v2)] [] h21 0 0 QQ
        refine r_aload_n (j := 0) d_Rd_readColumn_128 rfl ?_
        refine r_bipush d_Rd_readColumn_129 kb_24 ?_
        refine r_iload_n (j := 1) d_Rd_readColumn_131 rfl ?_
        refine r_iadd d_Rd_readColumn_132 ?_
        refine r_bipush d_Rd_readColumn_133 kb_99 ?_
        obtain ⟨q25, hw⟩ := hw
        refine r_callV (av := [ai ((24 : Int32) + v1), ai (99 : Int32)]) (rest := []) (ci := 8) d_Rd_readColumn_135 mk_Rd_readSigned ll_Rd_112 im_Rd_readSigned se_Rd_readSigned rfl (nle rfl) rfl rfl (nle rfl) q25 (s_Rd_readSigned (by omega) hw (fun r24 h23 hw => ?_))
        show aW none m_Rd_readColumn (d + 1) 138 [(0, ar v0), (1, ai v1), (2, ai v2)] [ai (b2i r24)] h23 0 0 QQ
        refine r_if_ne d_Rd_readColumn_138 (fun w9 => ?_) (fun w9 => ?_)
        · replace hw := hw.2 (fun g9 => w9 (b2i_0.mpr g9))
          refine r_aload_n (j := 0) d_Rd_readColumn_143 rfl ?_
          obtain ⟨q26, hw⟩ := hw
          refine r_getR d_Rd_readColumn_144 ok_8 (nle rfl) (nle rfl) rfl lf_Rd_12 q26 ?_
          refine r_dup d_Rd_readColumn_147 rfl ?_
          obtain ⟨q27, hw⟩ := hw
          refine r_getI d_Rd_readColumn_148 ok_1 (nle rfl) (nle rfl) rfl lf_Rd_76 q27 ?_
          refine r_iconst d_Rd_readColumn_151 kc_1 ?_
          refine r_iadd d_Rd_readColumn_152 ?_
          refine r_putI d_Rd_readColumn_153 ok_1 (nle rfl) (nle rfl) rfl lf_Rd_76 rfl q27 ?_
          refine r_aload_n (j := 0) d_Rd_readColumn_156 rfl ?_
          refine r_callV (av := []) (rest := []) (ci := 8) d_Rd_readColumn_157 mk_Rd_endLine ll_Rd_105 im_Rd_endLine se_Rd_endLine rfl (nle rfl) rfl rfl (nle rfl) (kt eKI q26) (s_Rd_endLine (by omega) hw (fun r29 h28 hw => ?_))
          show aW none m_Rd_readColumn (d + 1) 160 [(0, ar v0), (1, ai v1), (2, ai v2)] [ai (b2i r29)] h28 0 0 QQ
          exact r_zreturn d_Rd_readColumn_160.1 rfl (b2i_B _) (hQ _ _ hw)
        · replace hw := hw.1 (b2i_0.mp w9)
          refine r_iconst d_Rd_readColumn_141 kc_0 ?_
          exact r_zreturn d_Rd_readColumn_142.1 rfl (Or.inl rfl) (hQ _ _ hw)
      · replace hw := hw.1 (b2i_0.mp w9)
        refine r_aload_n (j := 0) d_Rd_readColumn_115 rfl ?_
        refine r_iconst d_Rd_readColumn_116 kc_2 ?_
        obtain ⟨q32, hw⟩ := hw
        refine r_callV (av := [ai (2 : Int32)]) (rest := []) (ci := 8) d_Rd_readColumn_117 mk_Rd_fail ll_Rd_71 im_Rd_fail se_Rd_fail rfl (nle rfl) rfl rfl (nle rfl) q32 (s_Rd_fail  hw (fun r31 h30 hw => ?_))
        show aW none m_Rd_readColumn (d + 1) 120 [(0, ar v0), (1, ai v1), (2, ai v2)] [ai (b2i r31)] h30 0 0 QQ
        exact r_zreturn d_Rd_readColumn_120.1 rfl (b2i_B _) (hQ _ _ hw)
    · replace hw := hw.2 w9
      refine r_aload_n (j := 0) d_Rd_readColumn_82 rfl ?_
      refine r_iload_n (j := 1) d_Rd_readColumn_83 rfl ?_
      refine r_iconst d_Rd_readColumn_84 kc_3 ?_
      refine r_imul d_Rd_readColumn_85 ?_
      refine r_iload_n (j := 2) d_Rd_readColumn_86 rfl ?_
      refine r_iadd d_Rd_readColumn_87 ?_
      refine r_iconst d_Rd_readColumn_88 kc_5 ?_
      refine r_callV (av := [ai ((v1 * (3 : Int32)) + v2), ai (5 : Int32)]) (rest := []) (ci := 8) d_Rd_readColumn_89 mk_Rd_readSigned ll_Rd_112 im_Rd_readSigned se_Rd_readSigned rfl (nle rfl) rfl rfl (nle rfl) q15 (s_Rd_readSigned (by omega) hw (fun r34 h33 hw => ?_))
      show aW none m_Rd_readColumn (d + 1) 92 [(0, ar v0), (1, ai v1), (2, ai v2)] [ai (b2i r34)] h33 0 0 QQ
      refine r_if_ne d_Rd_readColumn_92 (fun w9 => ?_) (fun w9 => ?_)
      · replace hw := hw.2 (fun g9 => w9 (b2i_0.mpr g9))
        refine r_iinc (j := 2) (ls2 := [(2, ai (v2 + (1 : Int32))), (0, ar v0), (1, ai v1)]) d_Rd_readColumn_97 rfl (congrArg (HAdd.hAdd v2) kc_1) (nle rfl) rfl ?_
        refine r_goto d_Rd_readColumn_100 ?_
        refine r_pick (ls2 := [(0, ar v0), (1, ai v1), (2, ai (v2 + (1 : Int32)))]) [1, 2, 0] rfl ?_
        exact ih _ _ hw
      · replace hw := hw.1 (b2i_0.mp w9)
        refine r_iconst d_Rd_readColumn_95 kc_0 ?_
        exact r_zreturn d_Rd_readColumn_96.1 rfl (Or.inl rfl) (hQ _ _ hw)
set_option maxRecDepth 100000 in
set_option maxHeartbeats 4000000 in
theorem s_Rd_readColumn {d : Nat} (hd : 7 ≤ d) {v0 : Nat} {h : Hp} {Q : Bool → Hp → Prop} {QQ : Option AV → Hp → Prop} (hw : w_Rd_readColumn v0 h Q) (hQ : ∀ r9 h9, Q r9 h9 → QQ (some (ai (b2i r9))) h9) : aCall m_Rd_readColumn d [ar v0] h 0 0 QQ := by
  obtain ⟨d, rfl⟩ : ∃ d9, d = d9 + 1 := ⟨d - 1, by omega⟩
  refine aCall_in pl_Rd_readColumn (nle rfl) ?_
  show aW none m_Rd_readColumn (d + 1) 0 [(0, ar v0)] [] h 0 0 QQ
  unfold w_Rd_readColumn at hw
  refine r_aload_n (j := 0) d_Rd_readColumn_0 rfl ?_
  obtain ⟨q1, hw⟩ := hw
  refine r_getR d_Rd_readColumn_1 ok_8 (nle rfl) (nle rfl) rfl lf_Rd_29 q1 ?_
  obtain ⟨q3, hw⟩ := hw
  refine r_callV (av := []) (rest := []) (ci := 10) d_Rd_readColumn_4 mk_Tp_advance ll_Rd_92 im_Tp_advance se_Tp_advance rfl (nle rfl) rfl rfl (nle rfl) q3 (s_Tp_advance (by omega) hw (fun h2 hw => ?_))
  show aW none m_Rd_readColumn (d + 1) 7 [(0, ar v0)] [] h2 0 0 QQ
  refine r_aload_n (j := 0) d_Rd_readColumn_7 rfl ?_
  obtain ⟨q6, hw⟩ := hw
  refine r_callV (av := []) (rest := []) (ci := 8) d_Rd_readColumn_8 mk_Rd_isNewName ll_Rd_115 im_Rd_isNewName se_Rd_isNewName rfl (nle rfl) rfl rfl (nle rfl) q6 (s_Rd_isNewName (by omega) hw (fun r5 h4 hw => ?_))
  show aW none m_Rd_readColumn (d + 1) 11 [(0, ar v0)] [ai (b2i r5)] h4 0 0 QQ
  refine r_if_eq d_Rd_readColumn_11 (fun w9 => ?_) (fun w9 => ?_)
  · replace hw := hw.1 (b2i_0.mp w9)
    refine r_iconst d_Rd_readColumn_26 kc_0 ?_
    exact r_zreturn d_Rd_readColumn_27.1 rfl (Or.inl rfl) (hQ _ _ hw)
  · replace hw := hw.2 (fun g9 => w9 (b2i_0.mpr g9))
    refine r_aload_n (j := 0) d_Rd_readColumn_14 rfl ?_
    obtain ⟨q7, hw⟩ := hw
    refine r_getR d_Rd_readColumn_15 ok_8 (nle rfl) (nle rfl) rfl lf_Rd_12 q7 ?_
    obtain ⟨q8, hw⟩ := hw
    refine r_getI d_Rd_readColumn_18 ok_1 (nle rfl) (nle rfl) rfl lf_Rd_76 q8 ?_
    refine r_bipush d_Rd_readColumn_21 kb_8 ?_
    refine r_icmp_lt d_Rd_readColumn_23 (fun w9 => ?_) (fun w9 => ?_)
    · replace hw := hw.1 w9
      refine r_aload_n (j := 0) d_Rd_readColumn_28 rfl ?_
      refine r_getR d_Rd_readColumn_29 ok_8 (nle rfl) (nle rfl) rfl lf_Rd_12 q7 ?_
      refine r_getI d_Rd_readColumn_32 ok_1 (nle rfl) (nle rfl) rfl lf_Rd_76 q8 ?_
      refine r_istore_n (ls2 := [(1, ai (gI h4 (gR h4 v0 1) 2)), (0, ar v0)]) d_Rd_readColumn_35 (nle rfl) rfl ?_
      refine r_aload_n (j := 1) d_Rd_readColumn_36 rfl ?_
      refine r_getR d_Rd_readColumn_37 ok_8 (nle rfl) (nle rfl) rfl lf_Rd_18 q7 ?_
      refine r_iload_n (j := 0) d_Rd_readColumn_40 rfl ?_
      refine r_aload_n (j := 1) d_Rd_readColumn_41 rfl ?_
      refine r_getR d_Rd_readColumn_42 ok_8 (nle rfl) (nle rfl) rfl lf_Rd_29 q7 ?_
      obtain ⟨q9, hw⟩ := hw
      refine r_getI d_Rd_readColumn_45 ok_10 (nle rfl) (nle rfl) rfl lf_Rd_58 q9 ?_
      obtain ⟨q10, hw⟩ := hw
      obtain ⟨q11, hw⟩ := hw
      refine r_iast d_Rd_readColumn_48 q10 q11 ?_
      refine r_aload_n (j := 1) d_Rd_readColumn_49 rfl ?_
      refine r_getRb eRI d_Rd_readColumn_50 ok_8 (nle rfl) (nle rfl) rfl lf_Rd_22 (kt eKI q7) ?_
      refine r_iload_n (j := 0) d_Rd_readColumn_53 rfl ?_
      refine r_aload_n (j := 1) d_Rd_readColumn_54 rfl ?_
      refine r_getRb eRI d_Rd_readColumn_55 ok_8 (nle rfl) (nle rfl) rfl lf_Rd_29 (kt eKI q7) ?_
      refine r_getI d_Rd_readColumn_58 ok_10 (nle rfl) (nle rfl) rfl lf_Rd_118 (kt eKI q9) ?_
      obtain ⟨q12, hw⟩ := hw
      obtain ⟨q13, hw⟩ := hw
      refine r_iast d_Rd_readColumn_61 (kt eKI q12) (nt eNI q13) ?_
      refine r_aload_n (j := 1) d_Rd_readColumn_62 rfl ?_
      refine r_getRb (eRI.trans eRI) d_Rd_readColumn_63 ok_8 (nle rfl) (nle rfl) rfl lf_Rd_29 (kt (eKI.trans eKI) q7) ?_
      refine r_callV (av := []) (rest := []) (ci := 10) d_Rd_readColumn_66 mk_Tp_advance ll_Rd_92 im_Tp_advance se_Tp_advance rfl (nle rfl) rfl rfl (nle rfl) (kt (eKI.trans eKI) q9) (s_Tp_advance (by omega) hw (fun h14 hw => ?_))
      show aW none m_Rd_readColumn (d + 1) 69 [(1, ai (gI h4 (gR h4 v0 1) 2)), (0, ar v0)] [] h14 0 0 QQ
      refine r_iconst d_Rd_readColumn_69 kc_0 ?_
      refine r_istore_n (ls2 := [(2, ai (0 : Int32)), (1, ai (gI h4 (gR h4 v0 1) 2)), (0, ar v0)]) d_Rd_readColumn_70 (nle rfl) rfl ?_
      obtain ⟨n35, hw⟩ := hw
      refine r_pick (ls2 := [(0, ar v0), (1, ai (gI h4 (gR h4 v0 1) 2)), (2, ai (0 : Int32))]) [2, 1, 0] rfl ?_
      exact s_Rd_readColumn_L71 hd hQ  n35 _ _ hw
    · replace hw := hw.2 w9
      refine r_iconst d_Rd_readColumn_26 kc_0 ?_
      exact r_zreturn d_Rd_readColumn_27.1 rfl (Or.inl rfl) (hQ _ _ hw)
set_option maxRecDepth 100000 in
set_option maxHeartbeats 4000000 in
theorem s_Rd_readNeed_L14 {d : Nat} (hd : 4 ≤ d + 1) {Q : Bool → Hp → Prop} {QQ : Option AV → Hp → Prop} (hQ : ∀ r9 h9, Q r9 h9 → QQ (some (ai (b2i r9))) h9) {v0 : Nat} : ∀ (n : Nat) (v1 : Int32) (h : Hp), w_Rd_readNeed_L14 Q  v0 n v1 h → aW none m_Rd_readNeed (d + 1) 14 [(0, ar v0), (1, ai v1)] [] h 0 0 QQ := by
  intro n
  induction n with
  | zero => intro v1 h hw; exact hw.elim
  | succ n ih =>
    intro v1 h hw
    unfold w_Rd_readNeed_L14 at hw
    refine r_iload_n (j := 1) d_Rd_readNeed_14 rfl ?_
    refine r_aload_n (j := 0) d_Rd_readNeed_15 rfl ?_
    obtain ⟨q4, hw⟩ := hw
    refine r_getR d_Rd_readNeed_16 ok_8 (nle rfl) (nle rfl) rfl lf_Rd_12 q4 ?_
    obtain ⟨q5, hw⟩ := hw
    refine r_getI d_Rd_readNeed_19 ok_1 (nle rfl) (nle rfl) rfl lf_Rd_103 q5 ?_
    refine r_icmp_ge d_Rd_readNeed_22 (fun w9 => ?_) (fun w9 => ?_)
    · replace hw := hw.1 w9
      refine r_aload_n (j := 0) d_Rd_readNeed_46 rfl ?_
      refine r_callV (av := []) (rest := []) (ci := 8) d_Rd_readNeed_47 mk_Rd_endLine ll_Rd_105 im_Rd_endLine se_Rd_endLine rfl (nle rfl) rfl rfl (nle rfl) q4 (s_Rd_endLine (by omega) hw (fun r7 h6 hw => ?_))
      show aW none m_Rd_readNeed (d + 1) 50 [(0, ar v0), (1, ai v1)] [ai (b2i r7)] h6 0 0 QQ
      exact r_zreturn d_Rd_readNeed_50.1 rfl (b2i_B _) (hQ _ _ hw)
    · replace hw := hw.2 w9
      refine r_aload_n (j := 0) d_Rd_readNeed_25 rfl ?_
      refine r_bipush d_Rd_readNeed_26 kb_32 ?_
      refine r_iload_n (j := 1) d_Rd_readNeed_28 rfl ?_
      refine r_iadd d_Rd_readNeed_29 ?_
      refine r_bipush d_Rd_readNeed_30 kb_20 ?_
      refine r_callV (av := [ai ((32 : Int32) + v1), ai (20 : Int32)]) (rest := []) (ci := 8) d_Rd_readNeed_32 mk_Rd_readSigned ll_Rd_112 im_Rd_readSigned se_Rd_readSigned rfl (nle rfl) rfl rfl (nle rfl) q4 (s_Rd_readSigned (by omega) hw (fun r9 h8 hw => ?_))
      show aW none m_Rd_readNeed (d + 1) 35 [(0, ar v0), (1, ai v1)] [ai (b2i r9)] h8 0 0 QQ
      refine r_if_ne d_Rd_readNeed_35 (fun w9 => ?_) (fun w9 => ?_)
      · replace hw := hw.2 (fun g9 => w9 (b2i_0.mpr g9))
        refine r_iinc (j := 1) (ls2 := [(1, ai (v1 + (1 : Int32))), (0, ar v0)]) d_Rd_readNeed_40 rfl (congrArg (HAdd.hAdd v1) kc_1) (nle rfl) rfl ?_
        refine r_goto d_Rd_readNeed_43 ?_
        refine r_pick (ls2 := [(0, ar v0), (1, ai (v1 + (1 : Int32)))]) [1, 0] rfl ?_
        exact ih _ _ hw
      · replace hw := hw.1 (b2i_0.mp w9)
        refine r_iconst d_Rd_readNeed_38 kc_0 ?_
        exact r_zreturn d_Rd_readNeed_39.1 rfl (Or.inl rfl) (hQ _ _ hw)
set_option maxRecDepth 100000 in
set_option maxHeartbeats 4000000 in
theorem s_Rd_readNeed {d : Nat} (hd : 4 ≤ d) {v0 : Nat} {h : Hp} {Q : Bool → Hp → Prop} {QQ : Option AV → Hp → Prop} (hw : w_Rd_readNeed v0 h Q) (hQ : ∀ r9 h9, Q r9 h9 → QQ (some (ai (b2i r9))) h9) : aCall m_Rd_readNeed d [ar v0] h 0 0 QQ := by
  obtain ⟨d, rfl⟩ : ∃ d9, d = d9 + 1 := ⟨d - 1, by omega⟩
  refine aCall_in pl_Rd_readNeed (nle rfl) ?_
  show aW none m_Rd_readNeed (d + 1) 0 [(0, ar v0)] [] h 0 0 QQ
  unfold w_Rd_readNeed at hw
  refine r_aload_n (j := 0) d_Rd_readNeed_0 rfl ?_
  refine r_iconst d_Rd_readNeed_1 kc_1 ?_
  obtain ⟨q1, hw⟩ := hw
  refine r_putZ d_Rd_readNeed_2 ok_8 (nle rfl) (nle rfl) rfl lf_Rd_36 rfl q1 (Or.inr rfl) ?_
  refine r_aload_n (j := 0) d_Rd_readNeed_5 rfl ?_
  refine r_getRb eRI d_Rd_readNeed_6 ok_8 (nle rfl) (nle rfl) rfl lf_Rd_29 (kt eKI q1) ?_
  obtain ⟨q3, hw⟩ := hw
  refine r_callV (av := []) (rest := []) (ci := 10) d_Rd_readNeed_9 mk_Tp_advance ll_Rd_92 im_Tp_advance se_Tp_advance rfl (nle rfl) rfl rfl (nle rfl) (kt eKI q3) (s_Tp_advance (by omega) hw (fun h2 hw => ?_))
  show aW none m_Rd_readNeed (d + 1) 12 [(0, ar v0)] [] h2 0 0 QQ
  refine r_iconst d_Rd_readNeed_12 kc_0 ?_
  refine r_istore_n (ls2 := [(1, ai (0 : Int32)), (0, ar v0)]) d_Rd_readNeed_13 (nle rfl) rfl ?_
  obtain ⟨n10, hw⟩ := hw
  refine r_pick (ls2 := [(0, ar v0), (1, ai (0 : Int32))]) [1, 0] rfl ?_
  exact s_Rd_readNeed_L14 hd hQ  n10 _ _ hw
set_option maxRecDepth 100000 in
set_option maxHeartbeats 4000000 in
theorem s_Rd_readRows {d : Nat} (hd : 4 ≤ d) {v0 : Nat} {h : Hp} {Q : Bool → Hp → Prop} {QQ : Option AV → Hp → Prop} (hw : w_Rd_readRows v0 h Q) (hQ : ∀ r9 h9, Q r9 h9 → QQ (some (ai (b2i r9))) h9) : aCall m_Rd_readRows d [ar v0] h 0 0 QQ := by
  obtain ⟨d, rfl⟩ : ∃ d9, d = d9 + 1 := ⟨d - 1, by omega⟩
  refine aCall_in pl_Rd_readRows (nle rfl) ?_
  show aW none m_Rd_readRows (d + 1) 0 [(0, ar v0)] [] h 0 0 QQ
  unfold w_Rd_readRows at hw
  refine r_aload_n (j := 0) d_Rd_readRows_0 rfl ?_
  obtain ⟨q1, hw⟩ := hw
  refine r_getR d_Rd_readRows_1 ok_8 (nle rfl) (nle rfl) rfl lf_Rd_29 q1 ?_
  obtain ⟨q3, hw⟩ := hw
  refine r_callV (av := []) (rest := []) (ci := 10) d_Rd_readRows_4 mk_Tp_advance ll_Rd_92 im_Tp_advance se_Tp_advance rfl (nle rfl) rfl rfl (nle rfl) q3 (s_Tp_advance (by omega) hw (fun h2 hw => ?_))
  show aW none m_Rd_readRows (d + 1) 7 [(0, ar v0)] [] h2 0 0 QQ
  refine r_aload_n (j := 0) d_Rd_readRows_7 rfl ?_
  refine r_iconst d_Rd_readRows_8 kc_1 ?_
  refine r_iconst d_Rd_readRows_9 kc_3 ?_
  obtain ⟨q6, hw⟩ := hw
  refine r_callV (av := [ai (1 : Int32), ai (3 : Int32)]) (rest := []) (ci := 8) d_Rd_readRows_10 mk_Rd_isNumber ll_Rd_95 im_Rd_isNumber se_Rd_isNumber rfl (nle rfl) rfl rfl (nle rfl) q6 (s_Rd_isNumber (by omega) hw (fun r5 h4 hw => ?_))
  show aW none m_Rd_readRows (d + 1) 13 [(0, ar v0)] [ai (b2i r5)] h4 0 0 QQ
  refine r_if_ne d_Rd_readRows_13 (fun w9 => ?_) (fun w9 => ?_)
  · replace hw := hw.2 (fun g9 => w9 (b2i_0.mpr g9))
    refine r_aload_n (j := 0) d_Rd_readRows_18 rfl ?_
    obtain ⟨q7, hw⟩ := hw
    refine r_getR d_Rd_readRows_19 ok_8 (nle rfl) (nle rfl) rfl lf_Rd_12 q7 ?_
    refine r_aload_n (j := 0) d_Rd_readRows_22 rfl ?_
    refine r_getR d_Rd_readRows_23 ok_8 (nle rfl) (nle rfl) rfl lf_Rd_29 q7 ?_
    obtain ⟨q10, hw⟩ := hw
    refine r_callV (av := []) (rest := [ar (gR h4 v0 1)]) (ci := 10) d_Rd_readRows_26 mk_Tp_value ll_Rd_99 im_Tp_value se_Tp_value rfl (nle rfl) rfl rfl (nle rfl) q10 (s_Tp_value  hw (fun r9 h8 hw => ?_))
    show aW none m_Rd_readRows (d + 1) 29 [(0, ar v0)] [ai r9, ar (gR h4 v0 1)] h8 0 0 QQ
    obtain ⟨q11, hw⟩ := hw
    refine r_putI d_Rd_readRows_29 ok_1 (nle rfl) (nle rfl) rfl lf_Rd_103 rfl q11 ?_
    refine r_aload_n (j := 0) d_Rd_readRows_32 rfl ?_
    obtain ⟨q12, hw⟩ := hw
    refine r_getRb eRI d_Rd_readRows_33 ok_8 (nle rfl) (nle rfl) rfl lf_Rd_29 (kt eKI q12) ?_
    obtain ⟨q14, hw⟩ := hw
    refine r_callV (av := []) (rest := []) (ci := 10) d_Rd_readRows_36 mk_Tp_advance ll_Rd_92 im_Tp_advance se_Tp_advance rfl (nle rfl) rfl rfl (nle rfl) (kt eKI q14) (s_Tp_advance (by omega) hw (fun h13 hw => ?_))
    show aW none m_Rd_readRows (d + 1) 39 [(0, ar v0)] [] h13 0 0 QQ
    refine r_aload_n (j := 0) d_Rd_readRows_39 rfl ?_
    obtain ⟨q17, hw⟩ := hw
    refine r_callV (av := []) (rest := []) (ci := 8) d_Rd_readRows_40 mk_Rd_endLine ll_Rd_105 im_Rd_endLine se_Rd_endLine rfl (nle rfl) rfl rfl (nle rfl) q17 (s_Rd_endLine (by omega) hw (fun r16 h15 hw => ?_))
    show aW none m_Rd_readRows (d + 1) 43 [(0, ar v0)] [ai (b2i r16)] h15 0 0 QQ
    exact r_zreturn d_Rd_readRows_43.1 rfl (b2i_B _) (hQ _ _ hw)
  · replace hw := hw.1 (b2i_0.mp w9)
    refine r_iconst d_Rd_readRows_16 kc_0 ?_
    exact r_zreturn d_Rd_readRows_17.1 rfl (Or.inl rfl) (hQ _ _ hw)
set_option maxRecDepth 100000 in
set_option maxHeartbeats 4000000 in
theorem s_Rd_readSteps {d : Nat} (hd : 4 ≤ d) {v0 : Nat} {h : Hp} {Q : Bool → Hp → Prop} {QQ : Option AV → Hp → Prop} (hw : w_Rd_readSteps v0 h Q) (hQ : ∀ r9 h9, Q r9 h9 → QQ (some (ai (b2i r9))) h9) : aCall m_Rd_readSteps d [ar v0] h 0 0 QQ := by
  obtain ⟨d, rfl⟩ : ∃ d9, d = d9 + 1 := ⟨d - 1, by omega⟩
  refine aCall_in pl_Rd_readSteps (nle rfl) ?_
  show aW none m_Rd_readSteps (d + 1) 0 [(0, ar v0)] [] h 0 0 QQ
  unfold w_Rd_readSteps at hw
  refine r_aload_n (j := 0) d_Rd_readSteps_0 rfl ?_
  refine r_iconst d_Rd_readSteps_1 kc_1 ?_
  obtain ⟨q1, hw⟩ := hw
  refine r_putZ d_Rd_readSteps_2 ok_8 (nle rfl) (nle rfl) rfl lf_Rd_40 rfl q1 (Or.inr rfl) ?_
  refine r_aload_n (j := 0) d_Rd_readSteps_5 rfl ?_
  refine r_getRb eRI d_Rd_readSteps_6 ok_8 (nle rfl) (nle rfl) rfl lf_Rd_29 (kt eKI q1) ?_
  obtain ⟨q3, hw⟩ := hw
  refine r_callV (av := []) (rest := []) (ci := 10) d_Rd_readSteps_9 mk_Tp_advance ll_Rd_92 im_Tp_advance se_Tp_advance rfl (nle rfl) rfl rfl (nle rfl) (kt eKI q3) (s_Tp_advance (by omega) hw (fun h2 hw => ?_))
  show aW none m_Rd_readSteps (d + 1) 12 [(0, ar v0)] [] h2 0 0 QQ
  refine r_aload_n (j := 0) d_Rd_readSteps_12 rfl ?_
  refine r_iconst d_Rd_readSteps_13 kc_1 ?_
  refine r_bipush d_Rd_readSteps_14 kb_12 ?_
  obtain ⟨q6, hw⟩ := hw
  refine r_callV (av := [ai (1 : Int32), ai (12 : Int32)]) (rest := []) (ci := 8) d_Rd_readSteps_16 mk_Rd_isNumber ll_Rd_95 im_Rd_isNumber se_Rd_isNumber rfl (nle rfl) rfl rfl (nle rfl) q6 (s_Rd_isNumber (by omega) hw (fun r5 h4 hw => ?_))
  show aW none m_Rd_readSteps (d + 1) 19 [(0, ar v0)] [ai (b2i r5)] h4 0 0 QQ
  refine r_if_ne d_Rd_readSteps_19 (fun w9 => ?_) (fun w9 => ?_)
  · replace hw := hw.2 (fun g9 => w9 (b2i_0.mpr g9))
    refine r_aload_n (j := 0) d_Rd_readSteps_24 rfl ?_
    obtain ⟨q7, hw⟩ := hw
    refine r_getR d_Rd_readSteps_25 ok_8 (nle rfl) (nle rfl) rfl lf_Rd_12 q7 ?_
    refine r_bipush d_Rd_readSteps_28 kb_35 ?_
    refine r_aload_n (j := 0) d_Rd_readSteps_30 rfl ?_
    refine r_getR d_Rd_readSteps_31 ok_8 (nle rfl) (nle rfl) rfl lf_Rd_29 q7 ?_
    obtain ⟨q10, hw⟩ := hw
    refine r_callV (av := []) (rest := [ai (35 : Int32), ar (gR h4 v0 1)]) (ci := 10) d_Rd_readSteps_34 mk_Tp_value ll_Rd_99 im_Tp_value se_Tp_value rfl (nle rfl) rfl rfl (nle rfl) q10 (s_Tp_value  hw (fun r9 h8 hw => ?_))
    show aW none m_Rd_readSteps (d + 1) 37 [(0, ar v0)] [ai r9, ai (35 : Int32), ar (gR h4 v0 1)] h8 0 0 QQ
    obtain ⟨q12, hw⟩ := hw
    refine r_callV (av := [ai (35 : Int32), ai r9]) (rest := []) (ci := 1) d_Rd_readSteps_37 mk_Co_put ll_Rd_108 im_Co_put se_Co_put rfl (nle rfl) rfl rfl (nle rfl) q12 (s_Co_put  hw (fun h11 hw => ?_))
    show aW none m_Rd_readSteps (d + 1) 40 [(0, ar v0)] [] h11 0 0 QQ
    refine r_aload_n (j := 0) d_Rd_readSteps_40 rfl ?_
    obtain ⟨q13, hw⟩ := hw
    refine r_getR d_Rd_readSteps_41 ok_8 (nle rfl) (nle rfl) rfl lf_Rd_29 q13 ?_
    obtain ⟨q15, hw⟩ := hw
    refine r_callV (av := []) (rest := []) (ci := 10) d_Rd_readSteps_44 mk_Tp_advance ll_Rd_92 im_Tp_advance se_Tp_advance rfl (nle rfl) rfl rfl (nle rfl) q15 (s_Tp_advance (by omega) hw (fun h14 hw => ?_))
    show aW none m_Rd_readSteps (d + 1) 47 [(0, ar v0)] [] h14 0 0 QQ
    refine r_aload_n (j := 0) d_Rd_readSteps_47 rfl ?_
    obtain ⟨q18, hw⟩ := hw
    refine r_callV (av := []) (rest := []) (ci := 8) d_Rd_readSteps_48 mk_Rd_endLine ll_Rd_105 im_Rd_endLine se_Rd_endLine rfl (nle rfl) rfl rfl (nle rfl) q18 (s_Rd_endLine (by omega) hw (fun r17 h16 hw => ?_))
    show aW none m_Rd_readSteps (d + 1) 51 [(0, ar v0)] [ai (b2i r17)] h16 0 0 QQ
    exact r_zreturn d_Rd_readSteps_51.1 rfl (b2i_B _) (hQ _ _ hw)
  · replace hw := hw.1 (b2i_0.mp w9)
    refine r_iconst d_Rd_readSteps_22 kc_0 ?_
    exact r_zreturn d_Rd_readSteps_23.1 rfl (Or.inl rfl) (hQ _ _ hw)
set_option maxRecDepth 100000 in
set_option maxHeartbeats 4000000 in
theorem s_Rd_readLine {d : Nat} (hd : 8 ≤ d) {v0 : Nat} {v1 : Int32} {h : Hp} {Q : Bool → Hp → Prop} {QQ : Option AV → Hp → Prop} (hw : w_Rd_readLine v0 v1 h Q) (hQ : ∀ r9 h9, Q r9 h9 → QQ (some (ai (b2i r9))) h9) : aCall m_Rd_readLine d [ar v0, ai v1] h 0 0 QQ := by
  obtain ⟨d, rfl⟩ : ∃ d9, d = d9 + 1 := ⟨d - 1, by omega⟩
  refine aCall_in pl_Rd_readLine (nle rfl) ?_
  show aW none m_Rd_readLine (d + 1) 0 [(0, ar v0), (1, ai v1)] [] h 0 0 QQ
  unfold w_Rd_readLine at hw
  refine r_aload_n (j := 0) d_Rd_readLine_0 rfl ?_
  obtain ⟨q1, hw⟩ := hw
  refine r_getR d_Rd_readLine_1 ok_8 (nle rfl) (nle rfl) rfl lf_Rd_29 q1 ?_
  refine r_ldcS (i := 0) (nle rfl) d_Rd_readLine_4 rfl ?_
  obtain ⟨q4, hw⟩ := hw
  refine r_callV (av := [ar (2 + 0)]) (rest := []) (ci := 10) d_Rd_readLine_6 mk_Tp_isWord ll_Rd_63 im_Tp_isWord se_Tp_isWord rfl (nle rfl) rfl rfl (nle rfl) q4 (s_Tp_isWord (by omega) hw (fun r3 h2 hw => ?_))
  show aW none m_Rd_readLine (d + 1) 9 [(0, ar v0), (1, ai v1)] [ai (b2i r3)] h2 0 0 QQ
  refine r_if_eq d_Rd_readLine_9 (fun w9 => ?_) (fun w9 => ?_)
  · replace hw := hw.1 (b2i_0.mp w9)
    refine r_aload_n (j := 0) d_Rd_readLine_29 rfl ?_
    obtain ⟨q5, hw⟩ := hw
    refine r_getR d_Rd_readLine_30 ok_8 (nle rfl) (nle rfl) rfl lf_Rd_29 q5 ?_
    refine r_ldcS (i := 1) (nle rfl) d_Rd_readLine_33 rfl ?_
    obtain ⟨q8, hw⟩ := hw
    refine r_callV (av := [ar (2 + 1)]) (rest := []) (ci := 10) d_Rd_readLine_35 mk_Tp_isWord ll_Rd_63 im_Tp_isWord se_Tp_isWord rfl (nle rfl) rfl rfl (nle rfl) q8 (s_Tp_isWord (by omega) hw (fun r7 h6 hw => ?_))
    show aW none m_Rd_readLine (d + 1) 38 [(0, ar v0), (1, ai v1)] [ai (b2i r7)] h6 0 0 QQ
    refine r_if_eq d_Rd_readLine_38 (fun w9 => ?_) (fun w9 => ?_)
    · replace hw := hw.1 (b2i_0.mp w9)
      refine r_aload_n (j := 0) d_Rd_readLine_66 rfl ?_
      obtain ⟨q9, hw⟩ := hw
      refine r_getR d_Rd_readLine_67 ok_8 (nle rfl) (nle rfl) rfl lf_Rd_29 q9 ?_
      refine r_ldcS (i := 3) (nle rfl) d_Rd_readLine_70 rfl ?_
      obtain ⟨q12, hw⟩ := hw
      refine r_callV (av := [ar (2 + 3)]) (rest := []) (ci := 10) d_Rd_readLine_72 mk_Tp_isWord ll_Rd_63 im_Tp_isWord se_Tp_isWord rfl (nle rfl) rfl rfl (nle rfl) q12 (s_Tp_isWord (by omega) hw (fun r11 h10 hw => ?_))
      show aW none m_Rd_readLine (d + 1) 75 [(0, ar v0), (1, ai v1)] [ai (b2i r11)] h10 0 0 QQ
      refine r_if_eq d_Rd_readLine_75 (fun w9 => ?_) (fun w9 => ?_)
      · replace hw := hw.1 (b2i_0.mp w9)
        refine r_aload_n (j := 0) d_Rd_readLine_98 rfl ?_
        obtain ⟨q13, hw⟩ := hw
        refine r_getR d_Rd_readLine_99 ok_8 (nle rfl) (nle rfl) rfl lf_Rd_29 q13 ?_
        refine r_ldcS (i := 4) (nle rfl) d_Rd_readLine_102 rfl ?_
        obtain ⟨q16, hw⟩ := hw
        refine r_callV (av := [ar (2 + 4)]) (rest := []) (ci := 10) d_Rd_readLine_104 mk_Tp_isWord ll_Rd_63 im_Tp_isWord se_Tp_isWord rfl (nle rfl) rfl rfl (nle rfl) q16 (s_Tp_isWord (by omega) hw (fun r15 h14 hw => ?_))
        show aW none m_Rd_readLine (d + 1) 107 [(0, ar v0), (1, ai v1)] [ai (b2i r15)] h14 0 0 QQ
        refine r_if_eq d_Rd_readLine_107 (fun w9 => ?_) (fun w9 => ?_)
        · replace hw := hw.1 (b2i_0.mp w9)
          refine r_aload_n (j := 0) d_Rd_readLine_130 rfl ?_
          refine r_iconst d_Rd_readLine_131 kc_2 ?_
          obtain ⟨q19, hw⟩ := hw
          refine r_callV (av := [ai (2 : Int32)]) (rest := []) (ci := 8) d_Rd_readLine_132 mk_Rd_fail ll_Rd_71 im_Rd_fail se_Rd_fail rfl (nle rfl) rfl rfl (nle rfl) q19 (s_Rd_fail  hw (fun r18 h17 hw => ?_))
          show aW none m_Rd_readLine (d + 1) 135 [(0, ar v0), (1, ai v1)] [ai (b2i r18)] h17 0 0 QQ
          exact r_zreturn d_Rd_readLine_135.1 rfl (b2i_B _) (hQ _ _ hw)
        · replace hw := hw.2 (fun g9 => w9 (b2i_0.mpr g9))
          refine r_aload_n (j := 0) d_Rd_readLine_110 rfl ?_
          obtain ⟨q20, hw⟩ := hw
          refine r_getI d_Rd_readLine_111 ok_8 (nle rfl) (nle rfl) rfl lf_Rd_40 q20 ?_
          refine r_if_eq d_Rd_readLine_114 (fun w9 => ?_) (fun w9 => ?_)
          · replace hw := hw.1 w9
            refine r_aload_n (j := 0) d_Rd_readLine_125 rfl ?_
            refine r_callV (av := []) (rest := []) (ci := 8) d_Rd_readLine_126 mk_Rd_readSteps ll_Rd_89 im_Rd_readSteps se_Rd_readSteps rfl (nle rfl) rfl rfl (nle rfl) q20 (s_Rd_readSteps (by omega) hw (fun r22 h21 hw => ?_))
            show aW none m_Rd_readLine (d + 1) 129 [(0, ar v0), (1, ai v1)] [ai (b2i r22)] h21 0 0 QQ
            exact r_zreturn d_Rd_readLine_129.1 rfl (b2i_B _) (hQ _ _ hw)
          · replace hw := hw.2 w9
            refine r_aload_n (j := 0) d_Rd_readLine_117 rfl ?_
            refine r_iconst d_Rd_readLine_118 kc_3 ?_
            refine r_callV (av := [ai (3 : Int32)]) (rest := []) (ci := 8) d_Rd_readLine_119 mk_Rd_fail ll_Rd_71 im_Rd_fail se_Rd_fail rfl (nle rfl) rfl rfl (nle rfl) q20 (s_Rd_fail  hw (fun r24 h23 hw => ?_))
            show aW none m_Rd_readLine (d + 1) 122 [(0, ar v0), (1, ai v1)] [ai (b2i r24)] h23 0 0 QQ
            refine r_goto d_Rd_readLine_122 ?_
            exact r_zreturn d_Rd_readLine_129.1 rfl (b2i_B _) (hQ _ _ hw)
      · replace hw := hw.2 (fun g9 => w9 (b2i_0.mpr g9))
        refine r_aload_n (j := 0) d_Rd_readLine_78 rfl ?_
        obtain ⟨q25, hw⟩ := hw
        refine r_getI d_Rd_readLine_79 ok_8 (nle rfl) (nle rfl) rfl lf_Rd_36 q25 ?_
        refine r_if_eq d_Rd_readLine_82 (fun w9 => ?_) (fun w9 => ?_)
        · replace hw := hw.1 w9
          refine r_aload_n (j := 0) d_Rd_readLine_93 rfl ?_
          refine r_callV (av := []) (rest := []) (ci := 8) d_Rd_readLine_94 mk_Rd_readNeed ll_Rd_84 im_Rd_readNeed se_Rd_readNeed rfl (nle rfl) rfl rfl (nle rfl) q25 (s_Rd_readNeed (by omega) hw (fun r27 h26 hw => ?_))
          show aW none m_Rd_readLine (d + 1) 97 [(0, ar v0), (1, ai v1)] [ai (b2i r27)] h26 0 0 QQ
          exact r_zreturn d_Rd_readLine_97.1 rfl (b2i_B _) (hQ _ _ hw)
        · replace hw := hw.2 w9
          refine r_aload_n (j := 0) d_Rd_readLine_85 rfl ?_
          refine r_iconst d_Rd_readLine_86 kc_3 ?_
          refine r_callV (av := [ai (3 : Int32)]) (rest := []) (ci := 8) d_Rd_readLine_87 mk_Rd_fail ll_Rd_71 im_Rd_fail se_Rd_fail rfl (nle rfl) rfl rfl (nle rfl) q25 (s_Rd_fail  hw (fun r29 h28 hw => ?_))
          show aW none m_Rd_readLine (d + 1) 90 [(0, ar v0), (1, ai v1)] [ai (b2i r29)] h28 0 0 QQ
          refine r_goto d_Rd_readLine_90 ?_
          exact r_zreturn d_Rd_readLine_97.1 rfl (b2i_B _) (hQ _ _ hw)
    · replace hw := hw.2 (fun g9 => w9 (b2i_0.mpr g9))
      refine r_aload_n (j := 0) d_Rd_readLine_41 rfl ?_
      obtain ⟨q30, hw⟩ := hw
      refine r_getR d_Rd_readLine_42 ok_8 (nle rfl) (nle rfl) rfl lf_Rd_12 q30 ?_
      obtain ⟨q31, hw⟩ := hw
      refine r_getI d_Rd_readLine_45 ok_1 (nle rfl) (nle rfl) rfl lf_Rd_76 q31 ?_
      refine r_bipush d_Rd_readLine_48 kb_8 ?_
      refine r_icmp_ge d_Rd_readLine_50 (fun w9 => ?_) (fun w9 => ?_)
      · replace hw := hw.1 w9
        refine r_aload_n (j := 0) d_Rd_readLine_60 rfl ?_
        refine r_iconst d_Rd_readLine_61 kc_2 ?_
        refine r_callV (av := [ai (2 : Int32)]) (rest := []) (ci := 8) d_Rd_readLine_62 mk_Rd_fail ll_Rd_71 im_Rd_fail se_Rd_fail rfl (nle rfl) rfl rfl (nle rfl) q30 (s_Rd_fail  hw (fun r33 h32 hw => ?_))
        show aW none m_Rd_readLine (d + 1) 65 [(0, ar v0), (1, ai v1)] [ai (b2i r33)] h32 0 0 QQ
        exact r_zreturn d_Rd_readLine_65.1 rfl (b2i_B _) (hQ _ _ hw)
      · replace hw := hw.2 w9
        refine r_aload_n (j := 0) d_Rd_readLine_53 rfl ?_
        refine r_callV (av := []) (rest := []) (ci := 8) d_Rd_readLine_54 mk_Rd_readColumn ll_Rd_79 im_Rd_readColumn se_Rd_readColumn rfl (nle rfl) rfl rfl (nle rfl) q30 (s_Rd_readColumn (by omega) hw (fun r35 h34 hw => ?_))
        show aW none m_Rd_readLine (d + 1) 57 [(0, ar v0), (1, ai v1)] [ai (b2i r35)] h34 0 0 QQ
        refine r_goto d_Rd_readLine_57 ?_
        exact r_zreturn d_Rd_readLine_65.1 rfl (b2i_B _) (hQ _ _ hw)
  · replace hw := hw.2 (fun g9 => w9 (b2i_0.mpr g9))
    refine r_iload_n (j := 1) d_Rd_readLine_12 rfl ?_
    refine r_if_ne d_Rd_readLine_13 (fun w9 => ?_) (fun w9 => ?_)
    · replace hw := hw.2 w9
      refine r_aload_n (j := 0) d_Rd_readLine_23 rfl ?_
      refine r_iconst d_Rd_readLine_24 kc_2 ?_
      obtain ⟨q38, hw⟩ := hw
      refine r_callV (av := [ai (2 : Int32)]) (rest := []) (ci := 8) d_Rd_readLine_25 mk_Rd_fail ll_Rd_71 im_Rd_fail se_Rd_fail rfl (nle rfl) rfl rfl (nle rfl) q38 (s_Rd_fail  hw (fun r37 h36 hw => ?_))
      show aW none m_Rd_readLine (d + 1) 28 [(0, ar v0), (1, ai v1)] [ai (b2i r37)] h36 0 0 QQ
      exact r_zreturn d_Rd_readLine_28.1 rfl (b2i_B _) (hQ _ _ hw)
    · replace hw := hw.1 w9
      refine r_aload_n (j := 0) d_Rd_readLine_16 rfl ?_
      obtain ⟨q41, hw⟩ := hw
      refine r_callV (av := []) (rest := []) (ci := 8) d_Rd_readLine_17 mk_Rd_readRows ll_Rd_67 im_Rd_readRows se_Rd_readRows rfl (nle rfl) rfl rfl (nle rfl) q41 (s_Rd_readRows (by omega) hw (fun r40 h39 hw => ?_))
      show aW none m_Rd_readLine (d + 1) 20 [(0, ar v0), (1, ai v1)] [ai (b2i r40)] h39 0 0 QQ
      refine r_goto d_Rd_readLine_20 ?_
      exact r_zreturn d_Rd_readLine_28.1 rfl (b2i_B _) (hQ _ _ hw)
set_option maxRecDepth 100000 in
set_option maxHeartbeats 4000000 in
theorem s_Tp_rewind {d : Nat} (hd : 3 ≤ d) {v0 : Nat} {h : Hp} {Q : Hp → Prop} {QQ : Option AV → Hp → Prop} (hw : w_Tp_rewind v0 h Q) (hQ : ∀ h9, Q h9 → QQ none h9) : aCall m_Tp_rewind d [ar v0] h 0 0 QQ := by
  obtain ⟨d, rfl⟩ : ∃ d9, d = d9 + 1 := ⟨d - 1, by omega⟩
  refine aCall_in pl_Tp_rewind (nle rfl) ?_
  show aW none m_Tp_rewind (d + 1) 0 [(0, ar v0)] [] h 0 0 QQ
  unfold w_Tp_rewind at hw
  refine r_aload_n (j := 0) d_Tp_rewind_0 rfl ?_
  refine r_iconst d_Tp_rewind_1 kc_0 ?_
  obtain ⟨q1, hw⟩ := hw
  refine r_putI d_Tp_rewind_2 ok_10 (nle rfl) (nle rfl) rfl lf_Tp_19 rfl q1 ?_
  refine r_aload_n (j := 0) d_Tp_rewind_5 rfl ?_
  refine r_callV (av := []) (rest := []) (ci := 10) d_Tp_rewind_6 mk_Tp_advance ll_Tp_22 im_Tp_advance se_Tp_advance rfl (nle rfl) rfl rfl (nle rfl) (kt eKI q1) (s_Tp_advance (by omega) hw (fun h2 hw => ?_))
  show aW none m_Tp_rewind (d + 1) 9 [(0, ar v0)] [] h2 0 0 QQ
  exact r_return d_Tp_rewind_9.1 rfl (hQ _ hw)
set_option maxRecDepth 100000 in
set_option maxHeartbeats 4000000 in
theorem s_Rd_read_L36 {d : Nat} (hd : 9 ≤ d + 1) {Q : Bool → Hp → Prop} {QQ : Option AV → Hp → Prop} (hQ : ∀ r9 h9, Q r9 h9 → QQ (some (ai (b2i r9))) h9) {v0 : Nat} : ∀ (n : Nat) (v1 : Int32) (h : Hp), w_Rd_read_L36 Q  v0 n v1 h → aW none m_Rd_read (d + 1) 36 [(0, ar v0), (1, ai v1)] [] h 0 0 QQ := by
  intro n
  induction n with
  | zero => intro v1 h hw; exact hw.elim
  | succ n ih =>
    intro v1 h hw
    unfold w_Rd_read_L36 at hw
    refine r_iload_n (j := 1) d_Rd_read_36 rfl ?_
    refine r_sipush d_Rd_read_37 ks_700 ?_
    refine r_icmp_ge d_Rd_read_40 (fun w9 => ?_) (fun w9 => ?_)
    · replace hw := hw.1 w9
      refine r_iconst d_Rd_read_69 kc_1 ?_
      exact r_zreturn d_Rd_read_70.1 rfl (Or.inr rfl) (hQ _ _ hw)
    · replace hw := hw.2 w9
      refine r_aload_n (j := 0) d_Rd_read_43 rfl ?_
      obtain ⟨q7, hw⟩ := hw
      refine r_getR d_Rd_read_44 ok_8 (nle rfl) (nle rfl) rfl lf_Rd_29 q7 ?_
      obtain ⟨q8, hw⟩ := hw
      refine r_getI d_Rd_read_47 ok_10 (nle rfl) (nle rfl) rfl lf_Rd_51 q8 ?_
      refine r_if_eq d_Rd_read_50 (fun w9 => ?_) (fun w9 => ?_)
      · replace hw := hw.1 w9
        refine r_iconst d_Rd_read_69 kc_1 ?_
        exact r_zreturn d_Rd_read_70.1 rfl (Or.inr rfl) (hQ _ _ hw)
      · replace hw := hw.2 w9
        refine r_aload_n (j := 0) d_Rd_read_53 rfl ?_
        refine r_iload_n (j := 1) d_Rd_read_54 rfl ?_
        refine r_callV (av := [ai v1]) (rest := []) (ci := 8) d_Rd_read_55 mk_Rd_readLine ll_Rd_54 im_Rd_readLine se_Rd_readLine rfl (nle rfl) rfl rfl (nle rfl) q7 (s_Rd_readLine (by omega) hw (fun r10 h9 hw => ?_))
        show aW none m_Rd_read (d + 1) 58 [(0, ar v0), (1, ai v1)] [ai (b2i r10)] h9 0 0 QQ
        refine r_if_ne d_Rd_read_58 (fun w9 => ?_) (fun w9 => ?_)
        · replace hw := hw.2 (fun g9 => w9 (b2i_0.mpr g9))
          refine r_iinc (j := 1) (ls2 := [(1, ai (v1 + (1 : Int32))), (0, ar v0)]) d_Rd_read_63 rfl (congrArg (HAdd.hAdd v1) kc_1) (nle rfl) rfl ?_
          refine r_goto d_Rd_read_66 ?_
          refine r_pick (ls2 := [(0, ar v0), (1, ai (v1 + (1 : Int32)))]) [1, 0] rfl ?_
          exact ih _ _ hw
        · replace hw := hw.1 (b2i_0.mp w9)
          refine r_iconst d_Rd_read_61 kc_0 ?_
          exact r_zreturn d_Rd_read_62.1 rfl (Or.inl rfl) (hQ _ _ hw)
set_option maxRecDepth 100000 in
set_option maxHeartbeats 4000000 in
theorem s_Rd_read {d : Nat} (hd : 9 ≤ d) {v0 : Nat} {h : Hp} {Q : Bool → Hp → Prop} {QQ : Option AV → Hp → Prop} (hw : w_Rd_read v0 h Q) (hQ : ∀ r9 h9, Q r9 h9 → QQ (some (ai (b2i r9))) h9) : aCall m_Rd_read d [ar v0] h 0 0 QQ := by
  obtain ⟨d, rfl⟩ : ∃ d9, d = d9 + 1 := ⟨d - 1, by omega⟩
  refine aCall_in pl_Rd_read (nle rfl) ?_
  show aW none m_Rd_read (d + 1) 0 [(0, ar v0)] [] h 0 0 QQ
  unfold w_Rd_read at hw
  refine r_aload_n (j := 0) d_Rd_read_0 rfl ?_
  obtain ⟨q1, hw⟩ := hw
  refine r_getR d_Rd_read_1 ok_8 (nle rfl) (nle rfl) rfl lf_Rd_12 q1 ?_
  obtain ⟨q3, hw⟩ := hw
  refine r_callV (av := []) (rest := []) (ci := 1) d_Rd_read_4 mk_Co_clear ll_Rd_33 im_Co_clear se_Co_clear rfl (nle rfl) rfl rfl (nle rfl) q3 (s_Co_clear (by omega) hw (fun h2 hw => ?_))
  show aW none m_Rd_read (d + 1) 7 [(0, ar v0)] [] h2 0 0 QQ
  refine r_aload_n (j := 0) d_Rd_read_7 rfl ?_
  refine r_iconst d_Rd_read_8 kc_0 ?_
  obtain ⟨q4, hw⟩ := hw
  refine r_putZ d_Rd_read_9 ok_8 (nle rfl) (nle rfl) rfl lf_Rd_36 rfl q4 (Or.inl rfl) ?_
  refine r_aload_n (j := 0) d_Rd_read_12 rfl ?_
  refine r_iconst d_Rd_read_13 kc_0 ?_
  refine r_putZ d_Rd_read_14 ok_8 (nle rfl) (nle rfl) rfl lf_Rd_40 rfl (kt eKI q4) (Or.inl rfl) ?_
  refine r_aload_n (j := 0) d_Rd_read_17 rfl ?_
  refine r_iconst d_Rd_read_18 kc_0 ?_
  refine r_putI d_Rd_read_19 ok_8 (nle rfl) (nle rfl) rfl lf_Rd_43 rfl (kt (eKI.trans eKI) q4) ?_
  refine r_aload_n (j := 0) d_Rd_read_22 rfl ?_
  refine r_iconst d_Rd_read_23 kc_m1 ?_
  refine r_putI d_Rd_read_24 ok_8 (nle rfl) (nle rfl) rfl lf_Rd_25 rfl (kt (eKI.trans (eKI.trans eKI)) q4) ?_
  refine r_aload_n (j := 0) d_Rd_read_27 rfl ?_
  refine r_getRb (eRI.trans (eRI.trans (eRI.trans eRI))) d_Rd_read_28 ok_8 (nle rfl) (nle rfl) rfl lf_Rd_29 (kt (eKI.trans (eKI.trans (eKI.trans eKI))) q4) ?_
  obtain ⟨q6, hw⟩ := hw
  refine r_callV (av := []) (rest := []) (ci := 10) d_Rd_read_31 mk_Tp_rewind ll_Rd_46 im_Tp_rewind se_Tp_rewind rfl (nle rfl) rfl rfl (nle rfl) (kt (eKI.trans (eKI.trans (eKI.trans eKI))) q6) (s_Tp_rewind (by omega) hw (fun h5 hw => ?_))
  show aW none m_Rd_read (d + 1) 34 [(0, ar v0)] [] h5 0 0 QQ
  refine r_iconst d_Rd_read_34 kc_0 ?_
  refine r_istore_n (ls2 := [(1, ai (0 : Int32)), (0, ar v0)]) d_Rd_read_35 (nle rfl) rfl ?_
  obtain ⟨n11, hw⟩ := hw
  refine r_pick (ls2 := [(0, ar v0), (1, ai (0 : Int32))]) [1, 0] rfl ?_
  exact s_Rd_read_L36 hd hQ  n11 _ _ hw
set_option maxRecDepth 100000 in
set_option maxHeartbeats 4000000 in
theorem s_St_init {d : Nat} (hd : 1 ≤ d) {v0 : Nat} {v1 : Nat} {bc bs : Nat} {h : Hp} {Q : Hp → Prop} {QQ : Option AV → Hp → Prop} (hw : w_St_init bc bs v0 v1 h Q) (hQ : ∀ h9, Q h9 → QQ none h9) : aCall m_St_init d [ar v0, ar v1] h bc bs QQ := by
  obtain ⟨d, rfl⟩ : ∃ d9, d = d9 + 1 := ⟨d - 1, by omega⟩
  refine aCall_in pl_St_init (nle rfl) ?_
  show aW none m_St_init (d + 1) 0 [(0, ar v0), (1, ar v1)] [] h bc bs QQ
  unfold w_St_init at hw
  refine r_aload_n (j := 0) d_St_init_0 rfl ?_
  obtain ⟨q1, hw⟩ := hw
  refine r_objInit d_St_init_1 ll_St_3 oi_1 oi_2 (nle rfl) q1 ?_
  refine r_aload_n (j := 0) d_St_init_4 rfl ?_
  refine r_bipush d_St_init_5 kb_39 ?_
  obtain ⟨q2, hw⟩ := hw
  obtain ⟨q3, hw⟩ := hw
  obtain ⟨b4, t5, u8, u9, u6, u7, hw⟩ := hw
  subst u8 u9
  refine r_newI d_St_init_7 ac_I u6 rfl u7 (refB_r q2 refB_n) (refL_r q2 (refL_r q3 refL_n)) ?_
  generalize e8 : nw h 20 (ix (39 : Int32)) = h6
  generalize e7 : gX h = a7
  replace hw := hw a7 h6 e7.symm e8.symm
  obtain ⟨q8, hw⟩ := hw
  obtain ⟨q9, hw⟩ := hw
  refine r_putFR d_St_init_9 ok_9 (nle rfl) (nle rfl) rfl lf_St_9 rfl rfl rfl q8 q9 ?_
  refine r_aload_n (j := 0) d_St_init_12 rfl ?_
  refine r_bipush d_St_init_13 kb_39 ?_
  obtain ⟨q10, hw⟩ := hw
  obtain ⟨q11, hw⟩ := hw
  obtain ⟨b12, t13, u8, u9, u6, u7, hw⟩ := hw
  subst u8 u9
  refine r_newI d_St_init_15 ac_I u6 rfl u7 (refB_r (xt eXR q10) refB_n) (refL_r (xt eXR q10) (refL_r (xt eXR q11) refL_n)) ?_
  generalize e8 : nw (sR h6 v0 1 a7) 20 (ix (39 : Int32)) = h14
  generalize e7 : gX (sR h6 v0 1 a7) = a15
  replace hw := hw a15 h14 e7.symm e8.symm
  obtain ⟨q16, hw⟩ := hw
  obtain ⟨q17, hw⟩ := hw
  refine r_putFR d_St_init_17 ok_9 (nle rfl) (nle rfl) rfl lf_St_15 rfl rfl rfl q16 q17 ?_
  refine r_aload_n (j := 0) d_St_init_20 rfl ?_
  refine r_iconst d_St_init_21 kc_3 ?_
  obtain ⟨q18, hw⟩ := hw
  obtain ⟨q19, hw⟩ := hw
  obtain ⟨b20, t21, u8, u9, u6, u7, hw⟩ := hw
  subst u8 u9
  refine r_newI d_St_init_22 ac_I u6 rfl u7 (refB_r (xt eXR q18) refB_n) (refL_r (xt eXR q18) (refL_r (xt eXR q19) refL_n)) ?_
  generalize e8 : nw (sR h14 v0 2 a15) 20 (ix (3 : Int32)) = h22
  generalize e7 : gX (sR h14 v0 2 a15) = a23
  replace hw := hw a23 h22 e7.symm e8.symm
  obtain ⟨q24, hw⟩ := hw
  obtain ⟨q25, hw⟩ := hw
  refine r_putFR d_St_init_24 ok_9 (nle rfl) (nle rfl) rfl lf_St_18 rfl rfl rfl q24 q25 ?_
  refine r_aload_n (j := 0) d_St_init_27 rfl ?_
  refine r_iconst d_St_init_28 kc_1 ?_
  refine r_putI d_St_init_29 ok_9 (nle rfl) (nle rfl) rfl lf_St_21 rfl (kt eKR q24) ?_
  refine r_aload_n (j := 0) d_St_init_32 rfl ?_
  refine r_iconst d_St_init_33 kc_1 ?_
  refine r_putI d_St_init_34 ok_9 (nle rfl) (nle rfl) rfl lf_St_25 rfl (kt (eKI.trans eKR) q24) ?_
  refine r_aload_n (j := 0) d_St_init_37 rfl ?_
  refine r_iconst d_St_init_38 kc_0 ?_
  obtain ⟨q26, hw⟩ := hw
  obtain ⟨q27, hw⟩ := hw
  obtain ⟨b28, t29, u8, u9, u6, u7, hw⟩ := hw
  subst u8 u9
  refine r_newL d_St_init_39 ac_J u6 rfl u7 (refB_r (xt (eXI.trans (eXI.trans eXR)) q26) refB_n) (refL_r (xt (eXI.trans (eXI.trans eXR)) q26) (refL_r (xt (eXI.trans (eXI.trans eXR)) q27) refL_n)) ?_
  generalize e8 : nw (sI (sI (sR h22 v0 3 a23) v0 4 (1 : Int32)) v0 5 (1 : Int32)) 21 (ix (0 : Int32)) = h30
  generalize e7 : gX (sI (sI (sR h22 v0 3 a23) v0 4 (1 : Int32)) v0 5 (1 : Int32)) = a31
  replace hw := hw a31 h30 e7.symm e8.symm
  obtain ⟨q32, hw⟩ := hw
  obtain ⟨q33, hw⟩ := hw
  refine r_putR d_St_init_41 ok_9 (nle rfl) (nle rfl) rfl lf_St_28 rfl q32 q33 ?_
  refine r_aload_n (j := 0) d_St_init_44 rfl ?_
  refine r_iconst d_St_init_45 kc_0 ?_
  obtain ⟨q34, hw⟩ := hw
  obtain ⟨q35, hw⟩ := hw
  obtain ⟨b36, t37, u8, u9, u6, u7, hw⟩ := hw
  subst u8 u9
  refine r_newI d_St_init_46 ac_I u6 rfl u7 (refB_r (xt eXR q34) refB_n) (refL_r (xt eXR q34) (refL_r (xt eXR q35) refL_n)) ?_
  generalize e8 : nw (sR h30 v0 7 a31) 20 (ix (0 : Int32)) = h38
  generalize e7 : gX (sR h30 v0 7 a31) = a39
  replace hw := hw a39 h38 e7.symm e8.symm
  obtain ⟨q40, hw⟩ := hw
  obtain ⟨q41, hw⟩ := hw
  refine r_putR d_St_init_48 ok_9 (nle rfl) (nle rfl) rfl lf_St_32 rfl q40 q41 ?_
  refine r_aload_n (j := 0) d_St_init_51 rfl ?_
  refine r_iconst d_St_init_52 kc_0 ?_
  obtain ⟨q42, hw⟩ := hw
  obtain ⟨q43, hw⟩ := hw
  obtain ⟨b44, t45, u8, u9, u6, u7, hw⟩ := hw
  subst u8 u9
  refine r_newI d_St_init_53 ac_I u6 rfl u7 (refB_r (xt eXR q42) refB_n) (refL_r (xt eXR q42) (refL_r (xt eXR q43) refL_n)) ?_
  generalize e8 : nw (sR h38 v0 8 a39) 20 (ix (0 : Int32)) = h46
  generalize e7 : gX (sR h38 v0 8 a39) = a47
  replace hw := hw a47 h46 e7.symm e8.symm
  obtain ⟨q48, hw⟩ := hw
  obtain ⟨q49, hw⟩ := hw
  refine r_putR d_St_init_55 ok_9 (nle rfl) (nle rfl) rfl lf_St_35 rfl q48 q49 ?_
  refine r_aload_n (j := 0) d_St_init_58 rfl ?_
  refine r_iconst d_St_init_59 kc_0 ?_
  obtain ⟨q50, hw⟩ := hw
  obtain ⟨q51, hw⟩ := hw
  obtain ⟨b52, t53, u8, u9, u6, u7, hw⟩ := hw
  subst u8 u9
  refine r_newL d_St_init_60 ac_J u6 rfl u7 (refB_r (xt eXR q50) refB_n) (refL_r (xt eXR q50) (refL_r (xt eXR q51) refL_n)) ?_
  generalize e8 : nw (sR h46 v0 9 a47) 21 (ix (0 : Int32)) = h54
  generalize e7 : gX (sR h46 v0 9 a47) = a55
  replace hw := hw a55 h54 e7.symm e8.symm
  obtain ⟨q56, hw⟩ := hw
  obtain ⟨q57, hw⟩ := hw
  refine r_putR d_St_init_62 ok_9 (nle rfl) (nle rfl) rfl lf_St_38 rfl q56 q57 ?_
  refine r_aload_n (j := 0) d_St_init_65 rfl ?_
  refine r_iconst d_St_init_66 kc_m1 ?_
  refine r_putI d_St_init_67 ok_9 (nle rfl) (nle rfl) rfl lf_St_41 rfl (kt eKR q56) ?_
  refine r_aload_n (j := 0) d_St_init_70 rfl ?_
  refine r_iconst d_St_init_71 kc_m1 ?_
  refine r_putI d_St_init_72 ok_9 (nle rfl) (nle rfl) rfl lf_St_44 rfl (kt (eKI.trans eKR) q56) ?_
  refine r_aload_n (j := 0) d_St_init_75 rfl ?_
  refine r_aload_n (j := 1) d_St_init_76 rfl ?_
  obtain ⟨q58, hw⟩ := hw
  refine r_putFR d_St_init_77 ok_9 (nle rfl) (nle rfl) rfl lf_St_47 rfl rfl rfl (kt (eKI.trans (eKI.trans eKR)) q56) (xt (eXI.trans (eXI.trans eXR)) q58) ?_
  exact r_return d_St_init_80.1 rfl (hQ _ hw)
set_option maxRecDepth 100000 in
set_option maxHeartbeats 4000000 in
theorem s_St_layer {d : Nat} {v0 : Int32} {h : Hp} {Q : Int32 → Hp → Prop} {QQ : Option AV → Hp → Prop} (hw : w_St_layer v0 h Q) (hQ : ∀ r9 h9, Q r9 h9 → QQ (some (ai r9)) h9) : aCall m_St_layer d [ai v0] h 0 0 QQ := by
  refine aCall_in pl_St_layer (nle rfl) ?_
  show aW none m_St_layer d 0 [(0, ai v0)] [] h 0 0 QQ
  unfold w_St_layer at hw
  refine r_iload_n (j := 0) d_St_layer_0 rfl ?_
  refine r_iconst d_St_layer_1 kc_1 ?_
  refine r_iand d_St_layer_2 ?_
  exact r_ireturn d_St_layer_3.1 rfl (hQ _ _ hw)
set_option maxRecDepth 100000 in
set_option maxHeartbeats 4000000 in
theorem s_St_clear_L13 {d : Nat} (hd : 1 ≤ d + 1) {Q : Hp → Prop} {QQ : Option AV → Hp → Prop} (hQ : ∀ h9, Q h9 → QQ none h9) {v0 : Nat} {v2 : Int32} {v3 : Int32} : ∀ (n : Nat) (v4 : Int32) (h : Hp), w_St_clear_L13 Q  v0 v2 v3 n v4 h → aW none m_St_clear (d + 1) 13 [(0, ar v0), (2, ai v2), (3, ai v3), (4, ai v4)] [] h 0 0 QQ := by
  intro n
  induction n with
  | zero => intro v4 h hw; exact hw.elim
  | succ n ih =>
    intro v4 h hw
    unfold w_St_clear_L13 at hw
    refine r_iload (j := 3) d_St_clear_13 rfl ?_
    refine r_iload_n (j := 1) d_St_clear_15 rfl ?_
    refine r_icmp_ge d_St_clear_16 (fun w9 => ?_) (fun w9 => ?_)
    · replace hw := hw.1 w9
      exact r_return d_St_clear_42.1 rfl (hQ _ hw)
    · replace hw := hw.2 w9
      refine r_aload_n (j := 0) d_St_clear_19 rfl ?_
      obtain ⟨q4, hw⟩ := hw
      refine r_getR d_St_clear_20 ok_9 (nle rfl) (nle rfl) rfl lf_St_28 q4 ?_
      refine r_iload_n (j := 2) d_St_clear_23 rfl ?_
      refine r_aload_n (j := 0) d_St_clear_24 rfl ?_
      refine r_getR d_St_clear_25 ok_9 (nle rfl) (nle rfl) rfl lf_St_35 q4 ?_
      refine r_iload_n (j := 2) d_St_clear_28 rfl ?_
      refine r_iload (j := 3) d_St_clear_29 rfl ?_
      refine r_iadd d_St_clear_31 ?_
      obtain ⟨q5, hw⟩ := hw
      obtain ⟨q6, hw⟩ := hw
      refine r_iald d_St_clear_32 q5 q6 ?_
      refine r_iadd d_St_clear_33 ?_
      refine r_lconst d_St_clear_34 kl_0 ?_
      obtain ⟨q7, hw⟩ := hw
      obtain ⟨q8, hw⟩ := hw
      refine r_last d_St_clear_35 q7 q8 ?_
      refine r_iinc (j := 3) (ls2 := [(4, ai (v4 + (1 : Int32))), (0, ar v0), (2, ai v2), (3, ai v3)]) d_St_clear_36 rfl (congrArg (HAdd.hAdd v4) kc_1) (nle rfl) rfl ?_
      refine r_goto d_St_clear_39 ?_
      refine r_pick (ls2 := [(0, ar v0), (2, ai v2), (3, ai v3), (4, ai (v4 + (1 : Int32)))]) [1, 2, 3, 0] rfl ?_
      exact ih _ _ hw
set_option maxRecDepth 100000 in
set_option maxHeartbeats 4000000 in
theorem s_St_clear {d : Nat} (hd : 1 ≤ d) {v0 : Nat} {v1 : Int32} {v2 : Int32} {h : Hp} {Q : Hp → Prop} {QQ : Option AV → Hp → Prop} (hw : w_St_clear v0 v1 v2 h Q) (hQ : ∀ h9, Q h9 → QQ none h9) : aCall m_St_clear d [ar v0, ai v1, ai v2] h 0 0 QQ := by
  obtain ⟨d, rfl⟩ : ∃ d9, d = d9 + 1 := ⟨d - 1, by omega⟩
  refine aCall_in pl_St_clear (nle rfl) ?_
  show aW none m_St_clear (d + 1) 0 [(0, ar v0), (1, ai v1), (2, ai v2)] [] h 0 0 QQ
  unfold w_St_clear at hw
  refine r_iload_n (j := 1) d_St_clear_0 rfl ?_
  refine r_callS (av := [ai v1]) (rest := []) d_St_clear_1 mk_St_layer ll_St_115 st_St_layer rfl rfl (nle rfl) (s_St_layer  hw (fun r2 h1 hw => ?_))
  show aW none m_St_clear (d + 1) 4 [(0, ar v0), (1, ai v1), (2, ai v2)] [ai r2] h1 0 0 QQ
  refine r_aload_n (j := 0) d_St_clear_4 rfl ?_
  obtain ⟨q3, hw⟩ := hw
  refine r_getI d_St_clear_5 ok_9 (nle rfl) (nle rfl) rfl lf_St_87 q3 ?_
  refine r_imul d_St_clear_8 ?_
  refine r_istore_n (ls2 := [(3, ai (r2 * (gI h1 v0 6))), (0, ar v0), (1, ai v1), (2, ai v2)]) d_St_clear_9 (nle rfl) rfl ?_
  refine r_iconst d_St_clear_10 kc_0 ?_
  refine r_istore (ls2 := [(4, ai (0 : Int32)), (3, ai (r2 * (gI h1 v0 6))), (0, ar v0), (1, ai v1), (2, ai v2)]) d_St_clear_11 (nle rfl) rfl ?_
  obtain ⟨n9, hw⟩ := hw
  refine r_pick (ls2 := [(0, ar v0), (2, ai v2), (3, ai (r2 * (gI h1 v0 6))), (4, ai (0 : Int32))]) [2, 4, 1, 0] rfl ?_
  exact s_St_clear_L13 hd hQ  n9 _ _ hw
set_option maxRecDepth 100000 in
set_option maxHeartbeats 4000000 in
theorem s_St_makeRoom_L5 {d : Nat} {Q : Hp → Prop} {QQ : Option AV → Hp → Prop} (hQ : ∀ h9, Q h9 → QQ none h9) {v0 : Nat} : ∀ (n : Nat) (v1 : Int32) (v2 : Int32) (bc : Nat) (bs : Nat) (h : Hp), w_St_makeRoom_L5 Q  v0 n v1 v2 bc bs h → aW none m_St_makeRoom d 5 [(0, ar v0), (1, ai v1), (2, ai v2)] [] h bc bs QQ := by
  intro n
  induction n with
  | zero => intro v1 v2 bc bs h hw; exact hw.elim
  | succ n ih =>
    intro v1 v2 bc bs h hw
    unfold w_St_makeRoom_L5 at hw
    refine r_iload_n (j := 2) d_St_makeRoom_5 rfl ?_
    refine r_aload_n (j := 0) d_St_makeRoom_6 rfl ?_
    obtain ⟨q1, hw⟩ := hw
    refine r_getR d_St_makeRoom_7 ok_9 (nle rfl) (nle rfl) rfl lf_St_47 q1 ?_
    obtain ⟨q2, hw⟩ := hw
    refine r_getI d_St_makeRoom_10 ok_1 (nle rfl) (nle rfl) rfl lf_St_84 q2 ?_
    refine r_icmp_ge d_St_makeRoom_13 (fun w9 => ?_) (fun w9 => ?_)
    · replace hw := hw.1 w9
      refine r_iload_n (j := 1) d_St_makeRoom_27 rfl ?_
      refine r_aload_n (j := 0) d_St_makeRoom_28 rfl ?_
      refine r_getI d_St_makeRoom_29 ok_9 (nle rfl) (nle rfl) rfl lf_St_87 q1 ?_
      refine r_icmp_le d_St_makeRoom_32 (fun w9 => ?_) (fun w9 => ?_)
      · replace hw := hw.1 w9
        exact r_return d_St_makeRoom_94.1 rfl (hQ _ hw)
      · replace hw := hw.2 w9
        refine r_aload_n (j := 0) d_St_makeRoom_35 rfl ?_
        refine r_iload_n (j := 1) d_St_makeRoom_36 rfl ?_
        refine r_putI d_St_makeRoom_37 ok_9 (nle rfl) (nle rfl) rfl lf_St_87 rfl q1 ?_
        refine r_aload_n (j := 0) d_St_makeRoom_40 rfl ?_
        refine r_iconst d_St_makeRoom_41 kc_2 ?_
        refine r_aload_n (j := 0) d_St_makeRoom_42 rfl ?_
        refine r_getI d_St_makeRoom_43 ok_9 (nle rfl) (nle rfl) rfl lf_St_87 (kt eKI q1) ?_
        refine r_imul d_St_makeRoom_46 ?_
        obtain ⟨q3, hw⟩ := hw
        obtain ⟨b4, t5, u8, u9, u6, u7, hw⟩ := hw
        subst u8 u9
        refine r_newL d_St_makeRoom_47 ac_J u6 rfl u7 (refB_r (xt eXI q3) refB_n) (refL_r (xt eXI q3) (refL_i (refL_i refL_n))) ?_
        generalize e8 : nw (sI h v0 6 v1) 21 (ix ((2 : Int32) * (gI (sI h v0 6 v1) v0 6))) = h6
        generalize e7 : gX (sI h v0 6 v1) = a7
        replace hw := hw a7 h6 e7.symm e8.symm
        obtain ⟨q8, hw⟩ := hw
        obtain ⟨q9, hw⟩ := hw
        refine r_putR d_St_makeRoom_49 ok_9 (nle rfl) (nle rfl) rfl lf_St_28 rfl q8 q9 ?_
        refine r_aload_n (j := 0) d_St_makeRoom_52 rfl ?_
        refine r_iconst d_St_makeRoom_53 kc_2 ?_
        refine r_aload_n (j := 0) d_St_makeRoom_54 rfl ?_
        refine r_getI d_St_makeRoom_55 ok_9 (nle rfl) (nle rfl) rfl lf_St_87 (kt eKR q8) ?_
        refine r_imul d_St_makeRoom_58 ?_
        obtain ⟨q10, hw⟩ := hw
        obtain ⟨b11, t12, u8, u9, u6, u7, hw⟩ := hw
        subst u8 u9
        refine r_newI d_St_makeRoom_59 ac_I u6 rfl u7 (refB_r (xt eXR q10) refB_n) (refL_r (xt eXR q10) (refL_i (refL_i refL_n))) ?_
        generalize e8 : nw (sR h6 v0 7 a7) 20 (ix ((2 : Int32) * (gI (sR h6 v0 7 a7) v0 6))) = h13
        generalize e7 : gX (sR h6 v0 7 a7) = a14
        replace hw := hw a14 h13 e7.symm e8.symm
        obtain ⟨q15, hw⟩ := hw
        obtain ⟨q16, hw⟩ := hw
        refine r_putR d_St_makeRoom_61 ok_9 (nle rfl) (nle rfl) rfl lf_St_32 rfl q15 q16 ?_
        refine r_aload_n (j := 0) d_St_makeRoom_64 rfl ?_
        refine r_iconst d_St_makeRoom_65 kc_2 ?_
        refine r_aload_n (j := 0) d_St_makeRoom_66 rfl ?_
        refine r_getI d_St_makeRoom_67 ok_9 (nle rfl) (nle rfl) rfl lf_St_87 (kt eKR q15) ?_
        refine r_imul d_St_makeRoom_70 ?_
        obtain ⟨q17, hw⟩ := hw
        obtain ⟨b18, t19, u8, u9, u6, u7, hw⟩ := hw
        subst u8 u9
        refine r_newI d_St_makeRoom_71 ac_I u6 rfl u7 (refB_r (xt eXR q17) refB_n) (refL_r (xt eXR q17) (refL_i (refL_i refL_n))) ?_
        generalize e8 : nw (sR h13 v0 8 a14) 20 (ix ((2 : Int32) * (gI (sR h13 v0 8 a14) v0 6))) = h20
        generalize e7 : gX (sR h13 v0 8 a14) = a21
        replace hw := hw a21 h20 e7.symm e8.symm
        obtain ⟨q22, hw⟩ := hw
        obtain ⟨q23, hw⟩ := hw
        refine r_putR d_St_makeRoom_73 ok_9 (nle rfl) (nle rfl) rfl lf_St_35 rfl q22 q23 ?_
        refine r_aload_n (j := 0) d_St_makeRoom_76 rfl ?_
        refine r_bipush d_St_makeRoom_77 kb_13 ?_
        refine r_aload_n (j := 0) d_St_makeRoom_79 rfl ?_
        refine r_getI d_St_makeRoom_80 ok_9 (nle rfl) (nle rfl) rfl lf_St_87 (kt eKR q22) ?_
        refine r_imul d_St_makeRoom_83 ?_
        refine r_bipush d_St_makeRoom_84 kb_16 ?_
        refine r_idiv d_St_makeRoom_86 (by decide) ?_
        refine r_iconst d_St_makeRoom_87 kc_1 ?_
        refine r_iadd d_St_makeRoom_88 ?_
        obtain ⟨q24, hw⟩ := hw
        obtain ⟨b25, t26, u8, u9, u6, u7, hw⟩ := hw
        subst u8 u9
        refine r_newL d_St_makeRoom_89 ac_J u6 rfl u7 (refB_r (xt eXR q24) refB_n) (refL_r (xt eXR q24) (refL_i (refL_i refL_n))) ?_
        generalize e8 : nw (sR h20 v0 9 a21) 21 (ix ((((13 : Int32) * (gI (sR h20 v0 9 a21) v0 6)) / (16 : Int32)) + (1 : Int32))) = h27
        generalize e7 : gX (sR h20 v0 9 a21) = a28
        replace hw := hw a28 h27 e7.symm e8.symm
        obtain ⟨q29, hw⟩ := hw
        obtain ⟨q30, hw⟩ := hw
        refine r_putR d_St_makeRoom_91 ok_9 (nle rfl) (nle rfl) rfl lf_St_38 rfl q29 q30 ?_
        exact r_return d_St_makeRoom_94.1 rfl (hQ _ hw)
    · replace hw := hw.2 w9
      refine r_iload_n (j := 1) d_St_makeRoom_16 rfl ?_
      refine r_bipush d_St_makeRoom_17 kb_25 ?_
      refine r_imul d_St_makeRoom_19 ?_
      refine r_istore_n (ls2 := [(1, ai (v1 * (25 : Int32))), (0, ar v0), (2, ai v2)]) d_St_makeRoom_20 (nle rfl) rfl ?_
      refine r_iinc (j := 2) (ls2 := [(2, ai (v2 + (1 : Int32))), (1, ai (v1 * (25 : Int32))), (0, ar v0)]) d_St_makeRoom_21 rfl (congrArg (HAdd.hAdd v2) kc_1) (nle rfl) rfl ?_
      refine r_goto d_St_makeRoom_24 ?_
      refine r_pick (ls2 := [(0, ar v0), (1, ai (v1 * (25 : Int32))), (2, ai (v2 + (1 : Int32)))]) [2, 1, 0] rfl ?_
      exact ih _ _ _ _ _ hw
set_option maxRecDepth 100000 in
set_option maxHeartbeats 4000000 in
theorem s_St_makeRoom {d : Nat} {v0 : Nat} {bc bs : Nat} {h : Hp} {Q : Hp → Prop} {QQ : Option AV → Hp → Prop} (hw : w_St_makeRoom bc bs v0 h Q) (hQ : ∀ h9, Q h9 → QQ none h9) : aCall m_St_makeRoom d [ar v0] h bc bs QQ := by
  refine aCall_in pl_St_makeRoom (nle rfl) ?_
  show aW none m_St_makeRoom d 0 [(0, ar v0)] [] h bc bs QQ
  unfold w_St_makeRoom at hw
  refine r_bipush d_St_makeRoom_0 kb_25 ?_
  refine r_istore_n (ls2 := [(1, ai (25 : Int32)), (0, ar v0)]) d_St_makeRoom_2 (nle rfl) rfl ?_
  refine r_iconst d_St_makeRoom_3 kc_1 ?_
  refine r_istore_n (ls2 := [(2, ai (1 : Int32)), (1, ai (25 : Int32)), (0, ar v0)]) d_St_makeRoom_4 (nle rfl) rfl ?_
  obtain ⟨n31, hw⟩ := hw
  refine r_pick (ls2 := [(0, ar v0), (1, ai (25 : Int32)), (2, ai (1 : Int32))]) [2, 1, 0] rfl ?_
  exact s_St_makeRoom_L5 hQ  n31 _ _ _ _ _ hw
set_option maxRecDepth 100000 in
set_option maxHeartbeats 4000000 in
theorem s_St_atNeed_L2 {d : Nat} (hd : 1 ≤ d + 1) {Q : Hp → Prop} {QQ : Option AV → Hp → Prop} (hQ : ∀ h9, Q h9 → QQ none h9) {v0 : Nat} : ∀ (n : Nat) (v1 : Int32) (h : Hp), w_St_atNeed_L2 Q  v0 n v1 h → aW none m_St_atNeed (d + 1) 2 [(0, ar v0), (1, ai v1)] [] h 0 0 QQ := by
  intro n
  induction n with
  | zero => intro v1 h hw; exact hw.elim
  | succ n ih =>
    intro v1 h hw
    unfold w_St_atNeed_L2 at hw
    refine r_iload_n (j := 1) d_St_atNeed_2 rfl ?_
    refine r_iconst d_St_atNeed_3 kc_3 ?_
    refine r_icmp_ge d_St_atNeed_4 (fun w9 => ?_) (fun w9 => ?_)
    · replace hw := hw.1 w9
      exact r_return d_St_atNeed_27.1 rfl (hQ _ hw)
    · replace hw := hw.2 w9
      refine r_aload_n (j := 0) d_St_atNeed_7 rfl ?_
      obtain ⟨q1, hw⟩ := hw
      refine r_getR d_St_atNeed_8 ok_9 (nle rfl) (nle rfl) rfl lf_St_18 q1 ?_
      refine r_iload_n (j := 1) d_St_atNeed_11 rfl ?_
      refine r_aload_n (j := 0) d_St_atNeed_12 rfl ?_
      refine r_getR d_St_atNeed_13 ok_9 (nle rfl) (nle rfl) rfl lf_St_47 q1 ?_
      refine r_iload_n (j := 1) d_St_atNeed_16 rfl ?_
      obtain ⟨q4, hw⟩ := hw
      refine r_callV (av := [ai v1]) (rest := [ai v1, ar (gR h v0 3)]) (ci := 1) d_St_atNeed_17 mk_Co_needOf ll_St_94 im_Co_needOf se_Co_needOf rfl (nle rfl) rfl rfl (nle rfl) q4 (s_Co_needOf  hw (fun r3 h2 hw => ?_))
      show aW none m_St_atNeed (d + 1) 20 [(0, ar v0), (1, ai v1)] [ai r3, ai v1, ar (gR h v0 3)] h2 0 0 QQ
      obtain ⟨q5, hw⟩ := hw
      obtain ⟨q6, hw⟩ := hw
      refine r_iast d_St_atNeed_20 q5 q6 ?_
      refine r_iinc (j := 1) (ls2 := [(1, ai (v1 + (1 : Int32))), (0, ar v0)]) d_St_atNeed_21 rfl (congrArg (HAdd.hAdd v1) kc_1) (nle rfl) rfl ?_
      refine r_goto d_St_atNeed_24 ?_
      refine r_pick (ls2 := [(0, ar v0), (1, ai (v1 + (1 : Int32)))]) [1, 0] rfl ?_
      exact ih _ _ hw
set_option maxRecDepth 100000 in
set_option maxHeartbeats 4000000 in
theorem s_St_atNeed {d : Nat} (hd : 1 ≤ d) {v0 : Nat} {h : Hp} {Q : Hp → Prop} {QQ : Option AV → Hp → Prop} (hw : w_St_atNeed v0 h Q) (hQ : ∀ h9, Q h9 → QQ none h9) : aCall m_St_atNeed d [ar v0] h 0 0 QQ := by
  obtain ⟨d, rfl⟩ : ∃ d9, d = d9 + 1 := ⟨d - 1, by omega⟩
  refine aCall_in pl_St_atNeed (nle rfl) ?_
  show aW none m_St_atNeed (d + 1) 0 [(0, ar v0)] [] h 0 0 QQ
  unfold w_St_atNeed at hw
  refine r_iconst d_St_atNeed_0 kc_0 ?_
  refine r_istore_n (ls2 := [(1, ai (0 : Int32)), (0, ar v0)]) d_St_atNeed_1 (nle rfl) rfl ?_
  obtain ⟨n7, hw⟩ := hw
  refine r_pick (ls2 := [(0, ar v0), (1, ai (0 : Int32))]) [1, 0] rfl ?_
  exact s_St_atNeed_L2 hd hQ  n7 _ _ hw
set_option maxRecDepth 100000 in
set_option maxHeartbeats 4000000 in
theorem s_St_cellOf_L6 {d : Nat} {Q : Int32 → Hp → Prop} {QQ : Option AV → Hp → Prop} (hQ : ∀ r9 h9, Q r9 h9 → QQ (some (ai r9)) h9) {v0 : Nat} {v2 : Int32} : ∀ (n : Nat) (v3 : Int32) (h : Hp), w_St_cellOf_L6 Q  v0 v2 n v3 h → aW none m_St_cellOf d 6 [(0, ar v0), (2, ai v2), (3, ai v3)] [] h 0 0 QQ := by
  intro n
  induction n with
  | zero => intro v3 h hw; exact hw.elim
  | succ n ih =>
    intro v3 h hw
    unfold w_St_cellOf_L6 at hw
    refine r_iload_n (j := 2) d_St_cellOf_6 rfl ?_
    refine r_iconst d_St_cellOf_7 kc_3 ?_
    refine r_icmp_ge d_St_cellOf_8 (fun w9 => ?_) (fun w9 => ?_)
    · replace hw := hw.1 w9
      refine r_aload_n (j := 0) d_St_cellOf_53 rfl ?_
      obtain ⟨q1, hw⟩ := hw
      refine r_getR d_St_cellOf_54 ok_9 (nle rfl) (nle rfl) rfl lf_St_18 q1 ?_
      refine r_iconst d_St_cellOf_57 kc_0 ?_
      obtain ⟨q2, hw⟩ := hw
      obtain ⟨q3, hw⟩ := hw
      refine r_iald d_St_cellOf_58 q2 q3 ?_
      refine r_aload_n (j := 0) d_St_cellOf_59 rfl ?_
      refine r_getR d_St_cellOf_60 ok_9 (nle rfl) (nle rfl) rfl lf_St_9 q1 ?_
      refine r_iload_n (j := 1) d_St_cellOf_63 rfl ?_
      obtain ⟨q4, hw⟩ := hw
      obtain ⟨q5, hw⟩ := hw
      refine r_iald d_St_cellOf_64 q4 q5 ?_
      refine r_isub d_St_cellOf_65 ?_
      refine r_istore_n (ls2 := [(3, ai ((gI h (gR h v0 3) (ix (0 : Int32))) - (gI h (gR h v0 1) (ix v2)))), (0, ar v0), (2, ai v2)]) d_St_cellOf_66 (nle rfl) rfl ?_
      refine r_aload_n (j := 1) d_St_cellOf_67 rfl ?_
      refine r_getR d_St_cellOf_68 ok_9 (nle rfl) (nle rfl) rfl lf_St_18 q1 ?_
      refine r_iconst d_St_cellOf_71 kc_1 ?_
      obtain ⟨q6, hw⟩ := hw
      refine r_iald d_St_cellOf_72 q2 q6 ?_
      refine r_aload_n (j := 1) d_St_cellOf_73 rfl ?_
      refine r_getR d_St_cellOf_74 ok_9 (nle rfl) (nle rfl) rfl lf_St_9 q1 ?_
      refine r_iload_n (j := 2) d_St_cellOf_77 rfl ?_
      refine r_iconst d_St_cellOf_78 kc_1 ?_
      refine r_iadd d_St_cellOf_79 ?_
      obtain ⟨q7, hw⟩ := hw
      refine r_iald d_St_cellOf_80 q4 q7 ?_
      refine r_isub d_St_cellOf_81 ?_
      refine r_istore (ls2 := [(4, ai ((gI h (gR h v0 3) (ix (1 : Int32))) - (gI h (gR h v0 1) (ix (v2 + (1 : Int32)))))), (3, ai ((gI h (gR h v0 3) (ix (0 : Int32))) - (gI h (gR h v0 1) (ix v2)))), (0, ar v0), (2, ai v2)]) d_St_cellOf_82 (nle rfl) rfl ?_
      refine r_iload_n (j := 1) d_St_cellOf_84 rfl ?_
      refine r_aload_n (j := 2) d_St_cellOf_85 rfl ?_
      refine r_getI d_St_cellOf_86 ok_9 (nle rfl) (nle rfl) rfl lf_St_21 q1 ?_
      refine r_imul d_St_cellOf_89 ?_
      refine r_iload (j := 0) d_St_cellOf_90 rfl ?_
      refine r_iadd d_St_cellOf_92 ?_
      refine r_aload_n (j := 2) d_St_cellOf_93 rfl ?_
      refine r_getI d_St_cellOf_94 ok_9 (nle rfl) (nle rfl) rfl lf_St_25 q1 ?_
      refine r_imul d_St_cellOf_97 ?_
      refine r_aload_n (j := 2) d_St_cellOf_98 rfl ?_
      refine r_getR d_St_cellOf_99 ok_9 (nle rfl) (nle rfl) rfl lf_St_18 q1 ?_
      refine r_iconst d_St_cellOf_102 kc_2 ?_
      obtain ⟨q8, hw⟩ := hw
      refine r_iald d_St_cellOf_103 q2 q8 ?_
      refine r_iadd d_St_cellOf_104 ?_
      refine r_aload_n (j := 2) d_St_cellOf_105 rfl ?_
      refine r_getR d_St_cellOf_106 ok_9 (nle rfl) (nle rfl) rfl lf_St_9 q1 ?_
      refine r_iload_n (j := 3) d_St_cellOf_109 rfl ?_
      refine r_iconst d_St_cellOf_110 kc_2 ?_
      refine r_iadd d_St_cellOf_111 ?_
      obtain ⟨q9, hw⟩ := hw
      refine r_iald d_St_cellOf_112 q4 q9 ?_
      refine r_isub d_St_cellOf_113 ?_
      exact r_ireturn d_St_cellOf_114.1 rfl (hQ _ _ hw)
    · replace hw := hw.2 w9
      refine r_aload_n (j := 0) d_St_cellOf_11 rfl ?_
      obtain ⟨q10, hw⟩ := hw
      refine r_getR d_St_cellOf_12 ok_9 (nle rfl) (nle rfl) rfl lf_St_18 q10 ?_
      refine r_iload_n (j := 2) d_St_cellOf_15 rfl ?_
      obtain ⟨q11, hw⟩ := hw
      obtain ⟨q12, hw⟩ := hw
      refine r_iald d_St_cellOf_16 q11 q12 ?_
      refine r_aload_n (j := 0) d_St_cellOf_17 rfl ?_
      refine r_getR d_St_cellOf_18 ok_9 (nle rfl) (nle rfl) rfl lf_St_9 q10 ?_
      refine r_iload_n (j := 1) d_St_cellOf_21 rfl ?_
      refine r_iload_n (j := 2) d_St_cellOf_22 rfl ?_
      refine r_iadd d_St_cellOf_23 ?_
      obtain ⟨q13, hw⟩ := hw
      obtain ⟨q14, hw⟩ := hw
      refine r_iald d_St_cellOf_24 q13 q14 ?_
      refine r_icmp_lt d_St_cellOf_25 (fun w9 => ?_) (fun w9 => ?_)
      · replace hw := hw.1 w9
        refine r_iconst d_St_cellOf_45 kc_m1 ?_
        exact r_ireturn d_St_cellOf_46.1 rfl (hQ _ _ hw)
      · replace hw := hw.2 w9
        refine r_aload_n (j := 0) d_St_cellOf_28 rfl ?_
        refine r_getR d_St_cellOf_29 ok_9 (nle rfl) (nle rfl) rfl lf_St_18 q10 ?_
        refine r_iload_n (j := 2) d_St_cellOf_32 rfl ?_
        refine r_iald d_St_cellOf_33 q11 q12 ?_
        refine r_aload_n (j := 0) d_St_cellOf_34 rfl ?_
        refine r_getR d_St_cellOf_35 ok_9 (nle rfl) (nle rfl) rfl lf_St_15 q10 ?_
        refine r_iload_n (j := 1) d_St_cellOf_38 rfl ?_
        refine r_iload_n (j := 2) d_St_cellOf_39 rfl ?_
        refine r_iadd d_St_cellOf_40 ?_
        obtain ⟨q15, hw⟩ := hw
        obtain ⟨q16, hw⟩ := hw
        refine r_iald d_St_cellOf_41 q15 q16 ?_
        refine r_icmp_le d_St_cellOf_42 (fun w9 => ?_) (fun w9 => ?_)
        · replace hw := hw.1 w9
          refine r_iinc (j := 2) (ls2 := [(3, ai (v3 + (1 : Int32))), (0, ar v0), (2, ai v2)]) d_St_cellOf_47 rfl (congrArg (HAdd.hAdd v3) kc_1) (nle rfl) rfl ?_
          refine r_goto d_St_cellOf_50 ?_
          refine r_pick (ls2 := [(0, ar v0), (2, ai v2), (3, ai (v3 + (1 : Int32)))]) [1, 2, 0] rfl ?_
          exact ih _ _ hw
        · replace hw := hw.2 w9
          refine r_iconst d_St_cellOf_45 kc_m1 ?_
          exact r_ireturn d_St_cellOf_46.1 rfl (hQ _ _ hw)
set_option maxRecDepth 100000 in
set_option maxHeartbeats 4000000 in
theorem s_St_cellOf {d : Nat} {v0 : Nat} {v1 : Int32} {h : Hp} {Q : Int32 → Hp → Prop} {QQ : Option AV → Hp → Prop} (hw : w_St_cellOf v0 v1 h Q) (hQ : ∀ r9 h9, Q r9 h9 → QQ (some (ai r9)) h9) : aCall m_St_cellOf d [ar v0, ai v1] h 0 0 QQ := by
  refine aCall_in pl_St_cellOf (nle rfl) ?_
  show aW none m_St_cellOf d 0 [(0, ar v0), (1, ai v1)] [] h 0 0 QQ
  unfold w_St_cellOf at hw
  refine r_iload_n (j := 1) d_St_cellOf_0 rfl ?_
  refine r_iconst d_St_cellOf_1 kc_3 ?_
  refine r_imul d_St_cellOf_2 ?_
  refine r_istore_n (ls2 := [(2, ai (v1 * (3 : Int32))), (0, ar v0), (1, ai v1)]) d_St_cellOf_3 (nle rfl) rfl ?_
  refine r_iconst d_St_cellOf_4 kc_0 ?_
  refine r_istore_n (ls2 := [(3, ai (0 : Int32)), (2, ai (v1 * (3 : Int32))), (0, ar v0), (1, ai v1)]) d_St_cellOf_5 (nle rfl) rfl ?_
  obtain ⟨n17, hw⟩ := hw
  refine r_pick (ls2 := [(0, ar v0), (2, ai (v1 * (3 : Int32))), (3, ai (0 : Int32))]) [2, 1, 0] rfl ?_
  exact s_St_cellOf_L6 hQ  n17 _ _ hw
set_option maxRecDepth 100000 in
set_option maxHeartbeats 4000000 in
theorem s_St_readEnd {d : Nat} (hd : 2 ≤ d) {v0 : Nat} {v1 : Int32} {h : Hp} {Q : Hp → Prop} {QQ : Option AV → Hp → Prop} (hw : w_St_readEnd v0 v1 h Q) (hQ : ∀ h9, Q h9 → QQ none h9) : aCall m_St_readEnd d [ar v0, ai v1] h 0 0 QQ := by
  obtain ⟨d, rfl⟩ : ∃ d9, d = d9 + 1 := ⟨d - 1, by omega⟩
  refine aCall_in pl_St_readEnd (nle rfl) ?_
  show aW none m_St_readEnd (d + 1) 0 [(0, ar v0), (1, ai v1)] [] h 0 0 QQ
  unfold w_St_readEnd at hw
  refine r_aload_n (j := 0) d_St_readEnd_0 rfl ?_
  refine r_lconst d_St_readEnd_1 kl_0 ?_
  obtain ⟨q1, hw⟩ := hw
  refine r_putL d_St_readEnd_2 ok_9 (nle rfl) (nle rfl) rfl lf_St_146 rfl q1 ?_
  refine r_aload_n (j := 0) d_St_readEnd_5 rfl ?_
  refine r_iconst d_St_readEnd_6 kc_0 ?_
  refine r_putI d_St_readEnd_7 ok_9 (nle rfl) (nle rfl) rfl lf_St_150 rfl (kt eKL q1) ?_
  refine r_aload_n (j := 0) d_St_readEnd_10 rfl ?_
  refine r_callV (av := []) (rest := []) (ci := 9) d_St_readEnd_11 mk_St_atNeed ll_St_153 im_St_atNeed se_St_atNeed rfl (nle rfl) rfl rfl (nle rfl) (kt (eKI.trans eKL) q1) (s_St_atNeed (by omega) hw (fun h2 hw => ?_))
  show aW none m_St_readEnd (d + 1) 14 [(0, ar v0), (1, ai v1)] [] h2 0 0 QQ
  refine r_aload_n (j := 0) d_St_readEnd_14 rfl ?_
  refine r_iload_n (j := 1) d_St_readEnd_15 rfl ?_
  obtain ⟨q5, hw⟩ := hw
  refine r_callV (av := [ai v1]) (rest := []) (ci := 9) d_St_readEnd_16 mk_St_cellOf ll_St_112 im_St_cellOf se_St_cellOf rfl (nle rfl) rfl rfl (nle rfl) q5 (s_St_cellOf  hw (fun r4 h3 hw => ?_))
  show aW none m_St_readEnd (d + 1) 19 [(0, ar v0), (1, ai v1)] [ai r4] h3 0 0 QQ
  refine r_istore_n (ls2 := [(2, ai r4), (0, ar v0), (1, ai v1)]) d_St_readEnd_19 (nle rfl) rfl ?_
  refine r_iload_n (j := 0) d_St_readEnd_20 rfl ?_
  refine r_if_lt d_St_readEnd_21 (fun w9 => ?_) (fun w9 => ?_)
  · replace hw := hw.1 w9
    exact r_return d_St_readEnd_64.1 rfl (hQ _ hw)
  · replace hw := hw.2 w9
    refine r_aload_n (j := 1) d_St_readEnd_24 rfl ?_
    refine r_aload_n (j := 1) d_St_readEnd_25 rfl ?_
    obtain ⟨q6, hw⟩ := hw
    refine r_getR d_St_readEnd_26 ok_9 (nle rfl) (nle rfl) rfl lf_St_28 q6 ?_
    refine r_iload_n (j := 2) d_St_readEnd_29 rfl ?_
    refine r_callS (av := [ai v1]) (rest := [ar (gR h3 v0 7), ar v0]) d_St_readEnd_30 mk_St_layer ll_St_115 st_St_layer rfl rfl (nle rfl) (s_St_layer  hw (fun r8 h7 hw => ?_))
    show aW none m_St_readEnd (d + 1) 33 [(2, ai r4), (0, ar v0), (1, ai v1)] [ai r8, ar (gR h3 v0 7), ar v0] h7 0 0 QQ
    refine r_aload_n (j := 1) d_St_readEnd_33 rfl ?_
    obtain ⟨q9, hw⟩ := hw
    refine r_getI d_St_readEnd_34 ok_9 (nle rfl) (nle rfl) rfl lf_St_87 q9 ?_
    refine r_imul d_St_readEnd_37 ?_
    refine r_iload_n (j := 0) d_St_readEnd_38 rfl ?_
    refine r_iadd d_St_readEnd_39 ?_
    obtain ⟨q10, hw⟩ := hw
    obtain ⟨q11, hw⟩ := hw
    refine r_lald d_St_readEnd_40 q10 q11 ?_
    refine r_putL d_St_readEnd_41 ok_9 (nle rfl) (nle rfl) rfl lf_St_146 rfl q9 ?_
    refine r_aload_n (j := 1) d_St_readEnd_44 rfl ?_
    refine r_aload_n (j := 1) d_St_readEnd_45 rfl ?_
    refine r_getRb eRL d_St_readEnd_46 ok_9 (nle rfl) (nle rfl) rfl lf_St_32 (kt eKL q9) ?_
    refine r_iload_n (j := 2) d_St_readEnd_49 rfl ?_
    refine r_callS (av := [ai v1]) (rest := [ar (gR h7 v0 8), ar v0]) d_St_readEnd_50 mk_St_layer ll_St_115 st_St_layer rfl rfl (nle rfl) (s_St_layer  hw (fun r13 h12 hw => ?_))
    show aW none m_St_readEnd (d + 1) 53 [(2, ai r4), (0, ar v0), (1, ai v1)] [ai r13, ar (gR h7 v0 8), ar v0] h12 0 0 QQ
    refine r_aload_n (j := 1) d_St_readEnd_53 rfl ?_
    obtain ⟨q14, hw⟩ := hw
    refine r_getI d_St_readEnd_54 ok_9 (nle rfl) (nle rfl) rfl lf_St_87 q14 ?_
    refine r_imul d_St_readEnd_57 ?_
    refine r_iload_n (j := 0) d_St_readEnd_58 rfl ?_
    refine r_iadd d_St_readEnd_59 ?_
    obtain ⟨q15, hw⟩ := hw
    obtain ⟨q16, hw⟩ := hw
    refine r_iald d_St_readEnd_60 q15 q16 ?_
    refine r_putI d_St_readEnd_61 ok_9 (nle rfl) (nle rfl) rfl lf_St_150 rfl q14 ?_
    exact r_return d_St_readEnd_64.1 rfl (hQ _ hw)
