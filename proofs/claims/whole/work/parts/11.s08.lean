set_option maxRecDepth 100000 in
set_option maxHeartbeats 4000000 in
theorem s_St_setBounds_B125 {d : Nat} (hd : 1 ≤ d + 1) {Q : Hp → Prop} {QQ : Option AV → Hp → Prop} (hQ : ∀ h9, Q h9 → QQ none h9) {v0 : Nat} {v1 : Int32} {v2 : Int32} {v3 : Int32} {v4 : Int32} {v5 : Int32} {v6 : Int32} {v7 : Int32} {s0 : Nat} {s1 : Int32} {s2 : Int32} {h : Hp} {k50 : Int32 → Hp → Prop} {k58 : Int32 → Hp → Prop} (hk50 : ∀ v3 h9, k50 v3 h9 → aW none m_St_setBounds (d + 1) 50 [(0, ar v0), (1, ai v1), (2, ai v2), (3, ai v3)] [] h9 0 0 QQ) (hk58 : ∀ v4 h9, k58 v4 h9 → aW none m_St_setBounds (d + 1) 58 [(0, ar v0), (1, ai v1), (2, ai v2), (3, ai v3), (4, ai v4)] [] h9 0 0 QQ) (hw : w_St_setBounds_B125 Q k50 k58 v0 v1 v2 v3 v4 v5 v6 v7 s0 s1 s2 h) : aW none m_St_setBounds (d + 1) 125 [(0, ar v0), (1, ai v1), (2, ai v2), (3, ai v3), (4, ai v4), (5, ai v5), (6, ai v6), (7, ai v7)] [ai s2, ai s1, ar s0] h 0 0 QQ := by
  unfold w_St_setBounds_B125 at hw
  obtain ⟨q17, hw⟩ := hw
  obtain ⟨q18, hw⟩ := hw
  refine r_iast d_St_setBounds_125 q17 q18 ?_
  refine r_aload_n (j := 0) d_St_setBounds_126 rfl ?_
  obtain ⟨q19, hw⟩ := hw
  refine r_getRb eRI d_St_setBounds_127 ok_9 (nle rfl) (nle rfl) rfl lf_St_15 (kt eKI q19) ?_
  refine r_iload_n (j := 3) d_St_setBounds_130 rfl ?_
  refine r_iconst d_St_setBounds_131 kc_3 ?_
  refine r_imul d_St_setBounds_132 ?_
  refine r_iload (j := 4) d_St_setBounds_133 rfl ?_
  refine r_iadd d_St_setBounds_135 ?_
  refine r_iload (j := 5) d_St_setBounds_136 rfl ?_
  refine r_if_eq d_St_setBounds_138 (fun w9 => ?_) (fun w9 => ?_)
  · replace hw := hw.1 w9
    refine r_iconst d_St_setBounds_153 kc_0 ?_
    obtain ⟨q20, hw⟩ := hw
    obtain ⟨q21, hw⟩ := hw
    refine r_iast d_St_setBounds_154 (kt eKI q20) (nt eNI q21) ?_
    refine r_iinc (j := 4) (ls2 := [(4, ai (v4 + (1 : Int32))), (0, ar v0), (1, ai v1), (2, ai v2), (3, ai v3), (5, ai v5), (6, ai v6), (7, ai v7)]) d_St_setBounds_155 rfl (congrArg (HAdd.hAdd v4) kc_1) (nle rfl) rfl ?_
    refine r_goto d_St_setBounds_158 ?_
    refine r_pick (ls2 := [(0, ar v0), (1, ai v1), (2, ai v2), (3, ai v3), (4, ai (v4 + (1 : Int32)))]) [1, 2, 3, 4, 0] rfl ?_
    exact hk58 _ _ hw
  · replace hw := hw.2 w9
    refine r_iload (j := 6) d_St_setBounds_141 rfl ?_
    refine r_iload (j := 7) d_St_setBounds_143 rfl ?_
    refine r_callS (av := [ai v6, ai v7]) (rest := [ai ((v3 * (3 : Int32)) + v4), ar (gR h v0 2)]) d_St_setBounds_145 mk_JM_floorDiv ll_St_103 st_JM_floorDiv rfl rfl (nle rfl) (s_JM_floorDiv  hw (fun r23 h22 hw => ?_))
    show aW none m_St_setBounds (d + 1) 148 [(0, ar v0), (1, ai v1), (2, ai v2), (3, ai v3), (4, ai v4), (5, ai v5), (6, ai v6), (7, ai v7)] [ai r23, ai ((v3 * (3 : Int32)) + v4), ar (gR h v0 2)] h22 0 0 QQ
    refine r_iload_n (j := 2) d_St_setBounds_148 rfl ?_
    refine r_iadd d_St_setBounds_149 ?_
    refine r_goto d_St_setBounds_150 ?_
    obtain ⟨q24, hw⟩ := hw
    obtain ⟨q25, hw⟩ := hw
    refine r_iast d_St_setBounds_154 q24 q25 ?_
    refine r_iinc (j := 4) (ls2 := [(4, ai (v4 + (1 : Int32))), (0, ar v0), (1, ai v1), (2, ai v2), (3, ai v3), (5, ai v5), (6, ai v6), (7, ai v7)]) d_St_setBounds_155 rfl (congrArg (HAdd.hAdd v4) kc_1) (nle rfl) rfl ?_
    refine r_goto d_St_setBounds_158 ?_
    refine r_pick (ls2 := [(0, ar v0), (1, ai v1), (2, ai v2), (3, ai v3), (4, ai (v4 + (1 : Int32)))]) [1, 2, 3, 4, 0] rfl ?_
    exact hk58 _ _ hw
set_option maxRecDepth 100000 in
set_option maxHeartbeats 4000000 in
theorem s_St_setBounds_L58 {d : Nat} (hd : 1 ≤ d + 1) {Q : Hp → Prop} {QQ : Option AV → Hp → Prop} (hQ : ∀ h9, Q h9 → QQ none h9) {v0 : Nat} {v1 : Int32} {v2 : Int32} {v3 : Int32} {k50 : Int32 → Hp → Prop} (hk50 : ∀ v3 h9, k50 v3 h9 → aW none m_St_setBounds (d + 1) 50 [(0, ar v0), (1, ai v1), (2, ai v2), (3, ai v3)] [] h9 0 0 QQ) : ∀ (n : Nat) (v4 : Int32) (h : Hp), w_St_setBounds_L58 Q k50 v0 v1 v2 v3 n v4 h → aW none m_St_setBounds (d + 1) 58 [(0, ar v0), (1, ai v1), (2, ai v2), (3, ai v3), (4, ai v4)] [] h 0 0 QQ := by
  intro n
  induction n with
  | zero => intro v4 h hw; exact hw.elim
  | succ n ih =>
    intro v4 h hw
    unfold w_St_setBounds_L58 at hw
    refine r_iload (j := 4) d_St_setBounds_58 rfl ?_
    refine r_iconst d_St_setBounds_60 kc_3 ?_
    refine r_icmp_ge d_St_setBounds_61 (fun w9 => ?_) (fun w9 => ?_)
    · replace hw := hw.1 w9
      refine r_iinc (j := 3) (ls2 := [(3, ai (v3 + (1 : Int32))), (0, ar v0), (1, ai v1), (2, ai v2), (4, ai v4)]) d_St_setBounds_161 rfl (congrArg (HAdd.hAdd v3) kc_1) (nle rfl) rfl ?_
      refine r_goto d_St_setBounds_164 ?_
      refine r_pick (ls2 := [(0, ar v0), (1, ai v1), (2, ai v2), (3, ai (v3 + (1 : Int32)))]) [1, 2, 3, 0] rfl ?_
      exact hk50 _ _ hw
    · replace hw := hw.2 w9
      refine r_aload_n (j := 0) d_St_setBounds_64 rfl ?_
      obtain ⟨q6, hw⟩ := hw
      refine r_getR d_St_setBounds_65 ok_9 (nle rfl) (nle rfl) rfl lf_St_47 q6 ?_
      refine r_iload (j := 4) d_St_setBounds_68 rfl ?_
      obtain ⟨q9, hw⟩ := hw
      refine r_callV (av := [ai v4]) (rest := []) (ci := 1) d_St_setBounds_70 mk_Co_hasRow ll_St_90 im_Co_hasRow se_Co_hasRow rfl (nle rfl) rfl rfl (nle rfl) q9 (s_Co_hasRow  hw (fun r8 h7 hw => ?_))
      show aW none m_St_setBounds (d + 1) 73 [(0, ar v0), (1, ai v1), (2, ai v2), (3, ai v3), (4, ai v4)] [ai (b2i r8)] h7 0 0 QQ
      refine r_istore (ls2 := [(5, ai (b2i r8)), (0, ar v0), (1, ai v1), (2, ai v2), (3, ai v3), (4, ai v4)]) d_St_setBounds_73 (nle rfl) rfl ?_
      refine r_iload_n (j := 4) d_St_setBounds_75 rfl ?_
      refine r_aload_n (j := 1) d_St_setBounds_76 rfl ?_
      obtain ⟨q10, hw⟩ := hw
      refine r_getR d_St_setBounds_77 ok_9 (nle rfl) (nle rfl) rfl lf_St_47 q10 ?_
      refine r_iload (j := 5) d_St_setBounds_80 rfl ?_
      obtain ⟨q13, hw⟩ := hw
      refine r_callV (av := [ai v4]) (rest := [ai v3]) (ci := 1) d_St_setBounds_82 mk_Co_needOf ll_St_94 im_Co_needOf se_Co_needOf rfl (nle rfl) rfl rfl (nle rfl) q13 (s_Co_needOf  hw (fun r12 h11 hw => ?_))
      show aW none m_St_setBounds (d + 1) 85 [(5, ai (b2i r8)), (0, ar v0), (1, ai v1), (2, ai v2), (3, ai v3), (4, ai v4)] [ai r12, ai v3] h11 0 0 QQ
      refine r_imul d_St_setBounds_85 ?_
      refine r_istore (ls2 := [(6, ai (v3 * r12)), (5, ai (b2i r8)), (0, ar v0), (1, ai v1), (2, ai v2), (3, ai v3), (4, ai v4)]) d_St_setBounds_86 (nle rfl) rfl ?_
      refine r_iload_n (j := 3) d_St_setBounds_88 rfl ?_
      refine r_iconst d_St_setBounds_89 kc_1 ?_
      refine r_callS (av := [ai v1, ai (1 : Int32)]) (rest := []) d_St_setBounds_90 mk_JM_max ll_St_98 st_JM_max rfl rfl (nle rfl) (s_JM_max  hw (fun r15 h14 hw => ?_))
      show aW none m_St_setBounds (d + 1) 93 [(6, ai (v3 * r12)), (5, ai (b2i r8)), (0, ar v0), (1, ai v1), (2, ai v2), (3, ai v3), (4, ai v4)] [ai r15] h14 0 0 QQ
      refine r_istore (ls2 := [(7, ai r15), (6, ai (v3 * r12)), (5, ai (b2i r8)), (0, ar v0), (1, ai v1), (2, ai v2), (3, ai v3), (4, ai v4)]) d_St_setBounds_93 (nle rfl) rfl ?_
      refine r_aload_n (j := 3) d_St_setBounds_95 rfl ?_
      obtain ⟨q16, hw⟩ := hw
      refine r_getR d_St_setBounds_96 ok_9 (nle rfl) (nle rfl) rfl lf_St_9 q16 ?_
      refine r_iload_n (j := 6) d_St_setBounds_99 rfl ?_
      refine r_iconst d_St_setBounds_100 kc_3 ?_
      refine r_imul d_St_setBounds_101 ?_
      refine r_iload (j := 7) d_St_setBounds_102 rfl ?_
      refine r_iadd d_St_setBounds_104 ?_
      refine r_iload (j := 2) d_St_setBounds_105 rfl ?_
      refine r_if_eq d_St_setBounds_107 (fun w9 => ?_) (fun w9 => ?_)
      · replace hw := hw.1 w9
        refine r_iconst d_St_setBounds_124 kc_0 ?_
        refine r_pick (ls2 := [(0, ar v0), (1, ai v1), (2, ai v2), (3, ai v3), (4, ai v4), (5, ai (b2i r8)), (6, ai (v3 * r12)), (7, ai r15)]) [3, 4, 5, 6, 7, 2, 1, 0] rfl ?_
        exact s_St_setBounds_B125 hd hQ hk50 ih hw
      · replace hw := hw.2 w9
        refine r_iload (j := 1) d_St_setBounds_110 rfl ?_
        refine r_ineg d_St_setBounds_112 ?_
        refine r_iload (j := 0) d_St_setBounds_113 rfl ?_
        refine r_callS (av := [ai (-(v3 * r12)), ai r15]) (rest := [ai ((v3 * (3 : Int32)) + v4), ar (gR h14 v0 1)]) d_St_setBounds_115 mk_JM_floorDiv ll_St_103 st_JM_floorDiv rfl rfl (nle rfl) (s_JM_floorDiv  hw (fun r27 h26 hw => ?_))
        show aW none m_St_setBounds (d + 1) 118 [(7, ai r15), (6, ai (v3 * r12)), (5, ai (b2i r8)), (0, ar v0), (1, ai v1), (2, ai v2), (3, ai v3), (4, ai v4)] [ai r27, ai ((v3 * (3 : Int32)) + v4), ar (gR h14 v0 1)] h26 0 0 QQ
        refine r_ineg d_St_setBounds_118 ?_
        refine r_iload_n (j := 5) d_St_setBounds_119 rfl ?_
        refine r_isub d_St_setBounds_120 ?_
        refine r_goto d_St_setBounds_121 ?_
        refine r_pick (ls2 := [(0, ar v0), (1, ai v1), (2, ai v2), (3, ai v3), (4, ai v4), (5, ai (b2i r8)), (6, ai (v3 * r12)), (7, ai r15)]) [3, 4, 5, 6, 7, 2, 1, 0] rfl ?_
        exact s_St_setBounds_B125 hd hQ hk50 ih hw
set_option maxRecDepth 100000 in
set_option maxHeartbeats 4000000 in
theorem s_St_setBounds_L50 {d : Nat} (hd : 1 ≤ d + 1) {Q : Hp → Prop} {QQ : Option AV → Hp → Prop} (hQ : ∀ h9, Q h9 → QQ none h9) {v0 : Nat} {v1 : Int32} {v2 : Int32} : ∀ (n : Nat) (v3 : Int32) (h : Hp), w_St_setBounds_L50 Q  v0 v1 v2 n v3 h → aW none m_St_setBounds (d + 1) 50 [(0, ar v0), (1, ai v1), (2, ai v2), (3, ai v3)] [] h 0 0 QQ := by
  intro n
  induction n with
  | zero => intro v3 h hw; exact hw.elim
  | succ n ih =>
    intro v3 h hw
    unfold w_St_setBounds_L50 at hw
    refine r_iload_n (j := 3) d_St_setBounds_50 rfl ?_
    refine r_iload_n (j := 1) d_St_setBounds_51 rfl ?_
    refine r_icmp_gt d_St_setBounds_52 (fun w9 => ?_) (fun w9 => ?_)
    · replace hw := hw.1 w9
      exact r_return d_St_setBounds_167.1 rfl (hQ _ hw)
    · replace hw := hw.2 w9
      refine r_iconst d_St_setBounds_55 kc_0 ?_
      refine r_istore (ls2 := [(4, ai (0 : Int32)), (0, ar v0), (1, ai v1), (2, ai v2), (3, ai v3)]) d_St_setBounds_56 (nle rfl) rfl ?_
      obtain ⟨n28, hw⟩ := hw
      refine r_pick (ls2 := [(0, ar v0), (1, ai v1), (2, ai v2), (3, ai v3), (4, ai (0 : Int32))]) [1, 2, 3, 4, 0] rfl ?_
      exact s_St_setBounds_L58 hd hQ ih n28 _ _ hw
set_option maxRecDepth 100000 in
set_option maxHeartbeats 4000000 in
theorem s_St_setBounds_B21 {d : Nat} (hd : 1 ≤ d + 1) {Q : Hp → Prop} {QQ : Option AV → Hp → Prop} (hQ : ∀ h9, Q h9 → QQ none h9) {v0 : Nat} {v1 : Int32} {v2 : Int32} {s0 : Nat} {s1 : Int32} {h : Hp} (hw : w_St_setBounds_B21 Q  v0 v1 v2 s0 s1 h) : aW none m_St_setBounds (d + 1) 21 [(0, ar v0), (1, ai v1), (2, ai v2)] [ai s1, ar s0] h 0 0 QQ := by
  unfold w_St_setBounds_B21 at hw
  obtain ⟨q3, hw⟩ := hw
  refine r_putI d_St_setBounds_21 ok_9 (nle rfl) (nle rfl) rfl lf_St_21 rfl q3 ?_
  refine r_aload_n (j := 0) d_St_setBounds_24 rfl ?_
  refine r_aload_n (j := 0) d_St_setBounds_25 rfl ?_
  obtain ⟨q4, hw⟩ := hw
  refine r_getRb eRI d_St_setBounds_26 ok_9 (nle rfl) (nle rfl) rfl lf_St_47 (kt eKI q4) ?_
  obtain ⟨q5, hw⟩ := hw
  refine r_getI d_St_setBounds_29 ok_1 (nle rfl) (nle rfl) rfl lf_St_84 (kt eKI q5) ?_
  refine r_iconst d_St_setBounds_32 kc_2 ?_
  refine r_icmp_le d_St_setBounds_33 (fun w9 => ?_) (fun w9 => ?_)
  · replace hw := hw.1 w9
    refine r_iconst d_St_setBounds_44 kc_1 ?_
    refine r_putI d_St_setBounds_45 ok_9 (nle rfl) (nle rfl) rfl lf_St_25 rfl (kt eKI q4) ?_
    refine r_iconst d_St_setBounds_48 kc_0 ?_
    refine r_istore_n (ls2 := [(3, ai (0 : Int32)), (0, ar v0), (1, ai v1), (2, ai v2)]) d_St_setBounds_49 (nle rfl) rfl ?_
    obtain ⟨n29, hw⟩ := hw
    refine r_pick (ls2 := [(0, ar v0), (1, ai v1), (2, ai v2), (3, ai (0 : Int32))]) [1, 2, 3, 0] rfl ?_
    exact s_St_setBounds_L50 hd hQ  n29 _ _ hw
  · replace hw := hw.2 w9
    refine r_iconst d_St_setBounds_36 kc_2 ?_
    refine r_iload_n (j := 2) d_St_setBounds_37 rfl ?_
    refine r_imul d_St_setBounds_38 ?_
    refine r_iconst d_St_setBounds_39 kc_1 ?_
    refine r_iadd d_St_setBounds_40 ?_
    refine r_goto d_St_setBounds_41 ?_
    refine r_putI d_St_setBounds_45 ok_9 (nle rfl) (nle rfl) rfl lf_St_25 rfl (kt eKI q4) ?_
    refine r_iconst d_St_setBounds_48 kc_0 ?_
    refine r_istore_n (ls2 := [(3, ai (0 : Int32)), (0, ar v0), (1, ai v1), (2, ai v2)]) d_St_setBounds_49 (nle rfl) rfl ?_
    obtain ⟨n30, hw⟩ := hw
    refine r_pick (ls2 := [(0, ar v0), (1, ai v1), (2, ai v2), (3, ai (0 : Int32))]) [1, 2, 3, 0] rfl ?_
    exact s_St_setBounds_L50 hd hQ  n30 _ _ hw
set_option maxRecDepth 100000 in
set_option maxHeartbeats 4000000 in
theorem s_St_setBounds {d : Nat} (hd : 1 ≤ d) {v0 : Nat} {v1 : Int32} {v2 : Int32} {h : Hp} {Q : Hp → Prop} {QQ : Option AV → Hp → Prop} (hw : w_St_setBounds v0 v1 v2 h Q) (hQ : ∀ h9, Q h9 → QQ none h9) : aCall m_St_setBounds d [ar v0, ai v1, ai v2] h 0 0 QQ := by
  obtain ⟨d, rfl⟩ : ∃ d9, d = d9 + 1 := ⟨d - 1, by omega⟩
  refine aCall_in pl_St_setBounds (nle rfl) ?_
  show aW none m_St_setBounds (d + 1) 0 [(0, ar v0), (1, ai v1), (2, ai v2)] [] h 0 0 QQ
  unfold w_St_setBounds at hw
  refine r_aload_n (j := 0) d_St_setBounds_0 rfl ?_
  refine r_aload_n (j := 0) d_St_setBounds_1 rfl ?_
  obtain ⟨q1, hw⟩ := hw
  refine r_getR d_St_setBounds_2 ok_9 (nle rfl) (nle rfl) rfl lf_St_47 q1 ?_
  obtain ⟨q2, hw⟩ := hw
  refine r_getI d_St_setBounds_5 ok_1 (nle rfl) (nle rfl) rfl lf_St_84 q2 ?_
  refine r_iconst d_St_setBounds_8 kc_1 ?_
  refine r_icmp_le d_St_setBounds_9 (fun w9 => ?_) (fun w9 => ?_)
  · replace hw := hw.1 w9
    refine r_iconst d_St_setBounds_20 kc_1 ?_
    exact s_St_setBounds_B21 hd hQ  hw
  · replace hw := hw.2 w9
    refine r_iconst d_St_setBounds_12 kc_2 ?_
    refine r_iload_n (j := 2) d_St_setBounds_13 rfl ?_
    refine r_imul d_St_setBounds_14 ?_
    refine r_iconst d_St_setBounds_15 kc_1 ?_
    refine r_iadd d_St_setBounds_16 ?_
    refine r_goto d_St_setBounds_17 ?_
    exact s_St_setBounds_B21 hd hQ  hw
set_option maxRecDepth 100000 in
set_option maxHeartbeats 4000000 in
theorem s_St_choiceAt {d : Nat} {v0 : Nat} {v1 : Int32} {v2 : Int32} {h : Hp} {Q : Int32 → Hp → Prop} {QQ : Option AV → Hp → Prop} (hw : w_St_choiceAt v0 v1 v2 h Q) (hQ : ∀ r9 h9, Q r9 h9 → QQ (some (ai r9)) h9) : aCall m_St_choiceAt d [ar v0, ai v1, ai v2] h 0 0 QQ := by
  refine aCall_in pl_St_choiceAt (nle rfl) ?_
  show aW none m_St_choiceAt d 0 [(0, ar v0), (1, ai v1), (2, ai v2)] [] h 0 0 QQ
  unfold w_St_choiceAt at hw
  refine r_iload_n (j := 1) d_St_choiceAt_0 rfl ?_
  refine r_aload_n (j := 0) d_St_choiceAt_1 rfl ?_
  obtain ⟨q1, hw⟩ := hw
  refine r_getI d_St_choiceAt_2 ok_9 (nle rfl) (nle rfl) rfl lf_St_87 q1 ?_
  refine r_imul d_St_choiceAt_5 ?_
  refine r_iload_n (j := 2) d_St_choiceAt_6 rfl ?_
  refine r_iadd d_St_choiceAt_7 ?_
  refine r_istore_n (ls2 := [(3, ai ((v1 * (gI h v0 6)) + v2)), (0, ar v0), (1, ai v1), (2, ai v2)]) d_St_choiceAt_8 (nle rfl) rfl ?_
  refine r_aload_n (j := 1) d_St_choiceAt_9 rfl ?_
  refine r_getR d_St_choiceAt_10 ok_9 (nle rfl) (nle rfl) rfl lf_St_38 q1 ?_
  refine r_iload_n (j := 0) d_St_choiceAt_13 rfl ?_
  refine r_bipush d_St_choiceAt_14 kb_16 ?_
  refine r_idiv d_St_choiceAt_16 (by decide) ?_
  obtain ⟨q2, hw⟩ := hw
  obtain ⟨q3, hw⟩ := hw
  refine r_lald d_St_choiceAt_17 q2 q3 ?_
  refine r_iload_n (j := 0) d_St_choiceAt_18 rfl ?_
  refine r_bipush d_St_choiceAt_19 kb_16 ?_
  refine r_irem d_St_choiceAt_21 (by decide) ?_
  refine r_iconst d_St_choiceAt_22 kc_4 ?_
  refine r_imul d_St_choiceAt_23 ?_
  refine r_lushr d_St_choiceAt_24 ?_
  refine r_l2i d_St_choiceAt_25 ?_
  refine r_bipush d_St_choiceAt_26 kb_15 ?_
  refine r_iand d_St_choiceAt_28 ?_
  exact r_ireturn d_St_choiceAt_29.1 rfl (hQ _ _ hw)
set_option maxRecDepth 100000 in
set_option maxHeartbeats 4000000 in
theorem s_St_choose {d : Nat} {v0 : Nat} {v1 : Int32} {v2 : Int32} {v3 : Int32} {h : Hp} {Q : Hp → Prop} {QQ : Option AV → Hp → Prop} (hw : w_St_choose v0 v1 v2 v3 h Q) (hQ : ∀ h9, Q h9 → QQ none h9) : aCall m_St_choose d [ar v0, ai v1, ai v2, ai v3] h 0 0 QQ := by
  refine aCall_in pl_St_choose (nle rfl) ?_
  show aW none m_St_choose d 0 [(0, ar v0), (1, ai v1), (2, ai v2), (3, ai v3)] [] h 0 0 QQ
  unfold w_St_choose at hw
  refine r_iload_n (j := 1) d_St_choose_0 rfl ?_
  refine r_aload_n (j := 0) d_St_choose_1 rfl ?_
  obtain ⟨q1, hw⟩ := hw
  refine r_getI d_St_choose_2 ok_9 (nle rfl) (nle rfl) rfl lf_St_87 q1 ?_
  refine r_imul d_St_choose_5 ?_
  refine r_iload_n (j := 2) d_St_choose_6 rfl ?_
  refine r_iadd d_St_choose_7 ?_
  refine r_istore (ls2 := [(4, ai ((v1 * (gI h v0 6)) + v2)), (0, ar v0), (1, ai v1), (2, ai v2), (3, ai v3)]) d_St_choose_8 (nle rfl) rfl ?_
  refine r_iload (j := 0) d_St_choose_10 rfl ?_
  refine r_bipush d_St_choose_12 kb_16 ?_
  refine r_irem d_St_choose_14 (by decide) ?_
  refine r_iconst d_St_choose_15 kc_4 ?_
  refine r_imul d_St_choose_16 ?_
  refine r_istore (ls2 := [(5, ai ((jrem ((v1 * (gI h v0 6)) + v2) (16 : Int32)) * (4 : Int32))), (4, ai ((v1 * (gI h v0 6)) + v2)), (0, ar v0), (1, ai v1), (2, ai v2), (3, ai v3)]) d_St_choose_17 (nle rfl) rfl ?_
  refine r_aload_n (j := 2) d_St_choose_19 rfl ?_
  refine r_getR d_St_choose_20 ok_9 (nle rfl) (nle rfl) rfl lf_St_38 q1 ?_
  refine r_iload (j := 1) d_St_choose_23 rfl ?_
  refine r_bipush d_St_choose_25 kb_16 ?_
  refine r_idiv d_St_choose_27 (by decide) ?_
  refine r_aload_n (j := 2) d_St_choose_28 rfl ?_
  refine r_getR d_St_choose_29 ok_9 (nle rfl) (nle rfl) rfl lf_St_38 q1 ?_
  refine r_iload (j := 1) d_St_choose_32 rfl ?_
  refine r_bipush d_St_choose_34 kb_16 ?_
  refine r_idiv d_St_choose_36 (by decide) ?_
  obtain ⟨q2, hw⟩ := hw
  obtain ⟨q3, hw⟩ := hw
  refine r_lald d_St_choose_37 q2 q3 ?_
  refine r_ldc2 d_St_choose_38 lc_St_142 ?_
  refine r_iload (j := 0) d_St_choose_41 rfl ?_
  refine r_lshl d_St_choose_43 ?_
  refine r_ldc2 d_St_choose_44 lc_St_144 ?_
  refine r_lxor d_St_choose_47 ?_
  refine r_land d_St_choose_48 ?_
  refine r_iload_n (j := 5) d_St_choose_49 rfl ?_
  refine r_i2l d_St_choose_50 ?_
  refine r_iload (j := 0) d_St_choose_51 rfl ?_
  refine r_lshl d_St_choose_53 ?_
  refine r_lor d_St_choose_54 ?_
  refine r_last d_St_choose_55 q2 q3 ?_
  exact r_return d_St_choose_56.1 rfl (hQ _ hw)
set_option maxRecDepth 100000 in
set_option maxHeartbeats 4000000 in
theorem s_St_reach_B107 {d : Nat} (hd : 1 ≤ d + 1) {Q : Bool → Hp → Prop} {QQ : Option AV → Hp → Prop} (hQ : ∀ r9 h9, Q r9 h9 → QQ (some (ai (b2i r9))) h9) {v0 : Nat} {v3 : Int32} {v5 : Int32} {v7 : Int32} {h : Hp} (hw : w_St_reach_B107 Q  v0 v3 v5 v7 h) : aW none m_St_reach (d + 1) 107 [(0, ar v0), (3, ai v3), (5, ai v5), (7, ai v7)] [] h 0 0 QQ := by
  unfold w_St_reach_B107 at hw
  refine r_aload_n (j := 0) d_St_reach_107 rfl ?_
  obtain ⟨q16, hw⟩ := hw
  refine r_getR d_St_reach_108 ok_9 (nle rfl) (nle rfl) rfl lf_St_28 q16 ?_
  refine r_iload (j := 2) d_St_reach_111 rfl ?_
  refine r_dup2 d_St_reach_113 rfl rfl ?_
  obtain ⟨q17, hw⟩ := hw
  obtain ⟨q18, hw⟩ := hw
  refine r_lald d_St_reach_114 q17 q18 ?_
  refine r_aload_n (j := 0) d_St_reach_115 rfl ?_
  refine r_getR d_St_reach_116 ok_9 (nle rfl) (nle rfl) rfl lf_St_28 q16 ?_
  refine r_iload_n (j := 1) d_St_reach_119 rfl ?_
  obtain ⟨q19, hw⟩ := hw
  refine r_lald d_St_reach_120 q17 q19 ?_
  refine r_ladd d_St_reach_121 ?_
  refine r_last d_St_reach_122 q17 q18 ?_
  refine r_iload (j := 3) d_St_reach_123 rfl ?_
  obtain ⟨q20, hw⟩ := hw
  exact r_zreturn d_St_reach_125.1 rfl q20 (by have g9 := hQ _ _ hw; rwa [b2i_i q20] at g9)
set_option maxRecDepth 100000 in
set_option maxHeartbeats 4000000 in
theorem s_St_reach_B90 {d : Nat} (hd : 1 ≤ d + 1) {Q : Bool → Hp → Prop} {QQ : Option AV → Hp → Prop} (hQ : ∀ r9 h9, Q r9 h9 → QQ (some (ai (b2i r9))) h9) {v0 : Nat} {v1 : Int32} {v2 : Int32} {v3 : Int32} {v4 : Int32} {v5 : Int32} {v6 : Int32} {v7 : Int32} {h : Hp} (hw : w_St_reach_B90 Q  v0 v1 v2 v3 v4 v5 v6 v7 h) : aW none m_St_reach (d + 1) 90 [(0, ar v0), (1, ai v1), (2, ai v2), (3, ai v3), (4, ai v4), (5, ai v5), (6, ai v6), (7, ai v7)] [] h 0 0 QQ := by
  unfold w_St_reach_B90 at hw
  refine r_aload_n (j := 0) d_St_reach_90 rfl ?_
  obtain ⟨q12, hw⟩ := hw
  refine r_getR d_St_reach_91 ok_9 (nle rfl) (nle rfl) rfl lf_St_32 q12 ?_
  refine r_iload (j := 5) d_St_reach_94 rfl ?_
  refine r_iload (j := 6) d_St_reach_96 rfl ?_
  obtain ⟨q13, hw⟩ := hw
  obtain ⟨q14, hw⟩ := hw
  refine r_iast d_St_reach_98 q13 q14 ?_
  refine r_aload_n (j := 0) d_St_reach_99 rfl ?_
  refine r_iload_n (j := 1) d_St_reach_100 rfl ?_
  refine r_iload_n (j := 2) d_St_reach_101 rfl ?_
  refine r_iload (j := 4) d_St_reach_102 rfl ?_
  refine r_callV (av := [ai v1, ai v2, ai v4]) (rest := []) (ci := 9) d_St_reach_104 mk_St_choose ll_St_138 im_St_choose se_St_choose rfl (nle rfl) rfl rfl (nle rfl) (kt eKI q12) (s_St_choose  hw (fun h15 hw => ?_))
  show aW none m_St_reach (d + 1) 107 [(0, ar v0), (1, ai v1), (2, ai v2), (3, ai v3), (4, ai v4), (5, ai v5), (6, ai v6), (7, ai v7)] [] h15 0 0 QQ
  refine r_pick (ls2 := [(0, ar v0), (3, ai v3), (5, ai v5), (7, ai v7)]) [0, 3, 5, 7] rfl ?_
  exact s_St_reach_B107 hd hQ  hw
set_option maxRecDepth 100000 in
set_option maxHeartbeats 4000000 in
theorem s_St_reach_B48 {d : Nat} (hd : 1 ≤ d + 1) {Q : Bool → Hp → Prop} {QQ : Option AV → Hp → Prop} (hQ : ∀ r9 h9, Q r9 h9 → QQ (some (ai (b2i r9))) h9) {v0 : Nat} {v1 : Int32} {v2 : Int32} {v3 : Int32} {v4 : Int32} {v5 : Int32} {v6 : Int32} {s0 : Int32} {h : Hp} (hw : w_St_reach_B48 Q  v0 v1 v2 v3 v4 v5 v6 s0 h) : aW none m_St_reach (d + 1) 48 [(0, ar v0), (1, ai v1), (2, ai v2), (3, ai v3), (4, ai v4), (5, ai v5), (6, ai v6)] [ai s0] h 0 0 QQ := by
  unfold w_St_reach_B48 at hw
  refine r_istore (ls2 := [(7, ai s0), (0, ar v0), (1, ai v1), (2, ai v2), (3, ai v3), (4, ai v4), (5, ai v5), (6, ai v6)]) d_St_reach_48 (nle rfl) rfl ?_
  refine r_iload (j := 0) d_St_reach_50 rfl ?_
  refine r_if_ne d_St_reach_52 (fun w9 => ?_) (fun w9 => ?_)
  · replace hw := hw.2 w9
    refine r_pick (ls2 := [(0, ar v0), (1, ai v1), (2, ai v2), (3, ai v3), (4, ai v4), (5, ai v5), (6, ai v6), (7, ai s0)]) [1, 2, 3, 4, 5, 6, 7, 0] rfl ?_
    exact s_St_reach_B90 hd hQ  hw
  · replace hw := hw.1 w9
    refine r_iload (j := 7) d_St_reach_55 rfl ?_
    refine r_aload_n (j := 1) d_St_reach_57 rfl ?_
    obtain ⟨q21, hw⟩ := hw
    refine r_getR d_St_reach_58 ok_9 (nle rfl) (nle rfl) rfl lf_St_32 q21 ?_
    refine r_iload (j := 6) d_St_reach_61 rfl ?_
    obtain ⟨q22, hw⟩ := hw
    obtain ⟨q23, hw⟩ := hw
    refine r_iald d_St_reach_63 q22 q23 ?_
    refine r_icmp_gt d_St_reach_64 (fun w9 => ?_) (fun w9 => ?_)
    · replace hw := hw.1 w9
      refine r_pick (ls2 := [(0, ar v0), (1, ai v1), (2, ai v2), (3, ai v3), (4, ai v4), (5, ai v5), (6, ai v6), (7, ai s0)]) [1, 2, 3, 4, 5, 6, 7, 0] rfl ?_
      exact s_St_reach_B90 hd hQ  hw
    · replace hw := hw.2 w9
      refine r_iload (j := 7) d_St_reach_67 rfl ?_
      refine r_aload_n (j := 1) d_St_reach_69 rfl ?_
      refine r_getR d_St_reach_70 ok_9 (nle rfl) (nle rfl) rfl lf_St_32 q21 ?_
      refine r_iload (j := 6) d_St_reach_73 rfl ?_
      refine r_iald d_St_reach_75 q22 q23 ?_
      refine r_icmp_ne d_St_reach_76 (fun w9 => ?_) (fun w9 => ?_)
      · replace hw := hw.2 w9
        refine r_pick (ls2 := [(0, ar v0), (3, ai v3), (5, ai v5), (7, ai s0)]) [1, 4, 6, 0] rfl ?_
        exact s_St_reach_B107 hd hQ  hw
      · replace hw := hw.1 w9
        refine r_iload (j := 5) d_St_reach_79 rfl ?_
        refine r_aload_n (j := 1) d_St_reach_81 rfl ?_
        refine r_iload_n (j := 2) d_St_reach_82 rfl ?_
        refine r_iload_n (j := 3) d_St_reach_83 rfl ?_
        refine r_callV (av := [ai v1, ai v2]) (rest := [ai v4]) (ci := 9) d_St_reach_84 mk_St_choiceAt ll_St_135 im_St_choiceAt se_St_choiceAt rfl (nle rfl) rfl rfl (nle rfl) q21 (s_St_choiceAt  hw (fun r25 h24 hw => ?_))
        show aW none m_St_reach (d + 1) 87 [(7, ai s0), (0, ar v0), (1, ai v1), (2, ai v2), (3, ai v3), (4, ai v4), (5, ai v5), (6, ai v6)] [ai r25, ai v4] h24 0 0 QQ
        refine r_icmp_ge d_St_reach_87 (fun w9 => ?_) (fun w9 => ?_)
        · replace hw := hw.1 w9
          refine r_pick (ls2 := [(0, ar v0), (3, ai v3), (5, ai v5), (7, ai s0)]) [1, 4, 6, 0] rfl ?_
          exact s_St_reach_B107 hd hQ  hw
        · replace hw := hw.2 w9
          refine r_pick (ls2 := [(0, ar v0), (1, ai v1), (2, ai v2), (3, ai v3), (4, ai v4), (5, ai v5), (6, ai v6), (7, ai s0)]) [1, 2, 3, 4, 5, 6, 7, 0] rfl ?_
          exact s_St_reach_B90 hd hQ  hw
set_option maxRecDepth 100000 in
set_option maxHeartbeats 4000000 in
theorem s_St_reach {d : Nat} (hd : 1 ≤ d) {v0 : Nat} {v1 : Int32} {v2 : Int32} {v3 : Int32} {v4 : Int32} {h : Hp} {Q : Bool → Hp → Prop} {QQ : Option AV → Hp → Prop} (hw : w_St_reach v0 v1 v2 v3 v4 h Q) (hQ : ∀ r9 h9, Q r9 h9 → QQ (some (ai (b2i r9))) h9) : aCall m_St_reach d [ar v0, ai v1, ai v2, ai v3, ai v4] h 0 0 QQ := by
  obtain ⟨d, rfl⟩ : ∃ d9, d = d9 + 1 := ⟨d - 1, by omega⟩
  refine aCall_in pl_St_reach (nle rfl) ?_
  show aW none m_St_reach (d + 1) 0 [(0, ar v0), (1, ai v1), (2, ai v2), (3, ai v3), (4, ai v4)] [] h 0 0 QQ
  unfold w_St_reach at hw
  refine r_iload_n (j := 1) d_St_reach_0 rfl ?_
  refine r_callS (av := [ai v1]) (rest := []) d_St_reach_1 mk_St_layer ll_St_115 st_St_layer rfl rfl (nle rfl) (s_St_layer  hw (fun r2 h1 hw => ?_))
  show aW none m_St_reach (d + 1) 4 [(0, ar v0), (1, ai v1), (2, ai v2), (3, ai v3), (4, ai v4)] [ai r2] h1 0 0 QQ
  refine r_aload_n (j := 0) d_St_reach_4 rfl ?_
  obtain ⟨q3, hw⟩ := hw
  refine r_getI d_St_reach_5 ok_9 (nle rfl) (nle rfl) rfl lf_St_87 q3 ?_
  refine r_imul d_St_reach_8 ?_
  refine r_iload_n (j := 2) d_St_reach_9 rfl ?_
  refine r_iadd d_St_reach_10 ?_
  refine r_istore (ls2 := [(5, ai ((r2 * (gI h1 v0 6)) + v2)), (0, ar v0), (1, ai v1), (2, ai v2), (3, ai v3), (4, ai v4)]) d_St_reach_11 (nle rfl) rfl ?_
  refine r_aload_n (j := 1) d_St_reach_13 rfl ?_
  refine r_getR d_St_reach_14 ok_9 (nle rfl) (nle rfl) rfl lf_St_32 q3 ?_
  refine r_iload_n (j := 4) d_St_reach_17 rfl ?_
  obtain ⟨q4, hw⟩ := hw
  obtain ⟨q5, hw⟩ := hw
  refine r_iald d_St_reach_18 q4 q5 ?_
  refine r_aload_n (j := 1) d_St_reach_19 rfl ?_
  refine r_getR d_St_reach_20 ok_9 (nle rfl) (nle rfl) rfl lf_St_47 q3 ?_
  refine r_iload (j := 5) d_St_reach_23 rfl ?_
  obtain ⟨q8, hw⟩ := hw
  refine r_callV (av := [ai v4]) (rest := [ai (gI h1 (gR h1 v0 8) (ix v3))]) (ci := 1) d_St_reach_25 mk_Co_gainOf ll_St_132 im_Co_gainOf se_Co_gainOf rfl (nle rfl) rfl rfl (nle rfl) q8 (s_Co_gainOf  hw (fun r7 h6 hw => ?_))
  show aW none m_St_reach (d + 1) 28 [(5, ai ((r2 * (gI h1 v0 6)) + v2)), (0, ar v0), (1, ai v1), (2, ai v2), (3, ai v3), (4, ai v4)] [ai r7, ai (gI h1 (gR h1 v0 8) (ix v3))] h6 0 0 QQ
  refine r_iadd d_St_reach_28 ?_
  refine r_istore (ls2 := [(6, ai ((gI h1 (gR h1 v0 8) (ix v3)) + r7)), (5, ai ((r2 * (gI h1 v0 6)) + v2)), (0, ar v0), (1, ai v1), (2, ai v2), (3, ai v3), (4, ai v4)]) d_St_reach_29 (nle rfl) rfl ?_
  refine r_aload_n (j := 2) d_St_reach_31 rfl ?_
  obtain ⟨q9, hw⟩ := hw
  refine r_getR d_St_reach_32 ok_9 (nle rfl) (nle rfl) rfl lf_St_28 q9 ?_
  refine r_iload (j := 1) d_St_reach_35 rfl ?_
  obtain ⟨q10, hw⟩ := hw
  obtain ⟨q11, hw⟩ := hw
  refine r_lald d_St_reach_37 q10 q11 ?_
  refine r_lconst d_St_reach_38 kl_0 ?_
  refine r_lcmp d_St_reach_39 ?_
  refine r_if_ne d_St_reach_40 (fun w9 => ?_) (fun w9 => ?_)
  · replace hw := hw.2 (fun g9 => w9 ((lg_cmp_eq _ _).mpr g9))
    refine r_iconst d_St_reach_47 kc_0 ?_
    refine r_pick (ls2 := [(0, ar v0), (1, ai v1), (2, ai v2), (3, ai v3), (4, ai v4), (5, ai ((r2 * (gI h1 v0 6)) + v2)), (6, ai ((gI h1 (gR h1 v0 8) (ix v3)) + r7))]) [2, 3, 4, 5, 6, 1, 0] rfl ?_
    exact s_St_reach_B48 hd hQ  hw
  · replace hw := hw.1 ((lg_cmp_eq _ _).mp w9)
    refine r_iconst d_St_reach_43 kc_1 ?_
    refine r_goto d_St_reach_44 ?_
    refine r_pick (ls2 := [(0, ar v0), (1, ai v1), (2, ai v2), (3, ai v3), (4, ai v4), (5, ai ((r2 * (gI h1 v0 6)) + v2)), (6, ai ((gI h1 (gR h1 v0 8) (ix v3)) + r7))]) [2, 3, 4, 5, 6, 1, 0] rfl ?_
    exact s_St_reach_B48 hd hQ  hw
set_option maxRecDepth 100000 in
set_option maxHeartbeats 4000000 in
theorem s_St_leave_L133 {d : Nat} (hd : 2 ≤ d + 1) {Q : Int32 → Hp → Prop} {QQ : Option AV → Hp → Prop} (hQ : ∀ r9 h9, Q r9 h9 → QQ (some (ai r9)) h9) {v0 : Nat} {v1 : Int32} {v2 : Int32} {v5 : Int32} {v6 : Int32} {v7 : Int32} {v8 : Int32} {v9 : Int32} {v10 : Int32} {v11 : Int32} : ∀ (n : Nat) (v12 : Int32) (v13 : Int32) (h : Hp), w_St_leave_L133 Q  v0 v1 v2 v5 v6 v7 v8 v9 v10 v11 n v12 v13 h → aW none m_St_leave (d + 1) 133 [(0, ar v0), (1, ai v1), (2, ai v2), (5, ai v5), (6, ai v6), (7, ai v7), (8, ai v8), (9, ai v9), (10, ai v10), (11, ai v11), (12, ai v12), (13, ai v13)] [] h 0 0 QQ := by
  intro n
  induction n with
  | zero => intro v12 v13 h hw; exact hw.elim
  | succ n ih =>
    intro v12 v13 h hw
    unfold w_St_leave_L133 at hw
    refine r_iload (j := 11) d_St_leave_133 rfl ?_
    refine r_aload_n (j := 0) d_St_leave_135 rfl ?_
    obtain ⟨q16, hw⟩ := hw
    refine r_getR d_St_leave_136 ok_9 (nle rfl) (nle rfl) rfl lf_St_47 q16 ?_
    obtain ⟨q17, hw⟩ := hw
    refine r_getI d_St_leave_139 ok_1 (nle rfl) (nle rfl) rfl lf_St_122 q17 ?_
    refine r_icmp_ge d_St_leave_142 (fun w9 => ?_) (fun w9 => ?_)
    · replace hw := hw.1 w9
      refine r_iload (j := 10) d_St_leave_283 rfl ?_
      exact r_ireturn d_St_leave_285.1 rfl (hQ _ _ hw)
    · replace hw := hw.2 w9
      refine r_iload (j := 4) d_St_leave_145 rfl ?_
      refine r_aload_n (j := 0) d_St_leave_147 rfl ?_
      refine r_getR d_St_leave_148 ok_9 (nle rfl) (nle rfl) rfl lf_St_47 q16 ?_
      refine r_iload (j := 11) d_St_leave_151 rfl ?_
      refine r_iconst d_St_leave_153 kc_0 ?_
      refine r_callV (av := [ai v13, ai (0 : Int32)]) (rest := [ai v6]) (ci := 1) d_St_leave_154 mk_Co_numberOf ll_St_125 im_Co_numberOf se_Co_numberOf rfl (nle rfl) rfl rfl (nle rfl) q17 (s_Co_numberOf  hw (fun r19 h18 hw => ?_))
      show aW none m_St_leave (d + 1) 157 [(0, ar v0), (1, ai v1), (2, ai v2), (5, ai v5), (6, ai v6), (7, ai v7), (8, ai v8), (9, ai v9), (10, ai v10), (11, ai v11), (12, ai v12), (13, ai v13)] [ai r19, ai v6] h18 0 0 QQ
      refine r_iadd d_St_leave_157 ?_
      refine r_istore (ls2 := [(14, ai (v6 + r19)), (0, ar v0), (1, ai v1), (2, ai v2), (5, ai v5), (6, ai v6), (7, ai v7), (8, ai v8), (9, ai v9), (10, ai v10), (11, ai v11), (12, ai v12), (13, ai v13)]) d_St_leave_158 (nle rfl) rfl ?_
      refine r_iload (j := 6) d_St_leave_160 rfl ?_
      refine r_aload_n (j := 1) d_St_leave_162 rfl ?_
      obtain ⟨q20, hw⟩ := hw
      refine r_getR d_St_leave_163 ok_9 (nle rfl) (nle rfl) rfl lf_St_47 q20 ?_
      refine r_iload (j := 12) d_St_leave_166 rfl ?_
      refine r_iconst d_St_leave_168 kc_1 ?_
      obtain ⟨q23, hw⟩ := hw
      refine r_callV (av := [ai v13, ai (1 : Int32)]) (rest := [ai v7]) (ci := 1) d_St_leave_169 mk_Co_numberOf ll_St_125 im_Co_numberOf se_Co_numberOf rfl (nle rfl) rfl rfl (nle rfl) q23 (s_Co_numberOf  hw (fun r22 h21 hw => ?_))
      show aW none m_St_leave (d + 1) 172 [(14, ai (v6 + r19)), (0, ar v0), (1, ai v1), (2, ai v2), (5, ai v5), (6, ai v6), (7, ai v7), (8, ai v8), (9, ai v9), (10, ai v10), (11, ai v11), (12, ai v12), (13, ai v13)] [ai r22, ai v7] h21 0 0 QQ
      refine r_iadd d_St_leave_172 ?_
      refine r_istore (ls2 := [(15, ai (v7 + r22)), (14, ai (v6 + r19)), (0, ar v0), (1, ai v1), (2, ai v2), (5, ai v5), (6, ai v6), (7, ai v7), (8, ai v8), (9, ai v9), (10, ai v10), (11, ai v11), (12, ai v12), (13, ai v13)]) d_St_leave_173 (nle rfl) rfl ?_
      refine r_iload (j := 8) d_St_leave_175 rfl ?_
      refine r_aload_n (j := 2) d_St_leave_177 rfl ?_
      obtain ⟨q24, hw⟩ := hw
      refine r_getR d_St_leave_178 ok_9 (nle rfl) (nle rfl) rfl lf_St_47 q24 ?_
      refine r_iload (j := 13) d_St_leave_181 rfl ?_
      refine r_iconst d_St_leave_183 kc_2 ?_
      obtain ⟨q27, hw⟩ := hw
      refine r_callV (av := [ai v13, ai (2 : Int32)]) (rest := [ai v8]) (ci := 1) d_St_leave_184 mk_Co_numberOf ll_St_125 im_Co_numberOf se_Co_numberOf rfl (nle rfl) rfl rfl (nle rfl) q27 (s_Co_numberOf  hw (fun r26 h25 hw => ?_))
      show aW none m_St_leave (d + 1) 187 [(15, ai (v7 + r22)), (14, ai (v6 + r19)), (0, ar v0), (1, ai v1), (2, ai v2), (5, ai v5), (6, ai v6), (7, ai v7), (8, ai v8), (9, ai v9), (10, ai v10), (11, ai v11), (12, ai v12), (13, ai v13)] [ai r26, ai v8] h25 0 0 QQ
      refine r_iadd d_St_leave_187 ?_
      refine r_istore (ls2 := [(16, ai (v8 + r26)), (15, ai (v7 + r22)), (14, ai (v6 + r19)), (0, ar v0), (1, ai v1), (2, ai v2), (5, ai v5), (6, ai v6), (7, ai v7), (8, ai v8), (9, ai v9), (10, ai v10), (11, ai v11), (12, ai v12), (13, ai v13)]) d_St_leave_188 (nle rfl) rfl ?_
      refine r_iload (j := 2) d_St_leave_190 rfl ?_
      refine r_if_lt d_St_leave_192 (fun w9 => ?_) (fun w9 => ?_)
      · replace hw := hw.1 w9
        refine r_iinc (j := 14) (ls2 := [(13, ai (v13 + (1 : Int32))), (16, ai (v8 + r26)), (15, ai (v7 + r22)), (14, ai (v6 + r19)), (0, ar v0), (1, ai v1), (2, ai v2), (5, ai v5), (6, ai v6), (7, ai v7), (8, ai v8), (9, ai v9), (10, ai v10), (11, ai v11), (12, ai v12)]) d_St_leave_277 rfl (congrArg (HAdd.hAdd v13) kc_1) (nle rfl) rfl ?_
        refine r_goto d_St_leave_280 ?_
        refine r_pick (ls2 := [(0, ar v0), (1, ai v1), (2, ai v2), (5, ai v5), (6, ai v6), (7, ai v7), (8, ai v8), (9, ai v9), (10, ai v10), (11, ai v11), (12, ai v12), (13, ai (v13 + (1 : Int32)))]) [4, 5, 6, 7, 8, 9, 10, 11, 12, 13, 14, 0] rfl ?_
        exact ih _ _ _ hw
      · replace hw := hw.2 w9
        refine r_iload (j := 2) d_St_leave_195 rfl ?_
        refine r_iload (j := 10) d_St_leave_197 rfl ?_
        refine r_icmp_gt d_St_leave_199 (fun w9 => ?_) (fun w9 => ?_)
        · replace hw := hw.1 w9
          refine r_iinc (j := 14) (ls2 := [(13, ai (v13 + (1 : Int32))), (16, ai (v8 + r26)), (15, ai (v7 + r22)), (14, ai (v6 + r19)), (0, ar v0), (1, ai v1), (2, ai v2), (5, ai v5), (6, ai v6), (7, ai v7), (8, ai v8), (9, ai v9), (10, ai v10), (11, ai v11), (12, ai v12)]) d_St_leave_277 rfl (congrArg (HAdd.hAdd v13) kc_1) (nle rfl) rfl ?_
          refine r_goto d_St_leave_280 ?_
          refine r_pick (ls2 := [(0, ar v0), (1, ai v1), (2, ai v2), (5, ai v5), (6, ai v6), (7, ai v7), (8, ai v8), (9, ai v9), (10, ai v10), (11, ai v11), (12, ai v12), (13, ai (v13 + (1 : Int32)))]) [4, 5, 6, 7, 8, 9, 10, 11, 12, 13, 14, 0] rfl ?_
          exact ih _ _ _ hw
        · replace hw := hw.2 w9
          refine r_iload (j := 1) d_St_leave_202 rfl ?_
          refine r_if_lt d_St_leave_204 (fun w9 => ?_) (fun w9 => ?_)
          · replace hw := hw.1 w9
            refine r_iinc (j := 14) (ls2 := [(13, ai (v13 + (1 : Int32))), (16, ai (v8 + r26)), (15, ai (v7 + r22)), (14, ai (v6 + r19)), (0, ar v0), (1, ai v1), (2, ai v2), (5, ai v5), (6, ai v6), (7, ai v7), (8, ai v8), (9, ai v9), (10, ai v10), (11, ai v11), (12, ai v12)]) d_St_leave_277 rfl (congrArg (HAdd.hAdd v13) kc_1) (nle rfl) rfl ?_
            refine r_goto d_St_leave_280 ?_
            refine r_pick (ls2 := [(0, ar v0), (1, ai v1), (2, ai v2), (5, ai v5), (6, ai v6), (7, ai v7), (8, ai v8), (9, ai v9), (10, ai v10), (11, ai v11), (12, ai v12), (13, ai (v13 + (1 : Int32)))]) [4, 5, 6, 7, 8, 9, 10, 11, 12, 13, 14, 0] rfl ?_
            exact ih _ _ _ hw
          · replace hw := hw.2 w9
            refine r_iload (j := 1) d_St_leave_207 rfl ?_
            refine r_iload (j := 11) d_St_leave_209 rfl ?_
            refine r_icmp_gt d_St_leave_211 (fun w9 => ?_) (fun w9 => ?_)
            · replace hw := hw.1 w9
              refine r_iinc (j := 14) (ls2 := [(13, ai (v13 + (1 : Int32))), (16, ai (v8 + r26)), (15, ai (v7 + r22)), (14, ai (v6 + r19)), (0, ar v0), (1, ai v1), (2, ai v2), (5, ai v5), (6, ai v6), (7, ai v7), (8, ai v8), (9, ai v9), (10, ai v10), (11, ai v11), (12, ai v12)]) d_St_leave_277 rfl (congrArg (HAdd.hAdd v13) kc_1) (nle rfl) rfl ?_
              refine r_goto d_St_leave_280 ?_
              refine r_pick (ls2 := [(0, ar v0), (1, ai v1), (2, ai v2), (5, ai v5), (6, ai v6), (7, ai v7), (8, ai v8), (9, ai v9), (10, ai v10), (11, ai v11), (12, ai v12), (13, ai (v13 + (1 : Int32)))]) [4, 5, 6, 7, 8, 9, 10, 11, 12, 13, 14, 0] rfl ?_
              exact ih _ _ _ hw
            · replace hw := hw.2 w9
              refine r_iload (j := 0) d_St_leave_214 rfl ?_
              refine r_if_lt d_St_leave_216 (fun w9 => ?_) (fun w9 => ?_)
              · replace hw := hw.1 w9
                refine r_iinc (j := 14) (ls2 := [(13, ai (v13 + (1 : Int32))), (16, ai (v8 + r26)), (15, ai (v7 + r22)), (14, ai (v6 + r19)), (0, ar v0), (1, ai v1), (2, ai v2), (5, ai v5), (6, ai v6), (7, ai v7), (8, ai v8), (9, ai v9), (10, ai v10), (11, ai v11), (12, ai v12)]) d_St_leave_277 rfl (congrArg (HAdd.hAdd v13) kc_1) (nle rfl) rfl ?_
                refine r_goto d_St_leave_280 ?_
                refine r_pick (ls2 := [(0, ar v0), (1, ai v1), (2, ai v2), (5, ai v5), (6, ai v6), (7, ai v7), (8, ai v8), (9, ai v9), (10, ai v10), (11, ai v11), (12, ai v12), (13, ai (v13 + (1 : Int32)))]) [4, 5, 6, 7, 8, 9, 10, 11, 12, 13, 14, 0] rfl ?_
                exact ih _ _ _ hw
              · replace hw := hw.2 w9
                refine r_iload (j := 0) d_St_leave_219 rfl ?_
                refine r_iload (j := 12) d_St_leave_221 rfl ?_
                refine r_icmp_le d_St_leave_223 (fun w9 => ?_) (fun w9 => ?_)
                · replace hw := hw.1 w9
                  refine r_iload (j := 2) d_St_leave_229 rfl ?_
                  refine r_aload_n (j := 3) d_St_leave_231 rfl ?_
                  obtain ⟨q28, hw⟩ := hw
                  refine r_getI d_St_leave_232 ok_9 (nle rfl) (nle rfl) rfl lf_St_21 q28 ?_
                  refine r_imul d_St_leave_235 ?_
                  refine r_iload (j := 1) d_St_leave_236 rfl ?_
                  refine r_iadd d_St_leave_238 ?_
                  refine r_aload_n (j := 3) d_St_leave_239 rfl ?_
                  refine r_getI d_St_leave_240 ok_9 (nle rfl) (nle rfl) rfl lf_St_25 q28 ?_
                  refine r_imul d_St_leave_243 ?_
                  refine r_iload (j := 0) d_St_leave_244 rfl ?_
                  refine r_iadd d_St_leave_246 ?_
                  refine r_istore (ls2 := [(17, ai (((((v6 + r19) * (gI h25 v0 4)) + (v7 + r22)) * (gI h25 v0 5)) + (v8 + r26))), (16, ai (v8 + r26)), (15, ai (v7 + r22)), (14, ai (v6 + r19)), (0, ar v0), (1, ai v1), (2, ai v2), (5, ai v5), (6, ai v6), (7, ai v7), (8, ai v8), (9, ai v9), (10, ai v10), (11, ai v11), (12, ai v12), (13, ai v13)]) d_St_leave_247 (nle rfl) rfl ?_
                  refine r_aload_n (j := 4) d_St_leave_249 rfl ?_
                  refine r_iload_n (j := 6) d_St_leave_250 rfl ?_
                  refine r_iload (j := 0) d_St_leave_251 rfl ?_
                  refine r_iload_n (j := 5) d_St_leave_253 rfl ?_
                  refine r_iload (j := 15) d_St_leave_254 rfl ?_
                  refine r_callV (av := [ai v2, ai (((((v6 + r19) * (gI h25 v0 4)) + (v7 + r22)) * (gI h25 v0 5)) + (v8 + r26)), ai v1, ai v13]) (rest := []) (ci := 9) d_St_leave_256 mk_St_reach ll_St_128 im_St_reach se_St_reach rfl (nle rfl) rfl rfl (nle rfl) q28 (s_St_reach (by omega) hw (fun r30 h29 hw => ?_))
                  show aW none m_St_leave (d + 1) 259 [(17, ai (((((v6 + r19) * (gI h25 v0 4)) + (v7 + r22)) * (gI h25 v0 5)) + (v8 + r26))), (16, ai (v8 + r26)), (15, ai (v7 + r22)), (14, ai (v6 + r19)), (0, ar v0), (1, ai v1), (2, ai v2), (5, ai v5), (6, ai v6), (7, ai v7), (8, ai v8), (9, ai v9), (10, ai v10), (11, ai v11), (12, ai v12), (13, ai v13)] [ai (b2i r30)] h29 0 0 QQ
                  refine r_if_eq d_St_leave_259 (fun w9 => ?_) (fun w9 => ?_)
                  · replace hw := hw.1 (b2i_0.mp w9)
                    refine r_iinc (j := 15) (ls2 := [(13, ai (v13 + (1 : Int32))), (17, ai (((((v6 + r19) * (gI h25 v0 4)) + (v7 + r22)) * (gI h25 v0 5)) + (v8 + r26))), (16, ai (v8 + r26)), (15, ai (v7 + r22)), (14, ai (v6 + r19)), (0, ar v0), (1, ai v1), (2, ai v2), (5, ai v5), (6, ai v6), (7, ai v7), (8, ai v8), (9, ai v9), (10, ai v10), (11, ai v11), (12, ai v12)]) d_St_leave_277 rfl (congrArg (HAdd.hAdd v13) kc_1) (nle rfl) rfl ?_
                    refine r_goto d_St_leave_280 ?_
                    refine r_pick (ls2 := [(0, ar v0), (1, ai v1), (2, ai v2), (5, ai v5), (6, ai v6), (7, ai v7), (8, ai v8), (9, ai v9), (10, ai v10), (11, ai v11), (12, ai v12), (13, ai (v13 + (1 : Int32)))]) [5, 6, 7, 8, 9, 10, 11, 12, 13, 14, 15, 0] rfl ?_
                    exact ih _ _ _ hw
                  · replace hw := hw.2 (fun g9 => w9 (b2i_0.mpr g9))
                    refine r_aload_n (j := 4) d_St_leave_262 rfl ?_
                    obtain ⟨q31, hw⟩ := hw
                    refine r_getR d_St_leave_263 ok_9 (nle rfl) (nle rfl) rfl lf_St_35 q31 ?_
                    refine r_iload (j := 7) d_St_leave_266 rfl ?_
                    refine r_iload (j := 14) d_St_leave_268 rfl ?_
                    refine r_iadd d_St_leave_270 ?_
                    refine r_iload (j := 0) d_St_leave_271 rfl ?_
                    obtain ⟨q32, hw⟩ := hw
                    obtain ⟨q33, hw⟩ := hw
                    refine r_iast d_St_leave_273 q32 q33 ?_
                    refine r_iinc (j := 14) (ls2 := [(12, ai (v12 + (1 : Int32))), (17, ai (((((v6 + r19) * (gI h25 v0 4)) + (v7 + r22)) * (gI h25 v0 5)) + (v8 + r26))), (16, ai (v8 + r26)), (15, ai (v7 + r22)), (14, ai (v6 + r19)), (0, ar v0), (1, ai v1), (2, ai v2), (5, ai v5), (6, ai v6), (7, ai v7), (8, ai v8), (9, ai v9), (10, ai v10), (11, ai v11), (13, ai v13)]) d_St_leave_274 rfl (congrArg (HAdd.hAdd v12) kc_1) (nle rfl) rfl ?_
                    refine r_iinc (j := 15) (ls2 := [(13, ai (v13 + (1 : Int32))), (12, ai (v12 + (1 : Int32))), (17, ai (((((v6 + r19) * (gI h25 v0 4)) + (v7 + r22)) * (gI h25 v0 5)) + (v8 + r26))), (16, ai (v8 + r26)), (15, ai (v7 + r22)), (14, ai (v6 + r19)), (0, ar v0), (1, ai v1), (2, ai v2), (5, ai v5), (6, ai v6), (7, ai v7), (8, ai v8), (9, ai v9), (10, ai v10), (11, ai v11)]) d_St_leave_277 rfl (congrArg (HAdd.hAdd v13) kc_1) (nle rfl) rfl ?_
                    refine r_goto d_St_leave_280 ?_
                    refine r_pick (ls2 := [(0, ar v0), (1, ai v1), (2, ai v2), (5, ai v5), (6, ai v6), (7, ai v7), (8, ai v8), (9, ai v9), (10, ai v10), (11, ai v11), (12, ai (v12 + (1 : Int32))), (13, ai (v13 + (1 : Int32)))]) [6, 7, 8, 9, 10, 11, 12, 13, 14, 15, 1, 0] rfl ?_
                    exact ih _ _ _ hw
                · replace hw := hw.2 w9
                  refine r_goto d_St_leave_226 ?_
                  refine r_iinc (j := 14) (ls2 := [(13, ai (v13 + (1 : Int32))), (16, ai (v8 + r26)), (15, ai (v7 + r22)), (14, ai (v6 + r19)), (0, ar v0), (1, ai v1), (2, ai v2), (5, ai v5), (6, ai v6), (7, ai v7), (8, ai v8), (9, ai v9), (10, ai v10), (11, ai v11), (12, ai v12)]) d_St_leave_277 rfl (congrArg (HAdd.hAdd v13) kc_1) (nle rfl) rfl ?_
                  refine r_goto d_St_leave_280 ?_
                  refine r_pick (ls2 := [(0, ar v0), (1, ai v1), (2, ai v2), (5, ai v5), (6, ai v6), (7, ai v7), (8, ai v8), (9, ai v9), (10, ai v10), (11, ai v11), (12, ai v12), (13, ai (v13 + (1 : Int32)))]) [4, 5, 6, 7, 8, 9, 10, 11, 12, 13, 14, 0] rfl ?_
                  exact ih _ _ _ hw
set_option maxRecDepth 100000 in
set_option maxHeartbeats 4000000 in
theorem s_St_leave {d : Nat} (hd : 2 ≤ d) {v0 : Nat} {v1 : Int32} {v2 : Int32} {v3 : Int32} {h : Hp} {Q : Int32 → Hp → Prop} {QQ : Option AV → Hp → Prop} (hw : w_St_leave v0 v1 v2 v3 h Q) (hQ : ∀ r9 h9, Q r9 h9 → QQ (some (ai r9)) h9) : aCall m_St_leave d [ar v0, ai v1, ai v2, ai v3] h 0 0 QQ := by
  obtain ⟨d, rfl⟩ : ∃ d9, d = d9 + 1 := ⟨d - 1, by omega⟩
  refine aCall_in pl_St_leave (nle rfl) ?_
  show aW none m_St_leave (d + 1) 0 [(0, ar v0), (1, ai v1), (2, ai v2), (3, ai v3)] [] h 0 0 QQ
  unfold w_St_leave at hw
  refine r_iload_n (j := 2) d_St_leave_0 rfl ?_
  refine r_iconst d_St_leave_1 kc_3 ?_
  refine r_imul d_St_leave_2 ?_
  refine r_istore (ls2 := [(4, ai (v2 * (3 : Int32))), (0, ar v0), (1, ai v1), (2, ai v2), (3, ai v3)]) d_St_leave_3 (nle rfl) rfl ?_
  refine r_iload_n (j := 3) d_St_leave_5 rfl ?_
  refine r_callS (av := [ai v2]) (rest := []) d_St_leave_6 mk_St_layer ll_St_115 st_St_layer rfl rfl (nle rfl) (s_St_layer  hw (fun r2 h1 hw => ?_))
  show aW none m_St_leave (d + 1) 9 [(4, ai (v2 * (3 : Int32))), (0, ar v0), (1, ai v1), (2, ai v2), (3, ai v3)] [ai r2] h1 0 0 QQ
  refine r_aload_n (j := 1) d_St_leave_9 rfl ?_
  obtain ⟨q3, hw⟩ := hw
  refine r_getI d_St_leave_10 ok_9 (nle rfl) (nle rfl) rfl lf_St_87 q3 ?_
  refine r_imul d_St_leave_13 ?_
  refine r_istore (ls2 := [(5, ai (r2 * (gI h1 v0 6))), (4, ai (v2 * (3 : Int32))), (0, ar v0), (1, ai v1), (2, ai v2), (3, ai v3)]) d_St_leave_14 (nle rfl) rfl ?_
  refine r_aload_n (j := 2) d_St_leave_16 rfl ?_
  refine r_getR d_St_leave_17 ok_9 (nle rfl) (nle rfl) rfl lf_St_18 q3 ?_
  refine r_iconst d_St_leave_20 kc_0 ?_
  obtain ⟨q4, hw⟩ := hw
  obtain ⟨q5, hw⟩ := hw
  refine r_iald d_St_leave_21 q4 q5 ?_
  refine r_aload_n (j := 2) d_St_leave_22 rfl ?_
  refine r_getR d_St_leave_23 ok_9 (nle rfl) (nle rfl) rfl lf_St_9 q3 ?_
  refine r_iload (j := 1) d_St_leave_26 rfl ?_
  obtain ⟨q6, hw⟩ := hw
  obtain ⟨q7, hw⟩ := hw
  refine r_iald d_St_leave_28 q6 q7 ?_
  refine r_isub d_St_leave_29 ?_
  refine r_istore (ls2 := [(6, ai ((gI h1 (gR h1 v0 3) (ix (0 : Int32))) - (gI h1 (gR h1 v0 1) (ix (v2 * (3 : Int32)))))), (5, ai (r2 * (gI h1 v0 6))), (4, ai (v2 * (3 : Int32))), (0, ar v0), (1, ai v1), (2, ai v2), (3, ai v3)]) d_St_leave_30 (nle rfl) rfl ?_
  refine r_aload_n (j := 3) d_St_leave_32 rfl ?_
  refine r_getR d_St_leave_33 ok_9 (nle rfl) (nle rfl) rfl lf_St_18 q3 ?_
  refine r_iconst d_St_leave_36 kc_1 ?_
  obtain ⟨q8, hw⟩ := hw
  refine r_iald d_St_leave_37 q4 q8 ?_
  refine r_aload_n (j := 3) d_St_leave_38 rfl ?_
  refine r_getR d_St_leave_39 ok_9 (nle rfl) (nle rfl) rfl lf_St_9 q3 ?_
  refine r_iload (j := 2) d_St_leave_42 rfl ?_
  refine r_iconst d_St_leave_44 kc_1 ?_
  refine r_iadd d_St_leave_45 ?_
  obtain ⟨q9, hw⟩ := hw
  refine r_iald d_St_leave_46 q6 q9 ?_
  refine r_isub d_St_leave_47 ?_
  refine r_istore (ls2 := [(7, ai ((gI h1 (gR h1 v0 3) (ix (1 : Int32))) - (gI h1 (gR h1 v0 1) (ix ((v2 * (3 : Int32)) + (1 : Int32)))))), (6, ai ((gI h1 (gR h1 v0 3) (ix (0 : Int32))) - (gI h1 (gR h1 v0 1) (ix (v2 * (3 : Int32)))))), (5, ai (r2 * (gI h1 v0 6))), (4, ai (v2 * (3 : Int32))), (0, ar v0), (1, ai v1), (2, ai v2), (3, ai v3)]) d_St_leave_48 (nle rfl) rfl ?_
  refine r_aload_n (j := 4) d_St_leave_50 rfl ?_
  refine r_getR d_St_leave_51 ok_9 (nle rfl) (nle rfl) rfl lf_St_18 q3 ?_
  refine r_iconst d_St_leave_54 kc_2 ?_
  obtain ⟨q10, hw⟩ := hw
  refine r_iald d_St_leave_55 q4 q10 ?_
  refine r_aload_n (j := 4) d_St_leave_56 rfl ?_
  refine r_getR d_St_leave_57 ok_9 (nle rfl) (nle rfl) rfl lf_St_9 q3 ?_
  refine r_iload (j := 3) d_St_leave_60 rfl ?_
  refine r_iconst d_St_leave_62 kc_2 ?_
  refine r_iadd d_St_leave_63 ?_
  obtain ⟨q11, hw⟩ := hw
  refine r_iald d_St_leave_64 q6 q11 ?_
  refine r_isub d_St_leave_65 ?_
  refine r_istore (ls2 := [(8, ai ((gI h1 (gR h1 v0 3) (ix (2 : Int32))) - (gI h1 (gR h1 v0 1) (ix ((v2 * (3 : Int32)) + (2 : Int32)))))), (7, ai ((gI h1 (gR h1 v0 3) (ix (1 : Int32))) - (gI h1 (gR h1 v0 1) (ix ((v2 * (3 : Int32)) + (1 : Int32)))))), (6, ai ((gI h1 (gR h1 v0 3) (ix (0 : Int32))) - (gI h1 (gR h1 v0 1) (ix (v2 * (3 : Int32)))))), (5, ai (r2 * (gI h1 v0 6))), (4, ai (v2 * (3 : Int32))), (0, ar v0), (1, ai v1), (2, ai v2), (3, ai v3)]) d_St_leave_66 (nle rfl) rfl ?_
  refine r_aload_n (j := 5) d_St_leave_68 rfl ?_
  refine r_getR d_St_leave_69 ok_9 (nle rfl) (nle rfl) rfl lf_St_15 q3 ?_
  refine r_iload (j := 4) d_St_leave_72 rfl ?_
  obtain ⟨q12, hw⟩ := hw
  obtain ⟨q13, hw⟩ := hw
  refine r_iald d_St_leave_74 q12 q13 ?_
  refine r_aload_n (j := 5) d_St_leave_75 rfl ?_
  refine r_getR d_St_leave_76 ok_9 (nle rfl) (nle rfl) rfl lf_St_9 q3 ?_
  refine r_iload (j := 4) d_St_leave_79 rfl ?_
  refine r_iald d_St_leave_81 q6 q7 ?_
  refine r_isub d_St_leave_82 ?_
  refine r_istore (ls2 := [(9, ai ((gI h1 (gR h1 v0 2) (ix (v2 * (3 : Int32)))) - (gI h1 (gR h1 v0 1) (ix (v2 * (3 : Int32)))))), (8, ai ((gI h1 (gR h1 v0 3) (ix (2 : Int32))) - (gI h1 (gR h1 v0 1) (ix ((v2 * (3 : Int32)) + (2 : Int32)))))), (7, ai ((gI h1 (gR h1 v0 3) (ix (1 : Int32))) - (gI h1 (gR h1 v0 1) (ix ((v2 * (3 : Int32)) + (1 : Int32)))))), (6, ai ((gI h1 (gR h1 v0 3) (ix (0 : Int32))) - (gI h1 (gR h1 v0 1) (ix (v2 * (3 : Int32)))))), (5, ai (r2 * (gI h1 v0 6))), (4, ai (v2 * (3 : Int32))), (0, ar v0), (1, ai v1), (2, ai v2), (3, ai v3)]) d_St_leave_83 (nle rfl) rfl ?_
  refine r_aload_n (j := 6) d_St_leave_85 rfl ?_
  refine r_getR d_St_leave_86 ok_9 (nle rfl) (nle rfl) rfl lf_St_15 q3 ?_
  refine r_iload (j := 5) d_St_leave_89 rfl ?_
  refine r_iconst d_St_leave_91 kc_1 ?_
  refine r_iadd d_St_leave_92 ?_
  obtain ⟨q14, hw⟩ := hw
  refine r_iald d_St_leave_93 q12 q14 ?_
  refine r_aload_n (j := 6) d_St_leave_94 rfl ?_
  refine r_getR d_St_leave_95 ok_9 (nle rfl) (nle rfl) rfl lf_St_9 q3 ?_
  refine r_iload (j := 5) d_St_leave_98 rfl ?_
  refine r_iconst d_St_leave_100 kc_1 ?_
  refine r_iadd d_St_leave_101 ?_
  refine r_iald d_St_leave_102 q6 q9 ?_
  refine r_isub d_St_leave_103 ?_
  refine r_istore (ls2 := [(10, ai ((gI h1 (gR h1 v0 2) (ix ((v2 * (3 : Int32)) + (1 : Int32)))) - (gI h1 (gR h1 v0 1) (ix ((v2 * (3 : Int32)) + (1 : Int32)))))), (9, ai ((gI h1 (gR h1 v0 2) (ix (v2 * (3 : Int32)))) - (gI h1 (gR h1 v0 1) (ix (v2 * (3 : Int32)))))), (8, ai ((gI h1 (gR h1 v0 3) (ix (2 : Int32))) - (gI h1 (gR h1 v0 1) (ix ((v2 * (3 : Int32)) + (2 : Int32)))))), (7, ai ((gI h1 (gR h1 v0 3) (ix (1 : Int32))) - (gI h1 (gR h1 v0 1) (ix ((v2 * (3 : Int32)) + (1 : Int32)))))), (6, ai ((gI h1 (gR h1 v0 3) (ix (0 : Int32))) - (gI h1 (gR h1 v0 1) (ix (v2 * (3 : Int32)))))), (5, ai (r2 * (gI h1 v0 6))), (4, ai (v2 * (3 : Int32))), (0, ar v0), (1, ai v1), (2, ai v2), (3, ai v3)]) d_St_leave_104 (nle rfl) rfl ?_
  refine r_aload_n (j := 7) d_St_leave_106 rfl ?_
  refine r_getR d_St_leave_107 ok_9 (nle rfl) (nle rfl) rfl lf_St_15 q3 ?_
  refine r_iload (j := 6) d_St_leave_110 rfl ?_
  refine r_iconst d_St_leave_112 kc_2 ?_
  refine r_iadd d_St_leave_113 ?_
  obtain ⟨q15, hw⟩ := hw
  refine r_iald d_St_leave_114 q12 q15 ?_
  refine r_aload_n (j := 7) d_St_leave_115 rfl ?_
  refine r_getR d_St_leave_116 ok_9 (nle rfl) (nle rfl) rfl lf_St_9 q3 ?_
  refine r_iload (j := 6) d_St_leave_119 rfl ?_
  refine r_iconst d_St_leave_121 kc_2 ?_
  refine r_iadd d_St_leave_122 ?_
  refine r_iald d_St_leave_123 q6 q11 ?_
  refine r_isub d_St_leave_124 ?_
  refine r_istore (ls2 := [(11, ai ((gI h1 (gR h1 v0 2) (ix ((v2 * (3 : Int32)) + (2 : Int32)))) - (gI h1 (gR h1 v0 1) (ix ((v2 * (3 : Int32)) + (2 : Int32)))))), (10, ai ((gI h1 (gR h1 v0 2) (ix ((v2 * (3 : Int32)) + (1 : Int32)))) - (gI h1 (gR h1 v0 1) (ix ((v2 * (3 : Int32)) + (1 : Int32)))))), (9, ai ((gI h1 (gR h1 v0 2) (ix (v2 * (3 : Int32)))) - (gI h1 (gR h1 v0 1) (ix (v2 * (3 : Int32)))))), (8, ai ((gI h1 (gR h1 v0 3) (ix (2 : Int32))) - (gI h1 (gR h1 v0 1) (ix ((v2 * (3 : Int32)) + (2 : Int32)))))), (7, ai ((gI h1 (gR h1 v0 3) (ix (1 : Int32))) - (gI h1 (gR h1 v0 1) (ix ((v2 * (3 : Int32)) + (1 : Int32)))))), (6, ai ((gI h1 (gR h1 v0 3) (ix (0 : Int32))) - (gI h1 (gR h1 v0 1) (ix (v2 * (3 : Int32)))))), (5, ai (r2 * (gI h1 v0 6))), (4, ai (v2 * (3 : Int32))), (0, ar v0), (1, ai v1), (2, ai v2), (3, ai v3)]) d_St_leave_125 (nle rfl) rfl ?_
  refine r_iload_n (j := 11) d_St_leave_127 rfl ?_
  refine r_istore (ls2 := [(12, ai v3), (11, ai ((gI h1 (gR h1 v0 2) (ix ((v2 * (3 : Int32)) + (2 : Int32)))) - (gI h1 (gR h1 v0 1) (ix ((v2 * (3 : Int32)) + (2 : Int32)))))), (10, ai ((gI h1 (gR h1 v0 2) (ix ((v2 * (3 : Int32)) + (1 : Int32)))) - (gI h1 (gR h1 v0 1) (ix ((v2 * (3 : Int32)) + (1 : Int32)))))), (9, ai ((gI h1 (gR h1 v0 2) (ix (v2 * (3 : Int32)))) - (gI h1 (gR h1 v0 1) (ix (v2 * (3 : Int32)))))), (8, ai ((gI h1 (gR h1 v0 3) (ix (2 : Int32))) - (gI h1 (gR h1 v0 1) (ix ((v2 * (3 : Int32)) + (2 : Int32)))))), (7, ai ((gI h1 (gR h1 v0 3) (ix (1 : Int32))) - (gI h1 (gR h1 v0 1) (ix ((v2 * (3 : Int32)) + (1 : Int32)))))), (6, ai ((gI h1 (gR h1 v0 3) (ix (0 : Int32))) - (gI h1 (gR h1 v0 1) (ix (v2 * (3 : Int32)))))), (5, ai (r2 * (gI h1 v0 6))), (4, ai (v2 * (3 : Int32))), (0, ar v0), (1, ai v1), (2, ai v2), (3, ai v3)]) d_St_leave_128 (nle rfl) rfl ?_
  refine r_iconst d_St_leave_130 kc_0 ?_
  refine r_istore (ls2 := [(13, ai (0 : Int32)), (12, ai v3), (11, ai ((gI h1 (gR h1 v0 2) (ix ((v2 * (3 : Int32)) + (2 : Int32)))) - (gI h1 (gR h1 v0 1) (ix ((v2 * (3 : Int32)) + (2 : Int32)))))), (10, ai ((gI h1 (gR h1 v0 2) (ix ((v2 * (3 : Int32)) + (1 : Int32)))) - (gI h1 (gR h1 v0 1) (ix ((v2 * (3 : Int32)) + (1 : Int32)))))), (9, ai ((gI h1 (gR h1 v0 2) (ix (v2 * (3 : Int32)))) - (gI h1 (gR h1 v0 1) (ix (v2 * (3 : Int32)))))), (8, ai ((gI h1 (gR h1 v0 3) (ix (2 : Int32))) - (gI h1 (gR h1 v0 1) (ix ((v2 * (3 : Int32)) + (2 : Int32)))))), (7, ai ((gI h1 (gR h1 v0 3) (ix (1 : Int32))) - (gI h1 (gR h1 v0 1) (ix ((v2 * (3 : Int32)) + (1 : Int32)))))), (6, ai ((gI h1 (gR h1 v0 3) (ix (0 : Int32))) - (gI h1 (gR h1 v0 1) (ix (v2 * (3 : Int32)))))), (5, ai (r2 * (gI h1 v0 6))), (4, ai (v2 * (3 : Int32))), (0, ar v0), (1, ai v1), (2, ai v2), (3, ai v3)]) d_St_leave_131 (nle rfl) rfl ?_
  obtain ⟨n34, hw⟩ := hw
  refine r_pick (ls2 := [(0, ar v0), (1, ai v1), (2, ai v2), (5, ai (r2 * (gI h1 v0 6))), (6, ai ((gI h1 (gR h1 v0 3) (ix (0 : Int32))) - (gI h1 (gR h1 v0 1) (ix (v2 * (3 : Int32)))))), (7, ai ((gI h1 (gR h1 v0 3) (ix (1 : Int32))) - (gI h1 (gR h1 v0 1) (ix ((v2 * (3 : Int32)) + (1 : Int32)))))), (8, ai ((gI h1 (gR h1 v0 3) (ix (2 : Int32))) - (gI h1 (gR h1 v0 1) (ix ((v2 * (3 : Int32)) + (2 : Int32)))))), (9, ai ((gI h1 (gR h1 v0 2) (ix (v2 * (3 : Int32)))) - (gI h1 (gR h1 v0 1) (ix (v2 * (3 : Int32)))))), (10, ai ((gI h1 (gR h1 v0 2) (ix ((v2 * (3 : Int32)) + (1 : Int32)))) - (gI h1 (gR h1 v0 1) (ix ((v2 * (3 : Int32)) + (1 : Int32)))))), (11, ai ((gI h1 (gR h1 v0 2) (ix ((v2 * (3 : Int32)) + (2 : Int32)))) - (gI h1 (gR h1 v0 1) (ix ((v2 * (3 : Int32)) + (2 : Int32)))))), (12, ai v3), (13, ai (0 : Int32))]) [10, 11, 12, 8, 7, 6, 5, 4, 3, 2, 1, 0] rfl ?_
  exact s_St_leave_L133 hd hQ  n34 _ _ _ hw
set_option maxRecDepth 100000 in
set_option maxHeartbeats 4000000 in
theorem s_St_spread_L39 {d : Nat} (hd : 3 ≤ d + 1) {Q : Int32 → Hp → Prop} {QQ : Option AV → Hp → Prop} (hQ : ∀ r9 h9, Q r9 h9 → QQ (some (ai r9)) h9) {v0 : Nat} {v1 : Int32} {v2 : Int32} {v3 : Int32} {v4 : Int32} : ∀ (n : Nat) (v5 : Int32) (v6 : Int32) (h : Hp), w_St_spread_L39 Q  v0 v1 v2 v3 v4 n v5 v6 h → aW none m_St_spread (d + 1) 39 [(0, ar v0), (1, ai v1), (2, ai v2), (3, ai v3), (4, ai v4), (5, ai v5), (6, ai v6)] [] h 0 0 QQ := by
  intro n
  induction n with
  | zero => intro v5 v6 h hw; exact hw.elim
  | succ n ih =>
    intro v5 v6 h hw
    unfold w_St_spread_L39 at hw
    refine r_iload (j := 6) d_St_spread_39 rfl ?_
    refine r_iload_n (j := 2) d_St_spread_41 rfl ?_
    refine r_icmp_ge d_St_spread_42 (fun w9 => ?_) (fun w9 => ?_)
    · replace hw := hw.1 w9
      refine r_iload (j := 5) d_St_spread_154 rfl ?_
      exact r_ireturn d_St_spread_156.1 rfl (hQ _ _ hw)
    · replace hw := hw.2 w9
      refine r_aload_n (j := 0) d_St_spread_45 rfl ?_
      obtain ⟨q5, hw⟩ := hw
      refine r_getR d_St_spread_46 ok_9 (nle rfl) (nle rfl) rfl lf_St_35 q5 ?_
      refine r_iload_n (j := 3) d_St_spread_49 rfl ?_
      refine r_iload (j := 6) d_St_spread_50 rfl ?_
      refine r_iadd d_St_spread_52 ?_
      obtain ⟨q6, hw⟩ := hw
      obtain ⟨q7, hw⟩ := hw
      refine r_iald d_St_spread_53 q6 q7 ?_
      refine r_istore (ls2 := [(7, ai (gI h (gR h v0 9) (ix (v3 + v6)))), (0, ar v0), (1, ai v1), (2, ai v2), (3, ai v3), (4, ai v4), (5, ai v5), (6, ai v6)]) d_St_spread_54 (nle rfl) rfl ?_
      refine r_aload_n (j := 1) d_St_spread_56 rfl ?_
      refine r_getR d_St_spread_57 ok_9 (nle rfl) (nle rfl) rfl lf_St_18 q5 ?_
      refine r_iconst d_St_spread_60 kc_2 ?_
      refine r_iload (j := 0) d_St_spread_61 rfl ?_
      refine r_aload_n (j := 1) d_St_spread_63 rfl ?_
      refine r_getI d_St_spread_64 ok_9 (nle rfl) (nle rfl) rfl lf_St_25 q5 ?_
      obtain ⟨q8, hw⟩ := hw
      refine r_irem d_St_spread_67 q8 ?_
      refine r_aload_n (j := 1) d_St_spread_68 rfl ?_
      refine r_getR d_St_spread_69 ok_9 (nle rfl) (nle rfl) rfl lf_St_9 q5 ?_
      refine r_iload (j := 5) d_St_spread_72 rfl ?_
      refine r_iconst d_St_spread_74 kc_2 ?_
      refine r_iadd d_St_spread_75 ?_
      obtain ⟨q9, hw⟩ := hw
      obtain ⟨q10, hw⟩ := hw
      refine r_iald d_St_spread_76 q9 q10 ?_
      refine r_iadd d_St_spread_77 ?_
      obtain ⟨q11, hw⟩ := hw
      obtain ⟨q12, hw⟩ := hw
      refine r_iast d_St_spread_78 q11 q12 ?_
      refine r_aload_n (j := 1) d_St_spread_79 rfl ?_
      refine r_getRb eRI d_St_spread_80 ok_9 (nle rfl) (nle rfl) rfl lf_St_18 (kt eKI q5) ?_
      refine r_iconst d_St_spread_83 kc_1 ?_
      refine r_iload (j := 0) d_St_spread_84 rfl ?_
      refine r_aload_n (j := 1) d_St_spread_86 rfl ?_
      refine r_getI d_St_spread_87 ok_9 (nle rfl) (nle rfl) rfl lf_St_25 (kt eKI q5) ?_
      obtain ⟨q13, hw⟩ := hw
      refine r_idiv d_St_spread_90 q13 ?_
      refine r_aload_n (j := 1) d_St_spread_91 rfl ?_
      refine r_getI d_St_spread_92 ok_9 (nle rfl) (nle rfl) rfl lf_St_21 (kt eKI q5) ?_
      obtain ⟨q14, hw⟩ := hw
      refine r_irem d_St_spread_95 q14 ?_
      refine r_aload_n (j := 1) d_St_spread_96 rfl ?_
      refine r_getRb eRI d_St_spread_97 ok_9 (nle rfl) (nle rfl) rfl lf_St_9 (kt eKI q5) ?_
      refine r_iload (j := 5) d_St_spread_100 rfl ?_
      refine r_iconst d_St_spread_102 kc_1 ?_
      refine r_iadd d_St_spread_103 ?_
      obtain ⟨q15, hw⟩ := hw
      refine r_iald d_St_spread_104 (kt eKI q9) (nt eNI q15) ?_
      refine r_iadd d_St_spread_105 ?_
      obtain ⟨q16, hw⟩ := hw
      refine r_iast d_St_spread_106 (kt eKI q11) (nt eNI q16) ?_
      refine r_aload_n (j := 1) d_St_spread_107 rfl ?_
      refine r_getRb (eRI.trans eRI) d_St_spread_108 ok_9 (nle rfl) (nle rfl) rfl lf_St_18 (kt (eKI.trans eKI) q5) ?_
      refine r_iconst d_St_spread_111 kc_0 ?_
      refine r_iload (j := 0) d_St_spread_112 rfl ?_
      refine r_aload_n (j := 1) d_St_spread_114 rfl ?_
      refine r_getI d_St_spread_115 ok_9 (nle rfl) (nle rfl) rfl lf_St_25 (kt (eKI.trans eKI) q5) ?_
      obtain ⟨q17, hw⟩ := hw
      refine r_idiv d_St_spread_118 q17 ?_
      refine r_aload_n (j := 1) d_St_spread_119 rfl ?_
      refine r_getI d_St_spread_120 ok_9 (nle rfl) (nle rfl) rfl lf_St_21 (kt (eKI.trans eKI) q5) ?_
      obtain ⟨q18, hw⟩ := hw
      refine r_idiv d_St_spread_123 q18 ?_
      refine r_aload_n (j := 1) d_St_spread_124 rfl ?_
      refine r_getRb (eRI.trans eRI) d_St_spread_125 ok_9 (nle rfl) (nle rfl) rfl lf_St_9 (kt (eKI.trans eKI) q5) ?_
      refine r_iload (j := 5) d_St_spread_128 rfl ?_
      obtain ⟨q19, hw⟩ := hw
      refine r_iald d_St_spread_130 (kt (eKI.trans eKI) q9) (nt (eNI.trans eNI) q19) ?_
      refine r_iadd d_St_spread_131 ?_
      obtain ⟨q20, hw⟩ := hw
      refine r_iast d_St_spread_132 (kt (eKI.trans eKI) q11) (nt (eNI.trans eNI) q20) ?_
      refine r_aload_n (j := 1) d_St_spread_133 rfl ?_
      refine r_iload_n (j := 4) d_St_spread_134 rfl ?_
      refine r_iload (j := 0) d_St_spread_135 rfl ?_
      refine r_iadd d_St_spread_137 ?_
      refine r_iload_n (j := 2) d_St_spread_138 rfl ?_
      refine r_iconst d_St_spread_139 kc_1 ?_
      refine r_iadd d_St_spread_140 ?_
      refine r_iload (j := 6) d_St_spread_141 rfl ?_
      refine r_callV (av := [ai (v3 + (gI h (gR h v0 9) (ix (v3 + v6)))), ai (v1 + (1 : Int32)), ai v5]) (rest := []) (ci := 9) d_St_spread_143 mk_St_leave ll_St_118 im_St_leave se_St_leave rfl (nle rfl) rfl rfl (nle rfl) (kt (eKI.trans (eKI.trans eKI)) q5) (s_St_leave (by omega) hw (fun r22 h21 hw => ?_))
      show aW none m_St_spread (d + 1) 146 [(7, ai (gI h (gR h v0 9) (ix (v3 + v6)))), (0, ar v0), (1, ai v1), (2, ai v2), (3, ai v3), (4, ai v4), (5, ai v5), (6, ai v6)] [ai r22] h21 0 0 QQ
      refine r_istore (ls2 := [(5, ai r22), (7, ai (gI h (gR h v0 9) (ix (v3 + v6)))), (0, ar v0), (1, ai v1), (2, ai v2), (3, ai v3), (4, ai v4), (6, ai v6)]) d_St_spread_146 (nle rfl) rfl ?_
      refine r_iinc (j := 7) (ls2 := [(6, ai (v6 + (1 : Int32))), (5, ai r22), (7, ai (gI h (gR h v0 9) (ix (v3 + v6)))), (0, ar v0), (1, ai v1), (2, ai v2), (3, ai v3), (4, ai v4)]) d_St_spread_148 rfl (congrArg (HAdd.hAdd v6) kc_1) (nle rfl) rfl ?_
      refine r_goto d_St_spread_151 ?_
      refine r_pick (ls2 := [(0, ar v0), (1, ai v1), (2, ai v2), (3, ai v3), (4, ai v4), (5, ai r22), (6, ai (v6 + (1 : Int32)))]) [3, 4, 5, 6, 7, 1, 0] rfl ?_
      exact ih _ _ _ hw
set_option maxRecDepth 100000 in
set_option maxHeartbeats 4000000 in
theorem s_St_spread {d : Nat} (hd : 3 ≤ d) {v0 : Nat} {v1 : Int32} {v2 : Int32} {h : Hp} {Q : Int32 → Hp → Prop} {QQ : Option AV → Hp → Prop} (hw : w_St_spread v0 v1 v2 h Q) (hQ : ∀ r9 h9, Q r9 h9 → QQ (some (ai r9)) h9) : aCall m_St_spread d [ar v0, ai v1, ai v2] h 0 0 QQ := by
  obtain ⟨d, rfl⟩ : ∃ d9, d = d9 + 1 := ⟨d - 1, by omega⟩
  refine aCall_in pl_St_spread (nle rfl) ?_
  show aW none m_St_spread (d + 1) 0 [(0, ar v0), (1, ai v1), (2, ai v2)] [] h 0 0 QQ
  unfold w_St_spread at hw
  refine r_aload_n (j := 0) d_St_spread_0 rfl ?_
  obtain ⟨q1, hw⟩ := hw
  refine r_getI d_St_spread_1 ok_9 (nle rfl) (nle rfl) rfl lf_St_21 q1 ?_
  refine r_iconst d_St_spread_4 kc_1 ?_
  refine r_icmp_lt d_St_spread_5 (fun w9 => ?_) (fun w9 => ?_)
  · replace hw := hw.1 w9
    refine r_iconst d_St_spread_16 kc_0 ?_
    exact r_ireturn d_St_spread_17.1 rfl (hQ _ _ hw)
  · replace hw := hw.2 w9
    refine r_aload_n (j := 0) d_St_spread_8 rfl ?_
    refine r_getI d_St_spread_9 ok_9 (nle rfl) (nle rfl) rfl lf_St_25 q1 ?_
    refine r_iconst d_St_spread_12 kc_1 ?_
    refine r_icmp_ge d_St_spread_13 (fun w9 => ?_) (fun w9 => ?_)
    · replace hw := hw.1 w9
      refine r_iload_n (j := 1) d_St_spread_18 rfl ?_
      refine r_callS (av := [ai v1]) (rest := []) d_St_spread_19 mk_St_layer ll_St_115 st_St_layer rfl rfl (nle rfl) (s_St_layer  hw (fun r3 h2 hw => ?_))
      show aW none m_St_spread (d + 1) 22 [(0, ar v0), (1, ai v1), (2, ai v2)] [ai r3] h2 0 0 QQ
      refine r_aload_n (j := 0) d_St_spread_22 rfl ?_
      obtain ⟨q4, hw⟩ := hw
      refine r_getI d_St_spread_23 ok_9 (nle rfl) (nle rfl) rfl lf_St_87 q4 ?_
      refine r_imul d_St_spread_26 ?_
      refine r_istore_n (ls2 := [(3, ai (r3 * (gI h2 v0 6))), (0, ar v0), (1, ai v1), (2, ai v2)]) d_St_spread_27 (nle rfl) rfl ?_
      refine r_iload_n (j := 2) d_St_spread_28 rfl ?_
      refine r_iconst d_St_spread_29 kc_3 ?_
      refine r_imul d_St_spread_30 ?_
      refine r_istore (ls2 := [(4, ai (v1 * (3 : Int32))), (3, ai (r3 * (gI h2 v0 6))), (0, ar v0), (1, ai v1), (2, ai v2)]) d_St_spread_31 (nle rfl) rfl ?_
      refine r_iconst d_St_spread_33 kc_0 ?_
      refine r_istore (ls2 := [(5, ai (0 : Int32)), (4, ai (v1 * (3 : Int32))), (3, ai (r3 * (gI h2 v0 6))), (0, ar v0), (1, ai v1), (2, ai v2)]) d_St_spread_34 (nle rfl) rfl ?_
      refine r_iconst d_St_spread_36 kc_0 ?_
      refine r_istore (ls2 := [(6, ai (0 : Int32)), (5, ai (0 : Int32)), (4, ai (v1 * (3 : Int32))), (3, ai (r3 * (gI h2 v0 6))), (0, ar v0), (1, ai v1), (2, ai v2)]) d_St_spread_37 (nle rfl) rfl ?_
      obtain ⟨n23, hw⟩ := hw
      refine r_pick (ls2 := [(0, ar v0), (1, ai v1), (2, ai v2), (3, ai (r3 * (gI h2 v0 6))), (4, ai (v1 * (3 : Int32))), (5, ai (0 : Int32)), (6, ai (0 : Int32))]) [4, 5, 6, 3, 2, 1, 0] rfl ?_
      exact s_St_spread_L39 hd hQ  n23 _ _ _ hw
    · replace hw := hw.2 w9
      refine r_iconst d_St_spread_16 kc_0 ?_
      exact r_ireturn d_St_spread_17.1 rfl (hQ _ _ hw)
set_option maxRecDepth 100000 in
set_option maxHeartbeats 4000000 in
theorem s_St_start {d : Nat} (hd : 1 ≤ d) {v0 : Nat} {h : Hp} {Q : Int32 → Hp → Prop} {QQ : Option AV → Hp → Prop} (hw : w_St_start v0 h Q) (hQ : ∀ r9 h9, Q r9 h9 → QQ (some (ai r9)) h9) : aCall m_St_start d [ar v0] h 0 0 QQ := by
  obtain ⟨d, rfl⟩ : ∃ d9, d = d9 + 1 := ⟨d - 1, by omega⟩
  refine aCall_in pl_St_start (nle rfl) ?_
  show aW none m_St_start (d + 1) 0 [(0, ar v0)] [] h 0 0 QQ
  unfold w_St_start at hw
  refine r_aload_n (j := 0) d_St_start_0 rfl ?_
  obtain ⟨q1, hw⟩ := hw
  refine r_getR d_St_start_1 ok_9 (nle rfl) (nle rfl) rfl lf_St_18 q1 ?_
  refine r_iconst d_St_start_4 kc_0 ?_
  refine r_callS (av := [ar (gR h v0 3), ai (0 : Int32)]) (rest := []) d_St_start_5 mk_JA_fill_IIV ll_St_106 st_JA_fill_IIV rfl rfl (nle rfl) (s_JA_fill_IIV  hw (fun h2 hw => ?_))
  show aW none m_St_start (d + 1) 8 [(0, ar v0)] [] h2 0 0 QQ
  refine r_aload_n (j := 0) d_St_start_8 rfl ?_
  refine r_iconst d_St_start_9 kc_0 ?_
  obtain ⟨q5, hw⟩ := hw
  refine r_callV (av := [ai (0 : Int32)]) (rest := []) (ci := 9) d_St_start_10 mk_St_cellOf ll_St_112 im_St_cellOf se_St_cellOf rfl (nle rfl) rfl rfl (nle rfl) q5 (s_St_cellOf  hw (fun r4 h3 hw => ?_))
  show aW none m_St_start (d + 1) 13 [(0, ar v0)] [ai r4] h3 0 0 QQ
  refine r_istore_n (ls2 := [(1, ai r4), (0, ar v0)]) d_St_start_13 (nle rfl) rfl ?_
  refine r_iload_n (j := 0) d_St_start_14 rfl ?_
  refine r_if_ge d_St_start_15 (fun w9 => ?_) (fun w9 => ?_)
  · replace hw := hw.1 w9
    refine r_aload_n (j := 1) d_St_start_20 rfl ?_
    obtain ⟨q6, hw⟩ := hw
    refine r_getR d_St_start_21 ok_9 (nle rfl) (nle rfl) rfl lf_St_28 q6 ?_
    refine r_iload_n (j := 0) d_St_start_24 rfl ?_
    refine r_lconst d_St_start_25 kl_1 ?_
    obtain ⟨q7, hw⟩ := hw
    obtain ⟨q8, hw⟩ := hw
    refine r_last d_St_start_26 q7 q8 ?_
    refine r_aload_n (j := 1) d_St_start_27 rfl ?_
    refine r_getRb eRL d_St_start_28 ok_9 (nle rfl) (nle rfl) rfl lf_St_32 (kt eKL q6) ?_
    refine r_iload_n (j := 0) d_St_start_31 rfl ?_
    refine r_iconst d_St_start_32 kc_0 ?_
    obtain ⟨q9, hw⟩ := hw
    obtain ⟨q10, hw⟩ := hw
    refine r_iast d_St_start_33 (kt eKL q9) (nt eNL q10) ?_
    refine r_aload_n (j := 1) d_St_start_34 rfl ?_
    refine r_getRb (eRI.trans eRL) d_St_start_35 ok_9 (nle rfl) (nle rfl) rfl lf_St_35 (kt (eKI.trans eKL) q6) ?_
    refine r_iconst d_St_start_38 kc_0 ?_
    refine r_iload_n (j := 0) d_St_start_39 rfl ?_
    obtain ⟨q11, hw⟩ := hw
    obtain ⟨q12, hw⟩ := hw
    refine r_iast d_St_start_40 (kt (eKI.trans eKL) q11) (nt (eNI.trans eNL) q12) ?_
    refine r_iconst d_St_start_41 kc_1 ?_
    exact r_ireturn d_St_start_42.1 rfl (hQ _ _ hw)
  · replace hw := hw.2 w9
    refine r_iconst d_St_start_18 kc_0 ?_
    exact r_ireturn d_St_start_19.1 rfl (hQ _ _ hw)
