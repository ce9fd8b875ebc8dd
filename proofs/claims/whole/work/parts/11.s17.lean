set_option maxRecDepth 100000 in
set_option maxHeartbeats 4000000 in
theorem s_M_laysWays_L115 {d : Nat} (hd : 3 ≤ d + 1) {Q : Hp → Prop} {QQ : Option AV → Hp → Prop} (hQ : ∀ h9, Q h9 → QQ none h9) {v0 : Nat} {v2 : Int32} {v3 : Int32} {k73 : Int32 → Hp → Prop} {k84 : Int32 → Hp → Prop} (hk73 : ∀ v2 h9, k73 v2 h9 → aW none m_M_laysWays (d + 1) 73 [(0, ar v0), (2, ai v2)] [] h9 0 0 QQ) (hk84 : ∀ v3 h9, k84 v3 h9 → aW none m_M_laysWays (d + 1) 84 [(0, ar v0), (2, ai v2), (3, ai v3)] [] h9 0 0 QQ) : ∀ (n : Nat) (v4 : Int32) (h : Hp), w_M_laysWays_L115 Q k73 k84 v0 v2 v3 n v4 h → aW none m_M_laysWays (d + 1) 115 [(0, ar v0), (2, ai v2), (3, ai v3), (4, ai v4)] [] h 0 0 QQ := by
  intro n
  induction n with
  | zero => intro v4 h hw; exact hw.elim
  | succ n ih =>
    intro v4 h hw
    unfold w_M_laysWays_L115 at hw
    refine r_iload (j := 3) d_M_laysWays_115 rfl ?_
    refine r_aload_n (j := 0) d_M_laysWays_117 rfl ?_
    obtain ⟨q17, hw⟩ := hw
    refine r_getI d_M_laysWays_118 ok_12 (nle rfl) (nle rfl) rfl lf_M_247 q17 ?_
    refine r_icmp_ge d_M_laysWays_121 (fun w9 => ?_) (fun w9 => ?_)
    · replace hw := hw.1 w9
      refine r_iinc (j := 2) (ls2 := [(3, ai (v3 + (1 : Int32))), (0, ar v0), (2, ai v2), (4, ai v4)]) d_M_laysWays_205 rfl (congrArg (HAdd.hAdd v3) kc_1) (nle rfl) rfl ?_
      refine r_goto d_M_laysWays_208 ?_
      refine r_pick (ls2 := [(0, ar v0), (2, ai v2), (3, ai (v3 + (1 : Int32)))]) [1, 2, 0] rfl ?_
      exact hk84 _ _ hw
    · replace hw := hw.2 w9
      refine r_aload_n (j := 0) d_M_laysWays_124 rfl ?_
      refine r_iload_n (j := 2) d_M_laysWays_125 rfl ?_
      refine r_iload_n (j := 1) d_M_laysWays_126 rfl ?_
      refine r_iload (j := 3) d_M_laysWays_127 rfl ?_
      refine r_callV (av := [ai v3, ai v2, ai v4]) (rest := []) (ci := 12) d_M_laysWays_129 mk_M_behind ll_M_390 im_M_behind se_M_behind rfl (nle rfl) rfl rfl (nle rfl) q17 (s_M_behind (by omega) hw (fun r19 h18 hw => ?_))
      show aW none m_M_laysWays (d + 1) 132 [(0, ar v0), (2, ai v2), (3, ai v3), (4, ai v4)] [ai r19] h18 0 0 QQ
      refine r_istore (ls2 := [(5, ai r19), (0, ar v0), (2, ai v2), (3, ai v3), (4, ai v4)]) d_M_laysWays_132 (nle rfl) rfl ?_
      refine r_iload (j := 0) d_M_laysWays_134 rfl ?_
      refine r_if_lt d_M_laysWays_136 (fun w9 => ?_) (fun w9 => ?_)
      · replace hw := hw.1 w9
        refine r_iinc (j := 4) (ls2 := [(4, ai (v4 + (1 : Int32))), (5, ai r19), (0, ar v0), (2, ai v2), (3, ai v3)]) d_M_laysWays_199 rfl (congrArg (HAdd.hAdd v4) kc_1) (nle rfl) rfl ?_
        refine r_goto d_M_laysWays_202 ?_
        refine r_pick (ls2 := [(0, ar v0), (2, ai v2), (3, ai v3), (4, ai (v4 + (1 : Int32)))]) [2, 3, 4, 0] rfl ?_
        exact ih _ _ hw
      · replace hw := hw.2 w9
        refine r_aload_n (j := 1) d_M_laysWays_139 rfl ?_
        obtain ⟨q20, hw⟩ := hw
        refine r_getR d_M_laysWays_140 ok_12 (nle rfl) (nle rfl) rfl lf_M_65 q20 ?_
        refine r_iload (j := 0) d_M_laysWays_143 rfl ?_
        obtain ⟨q21, hw⟩ := hw
        obtain ⟨q22, hw⟩ := hw
        refine r_lald d_M_laysWays_145 q21 q22 ?_
        refine r_lconst d_M_laysWays_146 kl_0 ?_
        refine r_lcmp d_M_laysWays_147 ?_
        refine r_if_ne d_M_laysWays_148 (fun w9 => ?_) (fun w9 => ?_)
        · replace hw := hw.2 (fun g9 => w9 ((lg_cmp_eq _ _).mpr g9))
          refine r_aload_n (j := 1) d_M_laysWays_154 rfl ?_
          refine r_getR d_M_laysWays_155 ok_12 (nle rfl) (nle rfl) rfl lf_M_65 q20 ?_
          refine r_iload_n (j := 3) d_M_laysWays_158 rfl ?_
          refine r_dup2 d_M_laysWays_159 rfl rfl ?_
          obtain ⟨q23, hw⟩ := hw
          refine r_lald d_M_laysWays_160 q21 q23 ?_
          refine r_aload_n (j := 1) d_M_laysWays_161 rfl ?_
          refine r_getR d_M_laysWays_162 ok_12 (nle rfl) (nle rfl) rfl lf_M_65 q20 ?_
          refine r_iload (j := 0) d_M_laysWays_165 rfl ?_
          refine r_lald d_M_laysWays_167 q21 q22 ?_
          refine r_ladd d_M_laysWays_168 ?_
          refine r_last d_M_laysWays_169 q21 q23 ?_
          refine r_aload_n (j := 1) d_M_laysWays_170 rfl ?_
          refine r_getRb eRL d_M_laysWays_171 ok_12 (nle rfl) (nle rfl) rfl lf_M_55 (kt eKL q20) ?_
          refine r_iload_n (j := 3) d_M_laysWays_174 rfl ?_
          refine r_aload_n (j := 1) d_M_laysWays_175 rfl ?_
          refine r_getRb eRL d_M_laysWays_176 ok_12 (nle rfl) (nle rfl) rfl lf_M_55 (kt eKL q20) ?_
          refine r_iload_n (j := 3) d_M_laysWays_179 rfl ?_
          obtain ⟨q24, hw⟩ := hw
          obtain ⟨q25, hw⟩ := hw
          refine r_iald d_M_laysWays_180 (kt eKL q24) (nt eNL q25) ?_
          refine r_aload_n (j := 1) d_M_laysWays_181 rfl ?_
          refine r_iload (j := 4) d_M_laysWays_182 rfl ?_
          refine r_callV (av := [ai v4]) (rest := [ai (gI (sL h18 (gR h18 v0 37) (ix v3) ((gL h18 (gR h18 v0 37) (ix v3)) + (gL h18 (gR h18 v0 37) (ix r19)))) (gR h18 v0 34) (ix v3)), ai v3, ar (gR h18 v0 34)]) (ci := 12) d_M_laysWays_184 mk_M_gainOf ll_M_278 im_M_gainOf se_M_gainOf rfl (nle rfl) rfl rfl (nle rfl) (kt eKL q20) (s_M_gainOf  hw (fun r27 h26 hw => ?_))
          show aW none m_M_laysWays (d + 1) 187 [(5, ai r19), (0, ar v0), (2, ai v2), (3, ai v3), (4, ai v4)] [ai r27, ai (gI (sL h18 (gR h18 v0 37) (ix v3) ((gL h18 (gR h18 v0 37) (ix v3)) + (gL h18 (gR h18 v0 37) (ix r19)))) (gR h18 v0 34) (ix v3)), ai v3, ar (gR h18 v0 34)] h26 0 0 QQ
          refine r_aload_n (j := 1) d_M_laysWays_187 rfl ?_
          obtain ⟨q28, hw⟩ := hw
          refine r_getR d_M_laysWays_188 ok_12 (nle rfl) (nle rfl) rfl lf_M_55 q28 ?_
          refine r_iload (j := 0) d_M_laysWays_191 rfl ?_
          obtain ⟨q29, hw⟩ := hw
          obtain ⟨q30, hw⟩ := hw
          refine r_iald d_M_laysWays_193 q29 q30 ?_
          refine r_iadd d_M_laysWays_194 ?_
          refine r_callS (av := [ai (gI (sL h18 (gR h18 v0 37) (ix v3) ((gL h18 (gR h18 v0 37) (ix v3)) + (gL h18 (gR h18 v0 37) (ix r19)))) (gR h18 v0 34) (ix v3)), ai (r27 + (gI h26 (gR h26 v0 34) (ix r19)))]) (rest := [ai v3, ar (gR h18 v0 34)]) d_M_laysWays_195 mk_M_greater ll_M_343 st_M_greater rfl rfl (nle rfl) (s_M_greater  hw (fun r32 h31 hw => ?_))
          show aW none m_M_laysWays (d + 1) 198 [(5, ai r19), (0, ar v0), (2, ai v2), (3, ai v3), (4, ai v4)] [ai r32, ai v3, ar (gR h18 v0 34)] h31 0 0 QQ
          obtain ⟨q33, hw⟩ := hw
          obtain ⟨q34, hw⟩ := hw
          refine r_iast d_M_laysWays_198 q33 q34 ?_
          refine r_iinc (j := 4) (ls2 := [(4, ai (v4 + (1 : Int32))), (5, ai r19), (0, ar v0), (2, ai v2), (3, ai v3)]) d_M_laysWays_199 rfl (congrArg (HAdd.hAdd v4) kc_1) (nle rfl) rfl ?_
          refine r_goto d_M_laysWays_202 ?_
          refine r_pick (ls2 := [(0, ar v0), (2, ai v2), (3, ai v3), (4, ai (v4 + (1 : Int32)))]) [2, 3, 4, 0] rfl ?_
          exact ih _ _ hw
        · replace hw := hw.1 ((lg_cmp_eq _ _).mp w9)
          refine r_goto d_M_laysWays_151 ?_
          refine r_iinc (j := 4) (ls2 := [(4, ai (v4 + (1 : Int32))), (5, ai r19), (0, ar v0), (2, ai v2), (3, ai v3)]) d_M_laysWays_199 rfl (congrArg (HAdd.hAdd v4) kc_1) (nle rfl) rfl ?_
          refine r_goto d_M_laysWays_202 ?_
          refine r_pick (ls2 := [(0, ar v0), (2, ai v2), (3, ai v3), (4, ai (v4 + (1 : Int32)))]) [2, 3, 4, 0] rfl ?_
          exact ih _ _ hw
set_option maxRecDepth 100000 in
set_option maxHeartbeats 4000000 in
theorem s_M_laysWays_L84 {d : Nat} (hd : 3 ≤ d + 1) {Q : Hp → Prop} {QQ : Option AV → Hp → Prop} (hQ : ∀ h9, Q h9 → QQ none h9) {v0 : Nat} {v2 : Int32} {k73 : Int32 → Hp → Prop} (hk73 : ∀ v2 h9, k73 v2 h9 → aW none m_M_laysWays (d + 1) 73 [(0, ar v0), (2, ai v2)] [] h9 0 0 QQ) : ∀ (n : Nat) (v3 : Int32) (h : Hp), w_M_laysWays_L84 Q k73 v0 v2 n v3 h → aW none m_M_laysWays (d + 1) 84 [(0, ar v0), (2, ai v2), (3, ai v3)] [] h 0 0 QQ := by
  intro n
  induction n with
  | zero => intro v3 h hw; exact hw.elim
  | succ n ih =>
    intro v3 h hw
    unfold w_M_laysWays_L84 at hw
    refine r_iload_n (j := 2) d_M_laysWays_84 rfl ?_
    refine r_aload_n (j := 0) d_M_laysWays_85 rfl ?_
    obtain ⟨q10, hw⟩ := hw
    refine r_getR d_M_laysWays_86 ok_12 (nle rfl) (nle rfl) rfl lf_M_58 q10 ?_
    refine r_iload_n (j := 1) d_M_laysWays_89 rfl ?_
    refine r_iconst d_M_laysWays_90 kc_1 ?_
    refine r_iadd d_M_laysWays_91 ?_
    obtain ⟨q11, hw⟩ := hw
    obtain ⟨q12, hw⟩ := hw
    refine r_iald d_M_laysWays_92 q11 q12 ?_
    refine r_icmp_ge d_M_laysWays_93 (fun w9 => ?_) (fun w9 => ?_)
    · replace hw := hw.1 w9
      refine r_iinc (j := 1) (ls2 := [(2, ai (v2 + (-1 : Int32))), (0, ar v0), (3, ai v3)]) d_M_laysWays_211 rfl (congrArg (HAdd.hAdd v2) kc_m1) (nle rfl) rfl ?_
      refine r_goto d_M_laysWays_214 ?_
      refine r_pick (ls2 := [(0, ar v0), (2, ai (v2 + (-1 : Int32)))]) [1, 0] rfl ?_
      exact hk73 _ _ hw
    · replace hw := hw.2 w9
      refine r_aload_n (j := 0) d_M_laysWays_96 rfl ?_
      refine r_getR d_M_laysWays_97 ok_12 (nle rfl) (nle rfl) rfl lf_M_65 q10 ?_
      refine r_iload_n (j := 2) d_M_laysWays_100 rfl ?_
      refine r_lconst d_M_laysWays_101 kl_0 ?_
      obtain ⟨q13, hw⟩ := hw
      obtain ⟨q14, hw⟩ := hw
      refine r_last d_M_laysWays_102 q13 q14 ?_
      refine r_aload_n (j := 0) d_M_laysWays_103 rfl ?_
      refine r_getRb eRL d_M_laysWays_104 ok_12 (nle rfl) (nle rfl) rfl lf_M_55 (kt eKL q10) ?_
      refine r_iload_n (j := 2) d_M_laysWays_107 rfl ?_
      refine r_ldcw d_M_laysWays_108 lc_M_389 ?_
      obtain ⟨q15, hw⟩ := hw
      obtain ⟨q16, hw⟩ := hw
      refine r_iast d_M_laysWays_111 (kt eKL q15) (nt eNL q16) ?_
      refine r_iconst d_M_laysWays_112 kc_0 ?_
      refine r_istore (ls2 := [(4, ai (0 : Int32)), (0, ar v0), (2, ai v2), (3, ai v3)]) d_M_laysWays_113 (nle rfl) rfl ?_
      obtain ⟨n35, hw⟩ := hw
      refine r_pick (ls2 := [(0, ar v0), (2, ai v2), (3, ai v3), (4, ai (0 : Int32))]) [1, 2, 3, 0] rfl ?_
      exact s_M_laysWays_L115 hd hQ hk73 ih n35 _ _ hw
set_option maxRecDepth 100000 in
set_option maxHeartbeats 4000000 in
theorem s_M_laysWays_L73 {d : Nat} (hd : 3 ≤ d + 1) {Q : Hp → Prop} {QQ : Option AV → Hp → Prop} (hQ : ∀ h9, Q h9 → QQ none h9) {v0 : Nat} : ∀ (n : Nat) (v2 : Int32) (h : Hp), w_M_laysWays_L73 Q  v0 n v2 h → aW none m_M_laysWays (d + 1) 73 [(0, ar v0), (2, ai v2)] [] h 0 0 QQ := by
  intro n
  induction n with
  | zero => intro v2 h hw; exact hw.elim
  | succ n ih =>
    intro v2 h hw
    unfold w_M_laysWays_L73 at hw
    refine r_iload_n (j := 1) d_M_laysWays_73 rfl ?_
    refine r_if_lt d_M_laysWays_74 (fun w9 => ?_) (fun w9 => ?_)
    · replace hw := hw.1 w9
      exact r_return d_M_laysWays_217.1 rfl (hQ _ hw)
    · replace hw := hw.2 w9
      refine r_aload_n (j := 0) d_M_laysWays_77 rfl ?_
      obtain ⟨q7, hw⟩ := hw
      refine r_getR d_M_laysWays_78 ok_12 (nle rfl) (nle rfl) rfl lf_M_58 q7 ?_
      refine r_iload_n (j := 1) d_M_laysWays_81 rfl ?_
      obtain ⟨q8, hw⟩ := hw
      obtain ⟨q9, hw⟩ := hw
      refine r_iald d_M_laysWays_82 q8 q9 ?_
      refine r_istore_n (ls2 := [(3, ai (gI h (gR h v0 35) (ix v2))), (0, ar v0), (2, ai v2)]) d_M_laysWays_83 (nle rfl) rfl ?_
      obtain ⟨n36, hw⟩ := hw
      refine r_pick (ls2 := [(0, ar v0), (2, ai v2), (3, ai (gI h (gR h v0 35) (ix v2)))]) [1, 2, 0] rfl ?_
      exact s_M_laysWays_L84 hd hQ ih n36 _ _ hw
set_option maxRecDepth 100000 in
set_option maxHeartbeats 4000000 in
theorem s_M_laysWays_L7 {d : Nat} (hd : 3 ≤ d + 1) {Q : Hp → Prop} {QQ : Option AV → Hp → Prop} (hQ : ∀ h9, Q h9 → QQ none h9) {v0 : Nat} {v1 : Int32} : ∀ (n : Nat) (v2 : Int32) (h : Hp), w_M_laysWays_L7 Q  v0 v1 n v2 h → aW none m_M_laysWays (d + 1) 7 [(0, ar v0), (1, ai v1), (2, ai v2)] [] h 0 0 QQ := by
  intro n
  induction n with
  | zero => intro v2 h hw; exact hw.elim
  | succ n ih =>
    intro v2 h hw
    unfold w_M_laysWays_L7 at hw
    refine r_iload_n (j := 2) d_M_laysWays_7 rfl ?_
    refine r_aload_n (j := 0) d_M_laysWays_8 rfl ?_
    obtain ⟨q4, hw⟩ := hw
    refine r_getR d_M_laysWays_9 ok_12 (nle rfl) (nle rfl) rfl lf_M_58 q4 ?_
    refine r_iload_n (j := 1) d_M_laysWays_12 rfl ?_
    refine r_iconst d_M_laysWays_13 kc_1 ?_
    refine r_iadd d_M_laysWays_14 ?_
    obtain ⟨q5, hw⟩ := hw
    obtain ⟨q6, hw⟩ := hw
    refine r_iald d_M_laysWays_15 q5 q6 ?_
    refine r_icmp_ge d_M_laysWays_16 (fun w9 => ?_) (fun w9 => ?_)
    · replace hw := hw.1 w9
      refine r_iload_n (j := 1) d_M_laysWays_69 rfl ?_
      refine r_iconst d_M_laysWays_70 kc_1 ?_
      refine r_isub d_M_laysWays_71 ?_
      refine r_istore_n (ls2 := [(2, ai (v1 - (1 : Int32))), (0, ar v0), (1, ai v1)]) d_M_laysWays_72 (nle rfl) rfl ?_
      obtain ⟨n37, hw⟩ := hw
      refine r_pick (ls2 := [(0, ar v0), (2, ai (v1 - (1 : Int32)))]) [1, 0] rfl ?_
      exact s_M_laysWays_L73 hd hQ  n37 _ _ hw
    · replace hw := hw.2 w9
      refine r_aload_n (j := 0) d_M_laysWays_19 rfl ?_
      refine r_aload_n (j := 0) d_M_laysWays_20 rfl ?_
      refine r_getR d_M_laysWays_21 ok_12 (nle rfl) (nle rfl) rfl lf_M_52 q4 ?_
      refine r_iload_n (j := 2) d_M_laysWays_24 rfl ?_
      obtain ⟨q38, hw⟩ := hw
      obtain ⟨q39, hw⟩ := hw
      refine r_iald d_M_laysWays_25 q38 q39 ?_
      refine r_callV (av := [ai (gI h (gR h v0 33) (ix v2))]) (rest := []) (ci := 12) d_M_laysWays_26 mk_M_unpacks ll_M_383 im_M_unpacks se_M_unpacks rfl (nle rfl) rfl rfl (nle rfl) q4 (s_M_unpacks  hw (fun h40 hw => ?_))
      show aW none m_M_laysWays (d + 1) 29 [(0, ar v0), (1, ai v1), (2, ai v2)] [] h40 0 0 QQ
      refine r_aload_n (j := 0) d_M_laysWays_29 rfl ?_
      obtain ⟨q41, hw⟩ := hw
      refine r_getR d_M_laysWays_30 ok_12 (nle rfl) (nle rfl) rfl lf_M_65 q41 ?_
      refine r_iload_n (j := 2) d_M_laysWays_33 rfl ?_
      refine r_aload_n (j := 0) d_M_laysWays_34 rfl ?_
      refine r_callV (av := []) (rest := [ai v2, ar (gR h40 v0 37)]) (ci := 12) d_M_laysWays_35 mk_M_isNeeded ll_M_386 im_M_isNeeded se_M_isNeeded rfl (nle rfl) rfl rfl (nle rfl) q41 (s_M_isNeeded (by omega) hw (fun r43 h42 hw => ?_))
      show aW none m_M_laysWays (d + 1) 38 [(0, ar v0), (1, ai v1), (2, ai v2)] [ai (b2i r43), ai v2, ar (gR h40 v0 37)] h42 0 0 QQ
      refine r_callS (av := [ai (b2i r43)]) (rest := [ai v2, ar (gR h40 v0 37)]) d_M_laysWays_38 mk_M_truth ll_M_318 st_M_truth rfl rfl (nle rfl) (s_M_truth  hw (fun r45 h44 hw => ?_))
      show aW none m_M_laysWays (d + 1) 41 [(0, ar v0), (1, ai v1), (2, ai v2)] [ai r45, ai v2, ar (gR h40 v0 37)] h44 0 0 QQ
      refine r_i2l d_M_laysWays_41 ?_
      obtain ⟨q46, hw⟩ := hw
      obtain ⟨q47, hw⟩ := hw
      refine r_last d_M_laysWays_42 q46 q47 ?_
      refine r_aload_n (j := 0) d_M_laysWays_43 rfl ?_
      obtain ⟨q48, hw⟩ := hw
      refine r_getRb eRL d_M_laysWays_44 ok_12 (nle rfl) (nle rfl) rfl lf_M_55 (kt eKL q48) ?_
      refine r_iload_n (j := 2) d_M_laysWays_47 rfl ?_
      refine r_aload_n (j := 0) d_M_laysWays_48 rfl ?_
      refine r_callV (av := []) (rest := [ai v2, ar (gR h44 v0 34)]) (ci := 12) d_M_laysWays_49 mk_M_isNeeded ll_M_386 im_M_isNeeded se_M_isNeeded rfl (nle rfl) rfl rfl (nle rfl) (kt eKL q48) (s_M_isNeeded (by omega) hw (fun r50 h49 hw => ?_))
      show aW none m_M_laysWays (d + 1) 52 [(0, ar v0), (1, ai v1), (2, ai v2)] [ai (b2i r50), ai v2, ar (gR h44 v0 34)] h49 0 0 QQ
      refine r_if_eq d_M_laysWays_52 (fun w9 => ?_) (fun w9 => ?_)
      · replace hw := hw.1 (b2i_0.mp w9)
        refine r_ldcw d_M_laysWays_59 lc_M_389 ?_
        obtain ⟨q51, hw⟩ := hw
        obtain ⟨q52, hw⟩ := hw
        refine r_iast d_M_laysWays_62 q51 q52 ?_
        refine r_iinc (j := 2) (ls2 := [(2, ai (v2 + (1 : Int32))), (0, ar v0), (1, ai v1)]) d_M_laysWays_63 rfl (congrArg (HAdd.hAdd v2) kc_1) (nle rfl) rfl ?_
        refine r_goto d_M_laysWays_66 ?_
        refine r_pick (ls2 := [(0, ar v0), (1, ai v1), (2, ai (v2 + (1 : Int32)))]) [1, 2, 0] rfl ?_
        exact ih _ _ hw
      · replace hw := hw.2 (fun g9 => w9 (b2i_0.mpr g9))
        refine r_iconst d_M_laysWays_55 kc_0 ?_
        refine r_goto d_M_laysWays_56 ?_
        obtain ⟨q53, hw⟩ := hw
        obtain ⟨q54, hw⟩ := hw
        refine r_iast d_M_laysWays_62 q53 q54 ?_
        refine r_iinc (j := 2) (ls2 := [(2, ai (v2 + (1 : Int32))), (0, ar v0), (1, ai v1)]) d_M_laysWays_63 rfl (congrArg (HAdd.hAdd v2) kc_1) (nle rfl) rfl ?_
        refine r_goto d_M_laysWays_66 ?_
        refine r_pick (ls2 := [(0, ar v0), (1, ai v1), (2, ai (v2 + (1 : Int32)))]) [1, 2, 0] rfl ?_
        exact ih _ _ hw
set_option maxRecDepth 100000 in
set_option maxHeartbeats 4000000 in
theorem s_M_laysWays {d : Nat} (hd : 3 ≤ d) {v0 : Nat} {v1 : Int32} {h : Hp} {Q : Hp → Prop} {QQ : Option AV → Hp → Prop} (hw : w_M_laysWays v0 v1 h Q) (hQ : ∀ h9, Q h9 → QQ none h9) : aCall m_M_laysWays d [ar v0, ai v1] h 0 0 QQ := by
  obtain ⟨d, rfl⟩ : ∃ d9, d = d9 + 1 := ⟨d - 1, by omega⟩
  refine aCall_in pl_M_laysWays (nle rfl) ?_
  show aW none m_M_laysWays (d + 1) 0 [(0, ar v0), (1, ai v1)] [] h 0 0 QQ
  unfold w_M_laysWays at hw
  refine r_aload_n (j := 0) d_M_laysWays_0 rfl ?_
  obtain ⟨q1, hw⟩ := hw
  refine r_getR d_M_laysWays_1 ok_12 (nle rfl) (nle rfl) rfl lf_M_58 q1 ?_
  refine r_iload_n (j := 1) d_M_laysWays_4 rfl ?_
  obtain ⟨q2, hw⟩ := hw
  obtain ⟨q3, hw⟩ := hw
  refine r_iald d_M_laysWays_5 q2 q3 ?_
  refine r_istore_n (ls2 := [(2, ai (gI h (gR h v0 35) (ix v1))), (0, ar v0), (1, ai v1)]) d_M_laysWays_6 (nle rfl) rfl ?_
  obtain ⟨n55, hw⟩ := hw
  refine r_pick (ls2 := [(0, ar v0), (1, ai v1), (2, ai (gI h (gR h v0 35) (ix v1)))]) [1, 2, 0] rfl ?_
  exact s_M_laysWays_L7 hd hQ  n55 _ _ hw
set_option maxRecDepth 100000 in
set_option maxHeartbeats 4000000 in
theorem s_M_laysStrip_B24 {d : Nat} (hd : 4 ≤ d + 1) {Q : Hp → Prop} {QQ : Option AV → Hp → Prop} (hQ : ∀ h9, Q h9 → QQ none h9) {v0 : Nat} {v1 : Int32} {v2 : Int32} {h : Hp} (hw : w_M_laysStrip_B24 Q  v0 v1 v2 h) : aW none m_M_laysStrip (d + 1) 24 [(0, ar v0), (1, ai v1), (2, ai v2)] [] h 0 0 QQ := by
  unfold w_M_laysStrip_B24 at hw
  refine r_aload_n (j := 0) d_M_laysStrip_24 rfl ?_
  refine r_iload_n (j := 1) d_M_laysStrip_25 rfl ?_
  refine r_iload_n (j := 2) d_M_laysStrip_26 rfl ?_
  obtain ⟨q3, hw⟩ := hw
  refine r_callV (av := [ai v1, ai v2]) (rest := []) (ci := 12) d_M_laysStrip_27 mk_M_laysLayers ll_M_399 im_M_laysLayers se_M_laysLayers rfl (nle rfl) rfl rfl (nle rfl) q3 (s_M_laysLayers (by omega) hw (fun h2 hw => ?_))
  show aW none m_M_laysStrip (d + 1) 30 [(0, ar v0), (1, ai v1), (2, ai v2)] [] h2 0 0 QQ
  refine r_aload_n (j := 0) d_M_laysStrip_30 rfl ?_
  refine r_iload_n (j := 1) d_M_laysStrip_31 rfl ?_
  obtain ⟨q5, hw⟩ := hw
  refine r_callV (av := [ai v1]) (rest := []) (ci := 12) d_M_laysStrip_32 mk_M_laysWays ll_M_403 im_M_laysWays se_M_laysWays rfl (nle rfl) rfl rfl (nle rfl) q5 (s_M_laysWays (by omega) hw (fun h4 hw => ?_))
  show aW none m_M_laysStrip (d + 1) 35 [(0, ar v0), (1, ai v1), (2, ai v2)] [] h4 0 0 QQ
  refine r_aload_n (j := 0) d_M_laysStrip_35 rfl ?_
  refine r_iconst d_M_laysStrip_36 kc_1 ?_
  obtain ⟨q6, hw⟩ := hw
  refine r_putZ d_M_laysStrip_37 ok_12 (nle rfl) (nle rfl) rfl lf_M_259 rfl q6 (Or.inr rfl) ?_
  refine r_aload_n (j := 0) d_M_laysStrip_40 rfl ?_
  refine r_iload_n (j := 1) d_M_laysStrip_41 rfl ?_
  refine r_putI d_M_laysStrip_42 ok_12 (nle rfl) (nle rfl) rfl lf_M_393 rfl (kt eKI q6) ?_
  refine r_aload_n (j := 0) d_M_laysStrip_45 rfl ?_
  refine r_iload_n (j := 2) d_M_laysStrip_46 rfl ?_
  refine r_putI d_M_laysStrip_47 ok_12 (nle rfl) (nle rfl) rfl lf_M_396 rfl (kt (eKI.trans eKI) q6) ?_
  exact r_return d_M_laysStrip_50.1 rfl (hQ _ hw)
set_option maxRecDepth 100000 in
set_option maxHeartbeats 4000000 in
theorem s_M_laysStrip {d : Nat} (hd : 4 ≤ d) {v0 : Nat} {v1 : Int32} {v2 : Int32} {h : Hp} {Q : Hp → Prop} {QQ : Option AV → Hp → Prop} (hw : w_M_laysStrip v0 v1 v2 h Q) (hQ : ∀ h9, Q h9 → QQ none h9) : aCall m_M_laysStrip d [ar v0, ai v1, ai v2] h 0 0 QQ := by
  obtain ⟨d, rfl⟩ : ∃ d9, d = d9 + 1 := ⟨d - 1, by omega⟩
  refine aCall_in pl_M_laysStrip (nle rfl) ?_
  show aW none m_M_laysStrip (d + 1) 0 [(0, ar v0), (1, ai v1), (2, ai v2)] [] h 0 0 QQ
  unfold w_M_laysStrip at hw
  refine r_aload_n (j := 0) d_M_laysStrip_0 rfl ?_
  obtain ⟨q1, hw⟩ := hw
  refine r_getI d_M_laysStrip_1 ok_12 (nle rfl) (nle rfl) rfl lf_M_259 q1 ?_
  refine r_if_eq d_M_laysStrip_4 (fun w9 => ?_) (fun w9 => ?_)
  · replace hw := hw.1 w9
    exact s_M_laysStrip_B24 hd hQ  hw
  · replace hw := hw.2 w9
    refine r_aload_n (j := 0) d_M_laysStrip_7 rfl ?_
    refine r_getI d_M_laysStrip_8 ok_12 (nle rfl) (nle rfl) rfl lf_M_393 q1 ?_
    refine r_iload_n (j := 1) d_M_laysStrip_11 rfl ?_
    refine r_icmp_ne d_M_laysStrip_12 (fun w9 => ?_) (fun w9 => ?_)
    · replace hw := hw.2 w9
      exact s_M_laysStrip_B24 hd hQ  hw
    · replace hw := hw.1 w9
      refine r_aload_n (j := 0) d_M_laysStrip_15 rfl ?_
      refine r_getI d_M_laysStrip_16 ok_12 (nle rfl) (nle rfl) rfl lf_M_396 q1 ?_
      refine r_iload_n (j := 2) d_M_laysStrip_19 rfl ?_
      refine r_icmp_ne d_M_laysStrip_20 (fun w9 => ?_) (fun w9 => ?_)
      · replace hw := hw.2 w9
        exact s_M_laysStrip_B24 hd hQ  hw
      · replace hw := hw.1 w9
        exact r_return d_M_laysStrip_23.1 rfl (hQ _ hw)
set_option maxRecDepth 100000 in
set_option maxHeartbeats 4000000 in
theorem s_M_isStrip {d : Nat} (hd : 1 ≤ d) {v0 : Int32} {v1 : Int32} {h : Hp} {Q : Bool → Hp → Prop} {QQ : Option AV → Hp → Prop} (hw : w_M_isStrip v0 v1 h Q) (hQ : ∀ r9 h9, Q r9 h9 → QQ (some (ai (b2i r9))) h9) : aCall m_M_isStrip d [ai v0, ai v1] h 0 0 QQ := by
  obtain ⟨d, rfl⟩ : ∃ d9, d = d9 + 1 := ⟨d - 1, by omega⟩
  refine aCall_in pl_M_isStrip (nle rfl) ?_
  show aW none m_M_isStrip (d + 1) 0 [(0, ai v0), (1, ai v1)] [] h 0 0 QQ
  unfold w_M_isStrip at hw
  refine r_iload_n (j := 0) d_M_isStrip_0 rfl ?_
  refine r_iconst d_M_isStrip_1 kc_0 ?_
  refine r_bipush d_M_isStrip_2 kb_12 ?_
  refine r_callS (av := [ai v0, ai (0 : Int32), ai (12 : Int32)]) (rest := []) d_M_isStrip_4 mk_M_isIn ll_M_148 st_M_isIn rfl rfl (nle rfl) (s_M_isIn  hw (fun r2 h1 hw => ?_))
  show aW none m_M_isStrip (d + 1) 7 [(0, ai v0), (1, ai v1)] [ai (b2i r2)] h1 0 0 QQ
  refine r_if_eq d_M_isStrip_7 (fun w9 => ?_) (fun w9 => ?_)
  · replace hw := hw.1 (b2i_0.mp w9)
    refine r_iconst d_M_isStrip_24 kc_0 ?_
    exact r_zreturn d_M_isStrip_25.1 rfl (Or.inl rfl) (hQ _ _ hw)
  · replace hw := hw.2 (fun g9 => w9 (b2i_0.mpr g9))
    refine r_iload_n (j := 1) d_M_isStrip_10 rfl ?_
    refine r_iconst d_M_isStrip_11 kc_0 ?_
    refine r_bipush d_M_isStrip_12 kb_12 ?_
    refine r_callS (av := [ai v1, ai (0 : Int32), ai (12 : Int32)]) (rest := []) d_M_isStrip_14 mk_M_isIn ll_M_148 st_M_isIn rfl rfl (nle rfl) (s_M_isIn  hw (fun r4 h3 hw => ?_))
    show aW none m_M_isStrip (d + 1) 17 [(0, ai v0), (1, ai v1)] [ai (b2i r4)] h3 0 0 QQ
    refine r_if_eq d_M_isStrip_17 (fun w9 => ?_) (fun w9 => ?_)
    · replace hw := hw.1 (b2i_0.mp w9)
      refine r_iconst d_M_isStrip_24 kc_0 ?_
      exact r_zreturn d_M_isStrip_25.1 rfl (Or.inl rfl) (hQ _ _ hw)
    · replace hw := hw.2 (fun g9 => w9 (b2i_0.mpr g9))
      refine r_iconst d_M_isStrip_20 kc_1 ?_
      refine r_goto d_M_isStrip_21 ?_
      exact r_zreturn d_M_isStrip_25.1 rfl (Or.inr rfl) (hQ _ _ hw)
set_option maxRecDepth 100000 in
set_option maxHeartbeats 4000000 in
theorem s_M_strip_B45 {d : Nat} (hd : 5 ≤ d + 1) {Q : Int32 → Hp → Prop} {QQ : Option AV → Hp → Prop} (hQ : ∀ r9 h9, Q r9 h9 → QQ (some (ai r9)) h9) {s0 : Int32} {h : Hp} (hw : w_M_strip_B45 Q  s0 h) : aW none m_M_strip (d + 1) 45 [] [ai s0] h 0 0 QQ := by
  unfold w_M_strip_B45 at hw
  refine r_callS (av := [ai s0]) (rest := []) d_M_strip_45 mk_M_truth ll_M_318 st_M_truth rfl rfl (nle rfl) (s_M_truth  hw (fun r12 h11 hw => ?_))
  show aW none m_M_strip (d + 1) 48 [] [ai r12] h11 0 0 QQ
  refine r_goto d_M_strip_48 ?_
  exact r_ireturn d_M_strip_55.1 rfl (hQ _ _ hw)
set_option maxRecDepth 100000 in
set_option maxHeartbeats 4000000 in
theorem s_M_strip {d : Nat} (hd : 5 ≤ d) {v0 : Nat} {v1 : Int32} {v2 : Int32} {v3 : Int32} {h : Hp} {Q : Int32 → Hp → Prop} {QQ : Option AV → Hp → Prop} (hw : w_M_strip v0 v1 v2 v3 h Q) (hQ : ∀ r9 h9, Q r9 h9 → QQ (some (ai r9)) h9) : aCall m_M_strip d [ar v0, ai v1, ai v2, ai v3] h 0 0 QQ := by
  obtain ⟨d, rfl⟩ : ∃ d9, d = d9 + 1 := ⟨d - 1, by omega⟩
  refine aCall_in pl_M_strip (nle rfl) ?_
  show aW none m_M_strip (d + 1) 0 [(0, ar v0), (1, ai v1), (2, ai v2), (3, ai v3)] [] h 0 0 QQ
  unfold w_M_strip at hw
  refine r_iload_n (j := 1) d_M_strip_0 rfl ?_
  refine r_iload_n (j := 2) d_M_strip_1 rfl ?_
  refine r_callS (av := [ai v1, ai v2]) (rest := []) d_M_strip_2 mk_M_isStrip ll_M_406 st_M_isStrip rfl rfl (nle rfl) (s_M_isStrip (by omega) hw (fun r2 h1 hw => ?_))
  show aW none m_M_strip (d + 1) 5 [(0, ar v0), (1, ai v1), (2, ai v2), (3, ai v3)] [ai (b2i r2)] h1 0 0 QQ
  refine r_if_eq d_M_strip_5 (fun w9 => ?_) (fun w9 => ?_)
  · replace hw := hw.1 (b2i_0.mp w9)
    refine r_iconst d_M_strip_17 kc_m1 ?_
    exact r_ireturn d_M_strip_18.1 rfl (hQ _ _ hw)
  · replace hw := hw.2 (fun g9 => w9 (b2i_0.mpr g9))
    refine r_iload_n (j := 3) d_M_strip_8 rfl ?_
    refine r_iconst d_M_strip_9 kc_0 ?_
    refine r_iconst d_M_strip_10 kc_1 ?_
    refine r_callS (av := [ai v3, ai (0 : Int32), ai (1 : Int32)]) (rest := []) d_M_strip_11 mk_M_isIn ll_M_148 st_M_isIn rfl rfl (nle rfl) (s_M_isIn  hw (fun r4 h3 hw => ?_))
    show aW none m_M_strip (d + 1) 14 [(0, ar v0), (1, ai v1), (2, ai v2), (3, ai v3)] [ai (b2i r4)] h3 0 0 QQ
    refine r_if_ne d_M_strip_14 (fun w9 => ?_) (fun w9 => ?_)
    · replace hw := hw.2 (fun g9 => w9 (b2i_0.mpr g9))
      refine r_aload_n (j := 0) d_M_strip_19 rfl ?_
      refine r_iload_n (j := 1) d_M_strip_20 rfl ?_
      refine r_iload_n (j := 2) d_M_strip_21 rfl ?_
      obtain ⟨q6, hw⟩ := hw
      refine r_callV (av := [ai v1, ai v2]) (rest := []) (ci := 12) d_M_strip_22 mk_M_laysStrip ll_M_410 im_M_laysStrip se_M_laysStrip rfl (nle rfl) rfl rfl (nle rfl) q6 (s_M_laysStrip (by omega) hw (fun h5 hw => ?_))
      show aW none m_M_strip (d + 1) 25 [(0, ar v0), (1, ai v1), (2, ai v2), (3, ai v3)] [] h5 0 0 QQ
      refine r_iload_n (j := 3) d_M_strip_25 rfl ?_
      refine r_if_ne d_M_strip_26 (fun w9 => ?_) (fun w9 => ?_)
      · replace hw := hw.2 w9
        refine r_aload_n (j := 0) d_M_strip_51 rfl ?_
        obtain ⟨q7, hw⟩ := hw
        refine r_getI d_M_strip_52 ok_12 (nle rfl) (nle rfl) rfl lf_M_377 q7 ?_
        exact r_ireturn d_M_strip_55.1 rfl (hQ _ _ hw)
      · replace hw := hw.1 w9
        refine r_aload_n (j := 0) d_M_strip_29 rfl ?_
        obtain ⟨q8, hw⟩ := hw
        refine r_getR d_M_strip_30 ok_12 (nle rfl) (nle rfl) rfl lf_M_65 q8 ?_
        refine r_iconst d_M_strip_33 kc_0 ?_
        obtain ⟨q9, hw⟩ := hw
        obtain ⟨q10, hw⟩ := hw
        refine r_lald d_M_strip_34 q9 q10 ?_
        refine r_lconst d_M_strip_35 kl_0 ?_
        refine r_lcmp d_M_strip_36 ?_
        refine r_if_le d_M_strip_37 (fun w9 => ?_) (fun w9 => ?_)
        · replace hw := hw.1 ((lg_cmp_le _ _).mp w9)
          refine r_iconst d_M_strip_44 kc_0 ?_
          refine r_pick (ls2 := []) [] rfl ?_
          exact s_M_strip_B45 hd hQ  hw
        · replace hw := hw.2 (fun g9 => w9 ((lg_cmp_le _ _).mpr g9))
          refine r_iconst d_M_strip_40 kc_1 ?_
          refine r_goto d_M_strip_41 ?_
          refine r_pick (ls2 := []) [] rfl ?_
          exact s_M_strip_B45 hd hQ  hw
    · replace hw := hw.1 (b2i_0.mp w9)
      refine r_iconst d_M_strip_17 kc_m1 ?_
      exact r_ireturn d_M_strip_18.1 rfl (hQ _ _ hw)
set_option maxRecDepth 100000 in
set_option maxHeartbeats 4000000 in
theorem s_M_walks {d : Nat} (hd : 5 ≤ d) {v0 : Nat} {v1 : Int32} {v2 : Int32} {h : Hp} {Q : Int64 → Hp → Prop} {QQ : Option AV → Hp → Prop} (hw : w_M_walks v0 v1 v2 h Q) (hQ : ∀ r9 h9, Q r9 h9 → QQ (some (al r9)) h9) : aCall m_M_walks d [ar v0, ai v1, ai v2] h 0 0 QQ := by
  obtain ⟨d, rfl⟩ : ∃ d9, d = d9 + 1 := ⟨d - 1, by omega⟩
  refine aCall_in pl_M_walks (nle rfl) ?_
  show aW none m_M_walks (d + 1) 0 [(0, ar v0), (1, ai v1), (2, ai v2)] [] h 0 0 QQ
  unfold w_M_walks at hw
  refine r_iload_n (j := 1) d_M_walks_0 rfl ?_
  refine r_iload_n (j := 2) d_M_walks_1 rfl ?_
  refine r_callS (av := [ai v1, ai v2]) (rest := []) d_M_walks_2 mk_M_isStrip ll_M_406 st_M_isStrip rfl rfl (nle rfl) (s_M_isStrip (by omega) hw (fun r2 h1 hw => ?_))
  show aW none m_M_walks (d + 1) 5 [(0, ar v0), (1, ai v1), (2, ai v2)] [ai (b2i r2)] h1 0 0 QQ
  refine r_if_ne d_M_walks_5 (fun w9 => ?_) (fun w9 => ?_)
  · replace hw := hw.2 (fun g9 => w9 (b2i_0.mpr g9))
    refine r_aload_n (j := 0) d_M_walks_12 rfl ?_
    refine r_iload_n (j := 1) d_M_walks_13 rfl ?_
    refine r_iload_n (j := 2) d_M_walks_14 rfl ?_
    obtain ⟨q4, hw⟩ := hw
    refine r_callV (av := [ai v1, ai v2]) (rest := []) (ci := 12) d_M_walks_15 mk_M_laysStrip ll_M_410 im_M_laysStrip se_M_laysStrip rfl (nle rfl) rfl rfl (nle rfl) q4 (s_M_laysStrip (by omega) hw (fun h3 hw => ?_))
    show aW none m_M_walks (d + 1) 18 [(0, ar v0), (1, ai v1), (2, ai v2)] [] h3 0 0 QQ
    refine r_aload_n (j := 0) d_M_walks_18 rfl ?_
    obtain ⟨q5, hw⟩ := hw
    refine r_getR d_M_walks_19 ok_12 (nle rfl) (nle rfl) rfl lf_M_65 q5 ?_
    refine r_iconst d_M_walks_22 kc_0 ?_
    obtain ⟨q6, hw⟩ := hw
    obtain ⟨q7, hw⟩ := hw
    refine r_lald d_M_walks_23 q6 q7 ?_
    exact r_lreturn d_M_walks_24.1 rfl (hQ _ _ hw)
  · replace hw := hw.1 (b2i_0.mp w9)
    refine r_ldc2 d_M_walks_8 lc_M_413 ?_
    exact r_lreturn d_M_walks_11.1 rfl (hQ _ _ hw)
set_option maxRecDepth 100000 in
set_option maxHeartbeats 4000000 in
theorem s_M_best {d : Nat} (hd : 5 ≤ d) {v0 : Nat} {v1 : Int32} {v2 : Int32} {h : Hp} {Q : Int32 → Hp → Prop} {QQ : Option AV → Hp → Prop} (hw : w_M_best v0 v1 v2 h Q) (hQ : ∀ r9 h9, Q r9 h9 → QQ (some (ai r9)) h9) : aCall m_M_best d [ar v0, ai v1, ai v2] h 0 0 QQ := by
  obtain ⟨d, rfl⟩ : ∃ d9, d = d9 + 1 := ⟨d - 1, by omega⟩
  refine aCall_in pl_M_best (nle rfl) ?_
  show aW none m_M_best (d + 1) 0 [(0, ar v0), (1, ai v1), (2, ai v2)] [] h 0 0 QQ
  unfold w_M_best at hw
  refine r_iload_n (j := 1) d_M_best_0 rfl ?_
  refine r_iload_n (j := 2) d_M_best_1 rfl ?_
  refine r_callS (av := [ai v1, ai v2]) (rest := []) d_M_best_2 mk_M_isStrip ll_M_406 st_M_isStrip rfl rfl (nle rfl) (s_M_isStrip (by omega) hw (fun r2 h1 hw => ?_))
  show aW none m_M_best (d + 1) 5 [(0, ar v0), (1, ai v1), (2, ai v2)] [ai (b2i r2)] h1 0 0 QQ
  refine r_if_ne d_M_best_5 (fun w9 => ?_) (fun w9 => ?_)
  · replace hw := hw.2 (fun g9 => w9 (b2i_0.mpr g9))
    refine r_aload_n (j := 0) d_M_best_12 rfl ?_
    refine r_iload_n (j := 1) d_M_best_13 rfl ?_
    refine r_iload_n (j := 2) d_M_best_14 rfl ?_
    obtain ⟨q4, hw⟩ := hw
    refine r_callV (av := [ai v1, ai v2]) (rest := []) (ci := 12) d_M_best_15 mk_M_laysStrip ll_M_410 im_M_laysStrip se_M_laysStrip rfl (nle rfl) rfl rfl (nle rfl) q4 (s_M_laysStrip (by omega) hw (fun h3 hw => ?_))
    show aW none m_M_best (d + 1) 18 [(0, ar v0), (1, ai v1), (2, ai v2)] [] h3 0 0 QQ
    refine r_aload_n (j := 0) d_M_best_18 rfl ?_
    obtain ⟨q5, hw⟩ := hw
    refine r_getR d_M_best_19 ok_12 (nle rfl) (nle rfl) rfl lf_M_65 q5 ?_
    refine r_iconst d_M_best_22 kc_0 ?_
    obtain ⟨q6, hw⟩ := hw
    obtain ⟨q7, hw⟩ := hw
    refine r_lald d_M_best_23 q6 q7 ?_
    refine r_lconst d_M_best_24 kl_0 ?_
    refine r_lcmp d_M_best_25 ?_
    refine r_if_le d_M_best_26 (fun w9 => ?_) (fun w9 => ?_)
    · replace hw := hw.1 ((lg_cmp_le _ _).mp w9)
      refine r_ldcw d_M_best_38 lc_M_277 ?_
      exact r_ireturn d_M_best_41.1 rfl (hQ _ _ hw)
    · replace hw := hw.2 (fun g9 => w9 ((lg_cmp_le _ _).mpr g9))
      refine r_aload_n (j := 0) d_M_best_29 rfl ?_
      refine r_getR d_M_best_30 ok_12 (nle rfl) (nle rfl) rfl lf_M_55 q5 ?_
      refine r_iconst d_M_best_33 kc_0 ?_
      obtain ⟨q8, hw⟩ := hw
      obtain ⟨q9, hw⟩ := hw
      refine r_iald d_M_best_34 q8 q9 ?_
      refine r_goto d_M_best_35 ?_
      exact r_ireturn d_M_best_41.1 rfl (hQ _ _ hw)
  · replace hw := hw.1 (b2i_0.mp w9)
    refine r_ldcw d_M_best_8 lc_M_277 ?_
    exact r_ireturn d_M_best_11.1 rfl (hQ _ _ hw)
set_option maxRecDepth 100000 in
set_option maxHeartbeats 4000000 in
theorem s_M_isBestStep {d : Nat} (hd : 3 ≤ d) {v0 : Nat} {v1 : Int32} {v2 : Int32} {v3 : Int32} {h : Hp} {Q : Bool → Hp → Prop} {QQ : Option AV → Hp → Prop} (hw : w_M_isBestStep v0 v1 v2 v3 h Q) (hQ : ∀ r9 h9, Q r9 h9 → QQ (some (ai (b2i r9))) h9) : aCall m_M_isBestStep d [ar v0, ai v1, ai v2, ai v3] h 0 0 QQ := by
  obtain ⟨d, rfl⟩ : ∃ d9, d = d9 + 1 := ⟨d - 1, by omega⟩
  refine aCall_in pl_M_isBestStep (nle rfl) ?_
  show aW none m_M_isBestStep (d + 1) 0 [(0, ar v0), (1, ai v1), (2, ai v2), (3, ai v3)] [] h 0 0 QQ
  unfold w_M_isBestStep at hw
  refine r_aload_n (j := 0) d_M_isBestStep_0 rfl ?_
  refine r_iload_n (j := 1) d_M_isBestStep_1 rfl ?_
  refine r_iload_n (j := 2) d_M_isBestStep_2 rfl ?_
  refine r_iload_n (j := 3) d_M_isBestStep_3 rfl ?_
  obtain ⟨q3, hw⟩ := hw
  refine r_callV (av := [ai v1, ai v2, ai v3]) (rest := []) (ci := 12) d_M_isBestStep_4 mk_M_behind ll_M_390 im_M_behind se_M_behind rfl (nle rfl) rfl rfl (nle rfl) q3 (s_M_behind (by omega) hw (fun r2 h1 hw => ?_))
  show aW none m_M_isBestStep (d + 1) 7 [(0, ar v0), (1, ai v1), (2, ai v2), (3, ai v3)] [ai r2] h1 0 0 QQ
  refine r_istore (ls2 := [(4, ai r2), (0, ar v0), (1, ai v1), (2, ai v2), (3, ai v3)]) d_M_isBestStep_7 (nle rfl) rfl ?_
  refine r_iload (j := 0) d_M_isBestStep_9 rfl ?_
  refine r_if_lt d_M_isBestStep_11 (fun w9 => ?_) (fun w9 => ?_)
  · replace hw := hw.1 w9
    refine r_iconst d_M_isBestStep_52 kc_0 ?_
    exact r_zreturn d_M_isBestStep_53.1 rfl (Or.inl rfl) (hQ _ _ hw)
  · replace hw := hw.2 w9
    refine r_aload_n (j := 1) d_M_isBestStep_14 rfl ?_
    obtain ⟨q4, hw⟩ := hw
    refine r_getR d_M_isBestStep_15 ok_12 (nle rfl) (nle rfl) rfl lf_M_65 q4 ?_
    refine r_iload (j := 0) d_M_isBestStep_18 rfl ?_
    obtain ⟨q5, hw⟩ := hw
    obtain ⟨q6, hw⟩ := hw
    refine r_lald d_M_isBestStep_20 q5 q6 ?_
    refine r_lconst d_M_isBestStep_21 kl_0 ?_
    refine r_lcmp d_M_isBestStep_22 ?_
    refine r_if_le d_M_isBestStep_23 (fun w9 => ?_) (fun w9 => ?_)
    · replace hw := hw.1 ((lg_cmp_le _ _).mp w9)
      refine r_iconst d_M_isBestStep_52 kc_0 ?_
      exact r_zreturn d_M_isBestStep_53.1 rfl (Or.inl rfl) (hQ _ _ hw)
    · replace hw := hw.2 (fun g9 => w9 ((lg_cmp_le _ _).mpr g9))
      refine r_aload_n (j := 1) d_M_isBestStep_26 rfl ?_
      refine r_iload_n (j := 4) d_M_isBestStep_27 rfl ?_
      refine r_callV (av := [ai v3]) (rest := []) (ci := 12) d_M_isBestStep_28 mk_M_gainOf ll_M_278 im_M_gainOf se_M_gainOf rfl (nle rfl) rfl rfl (nle rfl) q4 (s_M_gainOf  hw (fun r8 h7 hw => ?_))
      show aW none m_M_isBestStep (d + 1) 31 [(4, ai r2), (0, ar v0), (1, ai v1), (2, ai v2), (3, ai v3)] [ai r8] h7 0 0 QQ
      refine r_aload_n (j := 1) d_M_isBestStep_31 rfl ?_
      obtain ⟨q9, hw⟩ := hw
      refine r_getR d_M_isBestStep_32 ok_12 (nle rfl) (nle rfl) rfl lf_M_55 q9 ?_
      refine r_iload (j := 0) d_M_isBestStep_35 rfl ?_
      obtain ⟨q10, hw⟩ := hw
      obtain ⟨q11, hw⟩ := hw
      refine r_iald d_M_isBestStep_37 q10 q11 ?_
      refine r_iadd d_M_isBestStep_38 ?_
      refine r_aload_n (j := 1) d_M_isBestStep_39 rfl ?_
      refine r_getR d_M_isBestStep_40 ok_12 (nle rfl) (nle rfl) rfl lf_M_55 q9 ?_
      refine r_iload_n (j := 2) d_M_isBestStep_43 rfl ?_
      obtain ⟨q12, hw⟩ := hw
      refine r_iald d_M_isBestStep_44 q10 q12 ?_
      refine r_icmp_ne d_M_isBestStep_45 (fun w9 => ?_) (fun w9 => ?_)
      · replace hw := hw.2 w9
        refine r_iconst d_M_isBestStep_52 kc_0 ?_
        exact r_zreturn d_M_isBestStep_53.1 rfl (Or.inl rfl) (hQ _ _ hw)
      · replace hw := hw.1 w9
        refine r_iconst d_M_isBestStep_48 kc_1 ?_
        refine r_goto d_M_isBestStep_49 ?_
        exact r_zreturn d_M_isBestStep_53.1 rfl (Or.inr rfl) (hQ _ _ hw)
set_option maxRecDepth 100000 in
set_option maxHeartbeats 4000000 in
theorem s_M_step_L58 {d : Nat} (hd : 5 ≤ d + 1) {Q : Int32 → Hp → Prop} {QQ : Option AV → Hp → Prop} (hQ : ∀ r9 h9, Q r9 h9 → QQ (some (ai r9)) h9) {v0 : Nat} {v3 : Int32} {v4 : Int32} {v6 : Int32} {k49 : Int32 → Int32 → Int32 → Hp → Prop} (hk49 : ∀ v4 v5 v6 h9, k49 v4 v5 v6 h9 → aW none m_M_step (d + 1) 49 [(0, ar v0), (3, ai v3), (4, ai v4), (5, ai v5), (6, ai v6)] [] h9 0 0 QQ) : ∀ (n : Nat) (v5 : Int32) (h : Hp), w_M_step_L58 Q k49 v0 v3 v4 v6 n v5 h → aW none m_M_step (d + 1) 58 [(0, ar v0), (3, ai v3), (4, ai v4), (5, ai v5), (6, ai v6)] [] h 0 0 QQ := by
  intro n
  induction n with
  | zero => intro v5 h hw; exact hw.elim
  | succ n ih =>
    intro v5 h hw
    unfold w_M_step_L58 at hw
    refine r_aload_n (j := 0) d_M_step_58 rfl ?_
    refine r_iload (j := 2) d_M_step_59 rfl ?_
    refine r_iload (j := 4) d_M_step_61 rfl ?_
    refine r_iload (j := 3) d_M_step_63 rfl ?_
    obtain ⟨q12, hw⟩ := hw
    refine r_callV (av := [ai v4, ai v6, ai v5]) (rest := []) (ci := 12) d_M_step_65 mk_M_isBestStep ll_M_415 im_M_isBestStep se_M_isBestStep rfl (nle rfl) rfl rfl (nle rfl) q12 (s_M_isBestStep (by omega) hw (fun r11 h10 hw => ?_))
    show aW none m_M_step (d + 1) 68 [(0, ar v0), (3, ai v3), (4, ai v4), (5, ai v5), (6, ai v6)] [ai (b2i r11)] h10 0 0 QQ
    refine r_if_ne d_M_step_68 (fun w9 => ?_) (fun w9 => ?_)
    · replace hw := hw.2 (fun g9 => w9 (b2i_0.mpr g9))
      refine r_aload_n (j := 0) d_M_step_77 rfl ?_
      refine r_iload (j := 2) d_M_step_78 rfl ?_
      refine r_iload (j := 4) d_M_step_80 rfl ?_
      refine r_iload (j := 3) d_M_step_82 rfl ?_
      obtain ⟨q15, hw⟩ := hw
      refine r_callV (av := [ai v4, ai v6, ai v5]) (rest := []) (ci := 12) d_M_step_84 mk_M_behind ll_M_390 im_M_behind se_M_behind rfl (nle rfl) rfl rfl (nle rfl) q15 (s_M_behind (by omega) hw (fun r14 h13 hw => ?_))
      show aW none m_M_step (d + 1) 87 [(0, ar v0), (3, ai v3), (4, ai v4), (5, ai v5), (6, ai v6)] [ai r14] h13 0 0 QQ
      refine r_istore (ls2 := [(4, ai r14), (0, ar v0), (3, ai v3), (5, ai v5), (6, ai v6)]) d_M_step_87 (nle rfl) rfl ?_
      refine r_iinc (j := 4) (ls2 := [(6, ai (v6 + (1 : Int32))), (4, ai r14), (0, ar v0), (3, ai v3), (5, ai v5)]) d_M_step_89 rfl (congrArg (HAdd.hAdd v6) kc_1) (nle rfl) rfl ?_
      refine r_goto d_M_step_92 ?_
      refine r_pick (ls2 := [(0, ar v0), (3, ai v3), (4, ai r14), (5, ai v5), (6, ai (v6 + (1 : Int32)))]) [2, 3, 1, 4, 0] rfl ?_
      exact hk49 _ _ _ _ hw
    · replace hw := hw.1 (b2i_0.mp w9)
      refine r_iinc (j := 3) (ls2 := [(5, ai (v5 + (1 : Int32))), (0, ar v0), (3, ai v3), (4, ai v4), (6, ai v6)]) d_M_step_71 rfl (congrArg (HAdd.hAdd v5) kc_1) (nle rfl) rfl ?_
      refine r_goto d_M_step_74 ?_
      refine r_pick (ls2 := [(0, ar v0), (3, ai v3), (4, ai v4), (5, ai (v5 + (1 : Int32))), (6, ai v6)]) [1, 2, 3, 0, 4] rfl ?_
      exact ih _ _ hw
set_option maxRecDepth 100000 in
set_option maxHeartbeats 4000000 in
theorem s_M_step_L49 {d : Nat} (hd : 5 ≤ d + 1) {Q : Int32 → Hp → Prop} {QQ : Option AV → Hp → Prop} (hQ : ∀ r9 h9, Q r9 h9 → QQ (some (ai r9)) h9) {v0 : Nat} {v3 : Int32} : ∀ (n : Nat) (v4 : Int32) (v5 : Int32) (v6 : Int32) (h : Hp), w_M_step_L49 Q  v0 v3 n v4 v5 v6 h → aW none m_M_step (d + 1) 49 [(0, ar v0), (3, ai v3), (4, ai v4), (5, ai v5), (6, ai v6)] [] h 0 0 QQ := by
  intro n
  induction n with
  | zero => intro v4 v5 v6 h hw; exact hw.elim
  | succ n ih =>
    intro v4 v5 v6 h hw
    unfold w_M_step_L49 at hw
    refine r_iload (j := 4) d_M_step_49 rfl ?_
    refine r_iload_n (j := 1) d_M_step_51 rfl ?_
    refine r_icmp_gt d_M_step_52 (fun w9 => ?_) (fun w9 => ?_)
    · replace hw := hw.1 w9
      refine r_iload (j := 3) d_M_step_95 rfl ?_
      exact r_ireturn d_M_step_97.1 rfl (hQ _ _ hw)
    · replace hw := hw.2 w9
      refine r_iconst d_M_step_55 kc_0 ?_
      refine r_istore (ls2 := [(5, ai (0 : Int32)), (0, ar v0), (3, ai v3), (4, ai v4), (6, ai v6)]) d_M_step_56 (nle rfl) rfl ?_
      obtain ⟨n16, hw⟩ := hw
      refine r_pick (ls2 := [(0, ar v0), (3, ai v3), (4, ai v4), (5, ai (0 : Int32)), (6, ai v6)]) [1, 2, 3, 0, 4] rfl ?_
      exact s_M_step_L58 hd hQ ih n16 _ _ hw
set_option maxRecDepth 100000 in
set_option maxHeartbeats 4000000 in
theorem s_M_step {d : Nat} (hd : 5 ≤ d) {v0 : Nat} {v1 : Int32} {v2 : Int32} {v3 : Int32} {h : Hp} {Q : Int32 → Hp → Prop} {QQ : Option AV → Hp → Prop} (hw : w_M_step v0 v1 v2 v3 h Q) (hQ : ∀ r9 h9, Q r9 h9 → QQ (some (ai r9)) h9) : aCall m_M_step d [ar v0, ai v1, ai v2, ai v3] h 0 0 QQ := by
  obtain ⟨d, rfl⟩ : ∃ d9, d = d9 + 1 := ⟨d - 1, by omega⟩
  refine aCall_in pl_M_step (nle rfl) ?_
  show aW none m_M_step (d + 1) 0 [(0, ar v0), (1, ai v1), (2, ai v2), (3, ai v3)] [] h 0 0 QQ
  unfold w_M_step at hw
  refine r_iload_n (j := 1) d_M_step_0 rfl ?_
  refine r_iload_n (j := 2) d_M_step_1 rfl ?_
  refine r_callS (av := [ai v1, ai v2]) (rest := []) d_M_step_2 mk_M_isStrip ll_M_406 st_M_isStrip rfl rfl (nle rfl) (s_M_isStrip (by omega) hw (fun r2 h1 hw => ?_))
  show aW none m_M_step (d + 1) 5 [(0, ar v0), (1, ai v1), (2, ai v2), (3, ai v3)] [ai (b2i r2)] h1 0 0 QQ
  refine r_if_eq d_M_step_5 (fun w9 => ?_) (fun w9 => ?_)
  · replace hw := hw.1 (b2i_0.mp w9)
    refine r_iconst d_M_step_19 kc_m1 ?_
    exact r_ireturn d_M_step_20.1 rfl (hQ _ _ hw)
  · replace hw := hw.2 (fun g9 => w9 (b2i_0.mpr g9))
    refine r_iload_n (j := 3) d_M_step_8 rfl ?_
    refine r_iconst d_M_step_9 kc_0 ?_
    refine r_iload_n (j := 1) d_M_step_10 rfl ?_
    refine r_iconst d_M_step_11 kc_1 ?_
    refine r_isub d_M_step_12 ?_
    refine r_callS (av := [ai v3, ai (0 : Int32), ai (v1 - (1 : Int32))]) (rest := []) d_M_step_13 mk_M_isIn ll_M_148 st_M_isIn rfl rfl (nle rfl) (s_M_isIn  hw (fun r4 h3 hw => ?_))
    show aW none m_M_step (d + 1) 16 [(0, ar v0), (1, ai v1), (2, ai v2), (3, ai v3)] [ai (b2i r4)] h3 0 0 QQ
    refine r_if_ne d_M_step_16 (fun w9 => ?_) (fun w9 => ?_)
    · replace hw := hw.2 (fun g9 => w9 (b2i_0.mpr g9))
      refine r_aload_n (j := 0) d_M_step_21 rfl ?_
      refine r_iload_n (j := 1) d_M_step_22 rfl ?_
      refine r_iload_n (j := 2) d_M_step_23 rfl ?_
      obtain ⟨q6, hw⟩ := hw
      refine r_callV (av := [ai v1, ai v2]) (rest := []) (ci := 12) d_M_step_24 mk_M_laysStrip ll_M_410 im_M_laysStrip se_M_laysStrip rfl (nle rfl) rfl rfl (nle rfl) q6 (s_M_laysStrip (by omega) hw (fun h5 hw => ?_))
      show aW none m_M_step (d + 1) 27 [(0, ar v0), (1, ai v1), (2, ai v2), (3, ai v3)] [] h5 0 0 QQ
      refine r_aload_n (j := 0) d_M_step_27 rfl ?_
      obtain ⟨q7, hw⟩ := hw
      refine r_getR d_M_step_28 ok_12 (nle rfl) (nle rfl) rfl lf_M_65 q7 ?_
      refine r_iconst d_M_step_31 kc_0 ?_
      obtain ⟨q8, hw⟩ := hw
      obtain ⟨q9, hw⟩ := hw
      refine r_lald d_M_step_32 q8 q9 ?_
      refine r_lconst d_M_step_33 kl_0 ?_
      refine r_lcmp d_M_step_34 ?_
      refine r_if_ne d_M_step_35 (fun w9 => ?_) (fun w9 => ?_)
      · replace hw := hw.2 (fun g9 => w9 ((lg_cmp_eq _ _).mpr g9))
        refine r_iconst d_M_step_40 kc_0 ?_
        refine r_istore (ls2 := [(4, ai (0 : Int32)), (0, ar v0), (1, ai v1), (2, ai v2), (3, ai v3)]) d_M_step_41 (nle rfl) rfl ?_
        refine r_iconst d_M_step_43 kc_0 ?_
        refine r_istore (ls2 := [(5, ai (0 : Int32)), (4, ai (0 : Int32)), (0, ar v0), (1, ai v1), (2, ai v2), (3, ai v3)]) d_M_step_44 (nle rfl) rfl ?_
        refine r_iconst d_M_step_46 kc_0 ?_
        refine r_istore (ls2 := [(6, ai (0 : Int32)), (5, ai (0 : Int32)), (4, ai (0 : Int32)), (0, ar v0), (1, ai v1), (2, ai v2), (3, ai v3)]) d_M_step_47 (nle rfl) rfl ?_
        obtain ⟨n17, hw⟩ := hw
        refine r_pick (ls2 := [(0, ar v0), (3, ai v3), (4, ai (0 : Int32)), (5, ai (0 : Int32)), (6, ai (0 : Int32))]) [3, 6, 2, 1, 0] rfl ?_
        exact s_M_step_L49 hd hQ  n17 _ _ _ _ hw
      · replace hw := hw.1 ((lg_cmp_eq _ _).mp w9)
        refine r_iconst d_M_step_38 kc_m1 ?_
        exact r_ireturn d_M_step_39.1 rfl (hQ _ _ hw)
    · replace hw := hw.1 (b2i_0.mp w9)
      refine r_iconst d_M_step_19 kc_m1 ?_
      exact r_ireturn d_M_step_20.1 rfl (hQ _ _ hw)
set_option maxRecDepth 100000 in
set_option maxHeartbeats 4000000 in
theorem s_M_narrow_L22 {d : Nat} (hd : 5 ≤ d + 1) {Q : Int32 → Hp → Prop} {QQ : Option AV → Hp → Prop} (hQ : ∀ r9 h9, Q r9 h9 → QQ (some (ai r9)) h9) {v0 : Nat} {v1 : Int32} : ∀ (n : Nat) (v2 : Int32) (h : Hp), w_M_narrow_L22 Q  v0 v1 n v2 h → aW none m_M_narrow (d + 1) 22 [(0, ar v0), (1, ai v1), (2, ai v2)] [] h 0 0 QQ := by
  intro n
  induction n with
  | zero => intro v2 h hw; exact hw.elim
  | succ n ih =>
    intro v2 h hw
    unfold w_M_narrow_L22 at hw
    refine r_iload_n (j := 2) d_M_narrow_22 rfl ?_
    refine r_bipush d_M_narrow_23 kb_12 ?_
    refine r_icmp_gt d_M_narrow_25 (fun w9 => ?_) (fun w9 => ?_)
    · replace hw := hw.1 w9
      refine r_iconst d_M_narrow_53 kc_m1 ?_
      exact r_ireturn d_M_narrow_54.1 rfl (hQ _ _ hw)
    · replace hw := hw.2 w9
      refine r_aload_n (j := 0) d_M_narrow_28 rfl ?_
      refine r_iload_n (j := 1) d_M_narrow_29 rfl ?_
      refine r_iload_n (j := 2) d_M_narrow_30 rfl ?_
      obtain ⟨q7, hw⟩ := hw
      refine r_callV (av := [ai v1, ai v2]) (rest := []) (ci := 12) d_M_narrow_31 mk_M_laysStrip ll_M_410 im_M_laysStrip se_M_laysStrip rfl (nle rfl) rfl rfl (nle rfl) q7 (s_M_laysStrip (by omega) hw (fun h6 hw => ?_))
      show aW none m_M_narrow (d + 1) 34 [(0, ar v0), (1, ai v1), (2, ai v2)] [] h6 0 0 QQ
      refine r_aload_n (j := 0) d_M_narrow_34 rfl ?_
      obtain ⟨q8, hw⟩ := hw
      refine r_getR d_M_narrow_35 ok_12 (nle rfl) (nle rfl) rfl lf_M_65 q8 ?_
      refine r_iconst d_M_narrow_38 kc_0 ?_
      obtain ⟨q9, hw⟩ := hw
      obtain ⟨q10, hw⟩ := hw
      refine r_lald d_M_narrow_39 q9 q10 ?_
      refine r_lconst d_M_narrow_40 kl_0 ?_
      refine r_lcmp d_M_narrow_41 ?_
      refine r_if_le d_M_narrow_42 (fun w9 => ?_) (fun w9 => ?_)
      · replace hw := hw.1 ((lg_cmp_le _ _).mp w9)
        refine r_iinc (j := 2) (ls2 := [(2, ai (v2 + (1 : Int32))), (0, ar v0), (1, ai v1)]) d_M_narrow_47 rfl (congrArg (HAdd.hAdd v2) kc_1) (nle rfl) rfl ?_
        refine r_goto d_M_narrow_50 ?_
        refine r_pick (ls2 := [(0, ar v0), (1, ai v1), (2, ai (v2 + (1 : Int32)))]) [1, 2, 0] rfl ?_
        exact ih _ _ hw
      · replace hw := hw.2 (fun g9 => w9 ((lg_cmp_le _ _).mpr g9))
        refine r_iload_n (j := 2) d_M_narrow_45 rfl ?_
        exact r_ireturn d_M_narrow_46.1 rfl (hQ _ _ hw)
set_option maxRecDepth 100000 in
set_option maxHeartbeats 4000000 in
theorem s_M_narrow {d : Nat} (hd : 5 ≤ d) {v0 : Nat} {v1 : Int32} {h : Hp} {Q : Int32 → Hp → Prop} {QQ : Option AV → Hp → Prop} (hw : w_M_narrow v0 v1 h Q) (hQ : ∀ r9 h9, Q r9 h9 → QQ (some (ai r9)) h9) : aCall m_M_narrow d [ar v0, ai v1] h 0 0 QQ := by
  obtain ⟨d, rfl⟩ : ∃ d9, d = d9 + 1 := ⟨d - 1, by omega⟩
  refine aCall_in pl_M_narrow (nle rfl) ?_
  show aW none m_M_narrow (d + 1) 0 [(0, ar v0), (1, ai v1)] [] h 0 0 QQ
  unfold w_M_narrow at hw
  refine r_iload_n (j := 1) d_M_narrow_0 rfl ?_
  refine r_iconst d_M_narrow_1 kc_0 ?_
  refine r_bipush d_M_narrow_2 kb_12 ?_
  refine r_callS (av := [ai v1, ai (0 : Int32), ai (12 : Int32)]) (rest := []) d_M_narrow_4 mk_M_isIn ll_M_148 st_M_isIn rfl rfl (nle rfl) (s_M_isIn  hw (fun r2 h1 hw => ?_))
  show aW none m_M_narrow (d + 1) 7 [(0, ar v0), (1, ai v1)] [ai (b2i r2)] h1 0 0 QQ
  refine r_if_eq d_M_narrow_7 (fun w9 => ?_) (fun w9 => ?_)
  · replace hw := hw.1 (b2i_0.mp w9)
    refine r_iconst d_M_narrow_18 kc_m1 ?_
    exact r_ireturn d_M_narrow_19.1 rfl (hQ _ _ hw)
  · replace hw := hw.2 (fun g9 => w9 (b2i_0.mpr g9))
    refine r_aload_n (j := 0) d_M_narrow_10 rfl ?_
    refine r_iload_n (j := 1) d_M_narrow_11 rfl ?_
    obtain ⟨q5, hw⟩ := hw
    refine r_callV (av := [ai v1]) (rest := []) (ci := 12) d_M_narrow_12 mk_M_plansOf ll_M_325 im_M_plansOf se_M_plansOf rfl (nle rfl) rfl rfl (nle rfl) q5 (s_M_plansOf (by omega) hw (fun r4 h3 hw => ?_))
    show aW none m_M_narrow (d + 1) 15 [(0, ar v0), (1, ai v1)] [ai r4] h3 0 0 QQ
    refine r_if_ne d_M_narrow_15 (fun w9 => ?_) (fun w9 => ?_)
    · replace hw := hw.2 w9
      refine r_iconst d_M_narrow_20 kc_0 ?_
      refine r_istore_n (ls2 := [(2, ai (0 : Int32)), (0, ar v0), (1, ai v1)]) d_M_narrow_21 (nle rfl) rfl ?_
      obtain ⟨n11, hw⟩ := hw
      refine r_pick (ls2 := [(0, ar v0), (1, ai v1), (2, ai (0 : Int32))]) [1, 2, 0] rfl ?_
      exact s_M_narrow_L22 hd hQ  n11 _ _ hw
    · replace hw := hw.1 w9
      refine r_iconst d_M_narrow_18 kc_m1 ?_
      exact r_ireturn d_M_narrow_19.1 rfl (hQ _ _ hw)
set_option maxRecDepth 100000 in
set_option maxHeartbeats 4000000 in
theorem s_M_isNear_L5 {d : Nat} (hd : 1 ≤ d + 1) {Q : Bool → Hp → Prop} {QQ : Option AV → Hp → Prop} (hQ : ∀ r9 h9, Q r9 h9 → QQ (some (ai (b2i r9))) h9) {v0 : Nat} {v1 : Int32} {v2 : Int32} : ∀ (n : Nat) (v3 : Int32) (v4 : Int32) (h : Hp), w_M_isNear_L5 Q  v0 v1 v2 n v3 v4 h → aW none m_M_isNear (d + 1) 5 [(0, ar v0), (1, ai v1), (2, ai v2), (3, ai v3), (4, ai v4)] [] h 0 0 QQ := by
  intro n
  induction n with
  | zero => intro v3 v4 h hw; exact hw.elim
  | succ n ih =>
    intro v3 v4 h hw
    unfold w_M_isNear_L5 at hw
    refine r_iload (j := 4) d_M_isNear_5 rfl ?_
    refine r_aload_n (j := 0) d_M_isNear_7 rfl ?_
    obtain ⟨q1, hw⟩ := hw
    refine r_getI d_M_isNear_8 ok_12 (nle rfl) (nle rfl) rfl lf_M_244 q1 ?_
    refine r_icmp_ge d_M_isNear_11 (fun w9 => ?_) (fun w9 => ?_)
    · replace hw := hw.1 w9
      refine r_iload_n (j := 3) d_M_isNear_55 rfl ?_
      obtain ⟨q2, hw⟩ := hw
      exact r_zreturn d_M_isNear_56.1 rfl q2 (by have g9 := hQ _ _ hw; rwa [b2i_i q2] at g9)
    · replace hw := hw.2 w9
      refine r_iload_n (j := 3) d_M_isNear_14 rfl ?_
      refine r_if_eq d_M_isNear_15 (fun w9 => ?_) (fun w9 => ?_)
      · replace hw := hw.1 w9
        refine r_iconst d_M_isNear_47 kc_0 ?_
        refine r_istore_n (ls2 := [(3, ai (0 : Int32)), (0, ar v0), (1, ai v1), (2, ai v2), (4, ai v4)]) d_M_isNear_48 (nle rfl) rfl ?_
        refine r_iinc (j := 4) (ls2 := [(4, ai (v4 + (1 : Int32))), (3, ai (0 : Int32)), (0, ar v0), (1, ai v1), (2, ai v2)]) d_M_isNear_49 rfl (congrArg (HAdd.hAdd v4) kc_1) (nle rfl) rfl ?_
        refine r_goto d_M_isNear_52 ?_
        refine r_pick (ls2 := [(0, ar v0), (1, ai v1), (2, ai v2), (3, ai (0 : Int32)), (4, ai (v4 + (1 : Int32)))]) [2, 3, 4, 1, 0] rfl ?_
        exact ih _ _ _ hw
      · replace hw := hw.2 w9
        refine r_iload_n (j := 1) d_M_isNear_18 rfl ?_
        refine r_aload_n (j := 0) d_M_isNear_19 rfl ?_
        refine r_getR d_M_isNear_20 ok_12 (nle rfl) (nle rfl) rfl lf_M_48 q1 ?_
        refine r_iload (j := 4) d_M_isNear_23 rfl ?_
        obtain ⟨q3, hw⟩ := hw
        obtain ⟨q4, hw⟩ := hw
        refine r_iald d_M_isNear_25 q3 q4 ?_
        refine r_imul d_M_isNear_26 ?_
        refine r_aload_n (j := 0) d_M_isNear_27 rfl ?_
        refine r_iload (j := 4) d_M_isNear_28 rfl ?_
        refine r_callV (av := [ai v4]) (rest := [ai (v1 * (gI h (gR h v0 32) (ix v4)))]) (ci := 12) d_M_isNear_30 mk_M_needOf ll_M_281 im_M_needOf se_M_needOf rfl (nle rfl) rfl rfl (nle rfl) q1 (s_M_needOf  hw (fun r6 h5 hw => ?_))
        show aW none m_M_isNear (d + 1) 33 [(0, ar v0), (1, ai v1), (2, ai v2), (3, ai v3), (4, ai v4)] [ai r6, ai (v1 * (gI h (gR h v0 32) (ix v4)))] h5 0 0 QQ
        refine r_isub d_M_isNear_33 ?_
        refine r_callS (av := [ai ((v1 * (gI h (gR h v0 32) (ix v4))) - r6)]) (rest := []) d_M_isNear_34 mk_M_plus ll_M_296 st_M_plus rfl rfl (nle rfl) (s_M_plus  hw (fun r8 h7 hw => ?_))
        show aW none m_M_isNear (d + 1) 37 [(0, ar v0), (1, ai v1), (2, ai v2), (3, ai v3), (4, ai v4)] [ai r8] h7 0 0 QQ
        refine r_iload_n (j := 2) d_M_isNear_37 rfl ?_
        refine r_iload_n (j := 1) d_M_isNear_38 rfl ?_
        refine r_imul d_M_isNear_39 ?_
        refine r_icmp_gt d_M_isNear_40 (fun w9 => ?_) (fun w9 => ?_)
        · replace hw := hw.1 w9
          refine r_iconst d_M_isNear_47 kc_0 ?_
          refine r_istore_n (ls2 := [(3, ai (0 : Int32)), (0, ar v0), (1, ai v1), (2, ai v2), (4, ai v4)]) d_M_isNear_48 (nle rfl) rfl ?_
          refine r_iinc (j := 4) (ls2 := [(4, ai (v4 + (1 : Int32))), (3, ai (0 : Int32)), (0, ar v0), (1, ai v1), (2, ai v2)]) d_M_isNear_49 rfl (congrArg (HAdd.hAdd v4) kc_1) (nle rfl) rfl ?_
          refine r_goto d_M_isNear_52 ?_
          refine r_pick (ls2 := [(0, ar v0), (1, ai v1), (2, ai v2), (3, ai (0 : Int32)), (4, ai (v4 + (1 : Int32)))]) [2, 3, 4, 1, 0] rfl ?_
          exact ih _ _ _ hw
        · replace hw := hw.2 w9
          refine r_iconst d_M_isNear_43 kc_1 ?_
          refine r_goto d_M_isNear_44 ?_
          refine r_istore_n (ls2 := [(3, ai (1 : Int32)), (0, ar v0), (1, ai v1), (2, ai v2), (4, ai v4)]) d_M_isNear_48 (nle rfl) rfl ?_
          refine r_iinc (j := 4) (ls2 := [(4, ai (v4 + (1 : Int32))), (3, ai (1 : Int32)), (0, ar v0), (1, ai v1), (2, ai v2)]) d_M_isNear_49 rfl (congrArg (HAdd.hAdd v4) kc_1) (nle rfl) rfl ?_
          refine r_goto d_M_isNear_52 ?_
          refine r_pick (ls2 := [(0, ar v0), (1, ai v1), (2, ai v2), (3, ai (1 : Int32)), (4, ai (v4 + (1 : Int32)))]) [2, 3, 4, 1, 0] rfl ?_
          exact ih _ _ _ hw
set_option maxRecDepth 100000 in
set_option maxHeartbeats 4000000 in
theorem s_M_isNear {d : Nat} (hd : 1 ≤ d) {v0 : Nat} {v1 : Int32} {v2 : Int32} {h : Hp} {Q : Bool → Hp → Prop} {QQ : Option AV → Hp → Prop} (hw : w_M_isNear v0 v1 v2 h Q) (hQ : ∀ r9 h9, Q r9 h9 → QQ (some (ai (b2i r9))) h9) : aCall m_M_isNear d [ar v0, ai v1, ai v2] h 0 0 QQ := by
  obtain ⟨d, rfl⟩ : ∃ d9, d = d9 + 1 := ⟨d - 1, by omega⟩
  refine aCall_in pl_M_isNear (nle rfl) ?_
  show aW none m_M_isNear (d + 1) 0 [(0, ar v0), (1, ai v1), (2, ai v2)] [] h 0 0 QQ
  unfold w_M_isNear at hw
  refine r_iconst d_M_isNear_0 kc_1 ?_
  refine r_istore_n (ls2 := [(3, ai (1 : Int32)), (0, ar v0), (1, ai v1), (2, ai v2)]) d_M_isNear_1 (nle rfl) rfl ?_
  refine r_iconst d_M_isNear_2 kc_0 ?_
  refine r_istore (ls2 := [(4, ai (0 : Int32)), (3, ai (1 : Int32)), (0, ar v0), (1, ai v1), (2, ai v2)]) d_M_isNear_3 (nle rfl) rfl ?_
  obtain ⟨n9, hw⟩ := hw
  refine r_pick (ls2 := [(0, ar v0), (1, ai v1), (2, ai v2), (3, ai (1 : Int32)), (4, ai (0 : Int32))]) [2, 3, 4, 1, 0] rfl ?_
  exact s_M_isNear_L5 hd hQ  n9 _ _ _ hw
set_option maxRecDepth 100000 in
set_option maxHeartbeats 4000000 in
theorem s_M_comesTo_L88 {d : Nat} (hd : 2 ≤ d + 1) {Q : Hp → Prop} {QQ : Option AV → Hp → Prop} (hQ : ∀ h9, Q h9 → QQ none h9) {v0 : Nat} {v2 : Int32} : ∀ (n : Nat) (v5 : Int32) (h : Hp), w_M_comesTo_L88 Q  v0 v2 n v5 h → aW none m_M_comesTo (d + 1) 88 [(0, ar v0), (2, ai v2), (5, ai v5)] [] h 0 0 QQ := by
  intro n
  induction n with
  | zero => intro v5 h hw; exact hw.elim
  | succ n ih =>
    intro v5 h hw
    unfold w_M_comesTo_L88 at hw
    refine r_iload (j := 2) d_M_comesTo_88 rfl ?_
    refine r_iconst d_M_comesTo_90 kc_3 ?_
    refine r_icmp_ge d_M_comesTo_91 (fun w9 => ?_) (fun w9 => ?_)
    · replace hw := hw.1 w9
      refine r_aload_n (j := 0) d_M_comesTo_118 rfl ?_
      refine r_iload_n (j := 1) d_M_comesTo_119 rfl ?_
      refine r_iconst d_M_comesTo_120 kc_1 ?_
      refine r_iadd d_M_comesTo_121 ?_
      obtain ⟨q4, hw⟩ := hw
      refine r_putI d_M_comesTo_122 ok_12 (nle rfl) (nle rfl) rfl lf_M_421 rfl q4 ?_
      exact r_return d_M_comesTo_125.1 rfl (hQ _ hw)
    · replace hw := hw.2 w9
      refine r_aload_n (j := 0) d_M_comesTo_94 rfl ?_
      obtain ⟨q5, hw⟩ := hw
      refine r_getR d_M_comesTo_95 ok_12 (nle rfl) (nle rfl) rfl lf_M_68 q5 ?_
      refine r_iconst d_M_comesTo_98 kc_3 ?_
      refine r_iload_n (j := 1) d_M_comesTo_99 rfl ?_
      refine r_imul d_M_comesTo_100 ?_
      refine r_iload (j := 2) d_M_comesTo_101 rfl ?_
      refine r_iadd d_M_comesTo_103 ?_
      refine r_aload_n (j := 0) d_M_comesTo_104 rfl ?_
      refine r_getR d_M_comesTo_105 ok_12 (nle rfl) (nle rfl) rfl lf_M_48 q5 ?_
      refine r_iload (j := 2) d_M_comesTo_108 rfl ?_
      obtain ⟨q6, hw⟩ := hw
      obtain ⟨q7, hw⟩ := hw
      refine r_iald d_M_comesTo_110 q6 q7 ?_
      obtain ⟨q8, hw⟩ := hw
      obtain ⟨q9, hw⟩ := hw
      refine r_iast d_M_comesTo_111 q8 q9 ?_
      refine r_iinc (j := 2) (ls2 := [(5, ai (v5 + (1 : Int32))), (0, ar v0), (2, ai v2)]) d_M_comesTo_112 rfl (congrArg (HAdd.hAdd v5) kc_1) (nle rfl) rfl ?_
      refine r_goto d_M_comesTo_115 ?_
      refine r_pick (ls2 := [(0, ar v0), (2, ai v2), (5, ai (v5 + (1 : Int32)))]) [1, 2, 0] rfl ?_
      exact ih _ _ hw
set_option maxRecDepth 100000 in
set_option maxHeartbeats 4000000 in
theorem s_M_comesTo_L14 {d : Nat} (hd : 2 ≤ d + 1) {Q : Hp → Prop} {QQ : Option AV → Hp → Prop} (hQ : ∀ h9, Q h9 → QQ none h9) {v0 : Nat} {v2 : Int32} : ∀ (n : Nat) (v5 : Int32) (h : Hp), w_M_comesTo_L14 Q  v0 v2 n v5 h → aW none m_M_comesTo (d + 1) 14 [(0, ar v0), (2, ai v2), (5, ai v5)] [] h 0 0 QQ := by
  intro n
  induction n with
  | zero => intro v5 h hw; exact hw.elim
  | succ n ih =>
    intro v5 h hw
    unfold w_M_comesTo_L14 at hw
    refine r_iload (j := 2) d_M_comesTo_14 rfl ?_
    refine r_iload_n (j := 1) d_M_comesTo_16 rfl ?_
    refine r_icmp_ge d_M_comesTo_17 (fun w9 => ?_) (fun w9 => ?_)
    · replace hw := hw.1 w9
      refine r_iconst d_M_comesTo_85 kc_0 ?_
      refine r_istore (ls2 := [(5, ai (0 : Int32)), (0, ar v0), (2, ai v2)]) d_M_comesTo_86 (nle rfl) rfl ?_
      obtain ⟨n10, hw⟩ := hw
      refine r_pick (ls2 := [(0, ar v0), (2, ai v2), (5, ai (0 : Int32))]) [1, 2, 0] rfl ?_
      exact s_M_comesTo_L88 hd hQ  n10 _ _ hw
    · replace hw := hw.2 w9
      refine r_aload_n (j := 0) d_M_comesTo_20 rfl ?_
      obtain ⟨q11, hw⟩ := hw
      refine r_getR d_M_comesTo_21 ok_12 (nle rfl) (nle rfl) rfl lf_M_68 q11 ?_
      refine r_iconst d_M_comesTo_24 kc_3 ?_
      refine r_iload (j := 2) d_M_comesTo_25 rfl ?_
      refine r_imul d_M_comesTo_27 ?_
      obtain ⟨q12, hw⟩ := hw
      obtain ⟨q13, hw⟩ := hw
      refine r_iald d_M_comesTo_28 q12 q13 ?_
      refine r_aload_n (j := 0) d_M_comesTo_29 rfl ?_
      refine r_getR d_M_comesTo_30 ok_12 (nle rfl) (nle rfl) rfl lf_M_48 q11 ?_
      refine r_iconst d_M_comesTo_33 kc_0 ?_
      obtain ⟨q14, hw⟩ := hw
      obtain ⟨q15, hw⟩ := hw
      refine r_iald d_M_comesTo_34 q14 q15 ?_
      refine r_icmp_ne d_M_comesTo_35 (fun w9 => ?_) (fun w9 => ?_)
      · replace hw := hw.2 w9
        refine r_iinc (j := 2) (ls2 := [(5, ai (v5 + (1 : Int32))), (0, ar v0), (2, ai v2)]) d_M_comesTo_79 rfl (congrArg (HAdd.hAdd v5) kc_1) (nle rfl) rfl ?_
        refine r_goto d_M_comesTo_82 ?_
        refine r_pick (ls2 := [(0, ar v0), (2, ai v2), (5, ai (v5 + (1 : Int32)))]) [1, 2, 0] rfl ?_
        exact ih _ _ hw
      · replace hw := hw.1 w9
        refine r_aload_n (j := 0) d_M_comesTo_38 rfl ?_
        refine r_getR d_M_comesTo_39 ok_12 (nle rfl) (nle rfl) rfl lf_M_68 q11 ?_
        refine r_iconst d_M_comesTo_42 kc_3 ?_
        refine r_iload (j := 2) d_M_comesTo_43 rfl ?_
        refine r_imul d_M_comesTo_45 ?_
        refine r_iconst d_M_comesTo_46 kc_1 ?_
        refine r_iadd d_M_comesTo_47 ?_
        obtain ⟨q16, hw⟩ := hw
        refine r_iald d_M_comesTo_48 q12 q16 ?_
        refine r_aload_n (j := 0) d_M_comesTo_49 rfl ?_
        refine r_getR d_M_comesTo_50 ok_12 (nle rfl) (nle rfl) rfl lf_M_48 q11 ?_
        refine r_iconst d_M_comesTo_53 kc_1 ?_
        obtain ⟨q17, hw⟩ := hw
        refine r_iald d_M_comesTo_54 q14 q17 ?_
        refine r_icmp_ne d_M_comesTo_55 (fun w9 => ?_) (fun w9 => ?_)
        · replace hw := hw.2 w9
          refine r_iinc (j := 2) (ls2 := [(5, ai (v5 + (1 : Int32))), (0, ar v0), (2, ai v2)]) d_M_comesTo_79 rfl (congrArg (HAdd.hAdd v5) kc_1) (nle rfl) rfl ?_
          refine r_goto d_M_comesTo_82 ?_
          refine r_pick (ls2 := [(0, ar v0), (2, ai v2), (5, ai (v5 + (1 : Int32)))]) [1, 2, 0] rfl ?_
          exact ih _ _ hw
        · replace hw := hw.1 w9
          refine r_aload_n (j := 0) d_M_comesTo_58 rfl ?_
          refine r_getR d_M_comesTo_59 ok_12 (nle rfl) (nle rfl) rfl lf_M_68 q11 ?_
          refine r_iconst d_M_comesTo_62 kc_3 ?_
          refine r_iload (j := 2) d_M_comesTo_63 rfl ?_
          refine r_imul d_M_comesTo_65 ?_
          refine r_iconst d_M_comesTo_66 kc_2 ?_
          refine r_iadd d_M_comesTo_67 ?_
          obtain ⟨q18, hw⟩ := hw
          refine r_iald d_M_comesTo_68 q12 q18 ?_
          refine r_aload_n (j := 0) d_M_comesTo_69 rfl ?_
          refine r_getR d_M_comesTo_70 ok_12 (nle rfl) (nle rfl) rfl lf_M_48 q11 ?_
          refine r_iconst d_M_comesTo_73 kc_2 ?_
          obtain ⟨q19, hw⟩ := hw
          refine r_iald d_M_comesTo_74 q14 q19 ?_
          refine r_icmp_ne d_M_comesTo_75 (fun w9 => ?_) (fun w9 => ?_)
          · replace hw := hw.2 w9
            refine r_iinc (j := 2) (ls2 := [(5, ai (v5 + (1 : Int32))), (0, ar v0), (2, ai v2)]) d_M_comesTo_79 rfl (congrArg (HAdd.hAdd v5) kc_1) (nle rfl) rfl ?_
            refine r_goto d_M_comesTo_82 ?_
            refine r_pick (ls2 := [(0, ar v0), (2, ai v2), (5, ai (v5 + (1 : Int32)))]) [1, 2, 0] rfl ?_
            exact ih _ _ hw
          · replace hw := hw.1 w9
            exact r_return d_M_comesTo_78.1 rfl (hQ _ hw)
set_option maxRecDepth 100000 in
set_option maxHeartbeats 4000000 in
theorem s_M_comesTo {d : Nat} (hd : 2 ≤ d) {v0 : Nat} {v1 : Int32} {v2 : Int32} {v3 : Int32} {v4 : Int32} {h : Hp} {Q : Hp → Prop} {QQ : Option AV → Hp → Prop} (hw : w_M_comesTo v0 v1 v2 v3 v4 h Q) (hQ : ∀ h9, Q h9 → QQ none h9) : aCall m_M_comesTo d [ar v0, ai v1, ai v2, ai v3, ai v4] h 0 0 QQ := by
  obtain ⟨d, rfl⟩ : ∃ d9, d = d9 + 1 := ⟨d - 1, by omega⟩
  refine aCall_in pl_M_comesTo (nle rfl) ?_
  show aW none m_M_comesTo (d + 1) 0 [(0, ar v0), (1, ai v1), (2, ai v2), (3, ai v3), (4, ai v4)] [] h 0 0 QQ
  unfold w_M_comesTo at hw
  refine r_aload_n (j := 0) d_M_comesTo_0 rfl ?_
  refine r_iload_n (j := 3) d_M_comesTo_1 rfl ?_
  refine r_iload (j := 4) d_M_comesTo_2 rfl ?_
  obtain ⟨q3, hw⟩ := hw
  refine r_callV (av := [ai v3, ai v4]) (rest := []) (ci := 12) d_M_comesTo_4 mk_M_isNear ll_M_418 im_M_isNear se_M_isNear rfl (nle rfl) rfl rfl (nle rfl) q3 (s_M_isNear (by omega) hw (fun r2 h1 hw => ?_))
  show aW none m_M_comesTo (d + 1) 7 [(0, ar v0), (1, ai v1), (2, ai v2), (3, ai v3), (4, ai v4)] [ai (b2i r2)] h1 0 0 QQ
  refine r_if_ne d_M_comesTo_7 (fun w9 => ?_) (fun w9 => ?_)
  · replace hw := hw.2 (fun g9 => w9 (b2i_0.mpr g9))
    refine r_iload_n (j := 1) d_M_comesTo_11 rfl ?_
    refine r_istore (ls2 := [(5, ai v1), (0, ar v0), (1, ai v1), (2, ai v2), (3, ai v3), (4, ai v4)]) d_M_comesTo_12 (nle rfl) rfl ?_
    obtain ⟨n20, hw⟩ := hw
    refine r_pick (ls2 := [(0, ar v0), (2, ai v2), (5, ai v1)]) [1, 3, 0] rfl ?_
    exact s_M_comesTo_L14 hd hQ  n20 _ _ hw
  · replace hw := hw.1 (b2i_0.mp w9)
    exact r_return d_M_comesTo_10.1 rfl (hQ _ hw)
set_option maxRecDepth 100000 in
set_option maxHeartbeats 4000000 in
theorem s_M_laysDoubled_L120 {d : Nat} (hd : 3 ≤ d + 1) {Q : Hp → Prop} {QQ : Option AV → Hp → Prop} (hQ : ∀ h9, Q h9 → QQ none h9) {v0 : Nat} {v1 : Int32} {v2 : Int32} {v3 : Int32} {v5 : Int32} {v6 : Int32} {v7 : Int32} {k66 : Int32 → Hp → Prop} {k99 : Int32 → Hp → Prop} {k110 : Int32 → Hp → Prop} (hk66 : ∀ v3 h9, k66 v3 h9 → aW none m_M_laysDoubled (d + 1) 66 [(0, ar v0), (1, ai v1), (2, ai v2), (3, ai v3)] [] h9 0 0 QQ) (hk99 : ∀ v6 h9, k99 v6 h9 → aW none m_M_laysDoubled (d + 1) 99 [(0, ar v0), (1, ai v1), (2, ai v2), (3, ai v3), (5, ai v5), (6, ai v6)] [] h9 0 0 QQ) (hk110 : ∀ v7 h9, k110 v7 h9 → aW none m_M_laysDoubled (d + 1) 110 [(0, ar v0), (1, ai v1), (2, ai v2), (3, ai v3), (5, ai v5), (6, ai v6), (7, ai v7)] [] h9 0 0 QQ) : ∀ (n : Nat) (v8 : Int32) (h : Hp), w_M_laysDoubled_L120 Q k66 k99 k110 v0 v1 v2 v3 v5 v6 v7 n v8 h → aW none m_M_laysDoubled (d + 1) 120 [(0, ar v0), (1, ai v1), (2, ai v2), (3, ai v3), (5, ai v5), (6, ai v6), (7, ai v7), (8, ai v8)] [] h 0 0 QQ := by
  intro n
  induction n with
  | zero => intro v8 h hw; exact hw.elim
  | succ n ih =>
    intro v8 h hw
    unfold w_M_laysDoubled_L120 at hw
    refine r_iload (j := 7) d_M_laysDoubled_120 rfl ?_
    refine r_iconst d_M_laysDoubled_122 kc_3 ?_
    refine r_icmp_ge d_M_laysDoubled_123 (fun w9 => ?_) (fun w9 => ?_)
    · replace hw := hw.1 w9
      refine r_aload_n (j := 0) d_M_laysDoubled_164 rfl ?_
      refine r_iload (j := 4) d_M_laysDoubled_165 rfl ?_
      refine r_aload_n (j := 0) d_M_laysDoubled_167 rfl ?_
      obtain ⟨q15, hw⟩ := hw
      refine r_getI d_M_laysDoubled_168 ok_12 (nle rfl) (nle rfl) rfl lf_M_421 q15 ?_
      refine r_iconst d_M_laysDoubled_171 kc_1 ?_
      refine r_iload_n (j := 1) d_M_laysDoubled_172 rfl ?_
      refine r_iload_n (j := 3) d_M_laysDoubled_173 rfl ?_
      refine r_isub d_M_laysDoubled_174 ?_
      refine r_ishl d_M_laysDoubled_175 ?_
      refine r_iload_n (j := 2) d_M_laysDoubled_176 rfl ?_
      refine r_callV (av := [ai v5, ai (gI h v0 44), ai (jshl (1 : Int32) (v1 - v3)), ai v2]) (rest := []) (ci := 12) d_M_laysDoubled_177 mk_M_comesTo ll_M_424 im_M_comesTo se_M_comesTo rfl (nle rfl) rfl rfl (nle rfl) q15 (s_M_comesTo (by omega) hw (fun h16 hw => ?_))
      show aW none m_M_laysDoubled (d + 1) 180 [(0, ar v0), (1, ai v1), (2, ai v2), (3, ai v3), (5, ai v5), (6, ai v6), (7, ai v7), (8, ai v8)] [] h16 0 0 QQ
      refine r_iinc (j := 6) (ls2 := [(7, ai (v7 + (1 : Int32))), (0, ar v0), (1, ai v1), (2, ai v2), (3, ai v3), (5, ai v5), (6, ai v6), (8, ai v8)]) d_M_laysDoubled_180 rfl (congrArg (HAdd.hAdd v7) kc_1) (nle rfl) rfl ?_
      refine r_goto d_M_laysDoubled_183 ?_
      refine r_pick (ls2 := [(0, ar v0), (1, ai v1), (2, ai v2), (3, ai v3), (5, ai v5), (6, ai v6), (7, ai (v7 + (1 : Int32)))]) [1, 2, 3, 4, 5, 6, 0] rfl ?_
      exact hk110 _ _ hw
    · replace hw := hw.2 w9
      refine r_aload_n (j := 0) d_M_laysDoubled_126 rfl ?_
      obtain ⟨q17, hw⟩ := hw
      refine r_getR d_M_laysDoubled_127 ok_12 (nle rfl) (nle rfl) rfl lf_M_48 q17 ?_
      refine r_iload (j := 7) d_M_laysDoubled_130 rfl ?_
      refine r_aload_n (j := 0) d_M_laysDoubled_132 rfl ?_
      refine r_getR d_M_laysDoubled_133 ok_12 (nle rfl) (nle rfl) rfl lf_M_68 q17 ?_
      refine r_iconst d_M_laysDoubled_136 kc_3 ?_
      refine r_iload (j := 5) d_M_laysDoubled_137 rfl ?_
      refine r_imul d_M_laysDoubled_139 ?_
      refine r_iload (j := 7) d_M_laysDoubled_140 rfl ?_
      refine r_iadd d_M_laysDoubled_142 ?_
      obtain ⟨q18, hw⟩ := hw
      obtain ⟨q19, hw⟩ := hw
      refine r_iald d_M_laysDoubled_143 q18 q19 ?_
      refine r_aload_n (j := 0) d_M_laysDoubled_144 rfl ?_
      refine r_getR d_M_laysDoubled_145 ok_12 (nle rfl) (nle rfl) rfl lf_M_68 q17 ?_
      refine r_iconst d_M_laysDoubled_148 kc_3 ?_
      refine r_iload (j := 6) d_M_laysDoubled_149 rfl ?_
      refine r_imul d_M_laysDoubled_151 ?_
      refine r_iload (j := 7) d_M_laysDoubled_152 rfl ?_
      refine r_iadd d_M_laysDoubled_154 ?_
      obtain ⟨q20, hw⟩ := hw
      refine r_iald d_M_laysDoubled_155 q18 q20 ?_
      refine r_iadd d_M_laysDoubled_156 ?_
      obtain ⟨q21, hw⟩ := hw
      obtain ⟨q22, hw⟩ := hw
      refine r_iast d_M_laysDoubled_157 q21 q22 ?_
      refine r_iinc (j := 7) (ls2 := [(8, ai (v8 + (1 : Int32))), (0, ar v0), (1, ai v1), (2, ai v2), (3, ai v3), (5, ai v5), (6, ai v6), (7, ai v7)]) d_M_laysDoubled_158 rfl (congrArg (HAdd.hAdd v8) kc_1) (nle rfl) rfl ?_
      refine r_goto d_M_laysDoubled_161 ?_
      refine r_pick (ls2 := [(0, ar v0), (1, ai v1), (2, ai v2), (3, ai v3), (5, ai v5), (6, ai v6), (7, ai v7), (8, ai (v8 + (1 : Int32)))]) [1, 2, 3, 4, 5, 6, 7, 0] rfl ?_
      exact ih _ _ hw
set_option maxRecDepth 100000 in
set_option maxHeartbeats 4000000 in
theorem s_M_laysDoubled_L110 {d : Nat} (hd : 3 ≤ d + 1) {Q : Hp → Prop} {QQ : Option AV → Hp → Prop} (hQ : ∀ h9, Q h9 → QQ none h9) {v0 : Nat} {v1 : Int32} {v2 : Int32} {v3 : Int32} {v5 : Int32} {v6 : Int32} {k66 : Int32 → Hp → Prop} {k99 : Int32 → Hp → Prop} (hk66 : ∀ v3 h9, k66 v3 h9 → aW none m_M_laysDoubled (d + 1) 66 [(0, ar v0), (1, ai v1), (2, ai v2), (3, ai v3)] [] h9 0 0 QQ) (hk99 : ∀ v6 h9, k99 v6 h9 → aW none m_M_laysDoubled (d + 1) 99 [(0, ar v0), (1, ai v1), (2, ai v2), (3, ai v3), (5, ai v5), (6, ai v6)] [] h9 0 0 QQ) : ∀ (n : Nat) (v7 : Int32) (h : Hp), w_M_laysDoubled_L110 Q k66 k99 v0 v1 v2 v3 v5 v6 n v7 h → aW none m_M_laysDoubled (d + 1) 110 [(0, ar v0), (1, ai v1), (2, ai v2), (3, ai v3), (5, ai v5), (6, ai v6), (7, ai v7)] [] h 0 0 QQ := by
  intro n
  induction n with
  | zero => intro v7 h hw; exact hw.elim
  | succ n ih =>
    intro v7 h hw
    unfold w_M_laysDoubled_L110 at hw
    refine r_iload (j := 6) d_M_laysDoubled_110 rfl ?_
    refine r_iload (j := 4) d_M_laysDoubled_112 rfl ?_
    refine r_icmp_ge d_M_laysDoubled_114 (fun w9 => ?_) (fun w9 => ?_)
    · replace hw := hw.1 w9
      refine r_iinc (j := 5) (ls2 := [(6, ai (v6 + (1 : Int32))), (0, ar v0), (1, ai v1), (2, ai v2), (3, ai v3), (5, ai v5), (7, ai v7)]) d_M_laysDoubled_186 rfl (congrArg (HAdd.hAdd v6) kc_1) (nle rfl) rfl ?_
      refine r_goto d_M_laysDoubled_189 ?_
      refine r_pick (ls2 := [(0, ar v0), (1, ai v1), (2, ai v2), (3, ai v3), (5, ai v5), (6, ai (v6 + (1 : Int32)))]) [1, 2, 3, 4, 5, 0] rfl ?_
      exact hk99 _ _ hw
    · replace hw := hw.2 w9
      refine r_iconst d_M_laysDoubled_117 kc_0 ?_
      refine r_istore (ls2 := [(8, ai (0 : Int32)), (0, ar v0), (1, ai v1), (2, ai v2), (3, ai v3), (5, ai v5), (6, ai v6), (7, ai v7)]) d_M_laysDoubled_118 (nle rfl) rfl ?_
      obtain ⟨n23, hw⟩ := hw
      refine r_pick (ls2 := [(0, ar v0), (1, ai v1), (2, ai v2), (3, ai v3), (5, ai v5), (6, ai v6), (7, ai v7), (8, ai (0 : Int32))]) [1, 2, 3, 4, 5, 6, 7, 0] rfl ?_
      exact s_M_laysDoubled_L120 hd hQ hk66 hk99 ih n23 _ _ hw
