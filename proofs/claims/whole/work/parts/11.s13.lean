set_option maxRecDepth 100000 in
set_option maxHeartbeats 4000000 in
theorem s_M_goOn_L148 {d : Nat} (hd : 1 ≤ d + 1) {Q : Hp → Prop} {QQ : Option AV → Hp → Prop} (hQ : ∀ h9, Q h9 → QQ none h9) {v0 : Nat} : ∀ (n : Nat) (v1 : Int32) (h : Hp), w_M_goOn_L148 Q  v0 n v1 h → aW none m_M_goOn (d + 1) 148 [(0, ar v0), (1, ai v1)] [] h 0 0 QQ := by
  intro n
  induction n with
  | zero => intro v1 h hw; exact hw.elim
  | succ n ih =>
    intro v1 h hw
    unfold w_M_goOn_L148 at hw
    refine r_aload_n (j := 0) d_M_goOn_148 rfl ?_
    refine r_iload_n (j := 1) d_M_goOn_149 rfl ?_
    obtain ⟨q31, hw⟩ := hw
    refine r_callV (av := [ai v1]) (rest := []) (ci := 12) d_M_goOn_150 mk_M_here ll_M_158 im_M_here se_M_here rfl (nle rfl) rfl rfl (nle rfl) q31 (s_M_here  hw (fun r30 h29 hw => ?_))
    show aW none m_M_goOn (d + 1) 153 [(0, ar v0), (1, ai v1)] [ai r30] h29 0 0 QQ
    refine r_callS (av := [ai r30]) (rest := []) d_M_goOn_153 mk_M_isDigit ll_M_179 st_M_isDigit rfl rfl (nle rfl) (s_M_isDigit  hw (fun r33 h32 hw => ?_))
    show aW none m_M_goOn (d + 1) 156 [(0, ar v0), (1, ai v1)] [ai (b2i r33)] h32 0 0 QQ
    refine r_if_eq d_M_goOn_156 (fun w9 => ?_) (fun w9 => ?_)
    · replace hw := hw.1 (b2i_0.mp w9)
      refine r_aload_n (j := 0) d_M_goOn_190 rfl ?_
      refine r_iload_n (j := 1) d_M_goOn_191 rfl ?_
      refine r_iconst d_M_goOn_192 kc_3 ?_
      refine r_icmp_gt d_M_goOn_193 (fun w9 => ?_) (fun w9 => ?_)
      · replace hw := hw.1 w9
        exact s_M_goOn_B207 hd hQ  hw
      · replace hw := hw.2 w9
        refine r_aload_n (j := 0) d_M_goOn_196 rfl ?_
        refine r_iload_n (j := 1) d_M_goOn_197 rfl ?_
        obtain ⟨q38, hw⟩ := hw
        refine r_callV (av := [ai v1]) (rest := [ar v0]) (ci := 12) d_M_goOn_198 mk_M_here ll_M_158 im_M_here se_M_here rfl (nle rfl) rfl rfl (nle rfl) q38 (s_M_here  hw (fun r37 h36 hw => ?_))
        show aW none m_M_goOn (d + 1) 201 [(0, ar v0), (1, ai v1)] [ai r37, ar v0] h36 0 0 QQ
        refine r_callS (av := [ai r37]) (rest := [ar v0]) d_M_goOn_201 mk_M_isLetter ll_M_175 st_M_isLetter rfl rfl (nle rfl) (s_M_isLetter  hw (fun r40 h39 hw => ?_))
        show aW none m_M_goOn (d + 1) 204 [(0, ar v0), (1, ai v1)] [ai (b2i r40), ar v0] h39 0 0 QQ
        refine r_if_eq d_M_goOn_204 (fun w9 => ?_) (fun w9 => ?_)
        · replace hw := hw.1 (b2i_0.mp w9)
          refine r_iconst d_M_goOn_211 kc_2 ?_
          exact s_M_goOn_B212 hd hQ  hw
        · replace hw := hw.2 (fun g9 => w9 (b2i_0.mpr g9))
          exact s_M_goOn_B207 hd hQ  hw
    · replace hw := hw.2 (fun g9 => w9 (b2i_0.mpr g9))
      refine r_iload_n (j := 1) d_M_goOn_159 rfl ?_
      refine r_iconst d_M_goOn_160 kc_3 ?_
      refine r_icmp_ge d_M_goOn_161 (fun w9 => ?_) (fun w9 => ?_)
      · replace hw := hw.1 w9
        refine r_iinc (j := 1) (ls2 := [(1, ai (v1 + (1 : Int32))), (0, ar v0)]) d_M_goOn_184 rfl (congrArg (HAdd.hAdd v1) kc_1) (nle rfl) rfl ?_
        refine r_goto d_M_goOn_187 ?_
        refine r_pick (ls2 := [(0, ar v0), (1, ai (v1 + (1 : Int32)))]) [1, 0] rfl ?_
        exact ih _ _ hw
      · replace hw := hw.2 w9
        refine r_aload_n (j := 0) d_M_goOn_164 rfl ?_
        refine r_bipush d_M_goOn_165 kb_10 ?_
        refine r_aload_n (j := 0) d_M_goOn_167 rfl ?_
        obtain ⟨q41, hw⟩ := hw
        refine r_getI d_M_goOn_168 ok_12 (nle rfl) (nle rfl) rfl lf_M_169 q41 ?_
        refine r_imul d_M_goOn_171 ?_
        refine r_aload_n (j := 0) d_M_goOn_172 rfl ?_
        refine r_iload_n (j := 1) d_M_goOn_173 rfl ?_
        refine r_callV (av := [ai v1]) (rest := [ai ((10 : Int32) * (gI h32 v0 6)), ar v0]) (ci := 12) d_M_goOn_174 mk_M_here ll_M_158 im_M_here se_M_here rfl (nle rfl) rfl rfl (nle rfl) q41 (s_M_here  hw (fun r43 h42 hw => ?_))
        show aW none m_M_goOn (d + 1) 177 [(0, ar v0), (1, ai v1)] [ai r43, ai ((10 : Int32) * (gI h32 v0 6)), ar v0] h42 0 0 QQ
        refine r_iadd d_M_goOn_177 ?_
        refine r_bipush d_M_goOn_178 kb_48 ?_
        refine r_isub d_M_goOn_180 ?_
        obtain ⟨q44, hw⟩ := hw
        refine r_putI d_M_goOn_181 ok_12 (nle rfl) (nle rfl) rfl lf_M_169 rfl q44 ?_
        refine r_iinc (j := 1) (ls2 := [(1, ai (v1 + (1 : Int32))), (0, ar v0)]) d_M_goOn_184 rfl (congrArg (HAdd.hAdd v1) kc_1) (nle rfl) rfl ?_
        refine r_goto d_M_goOn_187 ?_
        refine r_pick (ls2 := [(0, ar v0), (1, ai (v1 + (1 : Int32)))]) [1, 0] rfl ?_
        exact ih _ _ hw
set_option maxRecDepth 100000 in
set_option maxHeartbeats 4000000 in
theorem s_M_goOn_B131 {d : Nat} (hd : 1 ≤ d + 1) {Q : Hp → Prop} {QQ : Option AV → Hp → Prop} (hQ : ∀ h9, Q h9 → QQ none h9) {v0 : Nat} {v1 : Int32} {s0 : Nat} {s1 : Int32} {h : Hp} (hw : w_M_goOn_B131 Q  v0 v1 s0 s1 h) : aW none m_M_goOn (d + 1) 131 [(0, ar v0), (1, ai v1)] [ai s1, ar s0] h 0 0 QQ := by
  unfold w_M_goOn_B131 at hw
  obtain ⟨q51, hw⟩ := hw
  refine r_putI d_M_goOn_131 ok_12 (nle rfl) (nle rfl) rfl lf_M_172 rfl q51 ?_
  refine r_goto d_M_goOn_134 ?_
  refine r_aload_n (j := 0) d_M_goOn_253 rfl ?_
  refine r_dup d_M_goOn_254 rfl ?_
  obtain ⟨q52, hw⟩ := hw
  refine r_getI d_M_goOn_255 ok_12 (nle rfl) (nle rfl) rfl lf_M_152 (kt eKI q52) ?_
  refine r_iload_n (j := 1) d_M_goOn_258 rfl ?_
  refine r_iadd d_M_goOn_259 ?_
  refine r_putI d_M_goOn_260 ok_12 (nle rfl) (nle rfl) rfl lf_M_152 rfl (kt eKI q52) ?_
  exact r_return d_M_goOn_263.1 rfl (hQ _ hw)
set_option maxRecDepth 100000 in
set_option maxHeartbeats 4000000 in
theorem s_M_goOn_L78 {d : Nat} (hd : 1 ≤ d + 1) {Q : Hp → Prop} {QQ : Option AV → Hp → Prop} (hQ : ∀ h9, Q h9 → QQ none h9) {v0 : Nat} : ∀ (n : Nat) (v1 : Int32) (h : Hp), w_M_goOn_L78 Q  v0 n v1 h → aW none m_M_goOn (d + 1) 78 [(0, ar v0), (1, ai v1)] [] h 0 0 QQ := by
  intro n
  induction n with
  | zero => intro v1 h hw; exact hw.elim
  | succ n ih =>
    intro v1 h hw
    unfold w_M_goOn_L78 at hw
    refine r_aload_n (j := 0) d_M_goOn_78 rfl ?_
    refine r_iload_n (j := 1) d_M_goOn_79 rfl ?_
    obtain ⟨q48, hw⟩ := hw
    refine r_callV (av := [ai v1]) (rest := []) (ci := 12) d_M_goOn_80 mk_M_here ll_M_158 im_M_here se_M_here rfl (nle rfl) rfl rfl (nle rfl) q48 (s_M_here  hw (fun r47 h46 hw => ?_))
    show aW none m_M_goOn (d + 1) 83 [(0, ar v0), (1, ai v1)] [ai r47] h46 0 0 QQ
    refine r_callS (av := [ai r47]) (rest := []) d_M_goOn_83 mk_M_isLetter ll_M_175 st_M_isLetter rfl rfl (nle rfl) (s_M_isLetter  hw (fun r50 h49 hw => ?_))
    show aW none m_M_goOn (d + 1) 86 [(0, ar v0), (1, ai v1)] [ai (b2i r50)] h49 0 0 QQ
    refine r_if_eq d_M_goOn_86 (fun w9 => ?_) (fun w9 => ?_)
    · replace hw := hw.1 (b2i_0.mp w9)
      refine r_aload_n (j := 0) d_M_goOn_119 rfl ?_
      refine r_iload_n (j := 1) d_M_goOn_120 rfl ?_
      refine r_bipush d_M_goOn_121 kb_8 ?_
      refine r_icmp_le d_M_goOn_123 (fun w9 => ?_) (fun w9 => ?_)
      · replace hw := hw.1 w9
        refine r_iconst d_M_goOn_130 kc_1 ?_
        exact s_M_goOn_B131 hd hQ  hw
      · replace hw := hw.2 w9
        refine r_iconst d_M_goOn_126 kc_5 ?_
        refine r_goto d_M_goOn_127 ?_
        exact s_M_goOn_B131 hd hQ  hw
    · replace hw := hw.2 (fun g9 => w9 (b2i_0.mpr g9))
      refine r_iload_n (j := 1) d_M_goOn_89 rfl ?_
      refine r_bipush d_M_goOn_90 kb_8 ?_
      refine r_icmp_ge d_M_goOn_92 (fun w9 => ?_) (fun w9 => ?_)
      · replace hw := hw.1 w9
        refine r_iinc (j := 1) (ls2 := [(1, ai (v1 + (1 : Int32))), (0, ar v0)]) d_M_goOn_113 rfl (congrArg (HAdd.hAdd v1) kc_1) (nle rfl) rfl ?_
        refine r_goto d_M_goOn_116 ?_
        refine r_pick (ls2 := [(0, ar v0), (1, ai (v1 + (1 : Int32)))]) [1, 0] rfl ?_
        exact ih _ _ hw
      · replace hw := hw.2 w9
        refine r_aload_n (j := 0) d_M_goOn_95 rfl ?_
        refine r_aload_n (j := 0) d_M_goOn_96 rfl ?_
        obtain ⟨q53, hw⟩ := hw
        refine r_getL d_M_goOn_97 ok_12 (nle rfl) (nle rfl) rfl lf_M_165 q53 ?_
        refine r_bipush d_M_goOn_100 kb_8 ?_
        refine r_lshl d_M_goOn_102 ?_
        refine r_aload_n (j := 0) d_M_goOn_103 rfl ?_
        refine r_iload_n (j := 1) d_M_goOn_104 rfl ?_
        refine r_callV (av := [ai v1]) (rest := [al (jlshl (gL h49 v0 11) (8 : Int32)), ar v0]) (ci := 12) d_M_goOn_105 mk_M_here ll_M_158 im_M_here se_M_here rfl (nle rfl) rfl rfl (nle rfl) q53 (s_M_here  hw (fun r55 h54 hw => ?_))
        show aW none m_M_goOn (d + 1) 108 [(0, ar v0), (1, ai v1)] [ai r55, al (jlshl (gL h49 v0 11) (8 : Int32)), ar v0] h54 0 0 QQ
        refine r_i2l d_M_goOn_108 ?_
        refine r_lor d_M_goOn_109 ?_
        obtain ⟨q56, hw⟩ := hw
        refine r_putL d_M_goOn_110 ok_12 (nle rfl) (nle rfl) rfl lf_M_165 rfl q56 ?_
        refine r_iinc (j := 1) (ls2 := [(1, ai (v1 + (1 : Int32))), (0, ar v0)]) d_M_goOn_113 rfl (congrArg (HAdd.hAdd v1) kc_1) (nle rfl) rfl ?_
        refine r_goto d_M_goOn_116 ?_
        refine r_pick (ls2 := [(0, ar v0), (1, ai (v1 + (1 : Int32)))]) [1, 0] rfl ?_
        exact ih _ _ hw
set_option maxRecDepth 100000 in
set_option maxHeartbeats 4000000 in
theorem s_M_goOn_L0 {d : Nat} (hd : 1 ≤ d + 1) {Q : Hp → Prop} {QQ : Option AV → Hp → Prop} (hQ : ∀ h9, Q h9 → QQ none h9) {v0 : Nat} : ∀ (n : Nat) (h : Hp), w_M_goOn_L0 Q  v0 n h → aW none m_M_goOn (d + 1) 0 [(0, ar v0)] [] h 0 0 QQ := by
  intro n
  induction n with
  | zero => intro h hw; exact hw.elim
  | succ n ih =>
    intro h hw
    unfold w_M_goOn_L0 at hw
    refine r_aload_n (j := 0) d_M_goOn_0 rfl ?_
    refine r_iconst d_M_goOn_1 kc_0 ?_
    obtain ⟨q3, hw⟩ := hw
    refine r_callV (av := [ai (0 : Int32)]) (rest := []) (ci := 12) d_M_goOn_2 mk_M_here ll_M_158 im_M_here se_M_here rfl (nle rfl) rfl rfl (nle rfl) q3 (s_M_here  hw (fun r2 h1 hw => ?_))
    show aW none m_M_goOn (d + 1) 5 [(0, ar v0)] [ai r2] h1 0 0 QQ
    refine r_bipush d_M_goOn_5 kb_32 ?_
    refine r_icmp_eq d_M_goOn_7 (fun w9 => ?_) (fun w9 => ?_)
    · replace hw := hw.1 w9
      refine r_aload_n (j := 0) d_M_goOn_20 rfl ?_
      refine r_dup d_M_goOn_21 rfl ?_
      obtain ⟨q4, hw⟩ := hw
      refine r_getI d_M_goOn_22 ok_12 (nle rfl) (nle rfl) rfl lf_M_152 q4 ?_
      refine r_iconst d_M_goOn_25 kc_1 ?_
      refine r_iadd d_M_goOn_26 ?_
      refine r_putI d_M_goOn_27 ok_12 (nle rfl) (nle rfl) rfl lf_M_152 rfl q4 ?_
      refine r_goto d_M_goOn_30 ?_
      exact ih _ hw
    · replace hw := hw.2 w9
      refine r_aload_n (j := 0) d_M_goOn_10 rfl ?_
      refine r_iconst d_M_goOn_11 kc_0 ?_
      obtain ⟨q7, hw⟩ := hw
      refine r_callV (av := [ai (0 : Int32)]) (rest := []) (ci := 12) d_M_goOn_12 mk_M_here ll_M_158 im_M_here se_M_here rfl (nle rfl) rfl rfl (nle rfl) q7 (s_M_here  hw (fun r6 h5 hw => ?_))
      show aW none m_M_goOn (d + 1) 15 [(0, ar v0)] [ai r6] h5 0 0 QQ
      refine r_bipush d_M_goOn_15 kb_10 ?_
      refine r_icmp_ne d_M_goOn_17 (fun w9 => ?_) (fun w9 => ?_)
      · replace hw := hw.2 w9
        refine r_aload_n (j := 0) d_M_goOn_33 rfl ?_
        refine r_aload_n (j := 0) d_M_goOn_34 rfl ?_
        obtain ⟨q8, hw⟩ := hw
        refine r_getI d_M_goOn_35 ok_12 (nle rfl) (nle rfl) rfl lf_M_152 q8 ?_
        refine r_putI d_M_goOn_38 ok_12 (nle rfl) (nle rfl) rfl lf_M_162 rfl q8 ?_
        refine r_iconst d_M_goOn_41 kc_0 ?_
        refine r_istore_n (ls2 := [(1, ai (0 : Int32)), (0, ar v0)]) d_M_goOn_42 (nle rfl) rfl ?_
        refine r_aload_n (j := 1) d_M_goOn_43 rfl ?_
        refine r_lconst d_M_goOn_44 kl_0 ?_
        refine r_putL d_M_goOn_45 ok_12 (nle rfl) (nle rfl) rfl lf_M_165 rfl (kt eKI q8) ?_
        refine r_aload_n (j := 1) d_M_goOn_48 rfl ?_
        refine r_iconst d_M_goOn_49 kc_0 ?_
        refine r_putI d_M_goOn_50 ok_12 (nle rfl) (nle rfl) rfl lf_M_169 rfl (kt (eKL.trans eKI) q8) ?_
        refine r_aload_n (j := 1) d_M_goOn_53 rfl ?_
        refine r_iconst d_M_goOn_54 kc_0 ?_
        refine r_callV (av := [ai (0 : Int32)]) (rest := []) (ci := 12) d_M_goOn_55 mk_M_here ll_M_158 im_M_here se_M_here rfl (nle rfl) rfl rfl (nle rfl) (kt (eKI.trans (eKL.trans eKI)) q8) (s_M_here  hw (fun r10 h9 hw => ?_))
        show aW none m_M_goOn (d + 1) 58 [(1, ai (0 : Int32)), (0, ar v0)] [ai r10] h9 0 0 QQ
        refine r_if_ge d_M_goOn_58 (fun w9 => ?_) (fun w9 => ?_)
        · replace hw := hw.1 w9
          refine r_aload_n (j := 1) d_M_goOn_67 rfl ?_
          refine r_iconst d_M_goOn_68 kc_0 ?_
          obtain ⟨q13, hw⟩ := hw
          refine r_callV (av := [ai (0 : Int32)]) (rest := []) (ci := 12) d_M_goOn_69 mk_M_here ll_M_158 im_M_here se_M_here rfl (nle rfl) rfl rfl (nle rfl) q13 (s_M_here  hw (fun r12 h11 hw => ?_))
          show aW none m_M_goOn (d + 1) 72 [(1, ai (0 : Int32)), (0, ar v0)] [ai r12] h11 0 0 QQ
          refine r_callS (av := [ai r12]) (rest := []) d_M_goOn_72 mk_M_isLetter ll_M_175 st_M_isLetter rfl rfl (nle rfl) (s_M_isLetter  hw (fun r15 h14 hw => ?_))
          show aW none m_M_goOn (d + 1) 75 [(1, ai (0 : Int32)), (0, ar v0)] [ai (b2i r15)] h14 0 0 QQ
          refine r_if_eq d_M_goOn_75 (fun w9 => ?_) (fun w9 => ?_)
          · replace hw := hw.1 (b2i_0.mp w9)
            refine r_aload_n (j := 1) d_M_goOn_137 rfl ?_
            refine r_iconst d_M_goOn_138 kc_0 ?_
            obtain ⟨q18, hw⟩ := hw
            refine r_callV (av := [ai (0 : Int32)]) (rest := []) (ci := 12) d_M_goOn_139 mk_M_here ll_M_158 im_M_here se_M_here rfl (nle rfl) rfl rfl (nle rfl) q18 (s_M_here  hw (fun r17 h16 hw => ?_))
            show aW none m_M_goOn (d + 1) 142 [(1, ai (0 : Int32)), (0, ar v0)] [ai r17] h16 0 0 QQ
            refine r_callS (av := [ai r17]) (rest := []) d_M_goOn_142 mk_M_isDigit ll_M_179 st_M_isDigit rfl rfl (nle rfl) (s_M_isDigit  hw (fun r20 h19 hw => ?_))
            show aW none m_M_goOn (d + 1) 145 [(1, ai (0 : Int32)), (0, ar v0)] [ai (b2i r20)] h19 0 0 QQ
            refine r_if_eq d_M_goOn_145 (fun w9 => ?_) (fun w9 => ?_)
            · replace hw := hw.1 (b2i_0.mp w9)
              refine r_aload_n (j := 1) d_M_goOn_218 rfl ?_
              refine r_aload_n (j := 1) d_M_goOn_219 rfl ?_
              refine r_iconst d_M_goOn_220 kc_0 ?_
              obtain ⟨q23, hw⟩ := hw
              refine r_callV (av := [ai (0 : Int32)]) (rest := [ar v0]) (ci := 12) d_M_goOn_221 mk_M_here ll_M_158 im_M_here se_M_here rfl (nle rfl) rfl rfl (nle rfl) q23 (s_M_here  hw (fun r22 h21 hw => ?_))
              show aW none m_M_goOn (d + 1) 224 [(1, ai (0 : Int32)), (0, ar v0)] [ai r22, ar v0] h21 0 0 QQ
              refine r_bipush d_M_goOn_224 kb_59 ?_
              refine r_icmp_ne d_M_goOn_226 (fun w9 => ?_) (fun w9 => ?_)
              · replace hw := hw.2 w9
                refine r_aload_n (j := 1) d_M_goOn_233 rfl ?_
                refine r_iconst d_M_goOn_234 kc_0 ?_
                obtain ⟨q26, hw⟩ := hw
                refine r_callV (av := [ai (0 : Int32)]) (rest := [ar v0]) (ci := 12) d_M_goOn_235 mk_M_here ll_M_158 im_M_here se_M_here rfl (nle rfl) rfl rfl (nle rfl) q26 (s_M_here  hw (fun r25 h24 hw => ?_))
                show aW none m_M_goOn (d + 1) 238 [(1, ai (0 : Int32)), (0, ar v0)] [ai r25, ar v0] h24 0 0 QQ
                refine r_bipush d_M_goOn_238 kb_45 ?_
                refine r_icmp_ne d_M_goOn_240 (fun w9 => ?_) (fun w9 => ?_)
                · replace hw := hw.2 w9
                  refine r_iconst d_M_goOn_247 kc_5 ?_
                  refine r_pick (ls2 := [(0, ar v0)]) [1] rfl ?_
                  exact s_M_goOn_B248 hd hQ  hw
                · replace hw := hw.1 w9
                  refine r_iconst d_M_goOn_243 kc_4 ?_
                  refine r_goto d_M_goOn_244 ?_
                  refine r_pick (ls2 := [(0, ar v0)]) [1] rfl ?_
                  exact s_M_goOn_B248 hd hQ  hw
              · replace hw := hw.1 w9
                refine r_iconst d_M_goOn_229 kc_3 ?_
                refine r_goto d_M_goOn_230 ?_
                refine r_pick (ls2 := [(0, ar v0)]) [1] rfl ?_
                exact s_M_goOn_B248 hd hQ  hw
            · replace hw := hw.2 (fun g9 => w9 (b2i_0.mpr g9))
              obtain ⟨n45, hw⟩ := hw
              refine r_pick (ls2 := [(0, ar v0), (1, ai (0 : Int32))]) [1, 0] rfl ?_
              exact s_M_goOn_L148 hd hQ  n45 _ _ hw
          · replace hw := hw.2 (fun g9 => w9 (b2i_0.mpr g9))
            obtain ⟨n57, hw⟩ := hw
            refine r_pick (ls2 := [(0, ar v0), (1, ai (0 : Int32))]) [1, 0] rfl ?_
            exact s_M_goOn_L78 hd hQ  n57 _ _ hw
        · replace hw := hw.2 w9
          refine r_aload_n (j := 1) d_M_goOn_61 rfl ?_
          refine r_iconst d_M_goOn_62 kc_0 ?_
          obtain ⟨q58, hw⟩ := hw
          refine r_putI d_M_goOn_63 ok_12 (nle rfl) (nle rfl) rfl lf_M_172 rfl q58 ?_
          exact r_return d_M_goOn_66.1 rfl (hQ _ hw)
      · replace hw := hw.1 w9
        refine r_aload_n (j := 0) d_M_goOn_20 rfl ?_
        refine r_dup d_M_goOn_21 rfl ?_
        obtain ⟨q59, hw⟩ := hw
        refine r_getI d_M_goOn_22 ok_12 (nle rfl) (nle rfl) rfl lf_M_152 q59 ?_
        refine r_iconst d_M_goOn_25 kc_1 ?_
        refine r_iadd d_M_goOn_26 ?_
        refine r_putI d_M_goOn_27 ok_12 (nle rfl) (nle rfl) rfl lf_M_152 rfl q59 ?_
        refine r_goto d_M_goOn_30 ?_
        exact ih _ hw
set_option maxRecDepth 100000 in
set_option maxHeartbeats 4000000 in
theorem s_M_goOn {d : Nat} (hd : 1 ≤ d) {v0 : Nat} {h : Hp} {Q : Hp → Prop} {QQ : Option AV → Hp → Prop} (hw : w_M_goOn v0 h Q) (hQ : ∀ h9, Q h9 → QQ none h9) : aCall m_M_goOn d [ar v0] h 0 0 QQ := by
  obtain ⟨d, rfl⟩ : ∃ d9, d = d9 + 1 := ⟨d - 1, by omega⟩
  refine aCall_in pl_M_goOn (nle rfl) ?_
  show aW none m_M_goOn (d + 1) 0 [(0, ar v0)] [] h 0 0 QQ
  unfold w_M_goOn at hw
  obtain ⟨n60, hw⟩ := hw
  exact s_M_goOn_L0 hd hQ  n60 _ hw
set_option maxRecDepth 100000 in
set_option maxHeartbeats 4000000 in
theorem s_M_wrong {d : Nat} {v0 : Nat} {v1 : Int32} {h : Hp} {Q : Hp → Prop} {QQ : Option AV → Hp → Prop} (hw : w_M_wrong v0 v1 h Q) (hQ : ∀ h9, Q h9 → QQ none h9) : aCall m_M_wrong d [ar v0, ai v1] h 0 0 QQ := by
  refine aCall_in pl_M_wrong (nle rfl) ?_
  show aW none m_M_wrong d 0 [(0, ar v0), (1, ai v1)] [] h 0 0 QQ
  unfold w_M_wrong at hw
  refine r_aload_n (j := 0) d_M_wrong_0 rfl ?_
  obtain ⟨q1, hw⟩ := hw
  refine r_getI d_M_wrong_1 ok_12 (nle rfl) (nle rfl) rfl lf_M_182 q1 ?_
  refine r_if_le d_M_wrong_4 (fun w9 => ?_) (fun w9 => ?_)
  · replace hw := hw.1 w9
    refine r_aload_n (j := 0) d_M_wrong_8 rfl ?_
    refine r_aload_n (j := 0) d_M_wrong_9 rfl ?_
    refine r_getI d_M_wrong_10 ok_12 (nle rfl) (nle rfl) rfl lf_M_172 q1 ?_
    refine r_iconst d_M_wrong_13 kc_5 ?_
    refine r_icmp_ne d_M_wrong_14 (fun w9 => ?_) (fun w9 => ?_)
    · replace hw := hw.2 w9
      refine r_iload_n (j := 1) d_M_wrong_21 rfl ?_
      refine r_putI d_M_wrong_22 ok_12 (nle rfl) (nle rfl) rfl lf_M_182 rfl q1 ?_
      refine r_aload_n (j := 0) d_M_wrong_25 rfl ?_
      refine r_aload_n (j := 0) d_M_wrong_26 rfl ?_
      refine r_getI d_M_wrong_27 ok_12 (nle rfl) (nle rfl) rfl lf_M_162 (kt eKI q1) ?_
      refine r_putI d_M_wrong_30 ok_12 (nle rfl) (nle rfl) rfl lf_M_13 rfl (kt eKI q1) ?_
      exact r_return d_M_wrong_33.1 rfl (hQ _ hw)
    · replace hw := hw.1 w9
      refine r_iconst d_M_wrong_17 kc_1 ?_
      refine r_goto d_M_wrong_18 ?_
      refine r_putI d_M_wrong_22 ok_12 (nle rfl) (nle rfl) rfl lf_M_182 rfl q1 ?_
      refine r_aload_n (j := 0) d_M_wrong_25 rfl ?_
      refine r_aload_n (j := 0) d_M_wrong_26 rfl ?_
      refine r_getI d_M_wrong_27 ok_12 (nle rfl) (nle rfl) rfl lf_M_162 (kt eKI q1) ?_
      refine r_putI d_M_wrong_30 ok_12 (nle rfl) (nle rfl) rfl lf_M_13 rfl (kt eKI q1) ?_
      exact r_return d_M_wrong_33.1 rfl (hQ _ hw)
  · replace hw := hw.2 w9
    exact r_return d_M_wrong_7.1 rfl (hQ _ hw)
set_option maxRecDepth 100000 in
set_option maxHeartbeats 4000000 in
theorem s_M_isGood {d : Nat} {v0 : Nat} {h : Hp} {Q : Bool → Hp → Prop} {QQ : Option AV → Hp → Prop} (hw : w_M_isGood v0 h Q) (hQ : ∀ r9 h9, Q r9 h9 → QQ (some (ai (b2i r9))) h9) : aCall m_M_isGood d [ar v0] h 0 0 QQ := by
  refine aCall_in pl_M_isGood (nle rfl) ?_
  show aW none m_M_isGood d 0 [(0, ar v0)] [] h 0 0 QQ
  unfold w_M_isGood at hw
  refine r_aload_n (j := 0) d_M_isGood_0 rfl ?_
  obtain ⟨q1, hw⟩ := hw
  refine r_getI d_M_isGood_1 ok_12 (nle rfl) (nle rfl) rfl lf_M_182 q1 ?_
  refine r_if_ne d_M_isGood_4 (fun w9 => ?_) (fun w9 => ?_)
  · replace hw := hw.2 w9
    refine r_iconst d_M_isGood_11 kc_0 ?_
    exact r_zreturn d_M_isGood_12.1 rfl (Or.inl rfl) (hQ _ _ hw)
  · replace hw := hw.1 w9
    refine r_iconst d_M_isGood_7 kc_1 ?_
    refine r_goto d_M_isGood_8 ?_
    exact r_zreturn d_M_isGood_12.1 rfl (Or.inr rfl) (hQ _ _ hw)
set_option maxRecDepth 100000 in
set_option maxHeartbeats 4000000 in
theorem s_M_isWord {d : Nat} {v0 : Nat} {v1 : Int64} {h : Hp} {Q : Bool → Hp → Prop} {QQ : Option AV → Hp → Prop} (hw : w_M_isWord v0 v1 h Q) (hQ : ∀ r9 h9, Q r9 h9 → QQ (some (ai (b2i r9))) h9) : aCall m_M_isWord d [ar v0, al v1] h 0 0 QQ := by
  refine aCall_in pl_M_isWord (nle rfl) ?_
  show aW none m_M_isWord d 0 [(0, ar v0), (1, al v1)] [] h 0 0 QQ
  unfold w_M_isWord at hw
  refine r_aload_n (j := 0) d_M_isWord_0 rfl ?_
  obtain ⟨q1, hw⟩ := hw
  refine r_getI d_M_isWord_1 ok_12 (nle rfl) (nle rfl) rfl lf_M_182 q1 ?_
  refine r_if_ne d_M_isWord_4 (fun w9 => ?_) (fun w9 => ?_)
  · replace hw := hw.2 w9
    refine r_iconst d_M_isWord_28 kc_0 ?_
    exact r_zreturn d_M_isWord_29.1 rfl (Or.inl rfl) (hQ _ _ hw)
  · replace hw := hw.1 w9
    refine r_aload_n (j := 0) d_M_isWord_7 rfl ?_
    refine r_getI d_M_isWord_8 ok_12 (nle rfl) (nle rfl) rfl lf_M_172 q1 ?_
    refine r_iconst d_M_isWord_11 kc_1 ?_
    refine r_icmp_ne d_M_isWord_12 (fun w9 => ?_) (fun w9 => ?_)
    · replace hw := hw.2 w9
      refine r_iconst d_M_isWord_28 kc_0 ?_
      exact r_zreturn d_M_isWord_29.1 rfl (Or.inl rfl) (hQ _ _ hw)
    · replace hw := hw.1 w9
      refine r_aload_n (j := 0) d_M_isWord_15 rfl ?_
      refine r_getL d_M_isWord_16 ok_12 (nle rfl) (nle rfl) rfl lf_M_165 q1 ?_
      refine r_lload_n (j := 1) d_M_isWord_19 rfl ?_
      refine r_lcmp d_M_isWord_20 ?_
      refine r_if_ne d_M_isWord_21 (fun w9 => ?_) (fun w9 => ?_)
      · replace hw := hw.2 (fun g9 => w9 ((lg_cmp_eq _ _).mpr g9))
        refine r_iconst d_M_isWord_28 kc_0 ?_
        exact r_zreturn d_M_isWord_29.1 rfl (Or.inl rfl) (hQ _ _ hw)
      · replace hw := hw.1 ((lg_cmp_eq _ _).mp w9)
        refine r_iconst d_M_isWord_24 kc_1 ?_
        refine r_goto d_M_isWord_25 ?_
        exact r_zreturn d_M_isWord_29.1 rfl (Or.inr rfl) (hQ _ _ hw)
set_option maxRecDepth 100000 in
set_option maxHeartbeats 4000000 in
theorem s_M_numberIn_B42 {d : Nat} (hd : 2 ≤ d + 1) {Q : Int32 → Hp → Prop} {QQ : Option AV → Hp → Prop} (hQ : ∀ r9 h9, Q r9 h9 → QQ (some (ai r9)) h9) {v0 : Nat} {h : Hp} (hw : w_M_numberIn_B42 Q  v0 h) : aW none m_M_numberIn (d + 1) 42 [(0, ar v0)] [] h 0 0 QQ := by
  unfold w_M_numberIn_B42 at hw
  refine r_aload_n (j := 0) d_M_numberIn_42 rfl ?_
  obtain ⟨q4, hw⟩ := hw
  refine r_getI d_M_numberIn_43 ok_12 (nle rfl) (nle rfl) rfl lf_M_169 q4 ?_
  refine r_istore_n (ls2 := [(3, ai (gI h v0 6)), (0, ar v0)]) d_M_numberIn_46 (nle rfl) rfl ?_
  refine r_aload_n (j := 1) d_M_numberIn_47 rfl ?_
  refine r_callV (av := []) (rest := []) (ci := 12) d_M_numberIn_48 mk_M_isGood ll_M_188 im_M_isGood se_M_isGood rfl (nle rfl) rfl rfl (nle rfl) q4 (s_M_isGood  hw (fun r6 h5 hw => ?_))
  show aW none m_M_numberIn (d + 1) 51 [(3, ai (gI h v0 6)), (0, ar v0)] [ai (b2i r6)] h5 0 0 QQ
  refine r_if_eq d_M_numberIn_51 (fun w9 => ?_) (fun w9 => ?_)
  · replace hw := hw.1 (b2i_0.mp w9)
    refine r_iload_n (j := 0) d_M_numberIn_58 rfl ?_
    exact r_ireturn d_M_numberIn_59.1 rfl (hQ _ _ hw)
  · replace hw := hw.2 (fun g9 => w9 (b2i_0.mpr g9))
    refine r_aload_n (j := 1) d_M_numberIn_54 rfl ?_
    obtain ⟨q8, hw⟩ := hw
    refine r_callV (av := []) (rest := []) (ci := 12) d_M_numberIn_55 mk_M_goOn ll_M_192 im_M_goOn se_M_goOn rfl (nle rfl) rfl rfl (nle rfl) q8 (s_M_goOn (by omega) hw (fun h7 hw => ?_))
    show aW none m_M_numberIn (d + 1) 58 [(3, ai (gI h v0 6)), (0, ar v0)] [] h7 0 0 QQ
    refine r_iload_n (j := 0) d_M_numberIn_58 rfl ?_
    exact r_ireturn d_M_numberIn_59.1 rfl (hQ _ _ hw)
set_option maxRecDepth 100000 in
set_option maxHeartbeats 4000000 in
theorem s_M_numberIn {d : Nat} (hd : 2 ≤ d) {v0 : Nat} {v1 : Int32} {v2 : Int32} {h : Hp} {Q : Int32 → Hp → Prop} {QQ : Option AV → Hp → Prop} (hw : w_M_numberIn v0 v1 v2 h Q) (hQ : ∀ r9 h9, Q r9 h9 → QQ (some (ai r9)) h9) : aCall m_M_numberIn d [ar v0, ai v1, ai v2] h 0 0 QQ := by
  obtain ⟨d, rfl⟩ : ∃ d9, d = d9 + 1 := ⟨d - 1, by omega⟩
  refine aCall_in pl_M_numberIn (nle rfl) ?_
  show aW none m_M_numberIn (d + 1) 0 [(0, ar v0), (1, ai v1), (2, ai v2)] [] h 0 0 QQ
  unfold w_M_numberIn at hw
  refine r_aload_n (j := 0) d_M_numberIn_0 rfl ?_
  obtain ⟨q1, hw⟩ := hw
  refine r_getI d_M_numberIn_1 ok_12 (nle rfl) (nle rfl) rfl lf_M_182 q1 ?_
  refine r_if_le d_M_numberIn_4 (fun w9 => ?_) (fun w9 => ?_)
  · replace hw := hw.1 w9
    refine r_aload_n (j := 0) d_M_numberIn_9 rfl ?_
    refine r_getI d_M_numberIn_10 ok_12 (nle rfl) (nle rfl) rfl lf_M_172 q1 ?_
    refine r_iconst d_M_numberIn_13 kc_2 ?_
    refine r_icmp_eq d_M_numberIn_14 (fun w9 => ?_) (fun w9 => ?_)
    · replace hw := hw.1 w9
      refine r_aload_n (j := 0) d_M_numberIn_25 rfl ?_
      refine r_getI d_M_numberIn_26 ok_12 (nle rfl) (nle rfl) rfl lf_M_169 q1 ?_
      refine r_iload_n (j := 1) d_M_numberIn_29 rfl ?_
      refine r_iload_n (j := 2) d_M_numberIn_30 rfl ?_
      refine r_callS (av := [ai (gI h v0 6), ai v1, ai v2]) (rest := []) d_M_numberIn_31 mk_M_isIn ll_M_148 st_M_isIn rfl rfl (nle rfl) (s_M_isIn  hw (fun r3 h2 hw => ?_))
      show aW none m_M_numberIn (d + 1) 34 [(0, ar v0), (1, ai v1), (2, ai v2)] [ai (b2i r3)] h2 0 0 QQ
      refine r_if_ne d_M_numberIn_34 (fun w9 => ?_) (fun w9 => ?_)
      · replace hw := hw.2 (fun g9 => w9 (b2i_0.mpr g9))
        refine r_pick (ls2 := [(0, ar v0)]) [0] rfl ?_
        exact s_M_numberIn_B42 hd hQ  hw
      · replace hw := hw.1 (b2i_0.mp w9)
        refine r_aload_n (j := 0) d_M_numberIn_37 rfl ?_
        refine r_iconst d_M_numberIn_38 kc_4 ?_
        obtain ⟨q10, hw⟩ := hw
        refine r_callV (av := [ai (4 : Int32)]) (rest := []) (ci := 12) d_M_numberIn_39 mk_M_wrong ll_M_185 im_M_wrong se_M_wrong rfl (nle rfl) rfl rfl (nle rfl) q10 (s_M_wrong  hw (fun h9 hw => ?_))
        show aW none m_M_numberIn (d + 1) 42 [(0, ar v0), (1, ai v1), (2, ai v2)] [] h9 0 0 QQ
        refine r_pick (ls2 := [(0, ar v0)]) [0] rfl ?_
        exact s_M_numberIn_B42 hd hQ  hw
    · replace hw := hw.2 w9
      refine r_aload_n (j := 0) d_M_numberIn_17 rfl ?_
      refine r_iconst d_M_numberIn_18 kc_2 ?_
      refine r_callV (av := [ai (2 : Int32)]) (rest := []) (ci := 12) d_M_numberIn_19 mk_M_wrong ll_M_185 im_M_wrong se_M_wrong rfl (nle rfl) rfl rfl (nle rfl) q1 (s_M_wrong  hw (fun h11 hw => ?_))
      show aW none m_M_numberIn (d + 1) 22 [(0, ar v0), (1, ai v1), (2, ai v2)] [] h11 0 0 QQ
      refine r_goto d_M_numberIn_22 ?_
      refine r_pick (ls2 := [(0, ar v0)]) [0] rfl ?_
      exact s_M_numberIn_B42 hd hQ  hw
  · replace hw := hw.2 w9
    refine r_iconst d_M_numberIn_7 kc_0 ?_
    exact r_ireturn d_M_numberIn_8.1 rfl (hQ _ _ hw)
set_option maxRecDepth 100000 in
set_option maxHeartbeats 4000000 in
theorem s_M_signed_B29 {d : Nat} (hd : 3 ≤ d + 1) {Q : Int32 → Hp → Prop} {QQ : Option AV → Hp → Prop} (hQ : ∀ r9 h9, Q r9 h9 → QQ (some (ai r9)) h9) {v0 : Nat} {v1 : Int32} {v2 : Int32} {h : Hp} (hw : w_M_signed_B29 Q  v0 v1 v2 h) : aW none m_M_signed (d + 1) 29 [(0, ar v0), (1, ai v1), (2, ai v2)] [] h 0 0 QQ := by
  unfold w_M_signed_B29 at hw
  refine r_aload_n (j := 0) d_M_signed_29 rfl ?_
  refine r_iconst d_M_signed_30 kc_0 ?_
  refine r_iload_n (j := 1) d_M_signed_31 rfl ?_
  obtain ⟨q6, hw⟩ := hw
  refine r_callV (av := [ai (0 : Int32), ai v1]) (rest := []) (ci := 12) d_M_signed_32 mk_M_numberIn ll_M_195 im_M_numberIn se_M_numberIn rfl (nle rfl) rfl rfl (nle rfl) q6 (s_M_numberIn (by omega) hw (fun r5 h4 hw => ?_))
  show aW none m_M_signed (d + 1) 35 [(0, ar v0), (1, ai v1), (2, ai v2)] [ai r5] h4 0 0 QQ
  refine r_istore_n (ls2 := [(3, ai r5), (0, ar v0), (1, ai v1), (2, ai v2)]) d_M_signed_35 (nle rfl) rfl ?_
  refine r_iload_n (j := 3) d_M_signed_36 rfl ?_
  refine r_if_eq d_M_signed_37 (fun w9 => ?_) (fun w9 => ?_)
  · replace hw := hw.1 w9
    refine r_iload_n (j := 0) d_M_signed_45 rfl ?_
    exact r_ireturn d_M_signed_46.1 rfl (hQ _ _ hw)
  · replace hw := hw.2 w9
    refine r_iload_n (j := 0) d_M_signed_40 rfl ?_
    refine r_ineg d_M_signed_41 ?_
    refine r_goto d_M_signed_42 ?_
    exact r_ireturn d_M_signed_46.1 rfl (hQ _ _ hw)
set_option maxRecDepth 100000 in
set_option maxHeartbeats 4000000 in
theorem s_M_signed_B20 {d : Nat} (hd : 3 ≤ d + 1) {Q : Int32 → Hp → Prop} {QQ : Option AV → Hp → Prop} (hQ : ∀ r9 h9, Q r9 h9 → QQ (some (ai r9)) h9) {v0 : Nat} {v1 : Int32} {s0 : Int32} {h : Hp} (hw : w_M_signed_B20 Q  v0 v1 s0 h) : aW none m_M_signed (d + 1) 20 [(0, ar v0), (1, ai v1)] [ai s0] h 0 0 QQ := by
  unfold w_M_signed_B20 at hw
  refine r_istore_n (ls2 := [(2, ai s0), (0, ar v0), (1, ai v1)]) d_M_signed_20 (nle rfl) rfl ?_
  refine r_iload_n (j := 0) d_M_signed_21 rfl ?_
  refine r_if_eq d_M_signed_22 (fun w9 => ?_) (fun w9 => ?_)
  · replace hw := hw.1 w9
    refine r_pick (ls2 := [(0, ar v0), (1, ai v1), (2, ai s0)]) [1, 2, 0] rfl ?_
    exact s_M_signed_B29 hd hQ  hw
  · replace hw := hw.2 w9
    refine r_aload_n (j := 1) d_M_signed_25 rfl ?_
    obtain ⟨q8, hw⟩ := hw
    refine r_callV (av := []) (rest := []) (ci := 12) d_M_signed_26 mk_M_goOn ll_M_192 im_M_goOn se_M_goOn rfl (nle rfl) rfl rfl (nle rfl) q8 (s_M_goOn (by omega) hw (fun h7 hw => ?_))
    show aW none m_M_signed (d + 1) 29 [(2, ai s0), (0, ar v0), (1, ai v1)] [] h7 0 0 QQ
    refine r_pick (ls2 := [(0, ar v0), (1, ai v1), (2, ai s0)]) [1, 2, 0] rfl ?_
    exact s_M_signed_B29 hd hQ  hw
set_option maxRecDepth 100000 in
set_option maxHeartbeats 4000000 in
theorem s_M_signed_B19 {d : Nat} (hd : 3 ≤ d + 1) {Q : Int32 → Hp → Prop} {QQ : Option AV → Hp → Prop} (hQ : ∀ r9 h9, Q r9 h9 → QQ (some (ai r9)) h9) {v0 : Nat} {v1 : Int32} {h : Hp} (hw : w_M_signed_B19 Q  v0 v1 h) : aW none m_M_signed (d + 1) 19 [(0, ar v0), (1, ai v1)] [] h 0 0 QQ := by
  unfold w_M_signed_B19 at hw
  refine r_iconst d_M_signed_19 kc_0 ?_
  exact s_M_signed_B20 hd hQ  hw
set_option maxRecDepth 100000 in
set_option maxHeartbeats 4000000 in
theorem s_M_signed {d : Nat} (hd : 3 ≤ d) {v0 : Nat} {v1 : Int32} {h : Hp} {Q : Int32 → Hp → Prop} {QQ : Option AV → Hp → Prop} (hw : w_M_signed v0 v1 h Q) (hQ : ∀ r9 h9, Q r9 h9 → QQ (some (ai r9)) h9) : aCall m_M_signed d [ar v0, ai v1] h 0 0 QQ := by
  obtain ⟨d, rfl⟩ : ∃ d9, d = d9 + 1 := ⟨d - 1, by omega⟩
  refine aCall_in pl_M_signed (nle rfl) ?_
  show aW none m_M_signed (d + 1) 0 [(0, ar v0), (1, ai v1)] [] h 0 0 QQ
  unfold w_M_signed at hw
  refine r_aload_n (j := 0) d_M_signed_0 rfl ?_
  obtain ⟨q3, hw⟩ := hw
  refine r_callV (av := []) (rest := []) (ci := 12) d_M_signed_1 mk_M_isGood ll_M_188 im_M_isGood se_M_isGood rfl (nle rfl) rfl rfl (nle rfl) q3 (s_M_isGood  hw (fun r2 h1 hw => ?_))
  show aW none m_M_signed (d + 1) 4 [(0, ar v0), (1, ai v1)] [ai (b2i r2)] h1 0 0 QQ
  refine r_if_eq d_M_signed_4 (fun w9 => ?_) (fun w9 => ?_)
  · replace hw := hw.1 (b2i_0.mp w9)
    exact s_M_signed_B19 hd hQ  hw
  · replace hw := hw.2 (fun g9 => w9 (b2i_0.mpr g9))
    refine r_aload_n (j := 0) d_M_signed_7 rfl ?_
    obtain ⟨q9, hw⟩ := hw
    refine r_getI d_M_signed_8 ok_12 (nle rfl) (nle rfl) rfl lf_M_172 q9 ?_
    refine r_iconst d_M_signed_11 kc_4 ?_
    refine r_icmp_ne d_M_signed_12 (fun w9 => ?_) (fun w9 => ?_)
    · replace hw := hw.2 w9
      exact s_M_signed_B19 hd hQ  hw
    · replace hw := hw.1 w9
      refine r_iconst d_M_signed_15 kc_1 ?_
      refine r_goto d_M_signed_16 ?_
      exact s_M_signed_B20 hd hQ  hw
set_option maxRecDepth 100000 in
set_option maxHeartbeats 4000000 in
theorem s_M_rowsLine_B23 {d : Nat} (hd : 3 ≤ d + 1) {Q : Hp → Prop} {QQ : Option AV → Hp → Prop} (hQ : ∀ h9, Q h9 → QQ none h9) {v0 : Nat} {h : Hp} (hw : w_M_rowsLine_B23 Q  v0 h) : aW none m_M_rowsLine (d + 1) 23 [(0, ar v0)] [] h 0 0 QQ := by
  unfold w_M_rowsLine_B23 at hw
  refine r_aload_n (j := 0) d_M_rowsLine_23 rfl ?_
  refine r_aload_n (j := 0) d_M_rowsLine_24 rfl ?_
  refine r_iconst d_M_rowsLine_25 kc_1 ?_
  refine r_iconst d_M_rowsLine_26 kc_3 ?_
  obtain ⟨q7, hw⟩ := hw
  refine r_callV (av := [ai (1 : Int32), ai (3 : Int32)]) (rest := [ar v0]) (ci := 12) d_M_rowsLine_27 mk_M_numberIn ll_M_195 im_M_numberIn se_M_numberIn rfl (nle rfl) rfl rfl (nle rfl) q7 (s_M_numberIn (by omega) hw (fun r6 h5 hw => ?_))
  show aW none m_M_rowsLine (d + 1) 30 [(0, ar v0)] [ai r6, ar v0] h5 0 0 QQ
  obtain ⟨q8, hw⟩ := hw
  refine r_putI d_M_rowsLine_30 ok_12 (nle rfl) (nle rfl) rfl lf_M_199 rfl q8 ?_
  exact r_return d_M_rowsLine_33.1 rfl (hQ _ hw)
set_option maxRecDepth 100000 in
set_option maxHeartbeats 4000000 in
theorem s_M_rowsLine_B12 {d : Nat} (hd : 3 ≤ d + 1) {Q : Hp → Prop} {QQ : Option AV → Hp → Prop} (hQ : ∀ h9, Q h9 → QQ none h9) {v0 : Nat} {h : Hp} (hw : w_M_rowsLine_B12 Q  v0 h) : aW none m_M_rowsLine (d + 1) 12 [(0, ar v0)] [] h 0 0 QQ := by
  unfold w_M_rowsLine_B12 at hw
  refine r_aload_n (j := 0) d_M_rowsLine_12 rfl ?_
  obtain ⟨q4, hw⟩ := hw
  refine r_callV (av := []) (rest := []) (ci := 12) d_M_rowsLine_13 mk_M_isGood ll_M_188 im_M_isGood se_M_isGood rfl (nle rfl) rfl rfl (nle rfl) q4 (s_M_isGood  hw (fun r3 h2 hw => ?_))
  show aW none m_M_rowsLine (d + 1) 16 [(0, ar v0)] [ai (b2i r3)] h2 0 0 QQ
  refine r_if_eq d_M_rowsLine_16 (fun w9 => ?_) (fun w9 => ?_)
  · replace hw := hw.1 (b2i_0.mp w9)
    exact s_M_rowsLine_B23 hd hQ  hw
  · replace hw := hw.2 (fun g9 => w9 (b2i_0.mpr g9))
    refine r_aload_n (j := 0) d_M_rowsLine_19 rfl ?_
    obtain ⟨q10, hw⟩ := hw
    refine r_callV (av := []) (rest := []) (ci := 12) d_M_rowsLine_20 mk_M_goOn ll_M_192 im_M_goOn se_M_goOn rfl (nle rfl) rfl rfl (nle rfl) q10 (s_M_goOn (by omega) hw (fun h9 hw => ?_))
    show aW none m_M_rowsLine (d + 1) 23 [(0, ar v0)] [] h9 0 0 QQ
    exact s_M_rowsLine_B23 hd hQ  hw
set_option maxRecDepth 100000 in
set_option maxHeartbeats 4000000 in
theorem s_M_rowsLine {d : Nat} (hd : 3 ≤ d) {v0 : Nat} {h : Hp} {Q : Hp → Prop} {QQ : Option AV → Hp → Prop} (hw : w_M_rowsLine v0 h Q) (hQ : ∀ h9, Q h9 → QQ none h9) : aCall m_M_rowsLine d [ar v0] h 0 0 QQ := by
  obtain ⟨d, rfl⟩ : ∃ d9, d = d9 + 1 := ⟨d - 1, by omega⟩
  refine aCall_in pl_M_rowsLine (nle rfl) ?_
  show aW none m_M_rowsLine (d + 1) 0 [(0, ar v0)] [] h 0 0 QQ
  unfold w_M_rowsLine at hw
  refine r_aload_n (j := 0) d_M_rowsLine_0 rfl ?_
  obtain ⟨q1, hw⟩ := hw
  refine r_getI d_M_rowsLine_1 ok_12 (nle rfl) (nle rfl) rfl lf_M_205 q1 ?_
  refine r_if_eq d_M_rowsLine_4 (fun w9 => ?_) (fun w9 => ?_)
  · replace hw := hw.1 w9
    exact s_M_rowsLine_B12 hd hQ  hw
  · replace hw := hw.2 w9
    refine r_aload_n (j := 0) d_M_rowsLine_7 rfl ?_
    refine r_iconst d_M_rowsLine_8 kc_2 ?_
    refine r_callV (av := [ai (2 : Int32)]) (rest := []) (ci := 12) d_M_rowsLine_9 mk_M_wrong ll_M_185 im_M_wrong se_M_wrong rfl (nle rfl) rfl rfl (nle rfl) q1 (s_M_wrong  hw (fun h11 hw => ?_))
    show aW none m_M_rowsLine (d + 1) 12 [(0, ar v0)] [] h11 0 0 QQ
    exact s_M_rowsLine_B12 hd hQ  hw
set_option maxRecDepth 100000 in
set_option maxHeartbeats 4000000 in
theorem s_M_columnLine_B221 {d : Nat} (hd : 4 ≤ d + 1) {Q : Hp → Prop} {QQ : Option AV → Hp → Prop} (hQ : ∀ h9, Q h9 → QQ none h9) {v0 : Nat} {v1 : Int32} {h : Hp} (hw : w_M_columnLine_B221 Q  v0 v1 h) : aW none m_M_columnLine (d + 1) 221 [(0, ar v0), (1, ai v1)] [] h 0 0 QQ := by
  unfold w_M_columnLine_B221 at hw
  refine r_aload_n (j := 0) d_M_columnLine_221 rfl ?_
  obtain ⟨q18, hw⟩ := hw
  refine r_getR d_M_columnLine_222 ok_12 (nle rfl) (nle rfl) rfl lf_M_20 q18 ?_
  refine r_bipush d_M_columnLine_225 kb_24 ?_
  refine r_iload_n (j := 1) d_M_columnLine_227 rfl ?_
  refine r_iadd d_M_columnLine_228 ?_
  refine r_aload_n (j := 0) d_M_columnLine_229 rfl ?_
  refine r_bipush d_M_columnLine_230 kb_99 ?_
  refine r_callV (av := [ai (99 : Int32)]) (rest := [ai ((24 : Int32) + v1), ar (gR h v0 12)]) (ci := 12) d_M_columnLine_232 mk_M_signed ll_M_225 im_M_signed se_M_signed rfl (nle rfl) rfl rfl (nle rfl) q18 (s_M_signed (by omega) hw (fun r20 h19 hw => ?_))
  show aW none m_M_columnLine (d + 1) 235 [(0, ar v0), (1, ai v1)] [ai r20, ai ((24 : Int32) + v1), ar (gR h v0 12)] h19 0 0 QQ
  obtain ⟨q21, hw⟩ := hw
  obtain ⟨q22, hw⟩ := hw
  refine r_iast d_M_columnLine_235 q21 q22 ?_
  refine r_aload_n (j := 0) d_M_columnLine_236 rfl ?_
  refine r_dup d_M_columnLine_237 rfl ?_
  obtain ⟨q23, hw⟩ := hw
  refine r_getI d_M_columnLine_238 ok_12 (nle rfl) (nle rfl) rfl lf_M_202 (kt eKI q23) ?_
  refine r_iconst d_M_columnLine_241 kc_1 ?_
  refine r_iadd d_M_columnLine_242 ?_
  refine r_putI d_M_columnLine_243 ok_12 (nle rfl) (nle rfl) rfl lf_M_202 rfl (kt eKI q23) ?_
  exact r_return d_M_columnLine_246.1 rfl (hQ _ hw)
set_option maxRecDepth 100000 in
set_option maxHeartbeats 4000000 in
theorem s_M_columnLine_B210 {d : Nat} (hd : 4 ≤ d + 1) {Q : Hp → Prop} {QQ : Option AV → Hp → Prop} (hQ : ∀ h9, Q h9 → QQ none h9) {v0 : Nat} {v1 : Int32} {h : Hp} (hw : w_M_columnLine_B210 Q  v0 v1 h) : aW none m_M_columnLine (d + 1) 210 [(0, ar v0), (1, ai v1)] [] h 0 0 QQ := by
  unfold w_M_columnLine_B210 at hw
  refine r_aload_n (j := 0) d_M_columnLine_210 rfl ?_
  obtain ⟨q17, hw⟩ := hw
  refine r_callV (av := []) (rest := []) (ci := 12) d_M_columnLine_211 mk_M_isGood ll_M_188 im_M_isGood se_M_isGood rfl (nle rfl) rfl rfl (nle rfl) q17 (s_M_isGood  hw (fun r16 h15 hw => ?_))
  show aW none m_M_columnLine (d + 1) 214 [(0, ar v0), (1, ai v1)] [ai (b2i r16)] h15 0 0 QQ
  refine r_if_eq d_M_columnLine_214 (fun w9 => ?_) (fun w9 => ?_)
  · replace hw := hw.1 (b2i_0.mp w9)
    exact s_M_columnLine_B221 hd hQ  hw
  · replace hw := hw.2 (fun g9 => w9 (b2i_0.mpr g9))
    refine r_aload_n (j := 0) d_M_columnLine_217 rfl ?_
    obtain ⟨q25, hw⟩ := hw
    refine r_callV (av := []) (rest := []) (ci := 12) d_M_columnLine_218 mk_M_goOn ll_M_192 im_M_goOn se_M_goOn rfl (nle rfl) rfl rfl (nle rfl) q25 (s_M_goOn (by omega) hw (fun h24 hw => ?_))
    show aW none m_M_columnLine (d + 1) 221 [(0, ar v0), (1, ai v1)] [] h24 0 0 QQ
    exact s_M_columnLine_B221 hd hQ  hw
set_option maxRecDepth 100000 in
set_option maxHeartbeats 4000000 in
theorem s_M_columnLine_L166 {d : Nat} (hd : 4 ≤ d + 1) {Q : Hp → Prop} {QQ : Option AV → Hp → Prop} (hQ : ∀ h9, Q h9 → QQ none h9) {v0 : Nat} {v1 : Int32} : ∀ (n : Nat) (v2 : Int32) (h : Hp), w_M_columnLine_L166 Q  v0 v1 n v2 h → aW none m_M_columnLine (d + 1) 166 [(0, ar v0), (1, ai v1), (2, ai v2)] [] h 0 0 QQ := by
  intro n
  induction n with
  | zero => intro v2 h hw; exact hw.elim
  | succ n ih =>
    intro v2 h hw
    unfold w_M_columnLine_L166 at hw
    refine r_iload_n (j := 2) d_M_columnLine_166 rfl ?_
    refine r_aload_n (j := 0) d_M_columnLine_167 rfl ?_
    obtain ⟨q12, hw⟩ := hw
    refine r_getI d_M_columnLine_168 ok_12 (nle rfl) (nle rfl) rfl lf_M_199 q12 ?_
    refine r_icmp_ge d_M_columnLine_171 (fun w9 => ?_) (fun w9 => ?_)
    · replace hw := hw.1 w9
      refine r_aload_n (j := 0) d_M_columnLine_195 rfl ?_
      refine r_ldc2 d_M_columnLine_196 lc_M_219 ?_
      refine r_callV (av := [al (1734437230 : Int64)]) (rest := []) (ci := 12) d_M_columnLine_199 mk_M_isWord ll_M_228 im_M_isWord se_M_isWord rfl (nle rfl) rfl rfl (nle rfl) q12 (s_M_isWord  hw (fun r14 h13 hw => ?_))
      show aW none m_M_columnLine (d + 1) 202 [(0, ar v0), (1, ai v1), (2, ai v2)] [ai (b2i r14)] h13 0 0 QQ
      refine r_if_ne d_M_columnLine_202 (fun w9 => ?_) (fun w9 => ?_)
      · replace hw := hw.2 (fun g9 => w9 (b2i_0.mpr g9))
        refine r_pick (ls2 := [(0, ar v0), (1, ai v1)]) [0, 1] rfl ?_
        exact s_M_columnLine_B210 hd hQ  hw
      · replace hw := hw.1 (b2i_0.mp w9)
        refine r_aload_n (j := 0) d_M_columnLine_205 rfl ?_
        refine r_iconst d_M_columnLine_206 kc_2 ?_
        obtain ⟨q27, hw⟩ := hw
        refine r_callV (av := [ai (2 : Int32)]) (rest := []) (ci := 12) d_M_columnLine_207 mk_M_wrong ll_M_185 im_M_wrong se_M_wrong rfl (nle rfl) rfl rfl (nle rfl) q27 (s_M_wrong  hw (fun h26 hw => ?_))
        show aW none m_M_columnLine (d + 1) 210 [(0, ar v0), (1, ai v1), (2, ai v2)] [] h26 0 0 QQ
        refine r_pick (ls2 := [(0, ar v0), (1, ai v1)]) [0, 1] rfl ?_
        exact s_M_columnLine_B210 hd hQ  hw
    · replace hw := hw.2 w9
      refine r_aload_n (j := 0) d_M_columnLine_174 rfl ?_
      refine r_getR d_M_columnLine_175 ok_12 (nle rfl) (nle rfl) rfl lf_M_20 q12 ?_
      refine r_iconst d_M_columnLine_178 kc_3 ?_
      refine r_iload_n (j := 1) d_M_columnLine_179 rfl ?_
      refine r_imul d_M_columnLine_180 ?_
      refine r_iload_n (j := 2) d_M_columnLine_181 rfl ?_
      refine r_iadd d_M_columnLine_182 ?_
      refine r_aload_n (j := 0) d_M_columnLine_183 rfl ?_
      refine r_iconst d_M_columnLine_184 kc_5 ?_
      refine r_callV (av := [ai (5 : Int32)]) (rest := [ai (((3 : Int32) * v1) + v2), ar (gR h v0 12)]) (ci := 12) d_M_columnLine_185 mk_M_signed ll_M_225 im_M_signed se_M_signed rfl (nle rfl) rfl rfl (nle rfl) q12 (s_M_signed (by omega) hw (fun r29 h28 hw => ?_))
      show aW none m_M_columnLine (d + 1) 188 [(0, ar v0), (1, ai v1), (2, ai v2)] [ai r29, ai (((3 : Int32) * v1) + v2), ar (gR h v0 12)] h28 0 0 QQ
      obtain ⟨q30, hw⟩ := hw
      obtain ⟨q31, hw⟩ := hw
      refine r_iast d_M_columnLine_188 q30 q31 ?_
      refine r_iinc (j := 2) (ls2 := [(2, ai (v2 + (1 : Int32))), (0, ar v0), (1, ai v1)]) d_M_columnLine_189 rfl (congrArg (HAdd.hAdd v2) kc_1) (nle rfl) rfl ?_
      refine r_goto d_M_columnLine_192 ?_
      refine r_pick (ls2 := [(0, ar v0), (1, ai v1), (2, ai (v2 + (1 : Int32)))]) [1, 2, 0] rfl ?_
      exact ih _ _ hw
set_option maxRecDepth 100000 in
set_option maxHeartbeats 4000000 in
theorem s_M_columnLine_B142 {d : Nat} (hd : 4 ≤ d + 1) {Q : Hp → Prop} {QQ : Option AV → Hp → Prop} (hQ : ∀ h9, Q h9 → QQ none h9) {v0 : Nat} {v1 : Int32} {h : Hp} (hw : w_M_columnLine_B142 Q  v0 v1 h) : aW none m_M_columnLine (d + 1) 142 [(0, ar v0), (1, ai v1)] [] h 0 0 QQ := by
  unfold w_M_columnLine_B142 at hw
  refine r_aload_n (j := 0) d_M_columnLine_142 rfl ?_
  obtain ⟨q8, hw⟩ := hw
  refine r_getI d_M_columnLine_143 ok_12 (nle rfl) (nle rfl) rfl lf_M_182 q8 ?_
  refine r_if_le d_M_columnLine_146 (fun w9 => ?_) (fun w9 => ?_)
  · replace hw := hw.1 w9
    refine r_aload_n (j := 0) d_M_columnLine_150 rfl ?_
    refine r_getR d_M_columnLine_151 ok_12 (nle rfl) (nle rfl) rfl lf_M_26 q8 ?_
    refine r_iload_n (j := 1) d_M_columnLine_154 rfl ?_
    refine r_aload_n (j := 0) d_M_columnLine_155 rfl ?_
    refine r_getL d_M_columnLine_156 ok_12 (nle rfl) (nle rfl) rfl lf_M_165 q8 ?_
    obtain ⟨q9, hw⟩ := hw
    obtain ⟨q10, hw⟩ := hw
    refine r_last d_M_columnLine_159 q9 q10 ?_
    refine r_aload_n (j := 0) d_M_columnLine_160 rfl ?_
    refine r_callV (av := []) (rest := []) (ci := 12) d_M_columnLine_161 mk_M_goOn ll_M_192 im_M_goOn se_M_goOn rfl (nle rfl) rfl rfl (nle rfl) (kt eKL q8) (s_M_goOn (by omega) hw (fun h11 hw => ?_))
    show aW none m_M_columnLine (d + 1) 164 [(0, ar v0), (1, ai v1)] [] h11 0 0 QQ
    refine r_iconst d_M_columnLine_164 kc_0 ?_
    refine r_istore_n (ls2 := [(2, ai (0 : Int32)), (0, ar v0), (1, ai v1)]) d_M_columnLine_165 (nle rfl) rfl ?_
    obtain ⟨n32, hw⟩ := hw
    refine r_pick (ls2 := [(0, ar v0), (1, ai v1), (2, ai (0 : Int32))]) [1, 2, 0] rfl ?_
    exact s_M_columnLine_L166 hd hQ  n32 _ _ hw
  · replace hw := hw.2 w9
    exact r_return d_M_columnLine_149.1 rfl (hQ _ hw)
set_option maxRecDepth 100000 in
set_option maxHeartbeats 4000000 in
theorem s_M_columnLine_L105 {d : Nat} (hd : 4 ≤ d + 1) {Q : Hp → Prop} {QQ : Option AV → Hp → Prop} (hQ : ∀ h9, Q h9 → QQ none h9) {v0 : Nat} {v1 : Int32} : ∀ (n : Nat) (v2 : Int32) (h : Hp), w_M_columnLine_L105 Q  v0 v1 n v2 h → aW none m_M_columnLine (d + 1) 105 [(0, ar v0), (1, ai v1), (2, ai v2)] [] h 0 0 QQ := by
  intro n
  induction n with
  | zero => intro v2 h hw; exact hw.elim
  | succ n ih =>
    intro v2 h hw
    unfold w_M_columnLine_L105 at hw
    refine r_iload_n (j := 2) d_M_columnLine_105 rfl ?_
    refine r_iload_n (j := 1) d_M_columnLine_106 rfl ?_
    refine r_icmp_ge d_M_columnLine_107 (fun w9 => ?_) (fun w9 => ?_)
    · replace hw := hw.1 w9
      refine r_pick (ls2 := [(0, ar v0), (1, ai v1)]) [0, 1] rfl ?_
      exact s_M_columnLine_B142 hd hQ  hw
    · replace hw := hw.2 w9
      refine r_aload_n (j := 0) d_M_columnLine_110 rfl ?_
      obtain ⟨q35, hw⟩ := hw
      refine r_callV (av := []) (rest := []) (ci := 12) d_M_columnLine_111 mk_M_isGood ll_M_188 im_M_isGood se_M_isGood rfl (nle rfl) rfl rfl (nle rfl) q35 (s_M_isGood  hw (fun r34 h33 hw => ?_))
      show aW none m_M_columnLine (d + 1) 114 [(0, ar v0), (1, ai v1), (2, ai v2)] [ai (b2i r34)] h33 0 0 QQ
      refine r_if_eq d_M_columnLine_114 (fun w9 => ?_) (fun w9 => ?_)
      · replace hw := hw.1 (b2i_0.mp w9)
        refine r_pick (ls2 := [(0, ar v0), (1, ai v1)]) [0, 1] rfl ?_
        exact s_M_columnLine_B142 hd hQ  hw
      · replace hw := hw.2 (fun g9 => w9 (b2i_0.mpr g9))
        refine r_aload_n (j := 0) d_M_columnLine_117 rfl ?_
        obtain ⟨q36, hw⟩ := hw
        refine r_getR d_M_columnLine_118 ok_12 (nle rfl) (nle rfl) rfl lf_M_26 q36 ?_
        refine r_iload_n (j := 2) d_M_columnLine_121 rfl ?_
        obtain ⟨q37, hw⟩ := hw
        obtain ⟨q38, hw⟩ := hw
        refine r_lald d_M_columnLine_122 q37 q38 ?_
        refine r_aload_n (j := 0) d_M_columnLine_123 rfl ?_
        refine r_getL d_M_columnLine_124 ok_12 (nle rfl) (nle rfl) rfl lf_M_165 q36 ?_
        refine r_lcmp d_M_columnLine_127 ?_
        refine r_if_ne d_M_columnLine_128 (fun w9 => ?_) (fun w9 => ?_)
        · replace hw := hw.2 (fun g9 => w9 ((lg_cmp_eq _ _).mpr g9))
          refine r_iinc (j := 2) (ls2 := [(2, ai (v2 + (1 : Int32))), (0, ar v0), (1, ai v1)]) d_M_columnLine_136 rfl (congrArg (HAdd.hAdd v2) kc_1) (nle rfl) rfl ?_
          refine r_goto d_M_columnLine_139 ?_
          refine r_pick (ls2 := [(0, ar v0), (1, ai v1), (2, ai (v2 + (1 : Int32)))]) [1, 2, 0] rfl ?_
          exact ih _ _ hw
        · replace hw := hw.1 ((lg_cmp_eq _ _).mp w9)
          refine r_aload_n (j := 0) d_M_columnLine_131 rfl ?_
          refine r_iconst d_M_columnLine_132 kc_3 ?_
          refine r_callV (av := [ai (3 : Int32)]) (rest := []) (ci := 12) d_M_columnLine_133 mk_M_wrong ll_M_185 im_M_wrong se_M_wrong rfl (nle rfl) rfl rfl (nle rfl) q36 (s_M_wrong  hw (fun h39 hw => ?_))
          show aW none m_M_columnLine (d + 1) 136 [(0, ar v0), (1, ai v1), (2, ai v2)] [] h39 0 0 QQ
          refine r_iinc (j := 2) (ls2 := [(2, ai (v2 + (1 : Int32))), (0, ar v0), (1, ai v1)]) d_M_columnLine_136 rfl (congrArg (HAdd.hAdd v2) kc_1) (nle rfl) rfl ?_
          refine r_goto d_M_columnLine_139 ?_
          refine r_pick (ls2 := [(0, ar v0), (1, ai v1), (2, ai (v2 + (1 : Int32)))]) [1, 2, 0] rfl ?_
          exact ih _ _ hw
set_option maxRecDepth 100000 in
set_option maxHeartbeats 4000000 in
theorem s_M_columnLine_B98 {d : Nat} (hd : 4 ≤ d + 1) {Q : Hp → Prop} {QQ : Option AV → Hp → Prop} (hQ : ∀ h9, Q h9 → QQ none h9) {v0 : Nat} {v1 : Int32} {h : Hp} (hw : w_M_columnLine_B98 Q  v0 v1 h) : aW none m_M_columnLine (d + 1) 98 [(0, ar v0), (1, ai v1)] [] h 0 0 QQ := by
  unfold w_M_columnLine_B98 at hw
  refine r_aload_n (j := 0) d_M_columnLine_98 rfl ?_
  refine r_iconst d_M_columnLine_99 kc_2 ?_
  obtain ⟨q7, hw⟩ := hw
  refine r_callV (av := [ai (2 : Int32)]) (rest := []) (ci := 12) d_M_columnLine_100 mk_M_wrong ll_M_185 im_M_wrong se_M_wrong rfl (nle rfl) rfl rfl (nle rfl) q7 (s_M_wrong  hw (fun h6 hw => ?_))
  show aW none m_M_columnLine (d + 1) 103 [(0, ar v0), (1, ai v1)] [] h6 0 0 QQ
  refine r_iconst d_M_columnLine_103 kc_0 ?_
  refine r_istore_n (ls2 := [(2, ai (0 : Int32)), (0, ar v0), (1, ai v1)]) d_M_columnLine_104 (nle rfl) rfl ?_
  obtain ⟨n40, hw⟩ := hw
  refine r_pick (ls2 := [(0, ar v0), (1, ai v1), (2, ai (0 : Int32))]) [1, 2, 0] rfl ?_
  exact s_M_columnLine_L105 hd hQ  n40 _ _ hw
set_option maxRecDepth 100000 in
set_option maxHeartbeats 4000000 in
theorem s_M_columnLine_B27 {d : Nat} (hd : 4 ≤ d + 1) {Q : Hp → Prop} {QQ : Option AV → Hp → Prop} (hQ : ∀ h9, Q h9 → QQ none h9) {v0 : Nat} {v1 : Int32} {h : Hp} (hw : w_M_columnLine_B27 Q  v0 v1 h) : aW none m_M_columnLine (d + 1) 27 [(0, ar v0), (1, ai v1)] [] h 0 0 QQ := by
  unfold w_M_columnLine_B27 at hw
  refine r_aload_n (j := 0) d_M_columnLine_27 rfl ?_
  obtain ⟨q5, hw⟩ := hw
  refine r_getI d_M_columnLine_28 ok_12 (nle rfl) (nle rfl) rfl lf_M_182 q5 ?_
  refine r_if_le d_M_columnLine_31 (fun w9 => ?_) (fun w9 => ?_)
  · replace hw := hw.1 w9
    refine r_aload_n (j := 0) d_M_columnLine_35 rfl ?_
    refine r_getI d_M_columnLine_36 ok_12 (nle rfl) (nle rfl) rfl lf_M_172 q5 ?_
    refine r_iconst d_M_columnLine_39 kc_1 ?_
    refine r_icmp_ne d_M_columnLine_40 (fun w9 => ?_) (fun w9 => ?_)
    · replace hw := hw.2 w9
      exact s_M_columnLine_B98 hd hQ  hw
    · replace hw := hw.1 w9
      refine r_aload_n (j := 0) d_M_columnLine_43 rfl ?_
      refine r_getL d_M_columnLine_44 ok_12 (nle rfl) (nle rfl) rfl lf_M_165 q5 ?_
      refine r_ldc2 d_M_columnLine_47 lc_M_215 ?_
      refine r_lcmp d_M_columnLine_50 ?_
      refine r_if_eq d_M_columnLine_51 (fun w9 => ?_) (fun w9 => ?_)
      · replace hw := hw.1 ((lg_cmp_eq _ _).mp w9)
        exact s_M_columnLine_B98 hd hQ  hw
      · replace hw := hw.2 (fun g9 => w9 ((lg_cmp_eq _ _).mpr g9))
        refine r_aload_n (j := 0) d_M_columnLine_54 rfl ?_
        refine r_getL d_M_columnLine_55 ok_12 (nle rfl) (nle rfl) rfl lf_M_165 q5 ?_
        refine r_ldc2 d_M_columnLine_58 lc_M_217 ?_
        refine r_lcmp d_M_columnLine_61 ?_
        refine r_if_eq d_M_columnLine_62 (fun w9 => ?_) (fun w9 => ?_)
        · replace hw := hw.1 ((lg_cmp_eq _ _).mp w9)
          exact s_M_columnLine_B98 hd hQ  hw
        · replace hw := hw.2 (fun g9 => w9 ((lg_cmp_eq _ _).mpr g9))
          refine r_aload_n (j := 0) d_M_columnLine_65 rfl ?_
          refine r_getL d_M_columnLine_66 ok_12 (nle rfl) (nle rfl) rfl lf_M_165 q5 ?_
          refine r_ldc2 d_M_columnLine_69 lc_M_219 ?_
          refine r_lcmp d_M_columnLine_72 ?_
          refine r_if_eq d_M_columnLine_73 (fun w9 => ?_) (fun w9 => ?_)
          · replace hw := hw.1 ((lg_cmp_eq _ _).mp w9)
            exact s_M_columnLine_B98 hd hQ  hw
          · replace hw := hw.2 (fun g9 => w9 ((lg_cmp_eq _ _).mpr g9))
            refine r_aload_n (j := 0) d_M_columnLine_76 rfl ?_
            refine r_getL d_M_columnLine_77 ok_12 (nle rfl) (nle rfl) rfl lf_M_165 q5 ?_
            refine r_ldc2 d_M_columnLine_80 lc_M_221 ?_
            refine r_lcmp d_M_columnLine_83 ?_
            refine r_if_eq d_M_columnLine_84 (fun w9 => ?_) (fun w9 => ?_)
            · replace hw := hw.1 ((lg_cmp_eq _ _).mp w9)
              exact s_M_columnLine_B98 hd hQ  hw
            · replace hw := hw.2 (fun g9 => w9 ((lg_cmp_eq _ _).mpr g9))
              refine r_aload_n (j := 0) d_M_columnLine_87 rfl ?_
              refine r_getL d_M_columnLine_88 ok_12 (nle rfl) (nle rfl) rfl lf_M_165 q5 ?_
              refine r_ldc2 d_M_columnLine_91 lc_M_223 ?_
              refine r_lcmp d_M_columnLine_94 ?_
              refine r_if_ne d_M_columnLine_95 (fun w9 => ?_) (fun w9 => ?_)
              · replace hw := hw.2 (fun g9 => w9 ((lg_cmp_eq _ _).mpr g9))
                refine r_iconst d_M_columnLine_103 kc_0 ?_
                refine r_istore_n (ls2 := [(2, ai (0 : Int32)), (0, ar v0), (1, ai v1)]) d_M_columnLine_104 (nle rfl) rfl ?_
                obtain ⟨n41, hw⟩ := hw
                refine r_pick (ls2 := [(0, ar v0), (1, ai v1), (2, ai (0 : Int32))]) [1, 2, 0] rfl ?_
                exact s_M_columnLine_L105 hd hQ  n41 _ _ hw
              · replace hw := hw.1 ((lg_cmp_eq _ _).mp w9)
                exact s_M_columnLine_B98 hd hQ  hw
  · replace hw := hw.2 w9
    exact r_return d_M_columnLine_34.1 rfl (hQ _ hw)
set_option maxRecDepth 100000 in
set_option maxHeartbeats 4000000 in
theorem s_M_columnLine_B16 {d : Nat} (hd : 4 ≤ d + 1) {Q : Hp → Prop} {QQ : Option AV → Hp → Prop} (hQ : ∀ h9, Q h9 → QQ none h9) {v0 : Nat} {v1 : Int32} {h : Hp} (hw : w_M_columnLine_B16 Q  v0 v1 h) : aW none m_M_columnLine (d + 1) 16 [(0, ar v0), (1, ai v1)] [] h 0 0 QQ := by
  unfold w_M_columnLine_B16 at hw
  refine r_aload_n (j := 0) d_M_columnLine_16 rfl ?_
  obtain ⟨q4, hw⟩ := hw
  refine r_callV (av := []) (rest := []) (ci := 12) d_M_columnLine_17 mk_M_isGood ll_M_188 im_M_isGood se_M_isGood rfl (nle rfl) rfl rfl (nle rfl) q4 (s_M_isGood  hw (fun r3 h2 hw => ?_))
  show aW none m_M_columnLine (d + 1) 20 [(0, ar v0), (1, ai v1)] [ai (b2i r3)] h2 0 0 QQ
  refine r_if_eq d_M_columnLine_20 (fun w9 => ?_) (fun w9 => ?_)
  · replace hw := hw.1 (b2i_0.mp w9)
    exact s_M_columnLine_B27 hd hQ  hw
  · replace hw := hw.2 (fun g9 => w9 (b2i_0.mpr g9))
    refine r_aload_n (j := 0) d_M_columnLine_23 rfl ?_
    obtain ⟨q43, hw⟩ := hw
    refine r_callV (av := []) (rest := []) (ci := 12) d_M_columnLine_24 mk_M_goOn ll_M_192 im_M_goOn se_M_goOn rfl (nle rfl) rfl rfl (nle rfl) q43 (s_M_goOn (by omega) hw (fun h42 hw => ?_))
    show aW none m_M_columnLine (d + 1) 27 [(0, ar v0), (1, ai v1)] [] h42 0 0 QQ
    exact s_M_columnLine_B27 hd hQ  hw
set_option maxRecDepth 100000 in
set_option maxHeartbeats 4000000 in
theorem s_M_columnLine {d : Nat} (hd : 4 ≤ d) {v0 : Nat} {h : Hp} {Q : Hp → Prop} {QQ : Option AV → Hp → Prop} (hw : w_M_columnLine v0 h Q) (hQ : ∀ h9, Q h9 → QQ none h9) : aCall m_M_columnLine d [ar v0] h 0 0 QQ := by
  obtain ⟨d, rfl⟩ : ∃ d9, d = d9 + 1 := ⟨d - 1, by omega⟩
  refine aCall_in pl_M_columnLine (nle rfl) ?_
  show aW none m_M_columnLine (d + 1) 0 [(0, ar v0)] [] h 0 0 QQ
  unfold w_M_columnLine at hw
  refine r_aload_n (j := 0) d_M_columnLine_0 rfl ?_
  obtain ⟨q1, hw⟩ := hw
  refine r_getI d_M_columnLine_1 ok_12 (nle rfl) (nle rfl) rfl lf_M_202 q1 ?_
  refine r_istore_n (ls2 := [(1, ai (gI h v0 16)), (0, ar v0)]) d_M_columnLine_4 (nle rfl) rfl ?_
  refine r_iload_n (j := 0) d_M_columnLine_5 rfl ?_
  refine r_bipush d_M_columnLine_6 kb_8 ?_
  refine r_icmp_ne d_M_columnLine_8 (fun w9 => ?_) (fun w9 => ?_)
  · replace hw := hw.2 w9
    refine r_pick (ls2 := [(0, ar v0), (1, ai (gI h v0 16))]) [1, 0] rfl ?_
    exact s_M_columnLine_B16 hd hQ  hw
  · replace hw := hw.1 w9
    refine r_aload_n (j := 1) d_M_columnLine_11 rfl ?_
    refine r_iconst d_M_columnLine_12 kc_2 ?_
    refine r_callV (av := [ai (2 : Int32)]) (rest := []) (ci := 12) d_M_columnLine_13 mk_M_wrong ll_M_185 im_M_wrong se_M_wrong rfl (nle rfl) rfl rfl (nle rfl) q1 (s_M_wrong  hw (fun h44 hw => ?_))
    show aW none m_M_columnLine (d + 1) 16 [(1, ai (gI h v0 16)), (0, ar v0)] [] h44 0 0 QQ
    refine r_pick (ls2 := [(0, ar v0), (1, ai (gI h v0 16))]) [1, 0] rfl ?_
    exact s_M_columnLine_B16 hd hQ  hw
set_option maxRecDepth 100000 in
set_option maxHeartbeats 4000000 in
theorem s_M_needLine_L30 {d : Nat} (hd : 4 ≤ d + 1) {Q : Hp → Prop} {QQ : Option AV → Hp → Prop} (hQ : ∀ h9, Q h9 → QQ none h9) {v0 : Nat} : ∀ (n : Nat) (v1 : Int32) (h : Hp), w_M_needLine_L30 Q  v0 n v1 h → aW none m_M_needLine (d + 1) 30 [(0, ar v0), (1, ai v1)] [] h 0 0 QQ := by
  intro n
  induction n with
  | zero => intro v1 h hw; exact hw.elim
  | succ n ih =>
    intro v1 h hw
    unfold w_M_needLine_L30 at hw
    refine r_iload_n (j := 1) d_M_needLine_30 rfl ?_
    refine r_aload_n (j := 0) d_M_needLine_31 rfl ?_
    obtain ⟨q5, hw⟩ := hw
    refine r_getI d_M_needLine_32 ok_12 (nle rfl) (nle rfl) rfl lf_M_199 q5 ?_
    refine r_icmp_ge d_M_needLine_35 (fun w9 => ?_) (fun w9 => ?_)
    · replace hw := hw.1 w9
      exact r_return d_M_needLine_59.1 rfl (hQ _ hw)
    · replace hw := hw.2 w9
      refine r_aload_n (j := 0) d_M_needLine_38 rfl ?_
      refine r_getR d_M_needLine_39 ok_12 (nle rfl) (nle rfl) rfl lf_M_20 q5 ?_
      refine r_bipush d_M_needLine_42 kb_32 ?_
      refine r_iload_n (j := 1) d_M_needLine_44 rfl ?_
      refine r_iadd d_M_needLine_45 ?_
      refine r_aload_n (j := 0) d_M_needLine_46 rfl ?_
      refine r_bipush d_M_needLine_47 kb_20 ?_
      refine r_callV (av := [ai (20 : Int32)]) (rest := [ai ((32 : Int32) + v1), ar (gR h v0 12)]) (ci := 12) d_M_needLine_49 mk_M_signed ll_M_225 im_M_signed se_M_signed rfl (nle rfl) rfl rfl (nle rfl) q5 (s_M_signed (by omega) hw (fun r7 h6 hw => ?_))
      show aW none m_M_needLine (d + 1) 52 [(0, ar v0), (1, ai v1)] [ai r7, ai ((32 : Int32) + v1), ar (gR h v0 12)] h6 0 0 QQ
      obtain ⟨q8, hw⟩ := hw
      obtain ⟨q9, hw⟩ := hw
      refine r_iast d_M_needLine_52 q8 q9 ?_
      refine r_iinc (j := 1) (ls2 := [(1, ai (v1 + (1 : Int32))), (0, ar v0)]) d_M_needLine_53 rfl (congrArg (HAdd.hAdd v1) kc_1) (nle rfl) rfl ?_
      refine r_goto d_M_needLine_56 ?_
      refine r_pick (ls2 := [(0, ar v0), (1, ai (v1 + (1 : Int32)))]) [1, 0] rfl ?_
      exact ih _ _ hw
set_option maxRecDepth 100000 in
set_option maxHeartbeats 4000000 in
theorem s_M_needLine_B12 {d : Nat} (hd : 4 ≤ d + 1) {Q : Hp → Prop} {QQ : Option AV → Hp → Prop} (hQ : ∀ h9, Q h9 → QQ none h9) {v0 : Nat} {h : Hp} (hw : w_M_needLine_B12 Q  v0 h) : aW none m_M_needLine (d + 1) 12 [(0, ar v0)] [] h 0 0 QQ := by
  unfold w_M_needLine_B12 at hw
  refine r_aload_n (j := 0) d_M_needLine_12 rfl ?_
  refine r_iconst d_M_needLine_13 kc_1 ?_
  obtain ⟨q2, hw⟩ := hw
  refine r_putZ d_M_needLine_14 ok_12 (nle rfl) (nle rfl) rfl lf_M_209 rfl q2 (Or.inr rfl) ?_
  refine r_aload_n (j := 0) d_M_needLine_17 rfl ?_
  refine r_callV (av := []) (rest := []) (ci := 12) d_M_needLine_18 mk_M_isGood ll_M_188 im_M_isGood se_M_isGood rfl (nle rfl) rfl rfl (nle rfl) (kt eKI q2) (s_M_isGood  hw (fun r4 h3 hw => ?_))
  show aW none m_M_needLine (d + 1) 21 [(0, ar v0)] [ai (b2i r4)] h3 0 0 QQ
  refine r_if_eq d_M_needLine_21 (fun w9 => ?_) (fun w9 => ?_)
  · replace hw := hw.1 (b2i_0.mp w9)
    refine r_iconst d_M_needLine_28 kc_0 ?_
    refine r_istore_n (ls2 := [(1, ai (0 : Int32)), (0, ar v0)]) d_M_needLine_29 (nle rfl) rfl ?_
    obtain ⟨n10, hw⟩ := hw
    refine r_pick (ls2 := [(0, ar v0), (1, ai (0 : Int32))]) [1, 0] rfl ?_
    exact s_M_needLine_L30 hd hQ  n10 _ _ hw
  · replace hw := hw.2 (fun g9 => w9 (b2i_0.mpr g9))
    refine r_aload_n (j := 0) d_M_needLine_24 rfl ?_
    obtain ⟨q12, hw⟩ := hw
    refine r_callV (av := []) (rest := []) (ci := 12) d_M_needLine_25 mk_M_goOn ll_M_192 im_M_goOn se_M_goOn rfl (nle rfl) rfl rfl (nle rfl) q12 (s_M_goOn (by omega) hw (fun h11 hw => ?_))
    show aW none m_M_needLine (d + 1) 28 [(0, ar v0)] [] h11 0 0 QQ
    refine r_iconst d_M_needLine_28 kc_0 ?_
    refine r_istore_n (ls2 := [(1, ai (0 : Int32)), (0, ar v0)]) d_M_needLine_29 (nle rfl) rfl ?_
    obtain ⟨n13, hw⟩ := hw
    refine r_pick (ls2 := [(0, ar v0), (1, ai (0 : Int32))]) [1, 0] rfl ?_
    exact s_M_needLine_L30 hd hQ  n13 _ _ hw
set_option maxRecDepth 100000 in
set_option maxHeartbeats 4000000 in
theorem s_M_needLine {d : Nat} (hd : 4 ≤ d) {v0 : Nat} {h : Hp} {Q : Hp → Prop} {QQ : Option AV → Hp → Prop} (hw : w_M_needLine v0 h Q) (hQ : ∀ h9, Q h9 → QQ none h9) : aCall m_M_needLine d [ar v0] h 0 0 QQ := by
  obtain ⟨d, rfl⟩ : ∃ d9, d = d9 + 1 := ⟨d - 1, by omega⟩
  refine aCall_in pl_M_needLine (nle rfl) ?_
  show aW none m_M_needLine (d + 1) 0 [(0, ar v0)] [] h 0 0 QQ
  unfold w_M_needLine at hw
  refine r_aload_n (j := 0) d_M_needLine_0 rfl ?_
  obtain ⟨q1, hw⟩ := hw
  refine r_getI d_M_needLine_1 ok_12 (nle rfl) (nle rfl) rfl lf_M_209 q1 ?_
  refine r_if_eq d_M_needLine_4 (fun w9 => ?_) (fun w9 => ?_)
  · replace hw := hw.1 w9
    exact s_M_needLine_B12 hd hQ  hw
  · replace hw := hw.2 w9
    refine r_aload_n (j := 0) d_M_needLine_7 rfl ?_
    refine r_iconst d_M_needLine_8 kc_3 ?_
    refine r_callV (av := [ai (3 : Int32)]) (rest := []) (ci := 12) d_M_needLine_9 mk_M_wrong ll_M_185 im_M_wrong se_M_wrong rfl (nle rfl) rfl rfl (nle rfl) q1 (s_M_wrong  hw (fun h14 hw => ?_))
    show aW none m_M_needLine (d + 1) 12 [(0, ar v0)] [] h14 0 0 QQ
    exact s_M_needLine_B12 hd hQ  hw
set_option maxRecDepth 100000 in
set_option maxHeartbeats 4000000 in
theorem s_M_stepsLine_B28 {d : Nat} (hd : 3 ≤ d + 1) {Q : Hp → Prop} {QQ : Option AV → Hp → Prop} (hQ : ∀ h9, Q h9 → QQ none h9) {v0 : Nat} {h : Hp} (hw : w_M_stepsLine_B28 Q  v0 h) : aW none m_M_stepsLine (d + 1) 28 [(0, ar v0)] [] h 0 0 QQ := by
  unfold w_M_stepsLine_B28 at hw
  refine r_aload_n (j := 0) d_M_stepsLine_28 rfl ?_
  obtain ⟨q5, hw⟩ := hw
  refine r_getR d_M_stepsLine_29 ok_12 (nle rfl) (nle rfl) rfl lf_M_20 q5 ?_
  refine r_bipush d_M_stepsLine_32 kb_35 ?_
  refine r_aload_n (j := 0) d_M_stepsLine_34 rfl ?_
  refine r_iconst d_M_stepsLine_35 kc_1 ?_
  refine r_bipush d_M_stepsLine_36 kb_12 ?_
  refine r_callV (av := [ai (1 : Int32), ai (12 : Int32)]) (rest := [ai (35 : Int32), ar (gR h v0 12)]) (ci := 12) d_M_stepsLine_38 mk_M_numberIn ll_M_195 im_M_numberIn se_M_numberIn rfl (nle rfl) rfl rfl (nle rfl) q5 (s_M_numberIn (by omega) hw (fun r7 h6 hw => ?_))
  show aW none m_M_stepsLine (d + 1) 41 [(0, ar v0)] [ai r7, ai (35 : Int32), ar (gR h v0 12)] h6 0 0 QQ
  obtain ⟨q8, hw⟩ := hw
  obtain ⟨q9, hw⟩ := hw
  refine r_iast d_M_stepsLine_41 q8 q9 ?_
  exact r_return d_M_stepsLine_42.1 rfl (hQ _ hw)
set_option maxRecDepth 100000 in
set_option maxHeartbeats 4000000 in
theorem s_M_stepsLine_B12 {d : Nat} (hd : 3 ≤ d + 1) {Q : Hp → Prop} {QQ : Option AV → Hp → Prop} (hQ : ∀ h9, Q h9 → QQ none h9) {v0 : Nat} {h : Hp} (hw : w_M_stepsLine_B12 Q  v0 h) : aW none m_M_stepsLine (d + 1) 12 [(0, ar v0)] [] h 0 0 QQ := by
  unfold w_M_stepsLine_B12 at hw
  refine r_aload_n (j := 0) d_M_stepsLine_12 rfl ?_
  refine r_iconst d_M_stepsLine_13 kc_1 ?_
  obtain ⟨q2, hw⟩ := hw
  refine r_putZ d_M_stepsLine_14 ok_12 (nle rfl) (nle rfl) rfl lf_M_212 rfl q2 (Or.inr rfl) ?_
  refine r_aload_n (j := 0) d_M_stepsLine_17 rfl ?_
  refine r_callV (av := []) (rest := []) (ci := 12) d_M_stepsLine_18 mk_M_isGood ll_M_188 im_M_isGood se_M_isGood rfl (nle rfl) rfl rfl (nle rfl) (kt eKI q2) (s_M_isGood  hw (fun r4 h3 hw => ?_))
  show aW none m_M_stepsLine (d + 1) 21 [(0, ar v0)] [ai (b2i r4)] h3 0 0 QQ
  refine r_if_eq d_M_stepsLine_21 (fun w9 => ?_) (fun w9 => ?_)
  · replace hw := hw.1 (b2i_0.mp w9)
    exact s_M_stepsLine_B28 hd hQ  hw
  · replace hw := hw.2 (fun g9 => w9 (b2i_0.mpr g9))
    refine r_aload_n (j := 0) d_M_stepsLine_24 rfl ?_
    obtain ⟨q11, hw⟩ := hw
    refine r_callV (av := []) (rest := []) (ci := 12) d_M_stepsLine_25 mk_M_goOn ll_M_192 im_M_goOn se_M_goOn rfl (nle rfl) rfl rfl (nle rfl) q11 (s_M_goOn (by omega) hw (fun h10 hw => ?_))
    show aW none m_M_stepsLine (d + 1) 28 [(0, ar v0)] [] h10 0 0 QQ
    exact s_M_stepsLine_B28 hd hQ  hw
set_option maxRecDepth 100000 in
set_option maxHeartbeats 4000000 in
theorem s_M_stepsLine {d : Nat} (hd : 3 ≤ d) {v0 : Nat} {h : Hp} {Q : Hp → Prop} {QQ : Option AV → Hp → Prop} (hw : w_M_stepsLine v0 h Q) (hQ : ∀ h9, Q h9 → QQ none h9) : aCall m_M_stepsLine d [ar v0] h 0 0 QQ := by
  obtain ⟨d, rfl⟩ : ∃ d9, d = d9 + 1 := ⟨d - 1, by omega⟩
  refine aCall_in pl_M_stepsLine (nle rfl) ?_
  show aW none m_M_stepsLine (d + 1) 0 [(0, ar v0)] [] h 0 0 QQ
  unfold w_M_stepsLine at hw
  refine r_aload_n (j := 0) d_M_stepsLine_0 rfl ?_
  obtain ⟨q1, hw⟩ := hw
  refine r_getI d_M_stepsLine_1 ok_12 (nle rfl) (nle rfl) rfl lf_M_212 q1 ?_
  refine r_if_eq d_M_stepsLine_4 (fun w9 => ?_) (fun w9 => ?_)
  · replace hw := hw.1 w9
    exact s_M_stepsLine_B12 hd hQ  hw
  · replace hw := hw.2 w9
    refine r_aload_n (j := 0) d_M_stepsLine_7 rfl ?_
    refine r_iconst d_M_stepsLine_8 kc_3 ?_
    refine r_callV (av := [ai (3 : Int32)]) (rest := []) (ci := 12) d_M_stepsLine_9 mk_M_wrong ll_M_185 im_M_wrong se_M_wrong rfl (nle rfl) rfl rfl (nle rfl) q1 (s_M_wrong  hw (fun h12 hw => ?_))
    show aW none m_M_stepsLine (d + 1) 12 [(0, ar v0)] [] h12 0 0 QQ
    exact s_M_stepsLine_B12 hd hQ  hw
set_option maxRecDepth 100000 in
set_option maxHeartbeats 4000000 in
theorem s_M_line_B98 {d : Nat} (hd : 5 ≤ d + 1) {Q : Hp → Prop} {QQ : Option AV → Hp → Prop} (hQ : ∀ h9, Q h9 → QQ none h9) {v0 : Nat} {h : Hp} (hw : w_M_line_B98 Q  v0 h) : aW none m_M_line (d + 1) 98 [(0, ar v0)] [] h 0 0 QQ := by
  unfold w_M_line_B98 at hw
  refine r_aload_n (j := 0) d_M_line_98 rfl ?_
  obtain ⟨q20, hw⟩ := hw
  refine r_callV (av := []) (rest := []) (ci := 12) d_M_line_99 mk_M_isGood ll_M_188 im_M_isGood se_M_isGood rfl (nle rfl) rfl rfl (nle rfl) q20 (s_M_isGood  hw (fun r19 h18 hw => ?_))
  show aW none m_M_line (d + 1) 102 [(0, ar v0)] [ai (b2i r19)] h18 0 0 QQ
  refine r_if_eq d_M_line_102 (fun w9 => ?_) (fun w9 => ?_)
  · replace hw := hw.1 (b2i_0.mp w9)
    exact r_return d_M_line_109.1 rfl (hQ _ hw)
  · replace hw := hw.2 (fun g9 => w9 (b2i_0.mpr g9))
    refine r_aload_n (j := 0) d_M_line_105 rfl ?_
    obtain ⟨q22, hw⟩ := hw
    refine r_callV (av := []) (rest := []) (ci := 12) d_M_line_106 mk_M_goOn ll_M_192 im_M_goOn se_M_goOn rfl (nle rfl) rfl rfl (nle rfl) q22 (s_M_goOn (by omega) hw (fun h21 hw => ?_))
    show aW none m_M_line (d + 1) 109 [(0, ar v0)] [] h21 0 0 QQ
    exact r_return d_M_line_109.1 rfl (hQ _ hw)
set_option maxRecDepth 100000 in
set_option maxHeartbeats 4000000 in
theorem s_M_line_B73 {d : Nat} (hd : 5 ≤ d + 1) {Q : Hp → Prop} {QQ : Option AV → Hp → Prop} (hQ : ∀ h9, Q h9 → QQ none h9) {v0 : Nat} {h : Hp} (hw : w_M_line_B73 Q  v0 h) : aW none m_M_line (d + 1) 73 [(0, ar v0)] [] h 0 0 QQ := by
  unfold w_M_line_B73 at hw
  refine r_aload_n (j := 0) d_M_line_73 rfl ?_
  refine r_iconst d_M_line_74 kc_1 ?_
  obtain ⟨q15, hw⟩ := hw
  refine r_putZ d_M_line_75 ok_12 (nle rfl) (nle rfl) rfl lf_M_205 rfl q15 (Or.inr rfl) ?_
  refine r_aload_n (j := 0) d_M_line_78 rfl ?_
  refine r_callV (av := []) (rest := []) (ci := 12) d_M_line_79 mk_M_isGood ll_M_188 im_M_isGood se_M_isGood rfl (nle rfl) rfl rfl (nle rfl) (kt eKI q15) (s_M_isGood  hw (fun r17 h16 hw => ?_))
  show aW none m_M_line (d + 1) 82 [(0, ar v0)] [ai (b2i r17)] h16 0 0 QQ
  refine r_if_eq d_M_line_82 (fun w9 => ?_) (fun w9 => ?_)
  · replace hw := hw.1 (b2i_0.mp w9)
    exact s_M_line_B98 hd hQ  hw
  · replace hw := hw.2 (fun g9 => w9 (b2i_0.mpr g9))
    refine r_aload_n (j := 0) d_M_line_85 rfl ?_
    obtain ⟨q23, hw⟩ := hw
    refine r_getI d_M_line_86 ok_12 (nle rfl) (nle rfl) rfl lf_M_172 q23 ?_
    refine r_iconst d_M_line_89 kc_3 ?_
    refine r_icmp_eq d_M_line_90 (fun w9 => ?_) (fun w9 => ?_)
    · replace hw := hw.1 w9
      exact s_M_line_B98 hd hQ  hw
    · replace hw := hw.2 w9
      refine r_aload_n (j := 0) d_M_line_93 rfl ?_
      refine r_iconst d_M_line_94 kc_2 ?_
      refine r_callV (av := [ai (2 : Int32)]) (rest := []) (ci := 12) d_M_line_95 mk_M_wrong ll_M_185 im_M_wrong se_M_wrong rfl (nle rfl) rfl rfl (nle rfl) q23 (s_M_wrong  hw (fun h24 hw => ?_))
      show aW none m_M_line (d + 1) 98 [(0, ar v0)] [] h24 0 0 QQ
      exact s_M_line_B98 hd hQ  hw
