set_option maxRecDepth 100000 in
set_option maxHeartbeats 4000000 in
theorem s_M_ask_L69 {d : Nat} (hd : 4 ≤ d + 1) {Q : Int32 → Hp → Prop} {QQ : Option AV → Hp → Prop} (hQ : ∀ r9 h9, Q r9 h9 → QQ (some (ai r9)) h9) {v0 : Nat} {v2 : Int32} {v4 : Int32} {v5 : Int32} {v6 : Int32} {v7 : Int32} {k56 : Int32 → Int32 → Int32 → Hp → Prop} (hk56 : ∀ v5 v6 v7 h9, k56 v5 v6 v7 h9 → aW none m_M_ask (d + 1) 56 [(0, ar v0), (2, ai v2), (4, ai v4), (5, ai v5), (6, ai v6), (7, ai v7)] [] h9 0 0 QQ) : ∀ (n : Nat) (v8 : Int32) (v9 : Int32) (h : Hp), w_M_ask_L69 Q k56 v0 v2 v4 v5 v6 v7 n v8 v9 h → aW none m_M_ask (d + 1) 69 [(0, ar v0), (2, ai v2), (4, ai v4), (5, ai v5), (6, ai v6), (7, ai v7), (8, ai v8), (9, ai v9)] [] h 0 0 QQ := by
  intro n
  induction n with
  | zero => intro v8 v9 h hw; exact hw.elim
  | succ n ih =>
    intro v8 v9 h hw
    unfold w_M_ask_L69 at hw
    refine r_iload (j := 7) d_M_ask_69 rfl ?_
    refine r_aload_n (j := 0) d_M_ask_71 rfl ?_
    obtain ⟨q10, hw⟩ := hw
    refine r_getI d_M_ask_72 ok_12 (nle rfl) (nle rfl) rfl lf_M_247 q10 ?_
    refine r_icmp_ge d_M_ask_75 (fun w9 => ?_) (fun w9 => ?_)
    · replace hw := hw.1 w9
      refine r_iload (j := 6) d_M_ask_130 rfl ?_
      refine r_iload (j := 2) d_M_ask_132 rfl ?_
      refine r_iload (j := 6) d_M_ask_134 rfl ?_
      refine r_isub d_M_ask_136 ?_
      refine r_callS (av := [ai v8, ai (v4 - v8)]) (rest := []) d_M_ask_137 mk_M_greater ll_M_343 st_M_greater rfl rfl (nle rfl) (s_M_greater  hw (fun r12 h11 hw => ?_))
      show aW none m_M_ask (d + 1) 140 [(0, ar v0), (2, ai v2), (4, ai v4), (5, ai v5), (6, ai v6), (7, ai v7), (8, ai v8), (9, ai v9)] [ai r12] h11 0 0 QQ
      refine r_istore (ls2 := [(9, ai r12), (0, ar v0), (2, ai v2), (4, ai v4), (5, ai v5), (6, ai v6), (7, ai v7), (8, ai v8)]) d_M_ask_140 (nle rfl) rfl ?_
      refine r_iload (j := 4) d_M_ask_142 rfl ?_
      refine r_ldcw d_M_ask_144 lc_M_277 ?_
      refine r_icmp_eq d_M_ask_147 (fun w9 => ?_) (fun w9 => ?_)
      · replace hw := hw.1 w9
        refine r_iload (j := 6) d_M_ask_160 rfl ?_
        refine r_istore (ls2 := [(5, ai v7), (9, ai r12), (0, ar v0), (2, ai v2), (4, ai v4), (6, ai v6), (7, ai v7), (8, ai v8)]) d_M_ask_162 (nle rfl) rfl ?_
        refine r_iload (j := 1) d_M_ask_164 rfl ?_
        refine r_istore (ls2 := [(6, ai r12), (5, ai v7), (9, ai r12), (0, ar v0), (2, ai v2), (4, ai v4), (7, ai v7), (8, ai v8)]) d_M_ask_166 (nle rfl) rfl ?_
        refine r_iinc (j := 6) (ls2 := [(7, ai (v7 + (1 : Int32))), (6, ai r12), (5, ai v7), (9, ai r12), (0, ar v0), (2, ai v2), (4, ai v4), (8, ai v8)]) d_M_ask_168 rfl (congrArg (HAdd.hAdd v7) kc_1) (nle rfl) rfl ?_
        refine r_goto d_M_ask_171 ?_
        refine r_pick (ls2 := [(0, ar v0), (2, ai v2), (4, ai v4), (5, ai v7), (6, ai r12), (7, ai (v7 + (1 : Int32)))]) [4, 5, 6, 2, 1, 0] rfl ?_
        exact hk56 _ _ _ _ hw
      · replace hw := hw.2 w9
        refine r_iload (j := 0) d_M_ask_150 rfl ?_
        refine r_iload (j := 5) d_M_ask_152 rfl ?_
        refine r_icmp_lt d_M_ask_154 (fun w9 => ?_) (fun w9 => ?_)
        · replace hw := hw.1 w9
          refine r_iload (j := 6) d_M_ask_160 rfl ?_
          refine r_istore (ls2 := [(5, ai v7), (9, ai r12), (0, ar v0), (2, ai v2), (4, ai v4), (6, ai v6), (7, ai v7), (8, ai v8)]) d_M_ask_162 (nle rfl) rfl ?_
          refine r_iload (j := 1) d_M_ask_164 rfl ?_
          refine r_istore (ls2 := [(6, ai r12), (5, ai v7), (9, ai r12), (0, ar v0), (2, ai v2), (4, ai v4), (7, ai v7), (8, ai v8)]) d_M_ask_166 (nle rfl) rfl ?_
          refine r_iinc (j := 6) (ls2 := [(7, ai (v7 + (1 : Int32))), (6, ai r12), (5, ai v7), (9, ai r12), (0, ar v0), (2, ai v2), (4, ai v4), (8, ai v8)]) d_M_ask_168 rfl (congrArg (HAdd.hAdd v7) kc_1) (nle rfl) rfl ?_
          refine r_goto d_M_ask_171 ?_
          refine r_pick (ls2 := [(0, ar v0), (2, ai v2), (4, ai v4), (5, ai v7), (6, ai r12), (7, ai (v7 + (1 : Int32)))]) [4, 5, 6, 2, 1, 0] rfl ?_
          exact hk56 _ _ _ _ hw
        · replace hw := hw.2 w9
          refine r_goto d_M_ask_157 ?_
          refine r_iinc (j := 6) (ls2 := [(7, ai (v7 + (1 : Int32))), (9, ai r12), (0, ar v0), (2, ai v2), (4, ai v4), (5, ai v5), (6, ai v6), (8, ai v8)]) d_M_ask_168 rfl (congrArg (HAdd.hAdd v7) kc_1) (nle rfl) rfl ?_
          refine r_goto d_M_ask_171 ?_
          refine r_pick (ls2 := [(0, ar v0), (2, ai v2), (4, ai v4), (5, ai v5), (6, ai v6), (7, ai (v7 + (1 : Int32)))]) [2, 3, 4, 5, 6, 0] rfl ?_
          exact hk56 _ _ _ _ hw
    · replace hw := hw.2 w9
      refine r_iload (j := 6) d_M_ask_78 rfl ?_
      refine r_aload_n (j := 0) d_M_ask_80 rfl ?_
      refine r_getR d_M_ask_81 ok_12 (nle rfl) (nle rfl) rfl lf_M_122 q10 ?_
      refine r_iload (j := 7) d_M_ask_84 rfl ?_
      refine r_iconst d_M_ask_86 kc_1 ?_
      refine r_iadd d_M_ask_87 ?_
      obtain ⟨q13, hw⟩ := hw
      obtain ⟨q14, hw⟩ := hw
      refine r_zald d_M_ask_88 q13 q14 ?_
      refine r_if_eq d_M_ask_89 (fun w9 => ?_) (fun w9 => ?_)
      · replace hw := hw.1 w9
        refine r_pick (ls2 := [(0, ar v0), (2, ai v2), (4, ai v4), (5, ai v5), (6, ai v6), (7, ai v7), (9, ai v9)]) [0, 1, 2, 3, 4, 5, 7] rfl ?_
        exact s_M_ask_B117 hd hQ hk56 ih hw
      · replace hw := hw.2 w9
        refine r_aload_n (j := 0) d_M_ask_92 rfl ?_
        refine r_getR d_M_ask_93 ok_12 (nle rfl) (nle rfl) rfl lf_M_126 q10 ?_
        refine r_bipush d_M_ask_96 kb_41 ?_
        refine r_iload (j := 7) d_M_ask_98 rfl ?_
        refine r_iconst d_M_ask_100 kc_1 ?_
        refine r_iadd d_M_ask_101 ?_
        refine r_imul d_M_ask_102 ?_
        refine r_iload (j := 5) d_M_ask_103 rfl ?_
        refine r_iadd d_M_ask_105 ?_
        refine r_bipush d_M_ask_106 kb_20 ?_
        refine r_iadd d_M_ask_108 ?_
        obtain ⟨q17, hw⟩ := hw
        obtain ⟨q18, hw⟩ := hw
        refine r_zald d_M_ask_109 q17 q18 ?_
        refine r_if_eq d_M_ask_110 (fun w9 => ?_) (fun w9 => ?_)
        · replace hw := hw.1 w9
          refine r_pick (ls2 := [(0, ar v0), (2, ai v2), (4, ai v4), (5, ai v5), (6, ai v6), (7, ai v7), (9, ai v9)]) [0, 1, 2, 3, 4, 5, 7] rfl ?_
          exact s_M_ask_B117 hd hQ hk56 ih hw
        · replace hw := hw.2 w9
          refine r_iconst d_M_ask_113 kc_1 ?_
          refine r_goto d_M_ask_114 ?_
          refine r_pick (ls2 := [(0, ar v0), (2, ai v2), (4, ai v4), (5, ai v5), (6, ai v6), (7, ai v7), (9, ai v9)]) [0, 1, 2, 3, 4, 5, 7] rfl ?_
          exact s_M_ask_B118 hd hQ hk56 ih hw
set_option maxRecDepth 100000 in
set_option maxHeartbeats 4000000 in
theorem s_M_ask_L56 {d : Nat} (hd : 4 ≤ d + 1) {Q : Int32 → Hp → Prop} {QQ : Option AV → Hp → Prop} (hQ : ∀ r9 h9, Q r9 h9 → QQ (some (ai r9)) h9) {v0 : Nat} {v2 : Int32} {v4 : Int32} : ∀ (n : Nat) (v5 : Int32) (v6 : Int32) (v7 : Int32) (h : Hp), w_M_ask_L56 Q  v0 v2 v4 n v5 v6 v7 h → aW none m_M_ask (d + 1) 56 [(0, ar v0), (2, ai v2), (4, ai v4), (5, ai v5), (6, ai v6), (7, ai v7)] [] h 0 0 QQ := by
  intro n
  induction n with
  | zero => intro v5 v6 v7 h hw; exact hw.elim
  | succ n ih =>
    intro v5 v6 v7 h hw
    unfold w_M_ask_L56 at hw
    refine r_iload (j := 5) d_M_ask_56 rfl ?_
    refine r_bipush d_M_ask_58 kb_20 ?_
    refine r_icmp_gt d_M_ask_60 (fun w9 => ?_) (fun w9 => ?_)
    · replace hw := hw.1 w9
      refine r_iload_n (j := 1) d_M_ask_174 rfl ?_
      refine r_if_ne d_M_ask_175 (fun w9 => ?_) (fun w9 => ?_)
      · replace hw := hw.2 w9
        refine r_iload (j := 4) d_M_ask_183 rfl ?_
        exact r_ireturn d_M_ask_185.1 rfl (hQ _ _ hw)
      · replace hw := hw.1 w9
        refine r_iload (j := 3) d_M_ask_178 rfl ?_
        refine r_goto d_M_ask_180 ?_
        exact r_ireturn d_M_ask_185.1 rfl (hQ _ _ hw)
    · replace hw := hw.2 w9
      refine r_iconst d_M_ask_63 kc_0 ?_
      refine r_istore (ls2 := [(8, ai (0 : Int32)), (0, ar v0), (2, ai v2), (4, ai v4), (5, ai v5), (6, ai v6), (7, ai v7)]) d_M_ask_64 (nle rfl) rfl ?_
      refine r_iconst d_M_ask_66 kc_m1 ?_
      refine r_istore (ls2 := [(9, ai (-1 : Int32)), (8, ai (0 : Int32)), (0, ar v0), (2, ai v2), (4, ai v4), (5, ai v5), (6, ai v6), (7, ai v7)]) d_M_ask_67 (nle rfl) rfl ?_
      obtain ⟨n19, hw⟩ := hw
      refine r_pick (ls2 := [(0, ar v0), (2, ai v2), (4, ai v4), (5, ai v5), (6, ai v6), (7, ai v7), (8, ai (0 : Int32)), (9, ai (-1 : Int32))]) [2, 3, 4, 5, 6, 7, 1, 0] rfl ?_
      exact s_M_ask_L69 hd hQ ih n19 _ _ _ hw
set_option maxRecDepth 100000 in
set_option maxHeartbeats 4000000 in
theorem s_M_ask {d : Nat} (hd : 4 ≤ d) {v0 : Nat} {v1 : Int32} {v2 : Int32} {v3 : Int32} {h : Hp} {Q : Int32 → Hp → Prop} {QQ : Option AV → Hp → Prop} (hw : w_M_ask v0 v1 v2 v3 h Q) (hQ : ∀ r9 h9, Q r9 h9 → QQ (some (ai r9)) h9) : aCall m_M_ask d [ar v0, ai v1, ai v2, ai v3] h 0 0 QQ := by
  obtain ⟨d, rfl⟩ : ∃ d9, d = d9 + 1 := ⟨d - 1, by omega⟩
  refine aCall_in pl_M_ask (nle rfl) ?_
  show aW none m_M_ask (d + 1) 0 [(0, ar v0), (1, ai v1), (2, ai v2), (3, ai v3)] [] h 0 0 QQ
  unfold w_M_ask at hw
  refine r_iload_n (j := 1) d_M_ask_0 rfl ?_
  refine r_iconst d_M_ask_1 kc_0 ?_
  refine r_bipush d_M_ask_2 kb_8 ?_
  refine r_callS (av := [ai v1, ai (0 : Int32), ai (8 : Int32)]) (rest := []) d_M_ask_4 mk_M_isIn ll_M_148 st_M_isIn rfl rfl (nle rfl) (s_M_isIn  hw (fun r2 h1 hw => ?_))
  show aW none m_M_ask (d + 1) 7 [(0, ar v0), (1, ai v1), (2, ai v2), (3, ai v3)] [ai (b2i r2)] h1 0 0 QQ
  refine r_if_eq d_M_ask_7 (fun w9 => ?_) (fun w9 => ?_)
  · replace hw := hw.1 (b2i_0.mp w9)
    refine r_ldcw d_M_ask_19 lc_M_277 ?_
    exact r_ireturn d_M_ask_22.1 rfl (hQ _ _ hw)
  · replace hw := hw.2 (fun g9 => w9 (b2i_0.mpr g9))
    refine r_iload_n (j := 2) d_M_ask_10 rfl ?_
    refine r_iconst d_M_ask_11 kc_0 ?_
    refine r_iconst d_M_ask_12 kc_1 ?_
    refine r_callS (av := [ai v2, ai (0 : Int32), ai (1 : Int32)]) (rest := []) d_M_ask_13 mk_M_isIn ll_M_148 st_M_isIn rfl rfl (nle rfl) (s_M_isIn  hw (fun r4 h3 hw => ?_))
    show aW none m_M_ask (d + 1) 16 [(0, ar v0), (1, ai v1), (2, ai v2), (3, ai v3)] [ai (b2i r4)] h3 0 0 QQ
    refine r_if_ne d_M_ask_16 (fun w9 => ?_) (fun w9 => ?_)
    · replace hw := hw.2 (fun g9 => w9 (b2i_0.mpr g9))
      refine r_aload_n (j := 0) d_M_ask_23 rfl ?_
      refine r_iload_n (j := 3) d_M_ask_24 rfl ?_
      obtain ⟨q7, hw⟩ := hw
      refine r_callV (av := [ai v3]) (rest := []) (ci := 12) d_M_ask_25 mk_M_laysFits ll_M_546 im_M_laysFits se_M_laysFits rfl (nle rfl) rfl rfl (nle rfl) q7 (s_M_laysFits (by omega) hw (fun r6 h5 hw => ?_))
      show aW none m_M_ask (d + 1) 28 [(0, ar v0), (1, ai v1), (2, ai v2), (3, ai v3)] [ai r6] h5 0 0 QQ
      refine r_istore (ls2 := [(4, ai r6), (0, ar v0), (1, ai v1), (2, ai v2), (3, ai v3)]) d_M_ask_28 (nle rfl) rfl ?_
      refine r_iload (j := 0) d_M_ask_30 rfl ?_
      refine r_if_ne d_M_ask_32 (fun w9 => ?_) (fun w9 => ?_)
      · replace hw := hw.2 w9
        refine r_aload_n (j := 1) d_M_ask_39 rfl ?_
        refine r_iload_n (j := 2) d_M_ask_40 rfl ?_
        obtain ⟨q9, hw⟩ := hw
        refine r_callV (av := [ai v1]) (rest := []) (ci := 12) d_M_ask_41 mk_M_laysFirst ll_M_549 im_M_laysFirst se_M_laysFirst rfl (nle rfl) rfl rfl (nle rfl) q9 (s_M_laysFirst (by omega) hw (fun h8 hw => ?_))
        show aW none m_M_ask (d + 1) 44 [(4, ai r6), (0, ar v0), (1, ai v1), (2, ai v2), (3, ai v3)] [] h8 0 0 QQ
        refine r_ldcw d_M_ask_44 lc_M_277 ?_
        refine r_istore (ls2 := [(5, ai (-1000001 : Int32)), (4, ai r6), (0, ar v0), (1, ai v1), (2, ai v2), (3, ai v3)]) d_M_ask_47 (nle rfl) rfl ?_
        refine r_iconst d_M_ask_49 kc_0 ?_
        refine r_istore (ls2 := [(6, ai (0 : Int32)), (5, ai (-1000001 : Int32)), (4, ai r6), (0, ar v0), (1, ai v1), (2, ai v2), (3, ai v3)]) d_M_ask_50 (nle rfl) rfl ?_
        refine r_bipush d_M_ask_52 kb_m20 ?_
        refine r_istore (ls2 := [(7, ai (-20 : Int32)), (6, ai (0 : Int32)), (5, ai (-1000001 : Int32)), (4, ai r6), (0, ar v0), (1, ai v1), (2, ai v2), (3, ai v3)]) d_M_ask_54 (nle rfl) rfl ?_
        obtain ⟨n20, hw⟩ := hw
        refine r_pick (ls2 := [(0, ar v0), (2, ai v2), (4, ai r6), (5, ai (-1000001 : Int32)), (6, ai (0 : Int32)), (7, ai (-20 : Int32))]) [4, 6, 3, 2, 1, 0] rfl ?_
        exact s_M_ask_L56 hd hQ  n20 _ _ _ _ hw
      · replace hw := hw.1 w9
        refine r_ldcw d_M_ask_35 lc_M_277 ?_
        exact r_ireturn d_M_ask_38.1 rfl (hQ _ _ hw)
    · replace hw := hw.1 (b2i_0.mp w9)
      refine r_ldcw d_M_ask_19 lc_M_277 ?_
      exact r_ireturn d_M_ask_22.1 rfl (hQ _ _ hw)
set_option maxRecDepth 100000 in
set_option maxHeartbeats 4000000 in
theorem s_M_image_L20 {d : Nat} (hd : 1 ≤ d + 1) {Q : Int32 → Hp → Prop} {QQ : Option AV → Hp → Prop} (hQ : ∀ r9 h9, Q r9 h9 → QQ (some (ai r9)) h9) {v0 : Nat} {v1 : Int32} : ∀ (n : Nat) (v2 : Int32) (h : Hp), w_M_image_L20 Q  v0 v1 n v2 h → aW none m_M_image (d + 1) 20 [(0, ar v0), (1, ai v1), (2, ai v2)] [] h 0 0 QQ := by
  intro n
  induction n with
  | zero => intro v2 h hw; exact hw.elim
  | succ n ih =>
    intro v2 h hw
    unfold w_M_image_L20 at hw
    refine r_iload_n (j := 2) d_M_image_20 rfl ?_
    refine r_bipush d_M_image_21 kb_44 ?_
    refine r_icmp_ge d_M_image_23 (fun w9 => ?_) (fun w9 => ?_)
    · replace hw := hw.1 w9
      refine r_aload_n (j := 0) d_M_image_49 rfl ?_
      obtain ⟨q6, hw⟩ := hw
      refine r_getI d_M_image_50 ok_12 (nle rfl) (nle rfl) rfl lf_M_247 q6 ?_
      exact r_ireturn d_M_image_53.1 rfl (hQ _ _ hw)
    · replace hw := hw.2 w9
      refine r_aload_n (j := 0) d_M_image_26 rfl ?_
      obtain ⟨q7, hw⟩ := hw
      refine r_getR d_M_image_27 ok_12 (nle rfl) (nle rfl) rfl lf_M_129 q7 ?_
      refine r_bipush d_M_image_30 kb_44 ?_
      refine r_iload_n (j := 1) d_M_image_32 rfl ?_
      refine r_imul d_M_image_33 ?_
      refine r_iload_n (j := 2) d_M_image_34 rfl ?_
      refine r_iadd d_M_image_35 ?_
      refine r_aload_n (j := 0) d_M_image_36 rfl ?_
      refine r_getR d_M_image_37 ok_12 (nle rfl) (nle rfl) rfl lf_M_30 q7 ?_
      refine r_iload_n (j := 2) d_M_image_40 rfl ?_
      obtain ⟨q8, hw⟩ := hw
      obtain ⟨q9, hw⟩ := hw
      refine r_iald d_M_image_41 q8 q9 ?_
      obtain ⟨q10, hw⟩ := hw
      obtain ⟨q11, hw⟩ := hw
      refine r_iast d_M_image_42 q10 q11 ?_
      refine r_iinc (j := 2) (ls2 := [(2, ai (v2 + (1 : Int32))), (0, ar v0), (1, ai v1)]) d_M_image_43 rfl (congrArg (HAdd.hAdd v2) kc_1) (nle rfl) rfl ?_
      refine r_goto d_M_image_46 ?_
      refine r_pick (ls2 := [(0, ar v0), (1, ai v1), (2, ai (v2 + (1 : Int32)))]) [1, 2, 0] rfl ?_
      exact ih _ _ hw
set_option maxRecDepth 100000 in
set_option maxHeartbeats 4000000 in
theorem s_M_image {d : Nat} (hd : 1 ≤ d) {v0 : Nat} {v1 : Int32} {h : Hp} {Q : Int32 → Hp → Prop} {QQ : Option AV → Hp → Prop} (hw : w_M_image v0 v1 h Q) (hQ : ∀ r9 h9, Q r9 h9 → QQ (some (ai r9)) h9) : aCall m_M_image d [ar v0, ai v1] h 0 0 QQ := by
  obtain ⟨d, rfl⟩ : ∃ d9, d = d9 + 1 := ⟨d - 1, by omega⟩
  refine aCall_in pl_M_image (nle rfl) ?_
  show aW none m_M_image (d + 1) 0 [(0, ar v0), (1, ai v1)] [] h 0 0 QQ
  unfold w_M_image at hw
  refine r_iload_n (j := 1) d_M_image_0 rfl ?_
  refine r_iconst d_M_image_1 kc_0 ?_
  refine r_iconst d_M_image_2 kc_1 ?_
  refine r_callS (av := [ai v1, ai (0 : Int32), ai (1 : Int32)]) (rest := []) d_M_image_3 mk_M_isIn ll_M_148 st_M_isIn rfl rfl (nle rfl) (s_M_isIn  hw (fun r2 h1 hw => ?_))
  show aW none m_M_image (d + 1) 6 [(0, ar v0), (1, ai v1)] [ai (b2i r2)] h1 0 0 QQ
  refine r_if_ne d_M_image_6 (fun w9 => ?_) (fun w9 => ?_)
  · replace hw := hw.2 (fun g9 => w9 (b2i_0.mpr g9))
    refine r_aload_n (j := 0) d_M_image_11 rfl ?_
    obtain ⟨q3, hw⟩ := hw
    refine r_getR d_M_image_12 ok_12 (nle rfl) (nle rfl) rfl lf_M_132 q3 ?_
    refine r_iload_n (j := 1) d_M_image_15 rfl ?_
    refine r_iconst d_M_image_16 kc_1 ?_
    obtain ⟨q4, hw⟩ := hw
    obtain ⟨q5, hw⟩ := hw
    refine r_zast d_M_image_17 q4 q5 (Or.inr rfl) ?_
    refine r_iconst d_M_image_18 kc_0 ?_
    refine r_istore_n (ls2 := [(2, ai (0 : Int32)), (0, ar v0), (1, ai v1)]) d_M_image_19 (nle rfl) rfl ?_
    obtain ⟨n12, hw⟩ := hw
    refine r_pick (ls2 := [(0, ar v0), (1, ai v1), (2, ai (0 : Int32))]) [1, 2, 0] rfl ?_
    exact s_M_image_L20 hd hQ  n12 _ _ hw
  · replace hw := hw.1 (b2i_0.mp w9)
    refine r_iconst d_M_image_9 kc_m1 ?_
    exact r_ireturn d_M_image_10.1 rfl (hQ _ _ hw)
set_option maxRecDepth 100000 in
set_option maxHeartbeats 4000000 in
theorem s_M_back_L22 {d : Nat} (hd : 1 ≤ d + 1) {Q : Int32 → Hp → Prop} {QQ : Option AV → Hp → Prop} (hQ : ∀ r9 h9, Q r9 h9 → QQ (some (ai r9)) h9) {v0 : Nat} {v1 : Int32} : ∀ (n : Nat) (v2 : Int32) (h : Hp), w_M_back_L22 Q  v0 v1 n v2 h → aW none m_M_back (d + 1) 22 [(0, ar v0), (1, ai v1), (2, ai v2)] [] h 0 0 QQ := by
  intro n
  induction n with
  | zero => intro v2 h hw; exact hw.elim
  | succ n ih =>
    intro v2 h hw
    unfold w_M_back_L22 at hw
    refine r_iload_n (j := 2) d_M_back_22 rfl ?_
    refine r_bipush d_M_back_23 kb_44 ?_
    refine r_icmp_ge d_M_back_25 (fun w9 => ?_) (fun w9 => ?_)
    · replace hw := hw.1 w9
      refine r_aload_n (j := 0) d_M_back_51 rfl ?_
      refine r_iconst d_M_back_52 kc_0 ?_
      obtain ⟨q6, hw⟩ := hw
      refine r_putI d_M_back_53 ok_12 (nle rfl) (nle rfl) rfl lf_M_250 rfl q6 ?_
      refine r_aload_n (j := 0) d_M_back_56 rfl ?_
      refine r_iconst d_M_back_57 kc_0 ?_
      refine r_putI d_M_back_58 ok_12 (nle rfl) (nle rfl) rfl lf_M_253 rfl (kt eKI q6) ?_
      refine r_aload_n (j := 0) d_M_back_61 rfl ?_
      refine r_iconst d_M_back_62 kc_0 ?_
      refine r_putZ d_M_back_63 ok_12 (nle rfl) (nle rfl) rfl lf_M_259 rfl (kt (eKI.trans eKI) q6) (Or.inl rfl) ?_
      refine r_aload_n (j := 0) d_M_back_66 rfl ?_
      refine r_getI d_M_back_67 ok_12 (nle rfl) (nle rfl) rfl lf_M_247 (kt (eKI.trans (eKI.trans eKI)) q6) ?_
      exact r_ireturn d_M_back_70.1 rfl (hQ _ _ hw)
    · replace hw := hw.2 w9
      refine r_aload_n (j := 0) d_M_back_28 rfl ?_
      obtain ⟨q7, hw⟩ := hw
      refine r_getR d_M_back_29 ok_12 (nle rfl) (nle rfl) rfl lf_M_30 q7 ?_
      refine r_iload_n (j := 2) d_M_back_32 rfl ?_
      refine r_aload_n (j := 0) d_M_back_33 rfl ?_
      refine r_getR d_M_back_34 ok_12 (nle rfl) (nle rfl) rfl lf_M_129 q7 ?_
      refine r_bipush d_M_back_37 kb_44 ?_
      refine r_iload_n (j := 1) d_M_back_39 rfl ?_
      refine r_imul d_M_back_40 ?_
      refine r_iload_n (j := 2) d_M_back_41 rfl ?_
      refine r_iadd d_M_back_42 ?_
      obtain ⟨q8, hw⟩ := hw
      obtain ⟨q9, hw⟩ := hw
      refine r_iald d_M_back_43 q8 q9 ?_
      obtain ⟨q10, hw⟩ := hw
      obtain ⟨q11, hw⟩ := hw
      refine r_iast d_M_back_44 q10 q11 ?_
      refine r_iinc (j := 2) (ls2 := [(2, ai (v2 + (1 : Int32))), (0, ar v0), (1, ai v1)]) d_M_back_45 rfl (congrArg (HAdd.hAdd v2) kc_1) (nle rfl) rfl ?_
      refine r_goto d_M_back_48 ?_
      refine r_pick (ls2 := [(0, ar v0), (1, ai v1), (2, ai (v2 + (1 : Int32)))]) [1, 2, 0] rfl ?_
      exact ih _ _ hw
set_option maxRecDepth 100000 in
set_option maxHeartbeats 4000000 in
theorem s_M_back {d : Nat} (hd : 1 ≤ d) {v0 : Nat} {v1 : Int32} {h : Hp} {Q : Int32 → Hp → Prop} {QQ : Option AV → Hp → Prop} (hw : w_M_back v0 v1 h Q) (hQ : ∀ r9 h9, Q r9 h9 → QQ (some (ai r9)) h9) : aCall m_M_back d [ar v0, ai v1] h 0 0 QQ := by
  obtain ⟨d, rfl⟩ : ∃ d9, d = d9 + 1 := ⟨d - 1, by omega⟩
  refine aCall_in pl_M_back (nle rfl) ?_
  show aW none m_M_back (d + 1) 0 [(0, ar v0), (1, ai v1)] [] h 0 0 QQ
  unfold w_M_back at hw
  refine r_iload_n (j := 1) d_M_back_0 rfl ?_
  refine r_iconst d_M_back_1 kc_0 ?_
  refine r_iconst d_M_back_2 kc_1 ?_
  refine r_callS (av := [ai v1, ai (0 : Int32), ai (1 : Int32)]) (rest := []) d_M_back_3 mk_M_isIn ll_M_148 st_M_isIn rfl rfl (nle rfl) (s_M_isIn  hw (fun r2 h1 hw => ?_))
  show aW none m_M_back (d + 1) 6 [(0, ar v0), (1, ai v1)] [ai (b2i r2)] h1 0 0 QQ
  refine r_if_eq d_M_back_6 (fun w9 => ?_) (fun w9 => ?_)
  · replace hw := hw.1 (b2i_0.mp w9)
    refine r_iconst d_M_back_18 kc_m1 ?_
    exact r_ireturn d_M_back_19.1 rfl (hQ _ _ hw)
  · replace hw := hw.2 (fun g9 => w9 (b2i_0.mpr g9))
    refine r_aload_n (j := 0) d_M_back_9 rfl ?_
    obtain ⟨q3, hw⟩ := hw
    refine r_getR d_M_back_10 ok_12 (nle rfl) (nle rfl) rfl lf_M_132 q3 ?_
    refine r_iload_n (j := 1) d_M_back_13 rfl ?_
    obtain ⟨q4, hw⟩ := hw
    obtain ⟨q5, hw⟩ := hw
    refine r_zald d_M_back_14 q4 q5 ?_
    refine r_if_ne d_M_back_15 (fun w9 => ?_) (fun w9 => ?_)
    · replace hw := hw.2 w9
      refine r_iconst d_M_back_20 kc_0 ?_
      refine r_istore_n (ls2 := [(2, ai (0 : Int32)), (0, ar v0), (1, ai v1)]) d_M_back_21 (nle rfl) rfl ?_
      obtain ⟨n12, hw⟩ := hw
      refine r_pick (ls2 := [(0, ar v0), (1, ai v1), (2, ai (0 : Int32))]) [1, 2, 0] rfl ?_
      exact s_M_back_L22 hd hQ  n12 _ _ hw
    · replace hw := hw.1 w9
      refine r_iconst d_M_back_18 kc_m1 ?_
      exact r_ireturn d_M_back_19.1 rfl (hQ _ _ hw)
set_option maxRecDepth 100000 in
set_option maxHeartbeats 4000000 in
theorem s_M_greatest_L14 {d : Nat} (hd : 1 ≤ d + 1) {Q : Int32 → Hp → Prop} {QQ : Option AV → Hp → Prop} (hQ : ∀ r9 h9, Q r9 h9 → QQ (some (ai r9)) h9) {v0 : Nat} {v2 : Int32} {k4 : Int32 → Int32 → Hp → Prop} (hk4 : ∀ v1 v2 h9, k4 v1 v2 h9 → aW none m_M_greatest (d + 1) 4 [(0, ar v0), (1, ai v1), (2, ai v2)] [] h9 0 0 QQ) : ∀ (n : Nat) (v1 : Int32) (v3 : Int32) (h : Hp), w_M_greatest_L14 Q k4 v0 v2 n v1 v3 h → aW none m_M_greatest (d + 1) 14 [(0, ar v0), (1, ai v1), (2, ai v2), (3, ai v3)] [] h 0 0 QQ := by
  intro n
  induction n with
  | zero => intro v1 v3 h hw; exact hw.elim
  | succ n ih =>
    intro v1 v3 h hw
    unfold w_M_greatest_L14 at hw
    refine r_iload_n (j := 3) d_M_greatest_14 rfl ?_
    refine r_aload_n (j := 0) d_M_greatest_15 rfl ?_
    obtain ⟨q2, hw⟩ := hw
    refine r_getI d_M_greatest_16 ok_12 (nle rfl) (nle rfl) rfl lf_M_244 q2 ?_
    refine r_icmp_ge d_M_greatest_19 (fun w9 => ?_) (fun w9 => ?_)
    · replace hw := hw.1 w9
      refine r_iinc (j := 2) (ls2 := [(2, ai (v2 + (1 : Int32))), (0, ar v0), (1, ai v1), (3, ai v3)]) d_M_greatest_42 rfl (congrArg (HAdd.hAdd v2) kc_1) (nle rfl) rfl ?_
      refine r_goto d_M_greatest_45 ?_
      refine r_pick (ls2 := [(0, ar v0), (1, ai v1), (2, ai (v2 + (1 : Int32)))]) [1, 2, 0] rfl ?_
      exact hk4 _ _ _ hw
    · replace hw := hw.2 w9
      refine r_iload_n (j := 1) d_M_greatest_22 rfl ?_
      refine r_aload_n (j := 0) d_M_greatest_23 rfl ?_
      refine r_iload_n (j := 2) d_M_greatest_24 rfl ?_
      refine r_iload_n (j := 3) d_M_greatest_25 rfl ?_
      refine r_callV (av := [ai v2, ai v3]) (rest := [ai v1]) (ci := 12) d_M_greatest_26 mk_M_numberOf ll_M_274 im_M_numberOf se_M_numberOf rfl (nle rfl) rfl rfl (nle rfl) q2 (s_M_numberOf  hw (fun r4 h3 hw => ?_))
      show aW none m_M_greatest (d + 1) 29 [(0, ar v0), (1, ai v1), (2, ai v2), (3, ai v3)] [ai r4, ai v1] h3 0 0 QQ
      refine r_callS (av := [ai r4]) (rest := [ai v1]) d_M_greatest_29 mk_M_plus ll_M_296 st_M_plus rfl rfl (nle rfl) (s_M_plus  hw (fun r6 h5 hw => ?_))
      show aW none m_M_greatest (d + 1) 32 [(0, ar v0), (1, ai v1), (2, ai v2), (3, ai v3)] [ai r6, ai v1] h5 0 0 QQ
      refine r_callS (av := [ai v1, ai r6]) (rest := []) d_M_greatest_32 mk_M_greater ll_M_343 st_M_greater rfl rfl (nle rfl) (s_M_greater  hw (fun r8 h7 hw => ?_))
      show aW none m_M_greatest (d + 1) 35 [(0, ar v0), (1, ai v1), (2, ai v2), (3, ai v3)] [ai r8] h7 0 0 QQ
      refine r_istore_n (ls2 := [(1, ai r8), (0, ar v0), (2, ai v2), (3, ai v3)]) d_M_greatest_35 (nle rfl) rfl ?_
      refine r_iinc (j := 3) (ls2 := [(3, ai (v3 + (1 : Int32))), (1, ai r8), (0, ar v0), (2, ai v2)]) d_M_greatest_36 rfl (congrArg (HAdd.hAdd v3) kc_1) (nle rfl) rfl ?_
      refine r_goto d_M_greatest_39 ?_
      refine r_pick (ls2 := [(0, ar v0), (1, ai r8), (2, ai v2), (3, ai (v3 + (1 : Int32)))]) [2, 1, 3, 0] rfl ?_
      exact ih _ _ _ hw
set_option maxRecDepth 100000 in
set_option maxHeartbeats 4000000 in
theorem s_M_greatest_L4 {d : Nat} (hd : 1 ≤ d + 1) {Q : Int32 → Hp → Prop} {QQ : Option AV → Hp → Prop} (hQ : ∀ r9 h9, Q r9 h9 → QQ (some (ai r9)) h9) {v0 : Nat} : ∀ (n : Nat) (v1 : Int32) (v2 : Int32) (h : Hp), w_M_greatest_L4 Q  v0 n v1 v2 h → aW none m_M_greatest (d + 1) 4 [(0, ar v0), (1, ai v1), (2, ai v2)] [] h 0 0 QQ := by
  intro n
  induction n with
  | zero => intro v1 v2 h hw; exact hw.elim
  | succ n ih =>
    intro v1 v2 h hw
    unfold w_M_greatest_L4 at hw
    refine r_iload_n (j := 2) d_M_greatest_4 rfl ?_
    refine r_aload_n (j := 0) d_M_greatest_5 rfl ?_
    obtain ⟨q1, hw⟩ := hw
    refine r_getI d_M_greatest_6 ok_12 (nle rfl) (nle rfl) rfl lf_M_247 q1 ?_
    refine r_icmp_ge d_M_greatest_9 (fun w9 => ?_) (fun w9 => ?_)
    · replace hw := hw.1 w9
      refine r_iload_n (j := 1) d_M_greatest_48 rfl ?_
      exact r_ireturn d_M_greatest_49.1 rfl (hQ _ _ hw)
    · replace hw := hw.2 w9
      refine r_iconst d_M_greatest_12 kc_0 ?_
      refine r_istore_n (ls2 := [(3, ai (0 : Int32)), (0, ar v0), (1, ai v1), (2, ai v2)]) d_M_greatest_13 (nle rfl) rfl ?_
      obtain ⟨n9, hw⟩ := hw
      refine r_pick (ls2 := [(0, ar v0), (1, ai v1), (2, ai v2), (3, ai (0 : Int32))]) [1, 2, 3, 0] rfl ?_
      exact s_M_greatest_L14 hd hQ ih n9 _ _ _ hw
set_option maxRecDepth 100000 in
set_option maxHeartbeats 4000000 in
theorem s_M_greatest {d : Nat} (hd : 1 ≤ d) {v0 : Nat} {h : Hp} {Q : Int32 → Hp → Prop} {QQ : Option AV → Hp → Prop} (hw : w_M_greatest v0 h Q) (hQ : ∀ r9 h9, Q r9 h9 → QQ (some (ai r9)) h9) : aCall m_M_greatest d [ar v0] h 0 0 QQ := by
  obtain ⟨d, rfl⟩ : ∃ d9, d = d9 + 1 := ⟨d - 1, by omega⟩
  refine aCall_in pl_M_greatest (nle rfl) ?_
  show aW none m_M_greatest (d + 1) 0 [(0, ar v0)] [] h 0 0 QQ
  unfold w_M_greatest at hw
  refine r_iconst d_M_greatest_0 kc_0 ?_
  refine r_istore_n (ls2 := [(1, ai (0 : Int32)), (0, ar v0)]) d_M_greatest_1 (nle rfl) rfl ?_
  refine r_iconst d_M_greatest_2 kc_0 ?_
  refine r_istore_n (ls2 := [(2, ai (0 : Int32)), (1, ai (0 : Int32)), (0, ar v0)]) d_M_greatest_3 (nle rfl) rfl ?_
  obtain ⟨n10, hw⟩ := hw
  refine r_pick (ls2 := [(0, ar v0), (1, ai (0 : Int32)), (2, ai (0 : Int32))]) [2, 1, 0] rfl ?_
  exact s_M_greatest_L4 hd hQ  n10 _ _ _ hw
set_option maxRecDepth 100000 in
set_option maxHeartbeats 4000000 in
theorem s_M_about {d : Nat} (hd : 2 ≤ d) {v0 : Nat} {v1 : Int32} {h : Hp} {Q : Int32 → Hp → Prop} {QQ : Option AV → Hp → Prop} (hw : w_M_about v0 v1 h Q) (hQ : ∀ r9 h9, Q r9 h9 → QQ (some (ai r9)) h9) : aCall m_M_about d [ar v0, ai v1] h 0 0 QQ := by
  obtain ⟨d, rfl⟩ : ∃ d9, d = d9 + 1 := ⟨d - 1, by omega⟩
  refine aCall_in pl_M_about (nle rfl) ?_
  show aW none m_M_about (d + 1) 0 [(0, ar v0), (1, ai v1)] [] h 0 0 QQ
  unfold w_M_about at hw
  refine r_iload_n (j := 1) d_M_about_0 rfl ?_
  by_cases o9 : v1.toInt < 0 ∨ 8 < v1.toInt
  · refine r_tabOut (tgt := 100) d_M_about_1 o9 (by decide) ?_
    replace hw := hw.1 o9
    refine r_iconst d_M_about_100 kc_m1 ?_
    exact r_ireturn d_M_about_101.1 rfl (hQ _ _ hw)
  · have o8 : v1.toInt = 0 ∨ v1.toInt = 1 ∨ v1.toInt = 2 ∨ v1.toInt = 3 ∨ v1.toInt = 4 ∨ v1.toInt = 5 ∨ v1.toInt = 6 ∨ v1.toInt = 7 ∨ v1.toInt = 8 := by omega
    replace hw := hw.2
    rcases o8 with o8 | o8 | o8 | o8 | o8 | o8 | o8 | o8 | o8
    · refine r_tabIn (off := 51) (tgt := 52) d_M_about_1 (by omega) (by omega) (by rw [o8]; rfl) (by decide) ?_
      replace hw := hw.1 o8
      refine r_aload_n (j := 0) d_M_about_52 rfl ?_
      obtain ⟨q1, hw⟩ := hw
      refine r_getI d_M_about_53 ok_12 (nle rfl) (nle rfl) rfl lf_M_244 q1 ?_
      exact r_ireturn d_M_about_56.1 rfl (hQ _ _ hw)
    · refine r_tabIn (off := 56) (tgt := 57) d_M_about_1 (by omega) (by omega) (by rw [o8]; rfl) (by decide) ?_
      replace hw := hw.2.1 o8
      refine r_aload_n (j := 0) d_M_about_57 rfl ?_
      obtain ⟨q2, hw⟩ := hw
      refine r_getI d_M_about_58 ok_12 (nle rfl) (nle rfl) rfl lf_M_247 q2 ?_
      exact r_ireturn d_M_about_61.1 rfl (hQ _ _ hw)
    · refine r_tabIn (off := 61) (tgt := 62) d_M_about_1 (by omega) (by omega) (by rw [o8]; rfl) (by decide) ?_
      replace hw := hw.2.2.1 o8
      refine r_aload_n (j := 0) d_M_about_62 rfl ?_
      obtain ⟨q3, hw⟩ := hw
      refine r_getR d_M_about_63 ok_12 (nle rfl) (nle rfl) rfl lf_M_30 q3 ?_
      refine r_bipush d_M_about_66 kb_35 ?_
      obtain ⟨q4, hw⟩ := hw
      obtain ⟨q5, hw⟩ := hw
      refine r_iald d_M_about_68 q4 q5 ?_
      exact r_ireturn d_M_about_69.1 rfl (hQ _ _ hw)
    · refine r_tabIn (off := 69) (tgt := 70) d_M_about_1 (by omega) (by omega) (by rw [o8]; rfl) (by decide) ?_
      replace hw := hw.2.2.2.1 o8
      refine r_aload_n (j := 0) d_M_about_70 rfl ?_
      obtain ⟨q8, hw⟩ := hw
      refine r_callV (av := []) (rest := []) (ci := 12) d_M_about_71 mk_M_greatest ll_M_552 im_M_greatest se_M_greatest rfl (nle rfl) rfl rfl (nle rfl) q8 (s_M_greatest (by omega) hw (fun r7 h6 hw => ?_))
      show aW none m_M_about (d + 1) 74 [(0, ar v0), (1, ai v1)] [ai r7] h6 0 0 QQ
      exact r_ireturn d_M_about_74.1 rfl (hQ _ _ hw)
    · refine r_tabIn (off := 74) (tgt := 75) d_M_about_1 (by omega) (by omega) (by rw [o8]; rfl) (by decide) ?_
      replace hw := hw.2.2.2.2.1 o8
      refine r_aload_n (j := 0) d_M_about_75 rfl ?_
      obtain ⟨q9, hw⟩ := hw
      refine r_getI d_M_about_76 ok_12 (nle rfl) (nle rfl) rfl lf_M_250 q9 ?_
      exact r_ireturn d_M_about_79.1 rfl (hQ _ _ hw)
    · refine r_tabIn (off := 79) (tgt := 80) d_M_about_1 (by omega) (by omega) (by rw [o8]; rfl) (by decide) ?_
      replace hw := hw.2.2.2.2.2.1 o8
      refine r_aload_n (j := 0) d_M_about_80 rfl ?_
      obtain ⟨q10, hw⟩ := hw
      refine r_getI d_M_about_81 ok_12 (nle rfl) (nle rfl) rfl lf_M_253 q10 ?_
      exact r_ireturn d_M_about_84.1 rfl (hQ _ _ hw)
    · refine r_tabIn (off := 84) (tgt := 85) d_M_about_1 (by omega) (by omega) (by rw [o8]; rfl) (by decide) ?_
      replace hw := hw.2.2.2.2.2.2.1 o8
      refine r_aload_n (j := 0) d_M_about_85 rfl ?_
      obtain ⟨q11, hw⟩ := hw
      refine r_getI d_M_about_86 ok_12 (nle rfl) (nle rfl) rfl lf_M_256 q11 ?_
      exact r_ireturn d_M_about_89.1 rfl (hQ _ _ hw)
    · refine r_tabIn (off := 89) (tgt := 90) d_M_about_1 (by omega) (by omega) (by rw [o8]; rfl) (by decide) ?_
      replace hw := hw.2.2.2.2.2.2.2.1 o8
      refine r_aload_n (j := 0) d_M_about_90 rfl ?_
      obtain ⟨q12, hw⟩ := hw
      refine r_getI d_M_about_91 ok_12 (nle rfl) (nle rfl) rfl lf_M_527 q12 ?_
      exact r_ireturn d_M_about_94.1 rfl (hQ _ _ hw)
    · refine r_tabIn (off := 94) (tgt := 95) d_M_about_1 (by omega) (by omega) (by rw [o8]; rfl) (by decide) ?_
      replace hw := hw.2.2.2.2.2.2.2.2 o8
      refine r_aload_n (j := 0) d_M_about_95 rfl ?_
      obtain ⟨q13, hw⟩ := hw
      refine r_getI d_M_about_96 ok_12 (nle rfl) (nle rfl) rfl lf_M_141 q13 ?_
      exact r_ireturn d_M_about_99.1 rfl (hQ _ _ hw)
set_option maxRecDepth 100000 in
set_option maxHeartbeats 4000000 in
theorem s_L_law_B1537 {L : Nat} {xs : Nat → Int32} {d : Nat} (hd : 65 ≤ d + 1) {Q : Bool → Hp → Prop} {QQ : Option AV → Hp → Prop} (hQ : ∀ r9 h9, Q r9 h9 → QQ (some (ai (b2i r9))) h9) {v1 : Nat} {v2 : Nat} {v3 : Int32} {bc : Nat} {bs : Nat} {h : Hp} {k18 : Int32 → Nat → Nat → Hp → Prop} (hk18 : ∀ v3 bc bs h9, k18 v3 bc bs h9 → aW (some (L, xs)) m_L_law (d + 1) 18 [(0, ar 1), (1, ar v1), (2, ar v2), (3, ai v3)] [] h9 bc bs QQ) (hw : w_L_law_B1537 L xs Q k18 v1 v2 v3 bc bs h) : aW (some (L, xs)) m_L_law (d + 1) 1537 [(0, ar 1), (1, ar v1), (2, ar v2), (3, ai v3)] [] h bc bs QQ := by
  unfold w_L_law_B1537 at hw
  refine r_iinc (j := 3) (ls2 := [(3, ai (v3 + (6 : Int32))), (0, ar 1), (1, ar v1), (2, ar v2)]) d_L_law_1537 rfl (congrArg (HAdd.hAdd v3) kc_6) (nle rfl) rfl ?_
  refine r_goto d_L_law_1540 ?_
  refine r_pick (ls2 := [(0, ar 1), (1, ar v1), (2, ar v2), (3, ai (v3 + (6 : Int32)))]) [1, 2, 3, 0] rfl ?_
  exact hk18 _ _ _ _ hw
set_option maxRecDepth 100000 in
set_option maxHeartbeats 4000000 in
theorem s_L_law_B232 {L : Nat} {xs : Nat → Int32} {d : Nat} (hd : 65 ≤ d + 1) {Q : Bool → Hp → Prop} {QQ : Option AV → Hp → Prop} (hQ : ∀ r9 h9, Q r9 h9 → QQ (some (ai (b2i r9))) h9) {v1 : Nat} {v2 : Nat} {v3 : Int32} {bc : Nat} {bs : Nat} {h : Hp} {k18 : Int32 → Nat → Nat → Hp → Prop} (hk18 : ∀ v3 bc bs h9, k18 v3 bc bs h9 → aW (some (L, xs)) m_L_law (d + 1) 18 [(0, ar 1), (1, ar v1), (2, ar v2), (3, ai v3)] [] h9 bc bs QQ) (hw : w_L_law_B232 L xs Q k18 v1 v2 v3 bc bs h) : aW (some (L, xs)) m_L_law (d + 1) 232 [(0, ar 1), (1, ar v1), (2, ar v2), (3, ai v3)] [] h bc bs QQ := by
  unfold w_L_law_B232 at hw
  refine r_aload_n (j := 1) d_L_law_232 rfl ?_
  refine r_aload_n (j := 0) d_L_law_233 rfl ?_
  refine r_iload_n (j := 3) d_L_law_234 rfl ?_
  refine r_iconst d_L_law_235 kc_1 ?_
  refine r_iadd d_L_law_236 ?_
  obtain ⟨q30, hw⟩ := hw
  refine r_sld rfl d_L_law_237 q30 ?_
  refine r_aload_n (j := 0) d_L_law_238 rfl ?_
  refine r_iload_n (j := 3) d_L_law_239 rfl ?_
  refine r_iconst d_L_law_240 kc_2 ?_
  refine r_iadd d_L_law_241 ?_
  obtain ⟨q31, hw⟩ := hw
  refine r_sld rfl d_L_law_242 q31 ?_
  refine r_aload_n (j := 0) d_L_law_243 rfl ?_
  refine r_iload_n (j := 3) d_L_law_244 rfl ?_
  refine r_iconst d_L_law_245 kc_3 ?_
  refine r_iadd d_L_law_246 ?_
  obtain ⟨q32, hw⟩ := hw
  refine r_sld rfl d_L_law_247 q32 ?_
  refine r_aload_n (j := 0) d_L_law_248 rfl ?_
  refine r_iload_n (j := 3) d_L_law_249 rfl ?_
  refine r_iconst d_L_law_250 kc_4 ?_
  refine r_iadd d_L_law_251 ?_
  obtain ⟨q33, hw⟩ := hw
  refine r_sld rfl d_L_law_252 q33 ?_
  refine r_aload_n (j := 0) d_L_law_253 rfl ?_
  refine r_iload_n (j := 3) d_L_law_254 rfl ?_
  refine r_iconst d_L_law_255 kc_5 ?_
  refine r_iadd d_L_law_256 ?_
  obtain ⟨q34, hw⟩ := hw
  refine r_sld rfl d_L_law_257 q34 ?_
  obtain ⟨q37, hw⟩ := hw
  refine r_callV (av := [ai (xs (ix (v3 + (1 : Int32)))), ai (xs (ix (v3 + (2 : Int32)))), ai (xs (ix (v3 + (3 : Int32)))), ai (xs (ix (v3 + (4 : Int32)))), ai (xs (ix (v3 + (5 : Int32))))]) (rest := []) (ci := 11) d_L_law_258 mk_X_feed ll_L_13 im_X_feed se_X_feed rfl (nle rfl) rfl rfl (nle rfl) q37 (s_X_feed (by omega) hw (fun r36 h35 hv => ?_))
  replace hw := hv
  clear hv
  show aW (some (L, xs)) m_L_law (d + 1) 261 [(0, ar 1), (1, ar v1), (2, ar v2), (3, ai v3)] [ai r36] h35 bc bs QQ
  refine r_aload_n (j := 2) d_L_law_261 rfl ?_
  refine r_aload_n (j := 0) d_L_law_262 rfl ?_
  refine r_iload_n (j := 3) d_L_law_263 rfl ?_
  refine r_iconst d_L_law_264 kc_1 ?_
  refine r_iadd d_L_law_265 ?_
  obtain ⟨q38, hw⟩ := hw
  refine r_sld rfl d_L_law_266 q38 ?_
  refine r_aload_n (j := 0) d_L_law_267 rfl ?_
  refine r_iload_n (j := 3) d_L_law_268 rfl ?_
  refine r_iconst d_L_law_269 kc_2 ?_
  refine r_iadd d_L_law_270 ?_
  obtain ⟨q39, hw⟩ := hw
  refine r_sld rfl d_L_law_271 q39 ?_
  refine r_aload_n (j := 0) d_L_law_272 rfl ?_
  refine r_iload_n (j := 3) d_L_law_273 rfl ?_
  refine r_iconst d_L_law_274 kc_3 ?_
  refine r_iadd d_L_law_275 ?_
  obtain ⟨q40, hw⟩ := hw
  refine r_sld rfl d_L_law_276 q40 ?_
  refine r_aload_n (j := 0) d_L_law_277 rfl ?_
  refine r_iload_n (j := 3) d_L_law_278 rfl ?_
  refine r_iconst d_L_law_279 kc_4 ?_
  refine r_iadd d_L_law_280 ?_
  obtain ⟨q41, hw⟩ := hw
  refine r_sld rfl d_L_law_281 q41 ?_
  refine r_aload_n (j := 0) d_L_law_282 rfl ?_
  refine r_iload_n (j := 3) d_L_law_283 rfl ?_
  refine r_iconst d_L_law_284 kc_5 ?_
  refine r_iadd d_L_law_285 ?_
  obtain ⟨q42, hw⟩ := hw
  refine r_sld rfl d_L_law_286 q42 ?_
  obtain ⟨q45, hw⟩ := hw
  refine r_callV (av := [ai (xs (ix (v3 + (1 : Int32)))), ai (xs (ix (v3 + (2 : Int32)))), ai (xs (ix (v3 + (3 : Int32)))), ai (xs (ix (v3 + (4 : Int32)))), ai (xs (ix (v3 + (5 : Int32))))]) (rest := [ai r36]) (ci := 12) d_L_law_287 mk_M_feed ll_L_17 im_M_feed se_M_feed rfl (nle rfl) rfl rfl (nle rfl) q45 (s_M_feed (by omega) hw (fun r44 h43 hv => ?_))
  replace hw := hv
  clear hv
  show aW (some (L, xs)) m_L_law (d + 1) 290 [(0, ar 1), (1, ar v1), (2, ar v2), (3, ai v3)] [ai r44, ai r36] h43 bc bs QQ
  refine r_icmp_eq d_L_law_290 (fun w9 => ?_) (fun w9 => ?_)
  · replace hw := hw.1 w9
    exact s_L_law_B1537 hd hQ hk18 hw
  · replace hw := hw.2 w9
    refine r_iconst d_L_law_293 kc_0 ?_
    exact r_zreturn d_L_law_294.1 rfl (Or.inl rfl) (hQ _ _ hw)
set_option maxRecDepth 100000 in
set_option maxHeartbeats 4000000 in
theorem s_L_law_B295 {L : Nat} {xs : Nat → Int32} {d : Nat} (hd : 65 ≤ d + 1) {Q : Bool → Hp → Prop} {QQ : Option AV → Hp → Prop} (hQ : ∀ r9 h9, Q r9 h9 → QQ (some (ai (b2i r9))) h9) {v1 : Nat} {v2 : Nat} {v3 : Int32} {bc : Nat} {bs : Nat} {h : Hp} {k18 : Int32 → Nat → Nat → Hp → Prop} (hk18 : ∀ v3 bc bs h9, k18 v3 bc bs h9 → aW (some (L, xs)) m_L_law (d + 1) 18 [(0, ar 1), (1, ar v1), (2, ar v2), (3, ai v3)] [] h9 bc bs QQ) (hw : w_L_law_B295 L xs Q k18 v1 v2 v3 bc bs h) : aW (some (L, xs)) m_L_law (d + 1) 295 [(0, ar 1), (1, ar v1), (2, ar v2), (3, ai v3)] [] h bc bs QQ := by
  unfold w_L_law_B295 at hw
  refine r_aload_n (j := 1) d_L_law_295 rfl ?_
  refine r_aload_n (j := 0) d_L_law_296 rfl ?_
  refine r_iload_n (j := 3) d_L_law_297 rfl ?_
  refine r_iconst d_L_law_298 kc_1 ?_
  refine r_iadd d_L_law_299 ?_
  obtain ⟨q46, hw⟩ := hw
  refine r_sld rfl d_L_law_300 q46 ?_
  obtain ⟨q49, hw⟩ := hw
  refine r_callV (av := [ai (xs (ix (v3 + (1 : Int32))))]) (rest := []) (ci := 11) d_L_law_301 mk_X_end ll_L_18 im_X_end se_X_end rfl (nle rfl) rfl rfl (nle rfl) q49 (s_X_end  hw (fun r48 h47 hv => ?_))
  replace hw := hv
  clear hv
  show aW (some (L, xs)) m_L_law (d + 1) 304 [(0, ar 1), (1, ar v1), (2, ar v2), (3, ai v3)] [ai r48] h47 bc bs QQ
  refine r_aload_n (j := 2) d_L_law_304 rfl ?_
  refine r_aload_n (j := 0) d_L_law_305 rfl ?_
  refine r_iload_n (j := 3) d_L_law_306 rfl ?_
  refine r_iconst d_L_law_307 kc_1 ?_
  refine r_iadd d_L_law_308 ?_
  obtain ⟨q50, hw⟩ := hw
  refine r_sld rfl d_L_law_309 q50 ?_
  obtain ⟨q53, hw⟩ := hw
  refine r_callV (av := [ai (xs (ix (v3 + (1 : Int32))))]) (rest := [ai r48]) (ci := 12) d_L_law_310 mk_M_end ll_L_22 im_M_end se_M_end rfl (nle rfl) rfl rfl (nle rfl) q53 (s_M_end (by omega) hw (fun r52 h51 hv => ?_))
  replace hw := hv
  clear hv
  show aW (some (L, xs)) m_L_law (d + 1) 313 [(0, ar 1), (1, ar v1), (2, ar v2), (3, ai v3)] [ai r52, ai r48] h51 bc bs QQ
  refine r_icmp_eq d_L_law_313 (fun w9 => ?_) (fun w9 => ?_)
  · replace hw := hw.1 w9
    exact s_L_law_B1537 hd hQ hk18 hw
  · replace hw := hw.2 w9
    refine r_iconst d_L_law_316 kc_0 ?_
    exact r_zreturn d_L_law_317.1 rfl (Or.inl rfl) (hQ _ _ hw)
set_option maxRecDepth 100000 in
set_option maxHeartbeats 4000000 in
theorem s_L_law_B318 {L : Nat} {xs : Nat → Int32} {d : Nat} (hd : 65 ≤ d + 1) {Q : Bool → Hp → Prop} {QQ : Option AV → Hp → Prop} (hQ : ∀ r9 h9, Q r9 h9 → QQ (some (ai (b2i r9))) h9) {v1 : Nat} {v2 : Nat} {v3 : Int32} {bc : Nat} {bs : Nat} {h : Hp} {k18 : Int32 → Nat → Nat → Hp → Prop} (hk18 : ∀ v3 bc bs h9, k18 v3 bc bs h9 → aW (some (L, xs)) m_L_law (d + 1) 18 [(0, ar 1), (1, ar v1), (2, ar v2), (3, ai v3)] [] h9 bc bs QQ) (hw : w_L_law_B318 L xs Q k18 v1 v2 v3 bc bs h) : aW (some (L, xs)) m_L_law (d + 1) 318 [(0, ar 1), (1, ar v1), (2, ar v2), (3, ai v3)] [] h bc bs QQ := by
  unfold w_L_law_B318 at hw
  refine r_aload_n (j := 1) d_L_law_318 rfl ?_
  obtain ⟨q56, hw⟩ := hw
  refine r_callV (av := []) (rest := []) (ci := 11) d_L_law_319 mk_X_program ll_L_23 im_X_program se_X_program rfl (nle rfl) rfl rfl (nle rfl) q56 (s_X_program (by omega) hw (fun r55 h54 hv => ?_))
  replace hw := hv
  clear hv
  show aW (some (L, xs)) m_L_law (d + 1) 322 [(0, ar 1), (1, ar v1), (2, ar v2), (3, ai v3)] [ai r55] h54 bc bs QQ
  refine r_aload_n (j := 2) d_L_law_322 rfl ?_
  obtain ⟨q59, hw⟩ := hw
  refine r_callV (av := []) (rest := [ai r55]) (ci := 12) d_L_law_323 mk_M_program ll_L_27 im_M_program se_M_program rfl (nle rfl) rfl rfl (nle rfl) q59 (s_M_program (by omega) hw (fun r58 h57 hv => ?_))
  replace hw := hv
  clear hv
  show aW (some (L, xs)) m_L_law (d + 1) 326 [(0, ar 1), (1, ar v1), (2, ar v2), (3, ai v3)] [ai r58, ai r55] h57 bc bs QQ
  refine r_icmp_eq d_L_law_326 (fun w9 => ?_) (fun w9 => ?_)
  · replace hw := hw.1 w9
    exact s_L_law_B1537 hd hQ hk18 hw
  · replace hw := hw.2 w9
    refine r_iconst d_L_law_329 kc_0 ?_
    exact r_zreturn d_L_law_330.1 rfl (Or.inl rfl) (hQ _ _ hw)
set_option maxRecDepth 100000 in
set_option maxHeartbeats 4000000 in
theorem s_L_law_B331 {L : Nat} {xs : Nat → Int32} {d : Nat} (hd : 65 ≤ d + 1) {Q : Bool → Hp → Prop} {QQ : Option AV → Hp → Prop} (hQ : ∀ r9 h9, Q r9 h9 → QQ (some (ai (b2i r9))) h9) {v1 : Nat} {v2 : Nat} {v3 : Int32} {bc : Nat} {bs : Nat} {h : Hp} {k18 : Int32 → Nat → Nat → Hp → Prop} (hk18 : ∀ v3 bc bs h9, k18 v3 bc bs h9 → aW (some (L, xs)) m_L_law (d + 1) 18 [(0, ar 1), (1, ar v1), (2, ar v2), (3, ai v3)] [] h9 bc bs QQ) (hw : w_L_law_B331 L xs Q k18 v1 v2 v3 bc bs h) : aW (some (L, xs)) m_L_law (d + 1) 331 [(0, ar 1), (1, ar v1), (2, ar v2), (3, ai v3)] [] h bc bs QQ := by
  unfold w_L_law_B331 at hw
  refine r_aload_n (j := 1) d_L_law_331 rfl ?_
  refine r_aload_n (j := 0) d_L_law_332 rfl ?_
  refine r_iload_n (j := 3) d_L_law_333 rfl ?_
  refine r_iconst d_L_law_334 kc_1 ?_
  refine r_iadd d_L_law_335 ?_
  obtain ⟨q60, hw⟩ := hw
  refine r_sld rfl d_L_law_336 q60 ?_
  obtain ⟨q63, hw⟩ := hw
  refine r_callV (av := [ai (xs (ix (v3 + (1 : Int32))))]) (rest := []) (ci := 11) d_L_law_337 mk_X_fault ll_L_28 im_X_fault se_X_fault rfl (nle rfl) rfl rfl (nle rfl) q63 (s_X_fault  hw (fun r62 h61 hv => ?_))
  replace hw := hv
  clear hv
  show aW (some (L, xs)) m_L_law (d + 1) 340 [(0, ar 1), (1, ar v1), (2, ar v2), (3, ai v3)] [ai r62] h61 bc bs QQ
  refine r_aload_n (j := 2) d_L_law_340 rfl ?_
  refine r_aload_n (j := 0) d_L_law_341 rfl ?_
  refine r_iload_n (j := 3) d_L_law_342 rfl ?_
  refine r_iconst d_L_law_343 kc_1 ?_
  refine r_iadd d_L_law_344 ?_
  obtain ⟨q64, hw⟩ := hw
  refine r_sld rfl d_L_law_345 q64 ?_
  obtain ⟨q67, hw⟩ := hw
  refine r_callV (av := [ai (xs (ix (v3 + (1 : Int32))))]) (rest := [ai r62]) (ci := 12) d_L_law_346 mk_M_fault ll_L_31 im_M_fault se_M_fault rfl (nle rfl) rfl rfl (nle rfl) q67 (s_M_fault  hw (fun r66 h65 hv => ?_))
  replace hw := hv
  clear hv
  show aW (some (L, xs)) m_L_law (d + 1) 349 [(0, ar 1), (1, ar v1), (2, ar v2), (3, ai v3)] [ai r66, ai r62] h65 bc bs QQ
  refine r_icmp_eq d_L_law_349 (fun w9 => ?_) (fun w9 => ?_)
  · replace hw := hw.1 w9
    exact s_L_law_B1537 hd hQ hk18 hw
  · replace hw := hw.2 w9
    refine r_iconst d_L_law_352 kc_0 ?_
    exact r_zreturn d_L_law_353.1 rfl (Or.inl rfl) (hQ _ _ hw)
set_option maxRecDepth 100000 in
set_option maxHeartbeats 4000000 in
theorem s_L_law_B354 {L : Nat} {xs : Nat → Int32} {d : Nat} (hd : 65 ≤ d + 1) {Q : Bool → Hp → Prop} {QQ : Option AV → Hp → Prop} (hQ : ∀ r9 h9, Q r9 h9 → QQ (some (ai (b2i r9))) h9) {v1 : Nat} {v2 : Nat} {v3 : Int32} {bc : Nat} {bs : Nat} {h : Hp} {k18 : Int32 → Nat → Nat → Hp → Prop} (hk18 : ∀ v3 bc bs h9, k18 v3 bc bs h9 → aW (some (L, xs)) m_L_law (d + 1) 18 [(0, ar 1), (1, ar v1), (2, ar v2), (3, ai v3)] [] h9 bc bs QQ) (hw : w_L_law_B354 L xs Q k18 v1 v2 v3 bc bs h) : aW (some (L, xs)) m_L_law (d + 1) 354 [(0, ar 1), (1, ar v1), (2, ar v2), (3, ai v3)] [] h bc bs QQ := by
  unfold w_L_law_B354 at hw
  refine r_aload_n (j := 1) d_L_law_354 rfl ?_
  refine r_aload_n (j := 0) d_L_law_355 rfl ?_
  refine r_iload_n (j := 3) d_L_law_356 rfl ?_
  refine r_iconst d_L_law_357 kc_1 ?_
  refine r_iadd d_L_law_358 ?_
  obtain ⟨q68, hw⟩ := hw
  refine r_sld rfl d_L_law_359 q68 ?_
  refine r_aload_n (j := 0) d_L_law_360 rfl ?_
  refine r_iload_n (j := 3) d_L_law_361 rfl ?_
  refine r_iconst d_L_law_362 kc_2 ?_
  refine r_iadd d_L_law_363 ?_
  obtain ⟨q69, hw⟩ := hw
  refine r_sld rfl d_L_law_364 q69 ?_
  obtain ⟨q72, hw⟩ := hw
  refine r_callV (av := [ai (xs (ix (v3 + (1 : Int32)))), ai (xs (ix (v3 + (2 : Int32))))]) (rest := []) (ci := 11) d_L_law_365 mk_X_number ll_L_32 im_X_number se_X_number rfl (nle rfl) rfl rfl (nle rfl) q72 (s_X_number (by omega) hw (fun r71 h70 hv => ?_))
  replace hw := hv
  clear hv
  show aW (some (L, xs)) m_L_law (d + 1) 368 [(0, ar 1), (1, ar v1), (2, ar v2), (3, ai v3)] [ai r71] h70 bc bs QQ
  refine r_aload_n (j := 2) d_L_law_368 rfl ?_
  refine r_aload_n (j := 0) d_L_law_369 rfl ?_
  refine r_iload_n (j := 3) d_L_law_370 rfl ?_
  refine r_iconst d_L_law_371 kc_1 ?_
  refine r_iadd d_L_law_372 ?_
  obtain ⟨q73, hw⟩ := hw
  refine r_sld rfl d_L_law_373 q73 ?_
  refine r_aload_n (j := 0) d_L_law_374 rfl ?_
  refine r_iload_n (j := 3) d_L_law_375 rfl ?_
  refine r_iconst d_L_law_376 kc_2 ?_
  refine r_iadd d_L_law_377 ?_
  obtain ⟨q74, hw⟩ := hw
  refine r_sld rfl d_L_law_378 q74 ?_
  obtain ⟨q77, hw⟩ := hw
  refine r_callV (av := [ai (xs (ix (v3 + (1 : Int32)))), ai (xs (ix (v3 + (2 : Int32))))]) (rest := [ai r71]) (ci := 12) d_L_law_379 mk_M_number ll_L_36 im_M_number se_M_number rfl (nle rfl) rfl rfl (nle rfl) q77 (s_M_number (by omega) hw (fun r76 h75 hv => ?_))
  replace hw := hv
  clear hv
  show aW (some (L, xs)) m_L_law (d + 1) 382 [(0, ar 1), (1, ar v1), (2, ar v2), (3, ai v3)] [ai r76, ai r71] h75 bc bs QQ
  refine r_icmp_eq d_L_law_382 (fun w9 => ?_) (fun w9 => ?_)
  · replace hw := hw.1 w9
    exact s_L_law_B1537 hd hQ hk18 hw
  · replace hw := hw.2 w9
    refine r_iconst d_L_law_385 kc_0 ?_
    exact r_zreturn d_L_law_386.1 rfl (Or.inl rfl) (hQ _ _ hw)
set_option maxRecDepth 100000 in
set_option maxHeartbeats 4000000 in
theorem s_L_law_B387 {L : Nat} {xs : Nat → Int32} {d : Nat} (hd : 65 ≤ d + 1) {Q : Bool → Hp → Prop} {QQ : Option AV → Hp → Prop} (hQ : ∀ r9 h9, Q r9 h9 → QQ (some (ai (b2i r9))) h9) {v1 : Nat} {v2 : Nat} {v3 : Int32} {bc : Nat} {bs : Nat} {h : Hp} {k18 : Int32 → Nat → Nat → Hp → Prop} (hk18 : ∀ v3 bc bs h9, k18 v3 bc bs h9 → aW (some (L, xs)) m_L_law (d + 1) 18 [(0, ar 1), (1, ar v1), (2, ar v2), (3, ai v3)] [] h9 bc bs QQ) (hw : w_L_law_B387 L xs Q k18 v1 v2 v3 bc bs h) : aW (some (L, xs)) m_L_law (d + 1) 387 [(0, ar 1), (1, ar v1), (2, ar v2), (3, ai v3)] [] h bc bs QQ := by
  unfold w_L_law_B387 at hw
  refine r_aload_n (j := 1) d_L_law_387 rfl ?_
  refine r_aload_n (j := 0) d_L_law_388 rfl ?_
  refine r_iload_n (j := 3) d_L_law_389 rfl ?_
  refine r_iconst d_L_law_390 kc_1 ?_
  refine r_iadd d_L_law_391 ?_
  obtain ⟨q78, hw⟩ := hw
  refine r_sld rfl d_L_law_392 q78 ?_
  obtain ⟨q81, hw⟩ := hw
  refine r_callV (av := [ai (xs (ix (v3 + (1 : Int32))))]) (rest := []) (ci := 11) d_L_law_393 mk_X_gain ll_L_37 im_X_gain se_X_gain rfl (nle rfl) rfl rfl (nle rfl) q81 (s_X_gain (by omega) hw (fun r80 h79 hv => ?_))
  replace hw := hv
  clear hv
  show aW (some (L, xs)) m_L_law (d + 1) 396 [(0, ar 1), (1, ar v1), (2, ar v2), (3, ai v3)] [ai r80] h79 bc bs QQ
  refine r_aload_n (j := 2) d_L_law_396 rfl ?_
  refine r_aload_n (j := 0) d_L_law_397 rfl ?_
  refine r_iload_n (j := 3) d_L_law_398 rfl ?_
  refine r_iconst d_L_law_399 kc_1 ?_
  refine r_iadd d_L_law_400 ?_
  obtain ⟨q82, hw⟩ := hw
  refine r_sld rfl d_L_law_401 q82 ?_
  obtain ⟨q85, hw⟩ := hw
  refine r_callV (av := [ai (xs (ix (v3 + (1 : Int32))))]) (rest := [ai r80]) (ci := 12) d_L_law_402 mk_M_gain ll_L_40 im_M_gain se_M_gain rfl (nle rfl) rfl rfl (nle rfl) q85 (s_M_gain (by omega) hw (fun r84 h83 hv => ?_))
  replace hw := hv
  clear hv
  show aW (some (L, xs)) m_L_law (d + 1) 405 [(0, ar 1), (1, ar v1), (2, ar v2), (3, ai v3)] [ai r84, ai r80] h83 bc bs QQ
  refine r_icmp_eq d_L_law_405 (fun w9 => ?_) (fun w9 => ?_)
  · replace hw := hw.1 w9
    exact s_L_law_B1537 hd hQ hk18 hw
  · replace hw := hw.2 w9
    refine r_iconst d_L_law_408 kc_0 ?_
    exact r_zreturn d_L_law_409.1 rfl (Or.inl rfl) (hQ _ _ hw)
set_option maxRecDepth 100000 in
set_option maxHeartbeats 4000000 in
theorem s_L_law_B410 {L : Nat} {xs : Nat → Int32} {d : Nat} (hd : 65 ≤ d + 1) {Q : Bool → Hp → Prop} {QQ : Option AV → Hp → Prop} (hQ : ∀ r9 h9, Q r9 h9 → QQ (some (ai (b2i r9))) h9) {v1 : Nat} {v2 : Nat} {v3 : Int32} {bc : Nat} {bs : Nat} {h : Hp} {k18 : Int32 → Nat → Nat → Hp → Prop} (hk18 : ∀ v3 bc bs h9, k18 v3 bc bs h9 → aW (some (L, xs)) m_L_law (d + 1) 18 [(0, ar 1), (1, ar v1), (2, ar v2), (3, ai v3)] [] h9 bc bs QQ) (hw : w_L_law_B410 L xs Q k18 v1 v2 v3 bc bs h) : aW (some (L, xs)) m_L_law (d + 1) 410 [(0, ar 1), (1, ar v1), (2, ar v2), (3, ai v3)] [] h bc bs QQ := by
  unfold w_L_law_B410 at hw
  refine r_aload_n (j := 1) d_L_law_410 rfl ?_
  refine r_aload_n (j := 0) d_L_law_411 rfl ?_
  refine r_iload_n (j := 3) d_L_law_412 rfl ?_
  refine r_iconst d_L_law_413 kc_1 ?_
  refine r_iadd d_L_law_414 ?_
  obtain ⟨q86, hw⟩ := hw
  refine r_sld rfl d_L_law_415 q86 ?_
  obtain ⟨q89, hw⟩ := hw
  refine r_callV (av := [ai (xs (ix (v3 + (1 : Int32))))]) (rest := []) (ci := 11) d_L_law_416 mk_X_need ll_L_41 im_X_need se_X_need rfl (nle rfl) rfl rfl (nle rfl) q89 (s_X_need (by omega) hw (fun r88 h87 hv => ?_))
  replace hw := hv
  clear hv
  show aW (some (L, xs)) m_L_law (d + 1) 419 [(0, ar 1), (1, ar v1), (2, ar v2), (3, ai v3)] [ai r88] h87 bc bs QQ
  refine r_aload_n (j := 2) d_L_law_419 rfl ?_
  refine r_aload_n (j := 0) d_L_law_420 rfl ?_
  refine r_iload_n (j := 3) d_L_law_421 rfl ?_
  refine r_iconst d_L_law_422 kc_1 ?_
  refine r_iadd d_L_law_423 ?_
  obtain ⟨q90, hw⟩ := hw
  refine r_sld rfl d_L_law_424 q90 ?_
  obtain ⟨q93, hw⟩ := hw
  refine r_callV (av := [ai (xs (ix (v3 + (1 : Int32))))]) (rest := [ai r88]) (ci := 12) d_L_law_425 mk_M_need ll_L_44 im_M_need se_M_need rfl (nle rfl) rfl rfl (nle rfl) q93 (s_M_need (by omega) hw (fun r92 h91 hv => ?_))
  replace hw := hv
  clear hv
  show aW (some (L, xs)) m_L_law (d + 1) 428 [(0, ar 1), (1, ar v1), (2, ar v2), (3, ai v3)] [ai r92, ai r88] h91 bc bs QQ
  refine r_icmp_eq d_L_law_428 (fun w9 => ?_) (fun w9 => ?_)
  · replace hw := hw.1 w9
    exact s_L_law_B1537 hd hQ hk18 hw
  · replace hw := hw.2 w9
    refine r_iconst d_L_law_431 kc_0 ?_
    exact r_zreturn d_L_law_432.1 rfl (Or.inl rfl) (hQ _ _ hw)
set_option maxRecDepth 100000 in
set_option maxHeartbeats 4000000 in
theorem s_L_law_B433 {L : Nat} {xs : Nat → Int32} {d : Nat} (hd : 65 ≤ d + 1) {Q : Bool → Hp → Prop} {QQ : Option AV → Hp → Prop} (hQ : ∀ r9 h9, Q r9 h9 → QQ (some (ai (b2i r9))) h9) {v1 : Nat} {v2 : Nat} {v3 : Int32} {bc : Nat} {bs : Nat} {h : Hp} {k18 : Int32 → Nat → Nat → Hp → Prop} (hk18 : ∀ v3 bc bs h9, k18 v3 bc bs h9 → aW (some (L, xs)) m_L_law (d + 1) 18 [(0, ar 1), (1, ar v1), (2, ar v2), (3, ai v3)] [] h9 bc bs QQ) (hw : w_L_law_B433 L xs Q k18 v1 v2 v3 bc bs h) : aW (some (L, xs)) m_L_law (d + 1) 433 [(0, ar 1), (1, ar v1), (2, ar v2), (3, ai v3)] [] h bc bs QQ := by
  unfold w_L_law_B433 at hw
  refine r_aload_n (j := 1) d_L_law_433 rfl ?_
  refine r_aload_n (j := 0) d_L_law_434 rfl ?_
  refine r_iload_n (j := 3) d_L_law_435 rfl ?_
  refine r_iconst d_L_law_436 kc_1 ?_
  refine r_iadd d_L_law_437 ?_
  obtain ⟨q94, hw⟩ := hw
  refine r_sld rfl d_L_law_438 q94 ?_
  refine r_aload_n (j := 0) d_L_law_439 rfl ?_
  refine r_iload_n (j := 3) d_L_law_440 rfl ?_
  refine r_iconst d_L_law_441 kc_2 ?_
  refine r_iadd d_L_law_442 ?_
  obtain ⟨q95, hw⟩ := hw
  refine r_sld rfl d_L_law_443 q95 ?_
  refine r_aload_n (j := 0) d_L_law_444 rfl ?_
  refine r_iload_n (j := 3) d_L_law_445 rfl ?_
  refine r_iconst d_L_law_446 kc_3 ?_
  refine r_iadd d_L_law_447 ?_
  obtain ⟨q96, hw⟩ := hw
  refine r_sld rfl d_L_law_448 q96 ?_
  obtain ⟨q99, hw⟩ := hw
  refine r_callV (av := [ai (xs (ix (v3 + (1 : Int32)))), ai (xs (ix (v3 + (2 : Int32)))), ai (xs (ix (v3 + (3 : Int32))))]) (rest := []) (ci := 11) d_L_law_449 mk_X_change ll_L_45 im_X_change se_X_change rfl (nle rfl) rfl rfl (nle rfl) q99 (s_X_change (by omega) hw (fun r98 h97 hv => ?_))
  replace hw := hv
  clear hv
  show aW (some (L, xs)) m_L_law (d + 1) 452 [(0, ar 1), (1, ar v1), (2, ar v2), (3, ai v3)] [ai r98] h97 bc bs QQ
  refine r_aload_n (j := 2) d_L_law_452 rfl ?_
  refine r_aload_n (j := 0) d_L_law_453 rfl ?_
  refine r_iload_n (j := 3) d_L_law_454 rfl ?_
  refine r_iconst d_L_law_455 kc_1 ?_
  refine r_iadd d_L_law_456 ?_
  obtain ⟨q100, hw⟩ := hw
  refine r_sld rfl d_L_law_457 q100 ?_
  refine r_aload_n (j := 0) d_L_law_458 rfl ?_
  refine r_iload_n (j := 3) d_L_law_459 rfl ?_
  refine r_iconst d_L_law_460 kc_2 ?_
  refine r_iadd d_L_law_461 ?_
  obtain ⟨q101, hw⟩ := hw
  refine r_sld rfl d_L_law_462 q101 ?_
  refine r_aload_n (j := 0) d_L_law_463 rfl ?_
  refine r_iload_n (j := 3) d_L_law_464 rfl ?_
  refine r_iconst d_L_law_465 kc_3 ?_
  refine r_iadd d_L_law_466 ?_
  obtain ⟨q102, hw⟩ := hw
  refine r_sld rfl d_L_law_467 q102 ?_
  obtain ⟨q105, hw⟩ := hw
  refine r_callV (av := [ai (xs (ix (v3 + (1 : Int32)))), ai (xs (ix (v3 + (2 : Int32)))), ai (xs (ix (v3 + (3 : Int32))))]) (rest := [ai r98]) (ci := 12) d_L_law_468 mk_M_change ll_L_49 im_M_change se_M_change rfl (nle rfl) rfl rfl (nle rfl) q105 (s_M_change (by omega) hw (fun r104 h103 hv => ?_))
  replace hw := hv
  clear hv
  show aW (some (L, xs)) m_L_law (d + 1) 471 [(0, ar 1), (1, ar v1), (2, ar v2), (3, ai v3)] [ai r104, ai r98] h103 bc bs QQ
  refine r_icmp_eq d_L_law_471 (fun w9 => ?_) (fun w9 => ?_)
  · replace hw := hw.1 w9
    exact s_L_law_B1537 hd hQ hk18 hw
  · replace hw := hw.2 w9
    refine r_iconst d_L_law_474 kc_0 ?_
    exact r_zreturn d_L_law_475.1 rfl (Or.inl rfl) (hQ _ _ hw)
set_option maxRecDepth 100000 in
set_option maxHeartbeats 4000000 in
theorem s_L_law_B476 {L : Nat} {xs : Nat → Int32} {d : Nat} (hd : 65 ≤ d + 1) {Q : Bool → Hp → Prop} {QQ : Option AV → Hp → Prop} (hQ : ∀ r9 h9, Q r9 h9 → QQ (some (ai (b2i r9))) h9) {v1 : Nat} {v2 : Nat} {v3 : Int32} {bc : Nat} {bs : Nat} {h : Hp} {k18 : Int32 → Nat → Nat → Hp → Prop} (hk18 : ∀ v3 bc bs h9, k18 v3 bc bs h9 → aW (some (L, xs)) m_L_law (d + 1) 18 [(0, ar 1), (1, ar v1), (2, ar v2), (3, ai v3)] [] h9 bc bs QQ) (hw : w_L_law_B476 L xs Q k18 v1 v2 v3 bc bs h) : aW (some (L, xs)) m_L_law (d + 1) 476 [(0, ar 1), (1, ar v1), (2, ar v2), (3, ai v3)] [] h bc bs QQ := by
  unfold w_L_law_B476 at hw
  refine r_aload_n (j := 1) d_L_law_476 rfl ?_
  refine r_aload_n (j := 0) d_L_law_477 rfl ?_
  refine r_iload_n (j := 3) d_L_law_478 rfl ?_
  refine r_iconst d_L_law_479 kc_1 ?_
  refine r_iadd d_L_law_480 ?_
  obtain ⟨q106, hw⟩ := hw
  refine r_sld rfl d_L_law_481 q106 ?_
  refine r_aload_n (j := 0) d_L_law_482 rfl ?_
  refine r_iload_n (j := 3) d_L_law_483 rfl ?_
  refine r_iconst d_L_law_484 kc_2 ?_
  refine r_iadd d_L_law_485 ?_
  obtain ⟨q107, hw⟩ := hw
  refine r_sld rfl d_L_law_486 q107 ?_
  obtain ⟨q110, hw⟩ := hw
  refine r_callV (av := [ai (xs (ix (v3 + (1 : Int32)))), ai (xs (ix (v3 + (2 : Int32))))]) (rest := []) (ci := 11) d_L_law_487 mk_X_worth ll_L_50 im_X_worth se_X_worth rfl (nle rfl) rfl rfl (nle rfl) q110 (s_X_worth (by omega) hw (fun r109 h108 hv => ?_))
  replace hw := hv
  clear hv
  show aW (some (L, xs)) m_L_law (d + 1) 490 [(0, ar 1), (1, ar v1), (2, ar v2), (3, ai v3)] [ai r109] h108 bc bs QQ
  refine r_aload_n (j := 2) d_L_law_490 rfl ?_
  refine r_aload_n (j := 0) d_L_law_491 rfl ?_
  refine r_iload_n (j := 3) d_L_law_492 rfl ?_
  refine r_iconst d_L_law_493 kc_1 ?_
  refine r_iadd d_L_law_494 ?_
  obtain ⟨q111, hw⟩ := hw
  refine r_sld rfl d_L_law_495 q111 ?_
  refine r_aload_n (j := 0) d_L_law_496 rfl ?_
  refine r_iload_n (j := 3) d_L_law_497 rfl ?_
  refine r_iconst d_L_law_498 kc_2 ?_
  refine r_iadd d_L_law_499 ?_
  obtain ⟨q112, hw⟩ := hw
  refine r_sld rfl d_L_law_500 q112 ?_
  obtain ⟨q115, hw⟩ := hw
  refine r_callV (av := [ai (xs (ix (v3 + (1 : Int32)))), ai (xs (ix (v3 + (2 : Int32))))]) (rest := [ai r109]) (ci := 12) d_L_law_501 mk_M_worth ll_L_53 im_M_worth se_M_worth rfl (nle rfl) rfl rfl (nle rfl) q115 (s_M_worth (by omega) hw (fun r114 h113 hv => ?_))
  replace hw := hv
  clear hv
  show aW (some (L, xs)) m_L_law (d + 1) 504 [(0, ar 1), (1, ar v1), (2, ar v2), (3, ai v3)] [ai r114, ai r109] h113 bc bs QQ
  refine r_icmp_eq d_L_law_504 (fun w9 => ?_) (fun w9 => ?_)
  · replace hw := hw.1 w9
    exact s_L_law_B1537 hd hQ hk18 hw
  · replace hw := hw.2 w9
    refine r_iconst d_L_law_507 kc_0 ?_
    exact r_zreturn d_L_law_508.1 rfl (Or.inl rfl) (hQ _ _ hw)
set_option maxRecDepth 100000 in
set_option maxHeartbeats 4000000 in
theorem s_L_law_B509 {L : Nat} {xs : Nat → Int32} {d : Nat} (hd : 65 ≤ d + 1) {Q : Bool → Hp → Prop} {QQ : Option AV → Hp → Prop} (hQ : ∀ r9 h9, Q r9 h9 → QQ (some (ai (b2i r9))) h9) {v1 : Nat} {v2 : Nat} {v3 : Int32} {bc : Nat} {bs : Nat} {h : Hp} {k18 : Int32 → Nat → Nat → Hp → Prop} (hk18 : ∀ v3 bc bs h9, k18 v3 bc bs h9 → aW (some (L, xs)) m_L_law (d + 1) 18 [(0, ar 1), (1, ar v1), (2, ar v2), (3, ai v3)] [] h9 bc bs QQ) (hw : w_L_law_B509 L xs Q k18 v1 v2 v3 bc bs h) : aW (some (L, xs)) m_L_law (d + 1) 509 [(0, ar 1), (1, ar v1), (2, ar v2), (3, ai v3)] [] h bc bs QQ := by
  unfold w_L_law_B509 at hw
  refine r_aload_n (j := 1) d_L_law_509 rfl ?_
  refine r_aload_n (j := 0) d_L_law_510 rfl ?_
  refine r_iload_n (j := 3) d_L_law_511 rfl ?_
  refine r_iconst d_L_law_512 kc_1 ?_
  refine r_iadd d_L_law_513 ?_
  obtain ⟨q116, hw⟩ := hw
  refine r_sld rfl d_L_law_514 q116 ?_
  refine r_aload_n (j := 0) d_L_law_515 rfl ?_
  refine r_iload_n (j := 3) d_L_law_516 rfl ?_
  refine r_iconst d_L_law_517 kc_2 ?_
  refine r_iadd d_L_law_518 ?_
  obtain ⟨q117, hw⟩ := hw
  refine r_sld rfl d_L_law_519 q117 ?_
  obtain ⟨q120, hw⟩ := hw
  refine r_callV (av := [ai (xs (ix (v3 + (1 : Int32)))), ai (xs (ix (v3 + (2 : Int32))))]) (rest := []) (ci := 11) d_L_law_520 mk_X_want ll_L_54 im_X_want se_X_want rfl (nle rfl) rfl rfl (nle rfl) q120 (s_X_want (by omega) hw (fun r119 h118 hv => ?_))
  replace hw := hv
  clear hv
  show aW (some (L, xs)) m_L_law (d + 1) 523 [(0, ar 1), (1, ar v1), (2, ar v2), (3, ai v3)] [ai r119] h118 bc bs QQ
  refine r_aload_n (j := 2) d_L_law_523 rfl ?_
  refine r_aload_n (j := 0) d_L_law_524 rfl ?_
  refine r_iload_n (j := 3) d_L_law_525 rfl ?_
  refine r_iconst d_L_law_526 kc_1 ?_
  refine r_iadd d_L_law_527 ?_
  obtain ⟨q121, hw⟩ := hw
  refine r_sld rfl d_L_law_528 q121 ?_
  refine r_aload_n (j := 0) d_L_law_529 rfl ?_
  refine r_iload_n (j := 3) d_L_law_530 rfl ?_
  refine r_iconst d_L_law_531 kc_2 ?_
  refine r_iadd d_L_law_532 ?_
  obtain ⟨q122, hw⟩ := hw
  refine r_sld rfl d_L_law_533 q122 ?_
  obtain ⟨q125, hw⟩ := hw
  refine r_callV (av := [ai (xs (ix (v3 + (1 : Int32)))), ai (xs (ix (v3 + (2 : Int32))))]) (rest := [ai r119]) (ci := 12) d_L_law_534 mk_M_want ll_L_57 im_M_want se_M_want rfl (nle rfl) rfl rfl (nle rfl) q125 (s_M_want (by omega) hw (fun r124 h123 hv => ?_))
  replace hw := hv
  clear hv
  show aW (some (L, xs)) m_L_law (d + 1) 537 [(0, ar 1), (1, ar v1), (2, ar v2), (3, ai v3)] [ai r124, ai r119] h123 bc bs QQ
  refine r_icmp_eq d_L_law_537 (fun w9 => ?_) (fun w9 => ?_)
  · replace hw := hw.1 w9
    exact s_L_law_B1537 hd hQ hk18 hw
  · replace hw := hw.2 w9
    refine r_iconst d_L_law_540 kc_0 ?_
    exact r_zreturn d_L_law_541.1 rfl (Or.inl rfl) (hQ _ _ hw)
set_option maxRecDepth 100000 in
set_option maxHeartbeats 4000000 in
theorem s_L_law_B542 {L : Nat} {xs : Nat → Int32} {d : Nat} (hd : 65 ≤ d + 1) {Q : Bool → Hp → Prop} {QQ : Option AV → Hp → Prop} (hQ : ∀ r9 h9, Q r9 h9 → QQ (some (ai (b2i r9))) h9) {v1 : Nat} {v2 : Nat} {v3 : Int32} {bc : Nat} {bs : Nat} {h : Hp} {k18 : Int32 → Nat → Nat → Hp → Prop} (hk18 : ∀ v3 bc bs h9, k18 v3 bc bs h9 → aW (some (L, xs)) m_L_law (d + 1) 18 [(0, ar 1), (1, ar v1), (2, ar v2), (3, ai v3)] [] h9 bc bs QQ) (hw : w_L_law_B542 L xs Q k18 v1 v2 v3 bc bs h) : aW (some (L, xs)) m_L_law (d + 1) 542 [(0, ar 1), (1, ar v1), (2, ar v2), (3, ai v3)] [] h bc bs QQ := by
  unfold w_L_law_B542 at hw
  refine r_aload_n (j := 1) d_L_law_542 rfl ?_
  refine r_aload_n (j := 0) d_L_law_543 rfl ?_
  refine r_iload_n (j := 3) d_L_law_544 rfl ?_
  refine r_iconst d_L_law_545 kc_1 ?_
  refine r_iadd d_L_law_546 ?_
  obtain ⟨q126, hw⟩ := hw
  refine r_sld rfl d_L_law_547 q126 ?_
  obtain ⟨q129, hw⟩ := hw
  refine r_callV (av := [ai (xs (ix (v3 + (1 : Int32))))]) (rest := []) (ci := 11) d_L_law_548 mk_X_allow ll_L_58 im_X_allow se_X_allow rfl (nle rfl) rfl rfl (nle rfl) q129 (s_X_allow (by omega) hw (fun r128 h127 hv => ?_))
  replace hw := hv
  clear hv
  show aW (some (L, xs)) m_L_law (d + 1) 551 [(0, ar 1), (1, ar v1), (2, ar v2), (3, ai v3)] [ai r128] h127 bc bs QQ
  refine r_aload_n (j := 2) d_L_law_551 rfl ?_
  refine r_aload_n (j := 0) d_L_law_552 rfl ?_
  refine r_iload_n (j := 3) d_L_law_553 rfl ?_
  refine r_iconst d_L_law_554 kc_1 ?_
  refine r_iadd d_L_law_555 ?_
  obtain ⟨q130, hw⟩ := hw
  refine r_sld rfl d_L_law_556 q130 ?_
  obtain ⟨q133, hw⟩ := hw
  refine r_callV (av := [ai (xs (ix (v3 + (1 : Int32))))]) (rest := [ai r128]) (ci := 12) d_L_law_557 mk_M_allow ll_L_61 im_M_allow se_M_allow rfl (nle rfl) rfl rfl (nle rfl) q133 (s_M_allow (by omega) hw (fun r132 h131 hv => ?_))
  replace hw := hv
  clear hv
  show aW (some (L, xs)) m_L_law (d + 1) 560 [(0, ar 1), (1, ar v1), (2, ar v2), (3, ai v3)] [ai r132, ai r128] h131 bc bs QQ
  refine r_icmp_eq d_L_law_560 (fun w9 => ?_) (fun w9 => ?_)
  · replace hw := hw.1 w9
    exact s_L_law_B1537 hd hQ hk18 hw
  · replace hw := hw.2 w9
    refine r_iconst d_L_law_563 kc_0 ?_
    exact r_zreturn d_L_law_564.1 rfl (Or.inl rfl) (hQ _ _ hw)
set_option maxRecDepth 100000 in
set_option maxHeartbeats 4000000 in
theorem s_L_law_B565 {L : Nat} {xs : Nat → Int32} {d : Nat} (hd : 65 ≤ d + 1) {Q : Bool → Hp → Prop} {QQ : Option AV → Hp → Prop} (hQ : ∀ r9 h9, Q r9 h9 → QQ (some (ai (b2i r9))) h9) {v1 : Nat} {v2 : Nat} {v3 : Int32} {bc : Nat} {bs : Nat} {h : Hp} {k18 : Int32 → Nat → Nat → Hp → Prop} (hk18 : ∀ v3 bc bs h9, k18 v3 bc bs h9 → aW (some (L, xs)) m_L_law (d + 1) 18 [(0, ar 1), (1, ar v1), (2, ar v2), (3, ai v3)] [] h9 bc bs QQ) (hw : w_L_law_B565 L xs Q k18 v1 v2 v3 bc bs h) : aW (some (L, xs)) m_L_law (d + 1) 565 [(0, ar 1), (1, ar v1), (2, ar v2), (3, ai v3)] [] h bc bs QQ := by
  unfold w_L_law_B565 at hw
  refine r_aload_n (j := 1) d_L_law_565 rfl ?_
  refine r_aload_n (j := 0) d_L_law_566 rfl ?_
  refine r_iload_n (j := 3) d_L_law_567 rfl ?_
  refine r_iconst d_L_law_568 kc_1 ?_
  refine r_iadd d_L_law_569 ?_
  obtain ⟨q134, hw⟩ := hw
  refine r_sld rfl d_L_law_570 q134 ?_
  refine r_aload_n (j := 0) d_L_law_571 rfl ?_
  refine r_iload_n (j := 3) d_L_law_572 rfl ?_
  refine r_iconst d_L_law_573 kc_2 ?_
  refine r_iadd d_L_law_574 ?_
  obtain ⟨q135, hw⟩ := hw
  refine r_sld rfl d_L_law_575 q135 ?_
  obtain ⟨q138, hw⟩ := hw
  refine r_callV (av := [ai (xs (ix (v3 + (1 : Int32)))), ai (xs (ix (v3 + (2 : Int32))))]) (rest := []) (ci := 11) d_L_law_576 mk_X_hold ll_L_62 im_X_hold se_X_hold rfl (nle rfl) rfl rfl (nle rfl) q138 (s_X_hold (by omega) hw (fun r137 h136 hv => ?_))
  replace hw := hv
  clear hv
  show aW (some (L, xs)) m_L_law (d + 1) 579 [(0, ar 1), (1, ar v1), (2, ar v2), (3, ai v3)] [ai r137] h136 bc bs QQ
  refine r_aload_n (j := 2) d_L_law_579 rfl ?_
  refine r_aload_n (j := 0) d_L_law_580 rfl ?_
  refine r_iload_n (j := 3) d_L_law_581 rfl ?_
  refine r_iconst d_L_law_582 kc_1 ?_
  refine r_iadd d_L_law_583 ?_
  obtain ⟨q139, hw⟩ := hw
  refine r_sld rfl d_L_law_584 q139 ?_
  refine r_aload_n (j := 0) d_L_law_585 rfl ?_
  refine r_iload_n (j := 3) d_L_law_586 rfl ?_
  refine r_iconst d_L_law_587 kc_2 ?_
  refine r_iadd d_L_law_588 ?_
  obtain ⟨q140, hw⟩ := hw
  refine r_sld rfl d_L_law_589 q140 ?_
  obtain ⟨q143, hw⟩ := hw
  refine r_callV (av := [ai (xs (ix (v3 + (1 : Int32)))), ai (xs (ix (v3 + (2 : Int32))))]) (rest := [ai r137]) (ci := 12) d_L_law_590 mk_M_hold ll_L_65 im_M_hold se_M_hold rfl (nle rfl) rfl rfl (nle rfl) q143 (s_M_hold (by omega) hw (fun r142 h141 hv => ?_))
  replace hw := hv
  clear hv
  show aW (some (L, xs)) m_L_law (d + 1) 593 [(0, ar 1), (1, ar v1), (2, ar v2), (3, ai v3)] [ai r142, ai r137] h141 bc bs QQ
  refine r_icmp_eq d_L_law_593 (fun w9 => ?_) (fun w9 => ?_)
  · replace hw := hw.1 w9
    exact s_L_law_B1537 hd hQ hk18 hw
  · replace hw := hw.2 w9
    refine r_iconst d_L_law_596 kc_0 ?_
    exact r_zreturn d_L_law_597.1 rfl (Or.inl rfl) (hQ _ _ hw)
set_option maxRecDepth 100000 in
set_option maxHeartbeats 4000000 in
theorem s_L_law_B598 {L : Nat} {xs : Nat → Int32} {d : Nat} (hd : 65 ≤ d + 1) {Q : Bool → Hp → Prop} {QQ : Option AV → Hp → Prop} (hQ : ∀ r9 h9, Q r9 h9 → QQ (some (ai (b2i r9))) h9) {v1 : Nat} {v2 : Nat} {v3 : Int32} {bc : Nat} {bs : Nat} {h : Hp} {k18 : Int32 → Nat → Nat → Hp → Prop} (hk18 : ∀ v3 bc bs h9, k18 v3 bc bs h9 → aW (some (L, xs)) m_L_law (d + 1) 18 [(0, ar 1), (1, ar v1), (2, ar v2), (3, ai v3)] [] h9 bc bs QQ) (hw : w_L_law_B598 L xs Q k18 v1 v2 v3 bc bs h) : aW (some (L, xs)) m_L_law (d + 1) 598 [(0, ar 1), (1, ar v1), (2, ar v2), (3, ai v3)] [] h bc bs QQ := by
  unfold w_L_law_B598 at hw
  refine r_aload_n (j := 1) d_L_law_598 rfl ?_
  refine r_aload_n (j := 0) d_L_law_599 rfl ?_
  refine r_iload_n (j := 3) d_L_law_600 rfl ?_
  refine r_iconst d_L_law_601 kc_1 ?_
  refine r_iadd d_L_law_602 ?_
  obtain ⟨q144, hw⟩ := hw
  refine r_sld rfl d_L_law_603 q144 ?_
  obtain ⟨q147, hw⟩ := hw
  refine r_callV (av := [ai (xs (ix (v3 + (1 : Int32))))]) (rest := []) (ci := 11) d_L_law_604 mk_X_better ll_L_66 im_X_better se_X_better rfl (nle rfl) rfl rfl (nle rfl) q147 (s_X_better (by omega) hw (fun r146 h145 hv => ?_))
  replace hw := hv
  clear hv
  show aW (some (L, xs)) m_L_law (d + 1) 607 [(0, ar 1), (1, ar v1), (2, ar v2), (3, ai v3)] [ai r146] h145 bc bs QQ
  refine r_aload_n (j := 2) d_L_law_607 rfl ?_
  refine r_aload_n (j := 0) d_L_law_608 rfl ?_
  refine r_iload_n (j := 3) d_L_law_609 rfl ?_
  refine r_iconst d_L_law_610 kc_1 ?_
  refine r_iadd d_L_law_611 ?_
  obtain ⟨q148, hw⟩ := hw
  refine r_sld rfl d_L_law_612 q148 ?_
  obtain ⟨q151, hw⟩ := hw
  refine r_callV (av := [ai (xs (ix (v3 + (1 : Int32))))]) (rest := [ai r146]) (ci := 12) d_L_law_613 mk_M_better ll_L_69 im_M_better se_M_better rfl (nle rfl) rfl rfl (nle rfl) q151 (s_M_better (by omega) hw (fun r150 h149 hv => ?_))
  replace hw := hv
  clear hv
  show aW (some (L, xs)) m_L_law (d + 1) 616 [(0, ar 1), (1, ar v1), (2, ar v2), (3, ai v3)] [ai r150, ai r146] h149 bc bs QQ
  refine r_icmp_eq d_L_law_616 (fun w9 => ?_) (fun w9 => ?_)
  · replace hw := hw.1 w9
    exact s_L_law_B1537 hd hQ hk18 hw
  · replace hw := hw.2 w9
    refine r_iconst d_L_law_619 kc_0 ?_
    exact r_zreturn d_L_law_620.1 rfl (Or.inl rfl) (hQ _ _ hw)
set_option maxRecDepth 100000 in
set_option maxHeartbeats 4000000 in
theorem s_L_law_B621 {L : Nat} {xs : Nat → Int32} {d : Nat} (hd : 65 ≤ d + 1) {Q : Bool → Hp → Prop} {QQ : Option AV → Hp → Prop} (hQ : ∀ r9 h9, Q r9 h9 → QQ (some (ai (b2i r9))) h9) {v1 : Nat} {v2 : Nat} {v3 : Int32} {bc : Nat} {bs : Nat} {h : Hp} {k18 : Int32 → Nat → Nat → Hp → Prop} (hk18 : ∀ v3 bc bs h9, k18 v3 bc bs h9 → aW (some (L, xs)) m_L_law (d + 1) 18 [(0, ar 1), (1, ar v1), (2, ar v2), (3, ai v3)] [] h9 bc bs QQ) (hw : w_L_law_B621 L xs Q k18 v1 v2 v3 bc bs h) : aW (some (L, xs)) m_L_law (d + 1) 621 [(0, ar 1), (1, ar v1), (2, ar v2), (3, ai v3)] [] h bc bs QQ := by
  unfold w_L_law_B621 at hw
  refine r_aload_n (j := 1) d_L_law_621 rfl ?_
  obtain ⟨q154, hw⟩ := hw
  refine r_callV (av := []) (rest := []) (ci := 11) d_L_law_622 mk_X_undo ll_L_70 im_X_undo se_X_undo rfl (nle rfl) rfl rfl (nle rfl) q154 (s_X_undo (by omega) hw (fun r153 h152 hv => ?_))
  replace hw := hv
  clear hv
  show aW (some (L, xs)) m_L_law (d + 1) 625 [(0, ar 1), (1, ar v1), (2, ar v2), (3, ai v3)] [ai (b2i r153)] h152 bc bs QQ
  refine r_aload_n (j := 2) d_L_law_625 rfl ?_
  obtain ⟨q157, hw⟩ := hw
  refine r_callV (av := []) (rest := [ai (b2i r153)]) (ci := 12) d_L_law_626 mk_M_undo ll_L_74 im_M_undo se_M_undo rfl (nle rfl) rfl rfl (nle rfl) q157 (s_M_undo (by omega) hw (fun r156 h155 hv => ?_))
  replace hw := hv
  clear hv
  show aW (some (L, xs)) m_L_law (d + 1) 629 [(0, ar 1), (1, ar v1), (2, ar v2), (3, ai v3)] [ai (b2i r156), ai (b2i r153)] h155 bc bs QQ
  refine r_icmp_eq d_L_law_629 (fun w9 => ?_) (fun w9 => ?_)
  · replace hw := hw.1 w9
    exact s_L_law_B1537 hd hQ hk18 hw
  · replace hw := hw.2 w9
    refine r_iconst d_L_law_632 kc_0 ?_
    exact r_zreturn d_L_law_633.1 rfl (Or.inl rfl) (hQ _ _ hw)
set_option maxRecDepth 100000 in
set_option maxHeartbeats 4000000 in
theorem s_L_law_B634 {L : Nat} {xs : Nat → Int32} {d : Nat} (hd : 65 ≤ d + 1) {Q : Bool → Hp → Prop} {QQ : Option AV → Hp → Prop} (hQ : ∀ r9 h9, Q r9 h9 → QQ (some (ai (b2i r9))) h9) {v1 : Nat} {v2 : Nat} {v3 : Int32} {bc : Nat} {bs : Nat} {h : Hp} {k18 : Int32 → Nat → Nat → Hp → Prop} (hk18 : ∀ v3 bc bs h9, k18 v3 bc bs h9 → aW (some (L, xs)) m_L_law (d + 1) 18 [(0, ar 1), (1, ar v1), (2, ar v2), (3, ai v3)] [] h9 bc bs QQ) (hw : w_L_law_B634 L xs Q k18 v1 v2 v3 bc bs h) : aW (some (L, xs)) m_L_law (d + 1) 634 [(0, ar 1), (1, ar v1), (2, ar v2), (3, ai v3)] [] h bc bs QQ := by
  unfold w_L_law_B634 at hw
  refine r_aload_n (j := 1) d_L_law_634 rfl ?_
  obtain ⟨q160, hw⟩ := hw
  refine r_callV (av := []) (rest := []) (ci := 11) d_L_law_635 mk_X_redo ll_L_75 im_X_redo se_X_redo rfl (nle rfl) rfl rfl (nle rfl) q160 (s_X_redo (by omega) hw (fun r159 h158 hv => ?_))
  replace hw := hv
  clear hv
  show aW (some (L, xs)) m_L_law (d + 1) 638 [(0, ar 1), (1, ar v1), (2, ar v2), (3, ai v3)] [ai (b2i r159)] h158 bc bs QQ
  refine r_aload_n (j := 2) d_L_law_638 rfl ?_
  obtain ⟨q163, hw⟩ := hw
  refine r_callV (av := []) (rest := [ai (b2i r159)]) (ci := 12) d_L_law_639 mk_M_redo ll_L_78 im_M_redo se_M_redo rfl (nle rfl) rfl rfl (nle rfl) q163 (s_M_redo (by omega) hw (fun r162 h161 hv => ?_))
  replace hw := hv
  clear hv
  show aW (some (L, xs)) m_L_law (d + 1) 642 [(0, ar 1), (1, ar v1), (2, ar v2), (3, ai v3)] [ai (b2i r162), ai (b2i r159)] h161 bc bs QQ
  refine r_icmp_eq d_L_law_642 (fun w9 => ?_) (fun w9 => ?_)
  · replace hw := hw.1 w9
    exact s_L_law_B1537 hd hQ hk18 hw
  · replace hw := hw.2 w9
    refine r_iconst d_L_law_645 kc_0 ?_
    exact r_zreturn d_L_law_646.1 rfl (Or.inl rfl) (hQ _ _ hw)
