set_option maxRecDepth 100000 in
set_option maxHeartbeats 4000000 in
theorem s_X_commonDivisor_L3 {d : Nat} {Q : Int64 → Hp → Prop} {QQ : Option AV → Hp → Prop} (hQ : ∀ r9 h9, Q r9 h9 → QQ (some (al r9)) h9) : ∀ (n : Nat) (v0 : Int64) (v2 : Int64) (v4 : Int32) (h : Hp), w_X_commonDivisor_L3 Q   n v0 v2 v4 h → aW none m_X_commonDivisor d 3 [(0, al v0), (2, al v2), (4, ai v4)] [] h 0 0 QQ := by
  intro n
  induction n with
  | zero => intro v0 v2 v4 h hw; exact hw.elim
  | succ n ih =>
    intro v0 v2 v4 h hw
    unfold w_X_commonDivisor_L3 at hw
    refine r_iload (j := 2) d_X_commonDivisor_3 rfl ?_
    refine r_sipush d_X_commonDivisor_5 ks_200 ?_
    refine r_icmp_ge d_X_commonDivisor_8 (fun w9 => ?_) (fun w9 => ?_)
    · replace hw := hw.1 w9
      refine r_lload_n (j := 0) d_X_commonDivisor_33 rfl ?_
      exact r_lreturn d_X_commonDivisor_34.1 rfl (hQ _ _ hw)
    · replace hw := hw.2 w9
      refine r_lload_n (j := 1) d_X_commonDivisor_11 rfl ?_
      refine r_lconst d_X_commonDivisor_12 kl_0 ?_
      refine r_lcmp d_X_commonDivisor_13 ?_
      refine r_if_eq d_X_commonDivisor_14 (fun w9 => ?_) (fun w9 => ?_)
      · replace hw := hw.1 ((lg_cmp_eq _ _).mp w9)
        refine r_lload_n (j := 0) d_X_commonDivisor_33 rfl ?_
        exact r_lreturn d_X_commonDivisor_34.1 rfl (hQ _ _ hw)
      · replace hw := hw.2 (fun g9 => w9 ((lg_cmp_eq _ _).mpr g9))
        refine r_lload_n (j := 0) d_X_commonDivisor_17 rfl ?_
        refine r_lload_n (j := 1) d_X_commonDivisor_18 rfl ?_
        obtain ⟨q1, hw⟩ := hw
        refine r_lrem d_X_commonDivisor_19 q1 ?_
        refine r_lstore (ls2 := [(5, al (jlrem v0 v2)), (0, al v0), (2, al v2), (4, ai v4)]) d_X_commonDivisor_20 (nle rfl) rfl ?_
        refine r_lload_n (j := 2) d_X_commonDivisor_22 rfl ?_
        refine r_lstore_n (ls2 := [(0, al v2), (5, al (jlrem v0 v2)), (2, al v2), (4, ai v4)]) d_X_commonDivisor_23 (nle rfl) rfl ?_
        refine r_lload (j := 1) d_X_commonDivisor_24 rfl ?_
        refine r_lstore_n (ls2 := [(2, al (jlrem v0 v2)), (0, al v2), (5, al (jlrem v0 v2)), (4, ai v4)]) d_X_commonDivisor_26 (nle rfl) rfl ?_
        refine r_iinc (j := 3) (ls2 := [(4, ai (v4 + (1 : Int32))), (2, al (jlrem v0 v2)), (0, al v2), (5, al (jlrem v0 v2))]) d_X_commonDivisor_27 rfl (congrArg (HAdd.hAdd v4) kc_1) (nle rfl) rfl ?_
        refine r_goto d_X_commonDivisor_30 ?_
        refine r_pick (ls2 := [(0, al v2), (2, al (jlrem v0 v2)), (4, ai (v4 + (1 : Int32)))]) [2, 1, 0] rfl ?_
        exact ih _ _ _ _ hw
set_option maxRecDepth 100000 in
set_option maxHeartbeats 4000000 in
theorem s_X_commonDivisor {d : Nat} {v0 : Int64} {v2 : Int64} {h : Hp} {Q : Int64 → Hp → Prop} {QQ : Option AV → Hp → Prop} (hw : w_X_commonDivisor v0 v2 h Q) (hQ : ∀ r9 h9, Q r9 h9 → QQ (some (al r9)) h9) : aCall m_X_commonDivisor d [al v0, al v2] h 0 0 QQ := by
  refine aCall_in pl_X_commonDivisor (nle rfl) ?_
  show aW none m_X_commonDivisor d 0 [(0, al v0), (2, al v2)] [] h 0 0 QQ
  unfold w_X_commonDivisor at hw
  refine r_iconst d_X_commonDivisor_0 kc_0 ?_
  refine r_istore (ls2 := [(4, ai (0 : Int32)), (0, al v0), (2, al v2)]) d_X_commonDivisor_1 (nle rfl) rfl ?_
  obtain ⟨n2, hw⟩ := hw
  refine r_pick (ls2 := [(0, al v0), (2, al v2), (4, ai (0 : Int32))]) [1, 2, 0] rfl ?_
  exact s_X_commonDivisor_L3 hQ  n2 _ _ _ _ hw
set_option maxRecDepth 100000 in
set_option maxHeartbeats 4000000 in
theorem s_JM_abs_JJ {d : Nat} {v0 : Int64} {h : Hp} {Q : Int64 → Hp → Prop} {QQ : Option AV → Hp → Prop} (hw : w_JM_abs_JJ v0 h Q) (hQ : ∀ r9 h9, Q r9 h9 → QQ (some (al r9)) h9) : aCall m_JM_abs_JJ d [al v0] h 0 0 QQ := by
  refine aCall_in pl_JM_abs_JJ (nle rfl) ?_
  show aW none m_JM_abs_JJ d 0 [(0, al v0)] [] h 0 0 QQ
  unfold w_JM_abs_JJ at hw
  refine r_lload_n (j := 0) d_JM_abs_JJ_0 rfl ?_
  refine r_lconst d_JM_abs_JJ_1 kl_0 ?_
  refine r_lcmp d_JM_abs_JJ_2 ?_
  refine r_if_ge d_JM_abs_JJ_3 (fun w9 => ?_) (fun w9 => ?_)
  · replace hw := hw.1 ((lg_cmp_ge _ _).mp w9)
    refine r_lload_n (j := 0) d_JM_abs_JJ_11 rfl ?_
    exact r_lreturn d_JM_abs_JJ_12.1 rfl (hQ _ _ hw)
  · replace hw := hw.2 (fun g9 => w9 ((lg_cmp_ge _ _).mpr g9))
    refine r_lload_n (j := 0) d_JM_abs_JJ_6 rfl ?_
    refine r_lneg d_JM_abs_JJ_7 ?_
    refine r_goto d_JM_abs_JJ_8 ?_
    exact r_lreturn d_JM_abs_JJ_12.1 rfl (hQ _ _ hw)
set_option maxRecDepth 100000 in
set_option maxHeartbeats 4000000 in
theorem s_X_part {d : Nat} (hd : 1 ≤ d) {v0 : Int64} {v2 : Int64} {v4 : Int32} {h : Hp} {Q : Int32 → Hp → Prop} {QQ : Option AV → Hp → Prop} (hw : w_X_part v0 v2 v4 h Q) (hQ : ∀ r9 h9, Q r9 h9 → QQ (some (ai r9)) h9) : aCall m_X_part d [al v0, al v2, ai v4] h 0 0 QQ := by
  obtain ⟨d, rfl⟩ : ∃ d9, d = d9 + 1 := ⟨d - 1, by omega⟩
  refine aCall_in pl_X_part (nle rfl) ?_
  show aW none m_X_part (d + 1) 0 [(0, al v0), (2, al v2), (4, ai v4)] [] h 0 0 QQ
  unfold w_X_part at hw
  refine r_lload_n (j := 0) d_X_part_0 rfl ?_
  refine r_callS (av := [al v0]) (rest := []) d_X_part_1 mk_JM_abs_JJ ll_X_310 st_JM_abs_JJ rfl rfl (nle rfl) (s_JM_abs_JJ  hw (fun r2 h1 hw => ?_))
  show aW none m_X_part (d + 1) 4 [(0, al v0), (2, al v2), (4, ai v4)] [al r2] h1 0 0 QQ
  refine r_lload_n (j := 1) d_X_part_4 rfl ?_
  refine r_callS (av := [al r2, al v2]) (rest := []) d_X_part_5 mk_X_commonDivisor ll_X_316 st_X_commonDivisor rfl rfl (nle rfl) (s_X_commonDivisor  hw (fun r4 h3 hw => ?_))
  show aW none m_X_part (d + 1) 8 [(0, al v0), (2, al v2), (4, ai v4)] [al r4] h3 0 0 QQ
  refine r_lstore (ls2 := [(5, al r4), (0, al v0), (2, al v2), (4, ai v4)]) d_X_part_8 (nle rfl) rfl ?_
  refine r_lload (j := 0) d_X_part_10 rfl ?_
  refine r_lconst d_X_part_12 kl_1 ?_
  refine r_lcmp d_X_part_13 ?_
  refine r_if_ge d_X_part_14 (fun w9 => ?_) (fun w9 => ?_)
  · replace hw := hw.1 ((lg_cmp_ge _ _).mp w9)
    refine r_iload (j := 3) d_X_part_20 rfl ?_
    refine r_if_ne d_X_part_22 (fun w9 => ?_) (fun w9 => ?_)
    · replace hw := hw.2 w9
      refine r_lload_n (j := 2) d_X_part_29 rfl ?_
      refine r_lload (j := 0) d_X_part_30 rfl ?_
      obtain ⟨q5, hw⟩ := hw
      refine r_ldiv d_X_part_32 q5 ?_
      refine r_l2i d_X_part_33 ?_
      exact r_ireturn d_X_part_34.1 rfl (hQ _ _ hw)
    · replace hw := hw.1 w9
      refine r_lload_n (j := 1) d_X_part_25 rfl ?_
      refine r_goto d_X_part_26 ?_
      refine r_lload (j := 0) d_X_part_30 rfl ?_
      obtain ⟨q6, hw⟩ := hw
      refine r_ldiv d_X_part_32 q6 ?_
      refine r_l2i d_X_part_33 ?_
      exact r_ireturn d_X_part_34.1 rfl (hQ _ _ hw)
  · replace hw := hw.2 (fun g9 => w9 ((lg_cmp_ge _ _).mpr g9))
    refine r_ldc d_X_part_17 lc_X_145 ?_
    exact r_ireturn d_X_part_19.1 rfl (hQ _ _ hw)
set_option maxRecDepth 100000 in
set_option maxHeartbeats 4000000 in
theorem s_X_relaxed {d : Nat} (hd : 4 ≤ d) {v0 : Nat} {v1 : Int32} {h : Hp} {Q : Int32 → Hp → Prop} {QQ : Option AV → Hp → Prop} (hw : w_X_relaxed v0 v1 h Q) (hQ : ∀ r9 h9, Q r9 h9 → QQ (some (ai r9)) h9) : aCall m_X_relaxed d [ar v0, ai v1] h 0 0 QQ := by
  obtain ⟨d, rfl⟩ : ∃ d9, d = d9 + 1 := ⟨d - 1, by omega⟩
  refine aCall_in pl_X_relaxed (nle rfl) ?_
  show aW none m_X_relaxed (d + 1) 0 [(0, ar v0), (1, ai v1)] [] h 0 0 QQ
  unfold w_X_relaxed at hw
  refine r_aload_n (j := 0) d_X_relaxed_0 rfl ?_
  obtain ⟨q1, hw⟩ := hw
  refine r_getR d_X_relaxed_1 ok_11 (nle rfl) (nle rfl) rfl lf_X_78 q1 ?_
  obtain ⟨q3, hw⟩ := hw
  refine r_callV (av := []) (rest := []) (ci := 2) d_X_relaxed_4 mk_Cr_find ll_X_282 im_Cr_find se_Cr_find rfl (nle rfl) rfl rfl (nle rfl) q3 (s_Cr_find (by omega) hw (fun h2 hw => ?_))
  show aW none m_X_relaxed (d + 1) 7 [(0, ar v0), (1, ai v1)] [] h2 0 0 QQ
  refine r_iload_n (j := 1) d_X_relaxed_7 rfl ?_
  refine r_if_lt d_X_relaxed_8 (fun w9 => ?_) (fun w9 => ?_)
  · replace hw := hw.1 w9
    refine r_ldc d_X_relaxed_26 lc_X_145 ?_
    exact r_ireturn d_X_relaxed_28.1 rfl (hQ _ _ hw)
  · replace hw := hw.2 w9
    refine r_iload_n (j := 1) d_X_relaxed_11 rfl ?_
    refine r_iconst d_X_relaxed_12 kc_3 ?_
    refine r_icmp_gt d_X_relaxed_13 (fun w9 => ?_) (fun w9 => ?_)
    · replace hw := hw.1 w9
      refine r_ldc d_X_relaxed_26 lc_X_145 ?_
      exact r_ireturn d_X_relaxed_28.1 rfl (hQ _ _ hw)
    · replace hw := hw.2 w9
      refine r_aload_n (j := 0) d_X_relaxed_16 rfl ?_
      obtain ⟨q4, hw⟩ := hw
      refine r_getR d_X_relaxed_17 ok_11 (nle rfl) (nle rfl) rfl lf_X_78 q4 ?_
      obtain ⟨q5, hw⟩ := hw
      refine r_getI d_X_relaxed_20 ok_2 (nle rfl) (nle rfl) rfl lf_X_284 q5 ?_
      refine r_if_ne d_X_relaxed_23 (fun w9 => ?_) (fun w9 => ?_)
      · replace hw := hw.2 w9
        refine r_iload_n (j := 1) d_X_relaxed_29 rfl ?_
        refine r_iconst d_X_relaxed_30 kc_3 ?_
        refine r_icmp_ne d_X_relaxed_31 (fun w9 => ?_) (fun w9 => ?_)
        · replace hw := hw.2 w9
          refine r_aload_n (j := 0) d_X_relaxed_50 rfl ?_
          refine r_getR d_X_relaxed_51 ok_11 (nle rfl) (nle rfl) rfl lf_X_78 q4 ?_
          refine r_getI d_X_relaxed_54 ok_2 (nle rfl) (nle rfl) rfl lf_X_287 q5 ?_
          refine r_if_eq d_X_relaxed_57 (fun w9 => ?_) (fun w9 => ?_)
          · replace hw := hw.1 w9
            refine r_iload_n (j := 1) d_X_relaxed_63 rfl ?_
            refine r_iconst d_X_relaxed_64 kc_2 ?_
            refine r_icmp_ne d_X_relaxed_65 (fun w9 => ?_) (fun w9 => ?_)
            · replace hw := hw.2 w9
              refine r_aload_n (j := 0) d_X_relaxed_76 rfl ?_
              refine r_getR d_X_relaxed_77 ok_11 (nle rfl) (nle rfl) rfl lf_X_78 q4 ?_
              refine r_getL d_X_relaxed_80 ok_2 (nle rfl) (nle rfl) rfl lf_X_293 q5 ?_
              refine r_aload_n (j := 0) d_X_relaxed_83 rfl ?_
              refine r_getR d_X_relaxed_84 ok_11 (nle rfl) (nle rfl) rfl lf_X_78 q4 ?_
              refine r_getL d_X_relaxed_87 ok_2 (nle rfl) (nle rfl) rfl lf_X_296 q5 ?_
              refine r_iload_n (j := 1) d_X_relaxed_90 rfl ?_
              refine r_callS (av := [al (gL h2 (gR h2 v0 10) 11), al (gL h2 (gR h2 v0 10) 12), ai v1]) (rest := []) d_X_relaxed_91 mk_X_part ll_X_299 st_X_part rfl rfl (nle rfl) (s_X_part (by omega) hw (fun r7 h6 hw => ?_))
              show aW none m_X_relaxed (d + 1) 94 [(0, ar v0), (1, ai v1)] [ai r7] h6 0 0 QQ
              exact r_ireturn d_X_relaxed_94.1 rfl (hQ _ _ hw)
            · replace hw := hw.1 w9
              refine r_aload_n (j := 0) d_X_relaxed_68 rfl ?_
              refine r_getR d_X_relaxed_69 ok_11 (nle rfl) (nle rfl) rfl lf_X_78 q4 ?_
              refine r_getI d_X_relaxed_72 ok_2 (nle rfl) (nle rfl) rfl lf_X_290 q5 ?_
              exact r_ireturn d_X_relaxed_75.1 rfl (hQ _ _ hw)
          · replace hw := hw.2 w9
            refine r_ldc d_X_relaxed_60 lc_X_145 ?_
            exact r_ireturn d_X_relaxed_62.1 rfl (hQ _ _ hw)
        · replace hw := hw.1 w9
          refine r_aload_n (j := 0) d_X_relaxed_34 rfl ?_
          refine r_getR d_X_relaxed_35 ok_11 (nle rfl) (nle rfl) rfl lf_X_78 q4 ?_
          refine r_getI d_X_relaxed_38 ok_2 (nle rfl) (nle rfl) rfl lf_X_287 q5 ?_
          refine r_if_eq d_X_relaxed_41 (fun w9 => ?_) (fun w9 => ?_)
          · replace hw := hw.1 w9
            refine r_iconst d_X_relaxed_48 kc_0 ?_
            exact r_ireturn d_X_relaxed_49.1 rfl (hQ _ _ hw)
          · replace hw := hw.2 w9
            refine r_iconst d_X_relaxed_44 kc_1 ?_
            refine r_goto d_X_relaxed_45 ?_
            exact r_ireturn d_X_relaxed_49.1 rfl (hQ _ _ hw)
      · replace hw := hw.1 w9
        refine r_ldc d_X_relaxed_26 lc_X_145 ?_
        exact r_ireturn d_X_relaxed_28.1 rfl (hQ _ _ hw)
set_option maxRecDepth 100000 in
set_option maxHeartbeats 4000000 in
theorem s_X_fraction {d : Nat} (hd : 4 ≤ d) {v0 : Nat} {v1 : Int32} {v2 : Int32} {h : Hp} {Q : Int32 → Hp → Prop} {QQ : Option AV → Hp → Prop} (hw : w_X_fraction v0 v1 v2 h Q) (hQ : ∀ r9 h9, Q r9 h9 → QQ (some (ai r9)) h9) : aCall m_X_fraction d [ar v0, ai v1, ai v2] h 0 0 QQ := by
  obtain ⟨d, rfl⟩ : ∃ d9, d = d9 + 1 := ⟨d - 1, by omega⟩
  refine aCall_in pl_X_fraction (nle rfl) ?_
  show aW none m_X_fraction (d + 1) 0 [(0, ar v0), (1, ai v1), (2, ai v2)] [] h 0 0 QQ
  unfold w_X_fraction at hw
  refine r_aload_n (j := 0) d_X_fraction_0 rfl ?_
  obtain ⟨q1, hw⟩ := hw
  refine r_getR d_X_fraction_1 ok_11 (nle rfl) (nle rfl) rfl lf_X_78 q1 ?_
  obtain ⟨q3, hw⟩ := hw
  refine r_callV (av := []) (rest := []) (ci := 2) d_X_fraction_4 mk_Cr_find ll_X_282 im_Cr_find se_Cr_find rfl (nle rfl) rfl rfl (nle rfl) q3 (s_Cr_find (by omega) hw (fun h2 hw => ?_))
  show aW none m_X_fraction (d + 1) 7 [(0, ar v0), (1, ai v1), (2, ai v2)] [] h2 0 0 QQ
  refine r_aload_n (j := 0) d_X_fraction_7 rfl ?_
  obtain ⟨q4, hw⟩ := hw
  refine r_getR d_X_fraction_8 ok_11 (nle rfl) (nle rfl) rfl lf_X_23 q4 ?_
  refine r_iload_n (j := 1) d_X_fraction_11 rfl ?_
  obtain ⟨q7, hw⟩ := hw
  refine r_callV (av := [ai v1]) (rest := []) (ci := 1) d_X_fraction_12 mk_Co_hasColumn ll_X_138 im_Co_hasColumn se_Co_hasColumn rfl (nle rfl) rfl rfl (nle rfl) q7 (s_Co_hasColumn  hw (fun r6 h5 hw => ?_))
  show aW none m_X_fraction (d + 1) 15 [(0, ar v0), (1, ai v1), (2, ai v2)] [ai (b2i r6)] h5 0 0 QQ
  refine r_if_eq d_X_fraction_15 (fun w9 => ?_) (fun w9 => ?_)
  · replace hw := hw.1 (b2i_0.mp w9)
    refine r_ldc d_X_fraction_37 lc_X_145 ?_
    exact r_ireturn d_X_fraction_39.1 rfl (hQ _ _ hw)
  · replace hw := hw.2 (fun g9 => w9 (b2i_0.mpr g9))
    refine r_iload_n (j := 2) d_X_fraction_18 rfl ?_
    refine r_if_lt d_X_fraction_19 (fun w9 => ?_) (fun w9 => ?_)
    · replace hw := hw.1 w9
      refine r_ldc d_X_fraction_37 lc_X_145 ?_
      exact r_ireturn d_X_fraction_39.1 rfl (hQ _ _ hw)
    · replace hw := hw.2 w9
      refine r_iload_n (j := 2) d_X_fraction_22 rfl ?_
      refine r_iconst d_X_fraction_23 kc_1 ?_
      refine r_icmp_gt d_X_fraction_24 (fun w9 => ?_) (fun w9 => ?_)
      · replace hw := hw.1 w9
        refine r_ldc d_X_fraction_37 lc_X_145 ?_
        exact r_ireturn d_X_fraction_39.1 rfl (hQ _ _ hw)
      · replace hw := hw.2 w9
        refine r_aload_n (j := 0) d_X_fraction_27 rfl ?_
        obtain ⟨q8, hw⟩ := hw
        refine r_getR d_X_fraction_28 ok_11 (nle rfl) (nle rfl) rfl lf_X_78 q8 ?_
        obtain ⟨q11, hw⟩ := hw
        refine r_callV (av := []) (rest := []) (ci := 2) d_X_fraction_31 mk_Cr_isThere ll_X_303 im_Cr_isThere se_Cr_isThere rfl (nle rfl) rfl rfl (nle rfl) q11 (s_Cr_isThere  hw (fun r10 h9 hw => ?_))
        show aW none m_X_fraction (d + 1) 34 [(0, ar v0), (1, ai v1), (2, ai v2)] [ai (b2i r10)] h9 0 0 QQ
        refine r_if_ne d_X_fraction_34 (fun w9 => ?_) (fun w9 => ?_)
        · replace hw := hw.2 (fun g9 => w9 (b2i_0.mpr g9))
          refine r_aload_n (j := 0) d_X_fraction_40 rfl ?_
          obtain ⟨q12, hw⟩ := hw
          refine r_getR d_X_fraction_41 ok_11 (nle rfl) (nle rfl) rfl lf_X_78 q12 ?_
          refine r_iload_n (j := 1) d_X_fraction_44 rfl ?_
          obtain ⟨q15, hw⟩ := hw
          refine r_callV (av := [ai v1]) (rest := []) (ci := 2) d_X_fraction_45 mk_Cr_upperOf ll_X_306 im_Cr_upperOf se_Cr_upperOf rfl (nle rfl) rfl rfl (nle rfl) q15 (s_Cr_upperOf  hw (fun r14 h13 hw => ?_))
          show aW none m_X_fraction (d + 1) 48 [(0, ar v0), (1, ai v1), (2, ai v2)] [al r14] h13 0 0 QQ
          refine r_aload_n (j := 0) d_X_fraction_48 rfl ?_
          obtain ⟨q16, hw⟩ := hw
          refine r_getR d_X_fraction_49 ok_11 (nle rfl) (nle rfl) rfl lf_X_78 q16 ?_
          obtain ⟨q17, hw⟩ := hw
          refine r_getL d_X_fraction_52 ok_2 (nle rfl) (nle rfl) rfl lf_X_296 q17 ?_
          refine r_iload_n (j := 2) d_X_fraction_55 rfl ?_
          refine r_callS (av := [al r14, al (gL h13 (gR h13 v0 10) 12), ai v2]) (rest := []) d_X_fraction_56 mk_X_part ll_X_299 st_X_part rfl rfl (nle rfl) (s_X_part (by omega) hw (fun r19 h18 hw => ?_))
          show aW none m_X_fraction (d + 1) 59 [(0, ar v0), (1, ai v1), (2, ai v2)] [ai r19] h18 0 0 QQ
          exact r_ireturn d_X_fraction_59.1 rfl (hQ _ _ hw)
        · replace hw := hw.1 (b2i_0.mp w9)
          refine r_ldc d_X_fraction_37 lc_X_145 ?_
          exact r_ireturn d_X_fraction_39.1 rfl (hQ _ _ hw)
set_option maxRecDepth 100000 in
set_option maxHeartbeats 4000000 in
theorem s_X_apart_L44 {d : Nat} (hd : 64 ≤ d + 1) {Q : Int32 → Hp → Prop} {QQ : Option AV → Hp → Prop} (hQ : ∀ r9 h9, Q r9 h9 → QQ (some (ai r9)) h9) {v0 : Nat} {v1 : Int32} : ∀ (n : Nat) (v2 : Int64) (v4 : Int32) (h : Hp), w_X_apart_L44 Q  v0 v1 n v2 v4 h → aW none m_X_apart (d + 1) 44 [(0, ar v0), (1, ai v1), (2, al v2), (4, ai v4)] [] h 0 0 QQ := by
  intro n
  induction n with
  | zero => intro v2 v4 h hw; exact hw.elim
  | succ n ih =>
    intro v2 v4 h hw
    unfold w_X_apart_L44 at hw
    refine r_iload (j := 3) d_X_apart_44 rfl ?_
    refine r_aload_n (j := 0) d_X_apart_46 rfl ?_
    obtain ⟨q12, hw⟩ := hw
    refine r_getR d_X_apart_47 ok_11 (nle rfl) (nle rfl) rfl lf_X_23 q12 ?_
    obtain ⟨q13, hw⟩ := hw
    refine r_getI d_X_apart_50 ok_1 (nle rfl) (nle rfl) rfl lf_X_129 q13 ?_
    refine r_icmp_ge d_X_apart_53 (fun w9 => ?_) (fun w9 => ?_)
    · replace hw := hw.1 w9
      refine r_lload_n (j := 2) d_X_apart_96 rfl ?_
      refine r_aload_n (j := 0) d_X_apart_97 rfl ?_
      refine r_getR d_X_apart_98 ok_11 (nle rfl) (nle rfl) rfl lf_X_78 q12 ?_
      obtain ⟨q14, hw⟩ := hw
      refine r_getL d_X_apart_101 ok_2 (nle rfl) (nle rfl) rfl lf_X_296 q14 ?_
      refine r_iload_n (j := 1) d_X_apart_104 rfl ?_
      refine r_callS (av := [al v2, al (gL h (gR h v0 10) 12), ai v1]) (rest := []) d_X_apart_105 mk_X_part ll_X_299 st_X_part rfl rfl (nle rfl) (s_X_part (by omega) hw (fun r16 h15 hw => ?_))
      show aW none m_X_apart (d + 1) 108 [(0, ar v0), (1, ai v1), (2, al v2), (4, ai v4)] [ai r16] h15 0 0 QQ
      exact r_ireturn d_X_apart_108.1 rfl (hQ _ _ hw)
    · replace hw := hw.2 w9
      refine r_lload_n (j := 2) d_X_apart_56 rfl ?_
      refine r_aload_n (j := 0) d_X_apart_57 rfl ?_
      refine r_getR d_X_apart_58 ok_11 (nle rfl) (nle rfl) rfl lf_X_71 q12 ?_
      refine r_iload (j := 3) d_X_apart_61 rfl ?_
      obtain ⟨q19, hw⟩ := hw
      refine r_callV (av := [ai v4]) (rest := [al v2]) (ci := 6) d_X_apart_63 mk_Op_oftenOf ll_X_261 im_Op_oftenOf se_Op_oftenOf rfl (nle rfl) rfl rfl (nle rfl) q19 (s_Op_oftenOf  hw (fun r18 h17 hw => ?_))
      show aW none m_X_apart (d + 1) 66 [(0, ar v0), (1, ai v1), (2, al v2), (4, ai v4)] [ai r18, al v2] h17 0 0 QQ
      refine r_i2l d_X_apart_66 ?_
      refine r_aload_n (j := 0) d_X_apart_67 rfl ?_
      obtain ⟨q20, hw⟩ := hw
      refine r_getR d_X_apart_68 ok_11 (nle rfl) (nle rfl) rfl lf_X_78 q20 ?_
      obtain ⟨q21, hw⟩ := hw
      refine r_getL d_X_apart_71 ok_2 (nle rfl) (nle rfl) rfl lf_X_296 q21 ?_
      refine r_lmul d_X_apart_74 ?_
      refine r_aload_n (j := 0) d_X_apart_75 rfl ?_
      refine r_getR d_X_apart_76 ok_11 (nle rfl) (nle rfl) rfl lf_X_78 q20 ?_
      refine r_iload (j := 3) d_X_apart_79 rfl ?_
      refine r_callV (av := [ai v4]) (rest := [al ((r18.toInt64) * (gL h17 (gR h17 v0 10) 12)), al v2]) (ci := 2) d_X_apart_81 mk_Cr_upperOf ll_X_306 im_Cr_upperOf se_Cr_upperOf rfl (nle rfl) rfl rfl (nle rfl) q21 (s_Cr_upperOf  hw (fun r23 h22 hw => ?_))
      show aW none m_X_apart (d + 1) 84 [(0, ar v0), (1, ai v1), (2, al v2), (4, ai v4)] [al r23, al ((r18.toInt64) * (gL h17 (gR h17 v0 10) 12)), al v2] h22 0 0 QQ
      refine r_lsub d_X_apart_84 ?_
      refine r_callS (av := [al (((r18.toInt64) * (gL h17 (gR h17 v0 10) 12)) - r23)]) (rest := [al v2]) d_X_apart_85 mk_JM_abs_JJ ll_X_310 st_JM_abs_JJ rfl rfl (nle rfl) (s_JM_abs_JJ  hw (fun r25 h24 hw => ?_))
      show aW none m_X_apart (d + 1) 88 [(0, ar v0), (1, ai v1), (2, al v2), (4, ai v4)] [al r25, al v2] h24 0 0 QQ
      refine r_ladd d_X_apart_88 ?_
      refine r_lstore_n (ls2 := [(2, al (v2 + r25)), (0, ar v0), (1, ai v1), (4, ai v4)]) d_X_apart_89 (nle rfl) rfl ?_
      refine r_iinc (j := 3) (ls2 := [(4, ai (v4 + (1 : Int32))), (2, al (v2 + r25)), (0, ar v0), (1, ai v1)]) d_X_apart_90 rfl (congrArg (HAdd.hAdd v4) kc_1) (nle rfl) rfl ?_
      refine r_goto d_X_apart_93 ?_
      refine r_pick (ls2 := [(0, ar v0), (1, ai v1), (2, al (v2 + r25)), (4, ai (v4 + (1 : Int32)))]) [2, 3, 1, 0] rfl ?_
      exact ih _ _ _ hw
set_option maxRecDepth 100000 in
set_option maxHeartbeats 4000000 in
theorem s_X_apart {d : Nat} (hd : 64 ≤ d) {v0 : Nat} {v1 : Int32} {h : Hp} {Q : Int32 → Hp → Prop} {QQ : Option AV → Hp → Prop} (hw : w_X_apart v0 v1 h Q) (hQ : ∀ r9 h9, Q r9 h9 → QQ (some (ai r9)) h9) : aCall m_X_apart d [ar v0, ai v1] h 0 0 QQ := by
  obtain ⟨d, rfl⟩ : ∃ d9, d = d9 + 1 := ⟨d - 1, by omega⟩
  refine aCall_in pl_X_apart (nle rfl) ?_
  show aW none m_X_apart (d + 1) 0 [(0, ar v0), (1, ai v1)] [] h 0 0 QQ
  unfold w_X_apart at hw
  refine r_aload_n (j := 0) d_X_apart_0 rfl ?_
  obtain ⟨q1, hw⟩ := hw
  refine r_getR d_X_apart_1 ok_11 (nle rfl) (nle rfl) rfl lf_X_78 q1 ?_
  obtain ⟨q3, hw⟩ := hw
  refine r_callV (av := []) (rest := []) (ci := 2) d_X_apart_4 mk_Cr_find ll_X_282 im_Cr_find se_Cr_find rfl (nle rfl) rfl rfl (nle rfl) q3 (s_Cr_find (by omega) hw (fun h2 hw => ?_))
  show aW none m_X_apart (d + 1) 7 [(0, ar v0), (1, ai v1)] [] h2 0 0 QQ
  refine r_iload_n (j := 1) d_X_apart_7 rfl ?_
  refine r_if_lt d_X_apart_8 (fun w9 => ?_) (fun w9 => ?_)
  · replace hw := hw.1 w9
    refine r_ldc d_X_apart_36 lc_X_145 ?_
    exact r_ireturn d_X_apart_38.1 rfl (hQ _ _ hw)
  · replace hw := hw.2 w9
    refine r_iload_n (j := 1) d_X_apart_11 rfl ?_
    refine r_iconst d_X_apart_12 kc_1 ?_
    refine r_icmp_gt d_X_apart_13 (fun w9 => ?_) (fun w9 => ?_)
    · replace hw := hw.1 w9
      refine r_ldc d_X_apart_36 lc_X_145 ?_
      exact r_ireturn d_X_apart_38.1 rfl (hQ _ _ hw)
    · replace hw := hw.2 w9
      refine r_aload_n (j := 0) d_X_apart_16 rfl ?_
      obtain ⟨q4, hw⟩ := hw
      refine r_getR d_X_apart_17 ok_11 (nle rfl) (nle rfl) rfl lf_X_78 q4 ?_
      obtain ⟨q7, hw⟩ := hw
      refine r_callV (av := []) (rest := []) (ci := 2) d_X_apart_20 mk_Cr_isThere ll_X_303 im_Cr_isThere se_Cr_isThere rfl (nle rfl) rfl rfl (nle rfl) q7 (s_Cr_isThere  hw (fun r6 h5 hw => ?_))
      show aW none m_X_apart (d + 1) 23 [(0, ar v0), (1, ai v1)] [ai (b2i r6)] h5 0 0 QQ
      refine r_if_eq d_X_apart_23 (fun w9 => ?_) (fun w9 => ?_)
      · replace hw := hw.1 (b2i_0.mp w9)
        refine r_ldc d_X_apart_36 lc_X_145 ?_
        exact r_ireturn d_X_apart_38.1 rfl (hQ _ _ hw)
      · replace hw := hw.2 (fun g9 => w9 (b2i_0.mpr g9))
        refine r_aload_n (j := 0) d_X_apart_26 rfl ?_
        obtain ⟨q8, hw⟩ := hw
        refine r_getR d_X_apart_27 ok_11 (nle rfl) (nle rfl) rfl lf_X_71 q8 ?_
        obtain ⟨q11, hw⟩ := hw
        refine r_callV (av := []) (rest := []) (ci := 6) d_X_apart_30 mk_Op_find ll_X_257 im_Op_find se_Op_find rfl (nle rfl) rfl rfl (nle rfl) q11 (s_Op_find (by omega) hw (fun r10 h9 hw => ?_))
        show aW none m_X_apart (d + 1) 33 [(0, ar v0), (1, ai v1)] [ai (b2i r10)] h9 0 0 QQ
        refine r_if_ne d_X_apart_33 (fun w9 => ?_) (fun w9 => ?_)
        · replace hw := hw.2 (fun g9 => w9 (b2i_0.mpr g9))
          refine r_lconst d_X_apart_39 kl_0 ?_
          refine r_lstore_n (ls2 := [(2, al (0 : Int64)), (0, ar v0), (1, ai v1)]) d_X_apart_40 (nle rfl) rfl ?_
          refine r_iconst d_X_apart_41 kc_0 ?_
          refine r_istore (ls2 := [(4, ai (0 : Int32)), (2, al (0 : Int64)), (0, ar v0), (1, ai v1)]) d_X_apart_42 (nle rfl) rfl ?_
          obtain ⟨n26, hw⟩ := hw
          refine r_pick (ls2 := [(0, ar v0), (1, ai v1), (2, al (0 : Int64)), (4, ai (0 : Int32))]) [2, 3, 1, 0] rfl ?_
          exact s_X_apart_L44 hd hQ  n26 _ _ _ hw
        · replace hw := hw.1 (b2i_0.mp w9)
          refine r_ldc d_X_apart_36 lc_X_145 ?_
          exact r_ireturn d_X_apart_38.1 rfl (hQ _ _ hw)
set_option maxRecDepth 100000 in
set_option maxHeartbeats 4000000 in
theorem s_X_corners {d : Nat} (hd : 4 ≤ d) {v0 : Nat} {h : Hp} {Q : Int32 → Hp → Prop} {QQ : Option AV → Hp → Prop} (hw : w_X_corners v0 h Q) (hQ : ∀ r9 h9, Q r9 h9 → QQ (some (ai r9)) h9) : aCall m_X_corners d [ar v0] h 0 0 QQ := by
  obtain ⟨d, rfl⟩ : ∃ d9, d = d9 + 1 := ⟨d - 1, by omega⟩
  refine aCall_in pl_X_corners (nle rfl) ?_
  show aW none m_X_corners (d + 1) 0 [(0, ar v0)] [] h 0 0 QQ
  unfold w_X_corners at hw
  refine r_aload_n (j := 0) d_X_corners_0 rfl ?_
  obtain ⟨q1, hw⟩ := hw
  refine r_getR d_X_corners_1 ok_11 (nle rfl) (nle rfl) rfl lf_X_78 q1 ?_
  obtain ⟨q3, hw⟩ := hw
  refine r_callV (av := []) (rest := []) (ci := 2) d_X_corners_4 mk_Cr_find ll_X_282 im_Cr_find se_Cr_find rfl (nle rfl) rfl rfl (nle rfl) q3 (s_Cr_find (by omega) hw (fun h2 hw => ?_))
  show aW none m_X_corners (d + 1) 7 [(0, ar v0)] [] h2 0 0 QQ
  refine r_aload_n (j := 0) d_X_corners_7 rfl ?_
  obtain ⟨q4, hw⟩ := hw
  refine r_getR d_X_corners_8 ok_11 (nle rfl) (nle rfl) rfl lf_X_78 q4 ?_
  obtain ⟨q5, hw⟩ := hw
  refine r_getI d_X_corners_11 ok_2 (nle rfl) (nle rfl) rfl lf_X_284 q5 ?_
  exact r_ireturn d_X_corners_14.1 rfl (hQ _ _ hw)
set_option maxRecDepth 100000 in
set_option maxHeartbeats 4000000 in
theorem s_X_draw {d : Nat} {v0 : Int32} {h : Hp} {Q : Int32 → Hp → Prop} {QQ : Option AV → Hp → Prop} (hw : w_X_draw v0 h Q) (hQ : ∀ r9 h9, Q r9 h9 → QQ (some (ai r9)) h9) : aCall m_X_draw d [ai v0] h 0 0 QQ := by
  refine aCall_in pl_X_draw (nle rfl) ?_
  show aW none m_X_draw d 0 [(0, ai v0)] [] h 0 0 QQ
  unfold w_X_draw at hw
  refine r_iload_n (j := 0) d_X_draw_0 rfl ?_
  refine r_sipush d_X_draw_1 ks_137 ?_
  refine r_imul d_X_draw_4 ?_
  refine r_bipush d_X_draw_5 kb_71 ?_
  refine r_iadd d_X_draw_7 ?_
  refine r_sipush d_X_draw_8 ks_10007 ?_
  refine r_irem d_X_draw_11 (by decide) ?_
  exact r_ireturn d_X_draw_12.1 rfl (hQ _ _ hw)
set_option maxRecDepth 100000 in
set_option maxHeartbeats 4000000 in
theorem s_X_drawSums_L13 {d : Nat} (hd : 2 ≤ d + 1) {Q : Int32 → Hp → Prop} {QQ : Option AV → Hp → Prop} (hQ : ∀ r9 h9, Q r9 h9 → QQ (some (ai r9)) h9) {v0 : Nat} {v2 : Int32} : ∀ (n : Nat) (v1 : Int32) (v3 : Int32) (v4 : Int32) (h : Hp), w_X_drawSums_L13 Q  v0 v2 n v1 v3 v4 h → aW none m_X_drawSums (d + 1) 13 [(0, ar v0), (1, ai v1), (2, ai v2), (3, ai v3), (4, ai v4)] [] h 0 0 QQ := by
  intro n
  induction n with
  | zero => intro v1 v3 v4 h hw; exact hw.elim
  | succ n ih =>
    intro v1 v3 v4 h hw
    unfold w_X_drawSums_L13 at hw
    refine r_iload (j := 4) d_X_drawSums_13 rfl ?_
    refine r_iload_n (j := 2) d_X_drawSums_15 rfl ?_
    refine r_icmp_ge d_X_drawSums_16 (fun w9 => ?_) (fun w9 => ?_)
    · replace hw := hw.1 w9
      refine r_iload_n (j := 3) d_X_drawSums_77 rfl ?_
      exact r_ireturn d_X_drawSums_78.1 rfl (hQ _ _ hw)
    · replace hw := hw.2 w9
      refine r_aload_n (j := 0) d_X_drawSums_19 rfl ?_
      obtain ⟨q3, hw⟩ := hw
      refine r_getR d_X_drawSums_20 ok_11 (nle rfl) (nle rfl) rfl lf_X_23 q3 ?_
      obtain ⟨q4, hw⟩ := hw
      refine r_getI d_X_drawSums_23 ok_1 (nle rfl) (nle rfl) rfl lf_X_129 q4 ?_
      refine r_if_le d_X_drawSums_26 (fun w9 => ?_) (fun w9 => ?_)
      · replace hw := hw.1 w9
        refine r_iload_n (j := 3) d_X_drawSums_77 rfl ?_
        exact r_ireturn d_X_drawSums_78.1 rfl (hQ _ _ hw)
      · replace hw := hw.2 w9
        refine r_iload_n (j := 1) d_X_drawSums_29 rfl ?_
        refine r_callS (av := [ai v1]) (rest := []) d_X_drawSums_30 mk_X_draw ll_X_332 st_X_draw rfl rfl (nle rfl) (s_X_draw  hw (fun r6 h5 hw => ?_))
        show aW none m_X_drawSums (d + 1) 33 [(0, ar v0), (1, ai v1), (2, ai v2), (3, ai v3), (4, ai v4)] [ai r6] h5 0 0 QQ
        refine r_istore_n (ls2 := [(1, ai r6), (0, ar v0), (2, ai v2), (3, ai v3), (4, ai v4)]) d_X_drawSums_33 (nle rfl) rfl ?_
        refine r_iload_n (j := 0) d_X_drawSums_34 rfl ?_
        refine r_aload_n (j := 1) d_X_drawSums_35 rfl ?_
        obtain ⟨q7, hw⟩ := hw
        refine r_getR d_X_drawSums_36 ok_11 (nle rfl) (nle rfl) rfl lf_X_23 q7 ?_
        obtain ⟨q8, hw⟩ := hw
        refine r_getI d_X_drawSums_39 ok_1 (nle rfl) (nle rfl) rfl lf_X_129 q8 ?_
        obtain ⟨q9, hw⟩ := hw
        refine r_irem d_X_drawSums_42 q9 ?_
        refine r_istore (ls2 := [(5, ai (jrem r6 (gI h5 (gR h5 v0 2) 2))), (1, ai r6), (0, ar v0), (2, ai v2), (3, ai v3), (4, ai v4)]) d_X_drawSums_43 (nle rfl) rfl ?_
        refine r_aload_n (j := 2) d_X_drawSums_45 rfl ?_
        refine r_getR d_X_drawSums_46 ok_11 (nle rfl) (nle rfl) rfl lf_X_23 q7 ?_
        refine r_aload_n (j := 2) d_X_drawSums_49 rfl ?_
        refine r_getR d_X_drawSums_50 ok_11 (nle rfl) (nle rfl) rfl lf_X_103 q7 ?_
        refine r_iload (j := 0) d_X_drawSums_53 rfl ?_
        refine r_iconst d_X_drawSums_55 kc_1 ?_
        refine r_callV (av := [ar (gR h5 v0 14), ai (jrem r6 (gI h5 (gR h5 v0 2) 2)), ai (1 : Int32)]) (rest := []) (ci := 1) d_X_drawSums_56 mk_Co_addTo ll_X_335 im_Co_addTo se_Co_addTo rfl (nle rfl) rfl rfl (nle rfl) q8 (s_Co_addTo (by omega) hw (fun h10 hw => ?_))
        show aW none m_X_drawSums (d + 1) 59 [(5, ai (jrem r6 (gI h5 (gR h5 v0 2) 2))), (1, ai r6), (0, ar v0), (2, ai v2), (3, ai v3), (4, ai v4)] [] h10 0 0 QQ
        refine r_iload_n (j := 4) d_X_drawSums_59 rfl ?_
        refine r_aload_n (j := 2) d_X_drawSums_60 rfl ?_
        obtain ⟨q11, hw⟩ := hw
        refine r_getR d_X_drawSums_61 ok_11 (nle rfl) (nle rfl) rfl lf_X_23 q11 ?_
        refine r_iload (j := 0) d_X_drawSums_64 rfl ?_
        obtain ⟨q14, hw⟩ := hw
        refine r_callV (av := [ai (jrem r6 (gI h5 (gR h5 v0 2) 2))]) (rest := [ai v3]) (ci := 1) d_X_drawSums_66 mk_Co_gainOf ll_X_150 im_Co_gainOf se_Co_gainOf rfl (nle rfl) rfl rfl (nle rfl) q14 (s_Co_gainOf  hw (fun r13 h12 hw => ?_))
        show aW none m_X_drawSums (d + 1) 69 [(5, ai (jrem r6 (gI h5 (gR h5 v0 2) 2))), (1, ai r6), (0, ar v0), (2, ai v2), (3, ai v3), (4, ai v4)] [ai r13, ai v3] h12 0 0 QQ
        refine r_iadd d_X_drawSums_69 ?_
        refine r_istore_n (ls2 := [(3, ai (v3 + r13)), (5, ai (jrem r6 (gI h5 (gR h5 v0 2) 2))), (1, ai r6), (0, ar v0), (2, ai v2), (4, ai v4)]) d_X_drawSums_70 (nle rfl) rfl ?_
        refine r_iinc (j := 5) (ls2 := [(4, ai (v4 + (1 : Int32))), (3, ai (v3 + r13)), (5, ai (jrem r6 (gI h5 (gR h5 v0 2) 2))), (1, ai r6), (0, ar v0), (2, ai v2)]) d_X_drawSums_71 rfl (congrArg (HAdd.hAdd v4) kc_1) (nle rfl) rfl ?_
        refine r_goto d_X_drawSums_74 ?_
        refine r_pick (ls2 := [(0, ar v0), (1, ai r6), (2, ai v2), (3, ai (v3 + r13)), (4, ai (v4 + (1 : Int32)))]) [4, 3, 5, 1, 0] rfl ?_
        exact ih _ _ _ _ hw
set_option maxRecDepth 100000 in
set_option maxHeartbeats 4000000 in
theorem s_X_drawSums {d : Nat} (hd : 2 ≤ d) {v0 : Nat} {v1 : Int32} {v2 : Int32} {h : Hp} {Q : Int32 → Hp → Prop} {QQ : Option AV → Hp → Prop} (hw : w_X_drawSums v0 v1 v2 h Q) (hQ : ∀ r9 h9, Q r9 h9 → QQ (some (ai r9)) h9) : aCall m_X_drawSums d [ar v0, ai v1, ai v2] h 0 0 QQ := by
  obtain ⟨d, rfl⟩ : ∃ d9, d = d9 + 1 := ⟨d - 1, by omega⟩
  refine aCall_in pl_X_drawSums (nle rfl) ?_
  show aW none m_X_drawSums (d + 1) 0 [(0, ar v0), (1, ai v1), (2, ai v2)] [] h 0 0 QQ
  unfold w_X_drawSums at hw
  refine r_aload_n (j := 0) d_X_drawSums_0 rfl ?_
  obtain ⟨q1, hw⟩ := hw
  refine r_getR d_X_drawSums_1 ok_11 (nle rfl) (nle rfl) rfl lf_X_103 q1 ?_
  refine r_iconst d_X_drawSums_4 kc_0 ?_
  refine r_callS (av := [ar (gR h v0 14), ai (0 : Int32)]) (rest := []) d_X_drawSums_5 mk_JA_fill_IIV ll_X_326 st_JA_fill_IIV rfl rfl (nle rfl) (s_JA_fill_IIV  hw (fun h2 hw => ?_))
  show aW none m_X_drawSums (d + 1) 8 [(0, ar v0), (1, ai v1), (2, ai v2)] [] h2 0 0 QQ
  refine r_iconst d_X_drawSums_8 kc_0 ?_
  refine r_istore_n (ls2 := [(3, ai (0 : Int32)), (0, ar v0), (1, ai v1), (2, ai v2)]) d_X_drawSums_9 (nle rfl) rfl ?_
  refine r_iconst d_X_drawSums_10 kc_0 ?_
  refine r_istore (ls2 := [(4, ai (0 : Int32)), (3, ai (0 : Int32)), (0, ar v0), (1, ai v1), (2, ai v2)]) d_X_drawSums_11 (nle rfl) rfl ?_
  obtain ⟨n15, hw⟩ := hw
  refine r_pick (ls2 := [(0, ar v0), (1, ai v1), (2, ai v2), (3, ai (0 : Int32)), (4, ai (0 : Int32))]) [2, 3, 4, 1, 0] rfl ?_
  exact s_X_drawSums_L13 hd hQ  n15 _ _ _ _ hw
set_option maxRecDepth 100000 in
set_option maxHeartbeats 4000000 in
theorem s_X_drawnStray_L13 {d : Nat} (hd : 2 ≤ d + 1) {Q : Int32 → Hp → Prop} {QQ : Option AV → Hp → Prop} (hQ : ∀ r9 h9, Q r9 h9 → QQ (some (ai r9)) h9) {v0 : Nat} {v2 : Int32} : ∀ (n : Nat) (v1 : Int32) (v3 : Int32) (v4 : Int32) (h : Hp), w_X_drawnStray_L13 Q  v0 v2 n v1 v3 v4 h → aW none m_X_drawnStray (d + 1) 13 [(0, ar v0), (1, ai v1), (2, ai v2), (3, ai v3), (4, ai v4)] [] h 0 0 QQ := by
  intro n
  induction n with
  | zero => intro v1 v3 v4 h hw; exact hw.elim
  | succ n ih =>
    intro v1 v3 v4 h hw
    unfold w_X_drawnStray_L13 at hw
    refine r_iload (j := 4) d_X_drawnStray_13 rfl ?_
    refine r_iload_n (j := 2) d_X_drawnStray_15 rfl ?_
    refine r_icmp_gt d_X_drawnStray_16 (fun w9 => ?_) (fun w9 => ?_)
    · replace hw := hw.1 w9
      refine r_iload_n (j := 3) d_X_drawnStray_80 rfl ?_
      exact r_ireturn d_X_drawnStray_81.1 rfl (hQ _ _ hw)
    · replace hw := hw.2 w9
      refine r_aload_n (j := 0) d_X_drawnStray_19 rfl ?_
      obtain ⟨q3, hw⟩ := hw
      refine r_getR d_X_drawnStray_20 ok_11 (nle rfl) (nle rfl) rfl lf_X_23 q3 ?_
      obtain ⟨q4, hw⟩ := hw
      refine r_getI d_X_drawnStray_23 ok_1 (nle rfl) (nle rfl) rfl lf_X_129 q4 ?_
      refine r_if_le d_X_drawnStray_26 (fun w9 => ?_) (fun w9 => ?_)
      · replace hw := hw.1 w9
        refine r_iload_n (j := 3) d_X_drawnStray_80 rfl ?_
        exact r_ireturn d_X_drawnStray_81.1 rfl (hQ _ _ hw)
      · replace hw := hw.2 w9
        refine r_iload_n (j := 1) d_X_drawnStray_29 rfl ?_
        refine r_callS (av := [ai v1]) (rest := []) d_X_drawnStray_30 mk_X_draw ll_X_332 st_X_draw rfl rfl (nle rfl) (s_X_draw  hw (fun r6 h5 hw => ?_))
        show aW none m_X_drawnStray (d + 1) 33 [(0, ar v0), (1, ai v1), (2, ai v2), (3, ai v3), (4, ai v4)] [ai r6] h5 0 0 QQ
        refine r_istore_n (ls2 := [(1, ai r6), (0, ar v0), (2, ai v2), (3, ai v3), (4, ai v4)]) d_X_drawnStray_33 (nle rfl) rfl ?_
        refine r_aload_n (j := 1) d_X_drawnStray_34 rfl ?_
        obtain ⟨q7, hw⟩ := hw
        refine r_getR d_X_drawnStray_35 ok_11 (nle rfl) (nle rfl) rfl lf_X_23 q7 ?_
        refine r_aload_n (j := 1) d_X_drawnStray_38 rfl ?_
        refine r_getR d_X_drawnStray_39 ok_11 (nle rfl) (nle rfl) rfl lf_X_103 q7 ?_
        refine r_iload_n (j := 0) d_X_drawnStray_42 rfl ?_
        refine r_aload_n (j := 1) d_X_drawnStray_43 rfl ?_
        refine r_getR d_X_drawnStray_44 ok_11 (nle rfl) (nle rfl) rfl lf_X_23 q7 ?_
        obtain ⟨q8, hw⟩ := hw
        refine r_getI d_X_drawnStray_47 ok_1 (nle rfl) (nle rfl) rfl lf_X_129 q8 ?_
        obtain ⟨q9, hw⟩ := hw
        refine r_irem d_X_drawnStray_50 q9 ?_
        refine r_iconst d_X_drawnStray_51 kc_1 ?_
        refine r_callV (av := [ar (gR h5 v0 14), ai (jrem r6 (gI h5 (gR h5 v0 2) 2)), ai (1 : Int32)]) (rest := []) (ci := 1) d_X_drawnStray_52 mk_Co_addTo ll_X_335 im_Co_addTo se_Co_addTo rfl (nle rfl) rfl rfl (nle rfl) q8 (s_Co_addTo (by omega) hw (fun h10 hw => ?_))
        show aW none m_X_drawnStray (d + 1) 55 [(1, ai r6), (0, ar v0), (2, ai v2), (3, ai v3), (4, ai v4)] [] h10 0 0 QQ
        refine r_iload_n (j := 3) d_X_drawnStray_55 rfl ?_
        refine r_aload_n (j := 1) d_X_drawnStray_56 rfl ?_
        obtain ⟨q11, hw⟩ := hw
        refine r_getR d_X_drawnStray_57 ok_11 (nle rfl) (nle rfl) rfl lf_X_23 q11 ?_
        refine r_aload_n (j := 1) d_X_drawnStray_60 rfl ?_
        refine r_getR d_X_drawnStray_61 ok_11 (nle rfl) (nle rfl) rfl lf_X_103 q11 ?_
        refine r_iload_n (j := 2) d_X_drawnStray_64 rfl ?_
        refine r_iload (j := 4) d_X_drawnStray_65 rfl ?_
        obtain ⟨q14, hw⟩ := hw
        refine r_callV (av := [ar (gR h10 v0 14), ai v2, ai v4]) (rest := [ai v3]) (ci := 1) d_X_drawnStray_67 mk_Co_strayAt ll_X_339 im_Co_strayAt se_Co_strayAt rfl (nle rfl) rfl rfl (nle rfl) q14 (s_Co_strayAt (by omega) hw (fun r13 h12 hw => ?_))
        show aW none m_X_drawnStray (d + 1) 70 [(1, ai r6), (0, ar v0), (2, ai v2), (3, ai v3), (4, ai v4)] [ai r13, ai v3] h12 0 0 QQ
        refine r_callS (av := [ai v3, ai r13]) (rest := []) d_X_drawnStray_70 mk_JM_max ll_X_343 st_JM_max rfl rfl (nle rfl) (s_JM_max  hw (fun r16 h15 hw => ?_))
        show aW none m_X_drawnStray (d + 1) 73 [(1, ai r6), (0, ar v0), (2, ai v2), (3, ai v3), (4, ai v4)] [ai r16] h15 0 0 QQ
        refine r_istore_n (ls2 := [(3, ai r16), (1, ai r6), (0, ar v0), (2, ai v2), (4, ai v4)]) d_X_drawnStray_73 (nle rfl) rfl ?_
        refine r_iinc (j := 4) (ls2 := [(4, ai (v4 + (1 : Int32))), (3, ai r16), (1, ai r6), (0, ar v0), (2, ai v2)]) d_X_drawnStray_74 rfl (congrArg (HAdd.hAdd v4) kc_1) (nle rfl) rfl ?_
        refine r_goto d_X_drawnStray_77 ?_
        refine r_pick (ls2 := [(0, ar v0), (1, ai r6), (2, ai v2), (3, ai r16), (4, ai (v4 + (1 : Int32)))]) [3, 2, 4, 1, 0] rfl ?_
        exact ih _ _ _ _ hw
set_option maxRecDepth 100000 in
set_option maxHeartbeats 4000000 in
theorem s_X_drawnStray {d : Nat} (hd : 2 ≤ d) {v0 : Nat} {v1 : Int32} {v2 : Int32} {h : Hp} {Q : Int32 → Hp → Prop} {QQ : Option AV → Hp → Prop} (hw : w_X_drawnStray v0 v1 v2 h Q) (hQ : ∀ r9 h9, Q r9 h9 → QQ (some (ai r9)) h9) : aCall m_X_drawnStray d [ar v0, ai v1, ai v2] h 0 0 QQ := by
  obtain ⟨d, rfl⟩ : ∃ d9, d = d9 + 1 := ⟨d - 1, by omega⟩
  refine aCall_in pl_X_drawnStray (nle rfl) ?_
  show aW none m_X_drawnStray (d + 1) 0 [(0, ar v0), (1, ai v1), (2, ai v2)] [] h 0 0 QQ
  unfold w_X_drawnStray at hw
  refine r_aload_n (j := 0) d_X_drawnStray_0 rfl ?_
  obtain ⟨q1, hw⟩ := hw
  refine r_getR d_X_drawnStray_1 ok_11 (nle rfl) (nle rfl) rfl lf_X_103 q1 ?_
  refine r_iconst d_X_drawnStray_4 kc_0 ?_
  refine r_callS (av := [ar (gR h v0 14), ai (0 : Int32)]) (rest := []) d_X_drawnStray_5 mk_JA_fill_IIV ll_X_326 st_JA_fill_IIV rfl rfl (nle rfl) (s_JA_fill_IIV  hw (fun h2 hw => ?_))
  show aW none m_X_drawnStray (d + 1) 8 [(0, ar v0), (1, ai v1), (2, ai v2)] [] h2 0 0 QQ
  refine r_iconst d_X_drawnStray_8 kc_0 ?_
  refine r_istore_n (ls2 := [(3, ai (0 : Int32)), (0, ar v0), (1, ai v1), (2, ai v2)]) d_X_drawnStray_9 (nle rfl) rfl ?_
  refine r_iconst d_X_drawnStray_10 kc_1 ?_
  refine r_istore (ls2 := [(4, ai (1 : Int32)), (3, ai (0 : Int32)), (0, ar v0), (1, ai v1), (2, ai v2)]) d_X_drawnStray_11 (nle rfl) rfl ?_
  obtain ⟨n17, hw⟩ := hw
  refine r_pick (ls2 := [(0, ar v0), (1, ai v1), (2, ai v2), (3, ai (0 : Int32)), (4, ai (1 : Int32))]) [2, 3, 4, 1, 0] rfl ?_
  exact s_X_drawnStray_L13 hd hQ  n17 _ _ _ _ hw
set_option maxRecDepth 100000 in
set_option maxHeartbeats 4000000 in
theorem s_X_drawn {d : Nat} (hd : 3 ≤ d) {v0 : Nat} {v1 : Int32} {v2 : Int32} {v3 : Int32} {h : Hp} {Q : Int32 → Hp → Prop} {QQ : Option AV → Hp → Prop} (hw : w_X_drawn v0 v1 v2 v3 h Q) (hQ : ∀ r9 h9, Q r9 h9 → QQ (some (ai r9)) h9) : aCall m_X_drawn d [ar v0, ai v1, ai v2, ai v3] h 0 0 QQ := by
  obtain ⟨d, rfl⟩ : ∃ d9, d = d9 + 1 := ⟨d - 1, by omega⟩
  refine aCall_in pl_X_drawn (nle rfl) ?_
  show aW none m_X_drawn (d + 1) 0 [(0, ar v0), (1, ai v1), (2, ai v2), (3, ai v3)] [] h 0 0 QQ
  unfold w_X_drawn at hw
  refine r_iload_n (j := 1) d_X_drawn_0 rfl ?_
  refine r_if_lt d_X_drawn_1 (fun w9 => ?_) (fun w9 => ?_)
  · replace hw := hw.1 w9
    refine r_ldc d_X_drawn_38 lc_X_145 ?_
    exact r_ireturn d_X_drawn_40.1 rfl (hQ _ _ hw)
  · replace hw := hw.2 w9
    refine r_iload_n (j := 1) d_X_drawn_4 rfl ?_
    refine r_sipush d_X_drawn_5 ks_9999 ?_
    refine r_icmp_gt d_X_drawn_8 (fun w9 => ?_) (fun w9 => ?_)
    · replace hw := hw.1 w9
      refine r_ldc d_X_drawn_38 lc_X_145 ?_
      exact r_ireturn d_X_drawn_40.1 rfl (hQ _ _ hw)
    · replace hw := hw.2 w9
      refine r_iload_n (j := 2) d_X_drawn_11 rfl ?_
      refine r_callS (av := [ai v2]) (rest := []) d_X_drawn_12 mk_X_isLength ll_X_222 st_X_isLength rfl rfl (nle rfl) (s_X_isLength  hw (fun r2 h1 hw => ?_))
      show aW none m_X_drawn (d + 1) 15 [(0, ar v0), (1, ai v1), (2, ai v2), (3, ai v3)] [ai (b2i r2)] h1 0 0 QQ
      refine r_if_eq d_X_drawn_15 (fun w9 => ?_) (fun w9 => ?_)
      · replace hw := hw.1 (b2i_0.mp w9)
        refine r_ldc d_X_drawn_38 lc_X_145 ?_
        exact r_ireturn d_X_drawn_40.1 rfl (hQ _ _ hw)
      · replace hw := hw.2 (fun g9 => w9 (b2i_0.mpr g9))
        refine r_aload_n (j := 0) d_X_drawn_18 rfl ?_
        obtain ⟨q3, hw⟩ := hw
        refine r_getR d_X_drawn_19 ok_11 (nle rfl) (nle rfl) rfl lf_X_23 q3 ?_
        obtain ⟨q4, hw⟩ := hw
        refine r_getI d_X_drawn_22 ok_1 (nle rfl) (nle rfl) rfl lf_X_129 q4 ?_
        refine r_iconst d_X_drawn_25 kc_1 ?_
        refine r_icmp_lt d_X_drawn_26 (fun w9 => ?_) (fun w9 => ?_)
        · replace hw := hw.1 w9
          refine r_ldc d_X_drawn_38 lc_X_145 ?_
          exact r_ireturn d_X_drawn_40.1 rfl (hQ _ _ hw)
        · replace hw := hw.2 w9
          refine r_iload_n (j := 3) d_X_drawn_29 rfl ?_
          refine r_if_lt d_X_drawn_30 (fun w9 => ?_) (fun w9 => ?_)
          · replace hw := hw.1 w9
            refine r_ldc d_X_drawn_38 lc_X_145 ?_
            exact r_ireturn d_X_drawn_40.1 rfl (hQ _ _ hw)
          · replace hw := hw.2 w9
            refine r_iload_n (j := 3) d_X_drawn_33 rfl ?_
            refine r_iconst d_X_drawn_34 kc_2 ?_
            refine r_icmp_le d_X_drawn_35 (fun w9 => ?_) (fun w9 => ?_)
            · replace hw := hw.1 w9
              refine r_iload_n (j := 3) d_X_drawn_41 rfl ?_
              refine r_if_ne d_X_drawn_42 (fun w9 => ?_) (fun w9 => ?_)
              · replace hw := hw.2 w9
                refine r_aload_n (j := 0) d_X_drawn_52 rfl ?_
                refine r_iload_n (j := 1) d_X_drawn_53 rfl ?_
                refine r_iload_n (j := 2) d_X_drawn_54 rfl ?_
                refine r_callV (av := [ai v1, ai v2]) (rest := []) (ci := 11) d_X_drawn_55 mk_X_drawSums ll_X_323 im_X_drawSums se_X_drawSums rfl (nle rfl) rfl rfl (nle rfl) q3 (s_X_drawSums (by omega) hw (fun r6 h5 hw => ?_))
                show aW none m_X_drawn (d + 1) 58 [(0, ar v0), (1, ai v1), (2, ai v2), (3, ai v3)] [ai r6] h5 0 0 QQ
                refine r_istore (ls2 := [(4, ai r6), (0, ar v0), (1, ai v1), (2, ai v2), (3, ai v3)]) d_X_drawn_58 (nle rfl) rfl ?_
                refine r_iload_n (j := 4) d_X_drawn_60 rfl ?_
                refine r_iconst d_X_drawn_61 kc_1 ?_
                refine r_icmp_ne d_X_drawn_62 (fun w9 => ?_) (fun w9 => ?_)
                · replace hw := hw.2 w9
                  refine r_aload_n (j := 1) d_X_drawn_70 rfl ?_
                  obtain ⟨q7, hw⟩ := hw
                  refine r_getR d_X_drawn_71 ok_11 (nle rfl) (nle rfl) rfl lf_X_23 q7 ?_
                  refine r_aload_n (j := 1) d_X_drawn_74 rfl ?_
                  refine r_getR d_X_drawn_75 ok_11 (nle rfl) (nle rfl) rfl lf_X_103 q7 ?_
                  obtain ⟨q10, hw⟩ := hw
                  refine r_callV (av := [ar (gR h5 v0 14)]) (rest := []) (ci := 1) d_X_drawn_78 mk_Co_farFromNeed ll_X_206 im_Co_farFromNeed se_Co_farFromNeed rfl (nle rfl) rfl rfl (nle rfl) q10 (s_Co_farFromNeed (by omega) hw (fun r9 h8 hw => ?_))
                  show aW none m_X_drawn (d + 1) 81 [(4, ai r6), (0, ar v0), (1, ai v1), (2, ai v2), (3, ai v3)] [ai r9] h8 0 0 QQ
                  exact r_ireturn d_X_drawn_81.1 rfl (hQ _ _ hw)
                · replace hw := hw.1 w9
                  refine r_iload (j := 0) d_X_drawn_65 rfl ?_
                  refine r_goto d_X_drawn_67 ?_
                  exact r_ireturn d_X_drawn_81.1 rfl (hQ _ _ hw)
              · replace hw := hw.1 w9
                refine r_aload_n (j := 0) d_X_drawn_45 rfl ?_
                refine r_iload_n (j := 1) d_X_drawn_46 rfl ?_
                refine r_iload_n (j := 2) d_X_drawn_47 rfl ?_
                refine r_callV (av := [ai v1, ai v2]) (rest := []) (ci := 11) d_X_drawn_48 mk_X_drawnStray ll_X_320 im_X_drawnStray se_X_drawnStray rfl (nle rfl) rfl rfl (nle rfl) q3 (s_X_drawnStray (by omega) hw (fun r12 h11 hw => ?_))
                show aW none m_X_drawn (d + 1) 51 [(0, ar v0), (1, ai v1), (2, ai v2), (3, ai v3)] [ai r12] h11 0 0 QQ
                exact r_ireturn d_X_drawn_51.1 rfl (hQ _ _ hw)
            · replace hw := hw.2 w9
              refine r_ldc d_X_drawn_38 lc_X_145 ?_
              exact r_ireturn d_X_drawn_40.1 rfl (hQ _ _ hw)
set_option maxRecDepth 100000 in
set_option maxHeartbeats 4000000 in
theorem s_X_chance_L26 {d : Nat} (hd : 3 ≤ d + 1) {Q : Int32 → Hp → Prop} {QQ : Option AV → Hp → Prop} (hQ : ∀ r9 h9, Q r9 h9 → QQ (some (ai r9)) h9) {v0 : Nat} {v1 : Int32} {v2 : Int32} : ∀ (n : Nat) (v3 : Int32) (v4 : Int32) (h : Hp), w_X_chance_L26 Q  v0 v1 v2 n v3 v4 h → aW none m_X_chance (d + 1) 26 [(0, ar v0), (1, ai v1), (2, ai v2), (3, ai v3), (4, ai v4)] [] h 0 0 QQ := by
  intro n
  induction n with
  | zero => intro v3 v4 h hw; exact hw.elim
  | succ n ih =>
    intro v3 v4 h hw
    unfold w_X_chance_L26 at hw
    refine r_iload (j := 4) d_X_chance_26 rfl ?_
    refine r_bipush d_X_chance_28 kb_100 ?_
    refine r_icmp_ge d_X_chance_30 (fun w9 => ?_) (fun w9 => ?_)
    · replace hw := hw.1 w9
      refine r_iload_n (j := 3) d_X_chance_55 rfl ?_
      exact r_ireturn d_X_chance_56.1 rfl (hQ _ _ hw)
    · replace hw := hw.2 w9
      refine r_aload_n (j := 0) d_X_chance_33 rfl ?_
      refine r_iload (j := 4) d_X_chance_34 rfl ?_
      refine r_iload_n (j := 1) d_X_chance_36 rfl ?_
      obtain ⟨q7, hw⟩ := hw
      refine r_callV (av := [ai v4, ai v1]) (rest := []) (ci := 11) d_X_chance_37 mk_X_drawnStray ll_X_320 im_X_drawnStray se_X_drawnStray rfl (nle rfl) rfl rfl (nle rfl) q7 (s_X_drawnStray (by omega) hw (fun r6 h5 hw => ?_))
      show aW none m_X_chance (d + 1) 40 [(0, ar v0), (1, ai v1), (2, ai v2), (3, ai v3), (4, ai v4)] [ai r6] h5 0 0 QQ
      refine r_iload_n (j := 2) d_X_chance_40 rfl ?_
      refine r_iload_n (j := 1) d_X_chance_41 rfl ?_
      refine r_imul d_X_chance_42 ?_
      refine r_icmp_gt d_X_chance_43 (fun w9 => ?_) (fun w9 => ?_)
      · replace hw := hw.1 w9
        refine r_iinc (j := 4) (ls2 := [(4, ai (v4 + (1 : Int32))), (0, ar v0), (1, ai v1), (2, ai v2), (3, ai v3)]) d_X_chance_49 rfl (congrArg (HAdd.hAdd v4) kc_1) (nle rfl) rfl ?_
        refine r_goto d_X_chance_52 ?_
        refine r_pick (ls2 := [(0, ar v0), (1, ai v1), (2, ai v2), (3, ai v3), (4, ai (v4 + (1 : Int32)))]) [1, 2, 3, 4, 0] rfl ?_
        exact ih _ _ _ hw
      · replace hw := hw.2 w9
        refine r_iinc (j := 3) (ls2 := [(3, ai (v3 + (1 : Int32))), (0, ar v0), (1, ai v1), (2, ai v2), (4, ai v4)]) d_X_chance_46 rfl (congrArg (HAdd.hAdd v3) kc_1) (nle rfl) rfl ?_
        refine r_iinc (j := 4) (ls2 := [(4, ai (v4 + (1 : Int32))), (3, ai (v3 + (1 : Int32))), (0, ar v0), (1, ai v1), (2, ai v2)]) d_X_chance_49 rfl (congrArg (HAdd.hAdd v4) kc_1) (nle rfl) rfl ?_
        refine r_goto d_X_chance_52 ?_
        refine r_pick (ls2 := [(0, ar v0), (1, ai v1), (2, ai v2), (3, ai (v3 + (1 : Int32))), (4, ai (v4 + (1 : Int32)))]) [2, 3, 4, 1, 0] rfl ?_
        exact ih _ _ _ hw
set_option maxRecDepth 100000 in
set_option maxHeartbeats 4000000 in
theorem s_X_chance {d : Nat} (hd : 3 ≤ d) {v0 : Nat} {v1 : Int32} {v2 : Int32} {h : Hp} {Q : Int32 → Hp → Prop} {QQ : Option AV → Hp → Prop} (hw : w_X_chance v0 v1 v2 h Q) (hQ : ∀ r9 h9, Q r9 h9 → QQ (some (ai r9)) h9) : aCall m_X_chance d [ar v0, ai v1, ai v2] h 0 0 QQ := by
  obtain ⟨d, rfl⟩ : ∃ d9, d = d9 + 1 := ⟨d - 1, by omega⟩
  refine aCall_in pl_X_chance (nle rfl) ?_
  show aW none m_X_chance (d + 1) 0 [(0, ar v0), (1, ai v1), (2, ai v2)] [] h 0 0 QQ
  unfold w_X_chance at hw
  refine r_iload_n (j := 1) d_X_chance_0 rfl ?_
  refine r_iload_n (j := 2) d_X_chance_1 rfl ?_
  refine r_callS (av := [ai v1, ai v2]) (rest := []) d_X_chance_2 mk_X_isStrip ll_X_225 st_X_isStrip rfl rfl (nle rfl) (s_X_isStrip (by omega) hw (fun r2 h1 hw => ?_))
  show aW none m_X_chance (d + 1) 5 [(0, ar v0), (1, ai v1), (2, ai v2)] [ai (b2i r2)] h1 0 0 QQ
  refine r_if_eq d_X_chance_5 (fun w9 => ?_) (fun w9 => ?_)
  · replace hw := hw.1 (b2i_0.mp w9)
    refine r_iconst d_X_chance_19 kc_m1 ?_
    exact r_ireturn d_X_chance_20.1 rfl (hQ _ _ hw)
  · replace hw := hw.2 (fun g9 => w9 (b2i_0.mpr g9))
    refine r_aload_n (j := 0) d_X_chance_8 rfl ?_
    obtain ⟨q3, hw⟩ := hw
    refine r_getR d_X_chance_9 ok_11 (nle rfl) (nle rfl) rfl lf_X_23 q3 ?_
    obtain ⟨q4, hw⟩ := hw
    refine r_getI d_X_chance_12 ok_1 (nle rfl) (nle rfl) rfl lf_X_129 q4 ?_
    refine r_iconst d_X_chance_15 kc_1 ?_
    refine r_icmp_ge d_X_chance_16 (fun w9 => ?_) (fun w9 => ?_)
    · replace hw := hw.1 w9
      refine r_iconst d_X_chance_21 kc_0 ?_
      refine r_istore_n (ls2 := [(3, ai (0 : Int32)), (0, ar v0), (1, ai v1), (2, ai v2)]) d_X_chance_22 (nle rfl) rfl ?_
      refine r_iconst d_X_chance_23 kc_0 ?_
      refine r_istore (ls2 := [(4, ai (0 : Int32)), (3, ai (0 : Int32)), (0, ar v0), (1, ai v1), (2, ai v2)]) d_X_chance_24 (nle rfl) rfl ?_
      obtain ⟨n8, hw⟩ := hw
      refine r_pick (ls2 := [(0, ar v0), (1, ai v1), (2, ai v2), (3, ai (0 : Int32)), (4, ai (0 : Int32))]) [2, 3, 4, 1, 0] rfl ?_
      exact s_X_chance_L26 hd hQ  n8 _ _ _ hw
    · replace hw := hw.2 w9
      refine r_iconst d_X_chance_19 kc_m1 ?_
      exact r_ireturn d_X_chance_20.1 rfl (hQ _ _ hw)
set_option maxRecDepth 100000 in
set_option maxHeartbeats 4000000 in
theorem s_X_isSeenLength {d : Nat} {v0 : Int32} {h : Hp} {Q : Bool → Hp → Prop} {QQ : Option AV → Hp → Prop} (hw : w_X_isSeenLength v0 h Q) (hQ : ∀ r9 h9, Q r9 h9 → QQ (some (ai (b2i r9))) h9) : aCall m_X_isSeenLength d [ai v0] h 0 0 QQ := by
  refine aCall_in pl_X_isSeenLength (nle rfl) ?_
  show aW none m_X_isSeenLength d 0 [(0, ai v0)] [] h 0 0 QQ
  unfold w_X_isSeenLength at hw
  refine r_iload_n (j := 0) d_X_isSeenLength_0 rfl ?_
  refine r_if_lt d_X_isSeenLength_1 (fun w9 => ?_) (fun w9 => ?_)
  · replace hw := hw.1 w9
    refine r_iconst d_X_isSeenLength_14 kc_0 ?_
    exact r_zreturn d_X_isSeenLength_15.1 rfl (Or.inl rfl) (hQ _ _ hw)
  · replace hw := hw.2 w9
    refine r_iload_n (j := 0) d_X_isSeenLength_4 rfl ?_
    refine r_bipush d_X_isSeenLength_5 kb_8 ?_
    refine r_icmp_gt d_X_isSeenLength_7 (fun w9 => ?_) (fun w9 => ?_)
    · replace hw := hw.1 w9
      refine r_iconst d_X_isSeenLength_14 kc_0 ?_
      exact r_zreturn d_X_isSeenLength_15.1 rfl (Or.inl rfl) (hQ _ _ hw)
    · replace hw := hw.2 w9
      refine r_iconst d_X_isSeenLength_10 kc_1 ?_
      refine r_goto d_X_isSeenLength_11 ?_
      exact r_zreturn d_X_isSeenLength_15.1 rfl (Or.inr rfl) (hQ _ _ hw)
set_option maxRecDepth 100000 in
set_option maxHeartbeats 4000000 in
theorem s_X_isSeenSum {d : Nat} {v0 : Int32} {h : Hp} {Q : Bool → Hp → Prop} {QQ : Option AV → Hp → Prop} (hw : w_X_isSeenSum v0 h Q) (hQ : ∀ r9 h9, Q r9 h9 → QQ (some (ai (b2i r9))) h9) : aCall m_X_isSeenSum d [ai v0] h 0 0 QQ := by
  refine aCall_in pl_X_isSeenSum (nle rfl) ?_
  show aW none m_X_isSeenSum d 0 [(0, ai v0)] [] h 0 0 QQ
  unfold w_X_isSeenSum at hw
  refine r_iload_n (j := 0) d_X_isSeenSum_0 rfl ?_
  refine r_bipush d_X_isSeenSum_1 kb_m80 ?_
  refine r_icmp_lt d_X_isSeenSum_3 (fun w9 => ?_) (fun w9 => ?_)
  · replace hw := hw.1 w9
    refine r_iconst d_X_isSeenSum_16 kc_0 ?_
    exact r_zreturn d_X_isSeenSum_17.1 rfl (Or.inl rfl) (hQ _ _ hw)
  · replace hw := hw.2 w9
    refine r_iload_n (j := 0) d_X_isSeenSum_6 rfl ?_
    refine r_bipush d_X_isSeenSum_7 kb_80 ?_
    refine r_icmp_gt d_X_isSeenSum_9 (fun w9 => ?_) (fun w9 => ?_)
    · replace hw := hw.1 w9
      refine r_iconst d_X_isSeenSum_16 kc_0 ?_
      exact r_zreturn d_X_isSeenSum_17.1 rfl (Or.inl rfl) (hQ _ _ hw)
    · replace hw := hw.2 w9
      refine r_iconst d_X_isSeenSum_12 kc_1 ?_
      refine r_goto d_X_isSeenSum_13 ?_
      exact r_zreturn d_X_isSeenSum_17.1 rfl (Or.inr rfl) (hQ _ _ hw)
set_option maxRecDepth 100000 in
set_option maxHeartbeats 4000000 in
theorem s_X_seen_B82 {d : Nat} (hd : 63 ≤ d + 1) {Q : Int32 → Hp → Prop} {QQ : Option AV → Hp → Prop} (hQ : ∀ r9 h9, Q r9 h9 → QQ (some (ai r9)) h9) {v0 : Nat} {v1 : Int32} {v5 : Int32} {s0 : Nat} {s1 : Int32} {s2 : Int32} {h : Hp} (hw : w_X_seen_B82 Q  v0 v1 v5 s0 s1 s2 h) : aW none m_X_seen (d + 1) 82 [(0, ar v0), (1, ai v1), (5, ai v5)] [ai s2, ai s1, ar s0] h 0 0 QQ := by
  unfold w_X_seen_B82 at hw
  obtain ⟨q17, hw⟩ := hw
  obtain ⟨q18, hw⟩ := hw
  refine r_iast d_X_seen_82 q17 q18 ?_
  refine r_aload_n (j := 0) d_X_seen_83 rfl ?_
  obtain ⟨q19, hw⟩ := hw
  refine r_getRb eRI d_X_seen_84 ok_11 (nle rfl) (nle rfl) rfl lf_X_99 (kt eKI q19) ?_
  refine r_iload_n (j := 1) d_X_seen_87 rfl ?_
  refine r_aload_n (j := 0) d_X_seen_88 rfl ?_
  refine r_getRb eRI d_X_seen_89 ok_11 (nle rfl) (nle rfl) rfl lf_X_103 (kt eKI q19) ?_
  refine r_iload (j := 2) d_X_seen_92 rfl ?_
  obtain ⟨q22, hw⟩ := hw
  refine r_callV (av := [ai v1, ar (gR h v0 14), ai v5]) (rest := []) (ci := 5) d_X_seen_94 mk_Kn_tell ll_X_355 im_Kn_tell se_Kn_tell rfl (nle rfl) rfl rfl (nle rfl) (kt eKI q22) (s_Kn_tell (by omega) hw (fun r21 h20 hw => ?_))
  show aW none m_X_seen (d + 1) 97 [(0, ar v0), (1, ai v1), (5, ai v5)] [ai r21] h20 0 0 QQ
  exact r_ireturn d_X_seen_97.1 rfl (hQ _ _ hw)
set_option maxRecDepth 100000 in
set_option maxHeartbeats 4000000 in
theorem s_X_seen_B59 {d : Nat} (hd : 63 ≤ d + 1) {Q : Int32 → Hp → Prop} {QQ : Option AV → Hp → Prop} (hQ : ∀ r9 h9, Q r9 h9 → QQ (some (ai r9)) h9) {v0 : Nat} {v1 : Int32} {v4 : Int32} {v5 : Int32} {s0 : Nat} {s1 : Int32} {s2 : Int32} {h : Hp} (hw : w_X_seen_B59 Q  v0 v1 v4 v5 s0 s1 s2 h) : aW none m_X_seen (d + 1) 59 [(0, ar v0), (1, ai v1), (4, ai v4), (5, ai v5)] [ai s2, ai s1, ar s0] h 0 0 QQ := by
  unfold w_X_seen_B59 at hw
  obtain ⟨q13, hw⟩ := hw
  obtain ⟨q14, hw⟩ := hw
  refine r_iast d_X_seen_59 q13 q14 ?_
  refine r_aload_n (j := 0) d_X_seen_60 rfl ?_
  obtain ⟨q15, hw⟩ := hw
  refine r_getRb eRI d_X_seen_61 ok_11 (nle rfl) (nle rfl) rfl lf_X_103 (kt eKI q15) ?_
  refine r_iconst d_X_seen_64 kc_2 ?_
  refine r_aload_n (j := 0) d_X_seen_65 rfl ?_
  refine r_getRb eRI d_X_seen_66 ok_11 (nle rfl) (nle rfl) rfl lf_X_19 (kt eKI q15) ?_
  obtain ⟨q16, hw⟩ := hw
  refine r_getI d_X_seen_69 ok_1 (nle rfl) (nle rfl) rfl lf_X_352 (kt eKI q16) ?_
  refine r_iconst d_X_seen_72 kc_2 ?_
  refine r_icmp_le d_X_seen_73 (fun w9 => ?_) (fun w9 => ?_)
  · replace hw := hw.1 w9
    refine r_iconst d_X_seen_81 kc_0 ?_
    refine r_pick (ls2 := [(0, ar v0), (1, ai v1), (5, ai v5)]) [0, 1, 3] rfl ?_
    exact s_X_seen_B82 hd hQ  hw
  · replace hw := hw.2 w9
    refine r_iload (j := 2) d_X_seen_76 rfl ?_
    refine r_goto d_X_seen_78 ?_
    refine r_pick (ls2 := [(0, ar v0), (1, ai v1), (5, ai v5)]) [0, 1, 3] rfl ?_
    exact s_X_seen_B82 hd hQ  hw
set_option maxRecDepth 100000 in
set_option maxHeartbeats 4000000 in
theorem s_X_seen {d : Nat} (hd : 63 ≤ d) {v0 : Nat} {v1 : Int32} {v2 : Int32} {v3 : Int32} {v4 : Int32} {v5 : Int32} {h : Hp} {Q : Int32 → Hp → Prop} {QQ : Option AV → Hp → Prop} (hw : w_X_seen v0 v1 v2 v3 v4 v5 h Q) (hQ : ∀ r9 h9, Q r9 h9 → QQ (some (ai r9)) h9) : aCall m_X_seen d [ar v0, ai v1, ai v2, ai v3, ai v4, ai v5] h 0 0 QQ := by
  obtain ⟨d, rfl⟩ : ∃ d9, d = d9 + 1 := ⟨d - 1, by omega⟩
  refine aCall_in pl_X_seen (nle rfl) ?_
  show aW none m_X_seen (d + 1) 0 [(0, ar v0), (1, ai v1), (2, ai v2), (3, ai v3), (4, ai v4), (5, ai v5)] [] h 0 0 QQ
  unfold w_X_seen at hw
  refine r_iload_n (j := 1) d_X_seen_0 rfl ?_
  refine r_callS (av := [ai v1]) (rest := []) d_X_seen_1 mk_X_isSeenLength ll_X_346 st_X_isSeenLength rfl rfl (nle rfl) (s_X_isSeenLength  hw (fun r2 h1 hw => ?_))
  show aW none m_X_seen (d + 1) 4 [(0, ar v0), (1, ai v1), (2, ai v2), (3, ai v3), (4, ai v4), (5, ai v5)] [ai (b2i r2)] h1 0 0 QQ
  refine r_if_eq d_X_seen_4 (fun w9 => ?_) (fun w9 => ?_)
  · replace hw := hw.1 (b2i_0.mp w9)
    refine r_iconst d_X_seen_29 kc_m1 ?_
    exact r_ireturn d_X_seen_30.1 rfl (hQ _ _ hw)
  · replace hw := hw.2 (fun g9 => w9 (b2i_0.mpr g9))
    refine r_iload_n (j := 2) d_X_seen_7 rfl ?_
    refine r_callS (av := [ai v2]) (rest := []) d_X_seen_8 mk_X_isSeenSum ll_X_349 st_X_isSeenSum rfl rfl (nle rfl) (s_X_isSeenSum  hw (fun r4 h3 hw => ?_))
    show aW none m_X_seen (d + 1) 11 [(0, ar v0), (1, ai v1), (2, ai v2), (3, ai v3), (4, ai v4), (5, ai v5)] [ai (b2i r4)] h3 0 0 QQ
    refine r_if_eq d_X_seen_11 (fun w9 => ?_) (fun w9 => ?_)
    · replace hw := hw.1 (b2i_0.mp w9)
      refine r_iconst d_X_seen_29 kc_m1 ?_
      exact r_ireturn d_X_seen_30.1 rfl (hQ _ _ hw)
    · replace hw := hw.2 (fun g9 => w9 (b2i_0.mpr g9))
      refine r_iload_n (j := 3) d_X_seen_14 rfl ?_
      refine r_callS (av := [ai v3]) (rest := []) d_X_seen_15 mk_X_isSeenSum ll_X_349 st_X_isSeenSum rfl rfl (nle rfl) (s_X_isSeenSum  hw (fun r6 h5 hw => ?_))
      show aW none m_X_seen (d + 1) 18 [(0, ar v0), (1, ai v1), (2, ai v2), (3, ai v3), (4, ai v4), (5, ai v5)] [ai (b2i r6)] h5 0 0 QQ
      refine r_if_eq d_X_seen_18 (fun w9 => ?_) (fun w9 => ?_)
      · replace hw := hw.1 (b2i_0.mp w9)
        refine r_iconst d_X_seen_29 kc_m1 ?_
        exact r_ireturn d_X_seen_30.1 rfl (hQ _ _ hw)
      · replace hw := hw.2 (fun g9 => w9 (b2i_0.mpr g9))
        refine r_iload (j := 4) d_X_seen_21 rfl ?_
        refine r_callS (av := [ai v4]) (rest := []) d_X_seen_23 mk_X_isSeenSum ll_X_349 st_X_isSeenSum rfl rfl (nle rfl) (s_X_isSeenSum  hw (fun r8 h7 hw => ?_))
        show aW none m_X_seen (d + 1) 26 [(0, ar v0), (1, ai v1), (2, ai v2), (3, ai v3), (4, ai v4), (5, ai v5)] [ai (b2i r8)] h7 0 0 QQ
        refine r_if_ne d_X_seen_26 (fun w9 => ?_) (fun w9 => ?_)
        · replace hw := hw.2 (fun g9 => w9 (b2i_0.mpr g9))
          refine r_aload_n (j := 0) d_X_seen_31 rfl ?_
          obtain ⟨q9, hw⟩ := hw
          refine r_getR d_X_seen_32 ok_11 (nle rfl) (nle rfl) rfl lf_X_103 q9 ?_
          refine r_iconst d_X_seen_35 kc_0 ?_
          refine r_iload_n (j := 2) d_X_seen_36 rfl ?_
          obtain ⟨q10, hw⟩ := hw
          obtain ⟨q11, hw⟩ := hw
          refine r_iast d_X_seen_37 q10 q11 ?_
          refine r_aload_n (j := 0) d_X_seen_38 rfl ?_
          refine r_getRb eRI d_X_seen_39 ok_11 (nle rfl) (nle rfl) rfl lf_X_103 (kt eKI q9) ?_
          refine r_iconst d_X_seen_42 kc_1 ?_
          refine r_aload_n (j := 0) d_X_seen_43 rfl ?_
          refine r_getRb eRI d_X_seen_44 ok_11 (nle rfl) (nle rfl) rfl lf_X_19 (kt eKI q9) ?_
          obtain ⟨q12, hw⟩ := hw
          refine r_getI d_X_seen_47 ok_1 (nle rfl) (nle rfl) rfl lf_X_352 (kt eKI q12) ?_
          refine r_iconst d_X_seen_50 kc_1 ?_
          refine r_icmp_le d_X_seen_51 (fun w9 => ?_) (fun w9 => ?_)
          · replace hw := hw.1 w9
            refine r_iconst d_X_seen_58 kc_0 ?_
            refine r_pick (ls2 := [(0, ar v0), (1, ai v1), (4, ai v4), (5, ai v5)]) [0, 1, 4, 5] rfl ?_
            exact s_X_seen_B59 hd hQ  hw
          · replace hw := hw.2 w9
            refine r_iload_n (j := 3) d_X_seen_54 rfl ?_
            refine r_goto d_X_seen_55 ?_
            refine r_pick (ls2 := [(0, ar v0), (1, ai v1), (4, ai v4), (5, ai v5)]) [0, 1, 4, 5] rfl ?_
            exact s_X_seen_B59 hd hQ  hw
        · replace hw := hw.1 (b2i_0.mp w9)
          refine r_iconst d_X_seen_29 kc_m1 ?_
          exact r_ireturn d_X_seen_30.1 rfl (hQ _ _ hw)
set_option maxRecDepth 100000 in
set_option maxHeartbeats 4000000 in
theorem s_X_untell {d : Nat} (hd : 1 ≤ d) {v0 : Nat} {v1 : Int32} {h : Hp} {Q : Bool → Hp → Prop} {QQ : Option AV → Hp → Prop} (hw : w_X_untell v0 v1 h Q) (hQ : ∀ r9 h9, Q r9 h9 → QQ (some (ai (b2i r9))) h9) : aCall m_X_untell d [ar v0, ai v1] h 0 0 QQ := by
  obtain ⟨d, rfl⟩ : ∃ d9, d = d9 + 1 := ⟨d - 1, by omega⟩
  refine aCall_in pl_X_untell (nle rfl) ?_
  show aW none m_X_untell (d + 1) 0 [(0, ar v0), (1, ai v1)] [] h 0 0 QQ
  unfold w_X_untell at hw
  refine r_aload_n (j := 0) d_X_untell_0 rfl ?_
  obtain ⟨q1, hw⟩ := hw
  refine r_getR d_X_untell_1 ok_11 (nle rfl) (nle rfl) rfl lf_X_99 q1 ?_
  refine r_iload_n (j := 1) d_X_untell_4 rfl ?_
  obtain ⟨q4, hw⟩ := hw
  refine r_callV (av := [ai v1]) (rest := []) (ci := 5) d_X_untell_5 mk_Kn_takeAway ll_X_359 im_Kn_takeAway se_Kn_takeAway rfl (nle rfl) rfl rfl (nle rfl) q4 (s_Kn_takeAway  hw (fun r3 h2 hw => ?_))
  show aW none m_X_untell (d + 1) 8 [(0, ar v0), (1, ai v1)] [ai (b2i r3)] h2 0 0 QQ
  exact r_zreturn d_X_untell_8.1 rfl (b2i_B _) (hQ _ _ hw)
set_option maxRecDepth 100000 in
set_option maxHeartbeats 4000000 in
theorem s_X_later {d : Nat} {v0 : Nat} {v1 : Int32} {h : Hp} {Q : Int32 → Hp → Prop} {QQ : Option AV → Hp → Prop} (hw : w_X_later v0 v1 h Q) (hQ : ∀ r9 h9, Q r9 h9 → QQ (some (ai r9)) h9) : aCall m_X_later d [ar v0, ai v1] h 0 0 QQ := by
  refine aCall_in pl_X_later (nle rfl) ?_
  show aW none m_X_later d 0 [(0, ar v0), (1, ai v1)] [] h 0 0 QQ
  unfold w_X_later at hw
  refine r_iload_n (j := 1) d_X_later_0 rfl ?_
  refine r_if_lt d_X_later_1 (fun w9 => ?_) (fun w9 => ?_)
  · replace hw := hw.1 w9
    refine r_iconst d_X_later_26 kc_m1 ?_
    exact r_ireturn d_X_later_27.1 rfl (hQ _ _ hw)
  · replace hw := hw.2 w9
    refine r_iload_n (j := 1) d_X_later_4 rfl ?_
    refine r_sipush d_X_later_5 ks_1000 ?_
    refine r_icmp_gt d_X_later_8 (fun w9 => ?_) (fun w9 => ?_)
    · replace hw := hw.1 w9
      refine r_iconst d_X_later_26 kc_m1 ?_
      exact r_ireturn d_X_later_27.1 rfl (hQ _ _ hw)
    · replace hw := hw.2 w9
      refine r_aload_n (j := 0) d_X_later_11 rfl ?_
      obtain ⟨q1, hw⟩ := hw
      refine r_getR d_X_later_12 ok_11 (nle rfl) (nle rfl) rfl lf_X_99 q1 ?_
      obtain ⟨q2, hw⟩ := hw
      refine r_getI d_X_later_15 ok_5 (nle rfl) (nle rfl) rfl lf_X_362 q2 ?_
      refine r_iload_n (j := 1) d_X_later_18 rfl ?_
      refine r_iadd d_X_later_19 ?_
      refine r_ldcw d_X_later_20 lc_X_365 ?_
      refine r_icmp_le d_X_later_23 (fun w9 => ?_) (fun w9 => ?_)
      · replace hw := hw.1 w9
        refine r_aload_n (j := 0) d_X_later_28 rfl ?_
        refine r_getR d_X_later_29 ok_11 (nle rfl) (nle rfl) rfl lf_X_99 q1 ?_
        refine r_dup d_X_later_32 rfl ?_
        refine r_getI d_X_later_33 ok_5 (nle rfl) (nle rfl) rfl lf_X_362 q2 ?_
        refine r_iload_n (j := 1) d_X_later_36 rfl ?_
        refine r_iadd d_X_later_37 ?_
        refine r_putI d_X_later_38 ok_5 (nle rfl) (nle rfl) rfl lf_X_362 rfl q2 ?_
        refine r_aload_n (j := 0) d_X_later_41 rfl ?_
        refine r_getRb eRI d_X_later_42 ok_11 (nle rfl) (nle rfl) rfl lf_X_99 (kt eKI q1) ?_
        refine r_getI d_X_later_45 ok_5 (nle rfl) (nle rfl) rfl lf_X_362 (kt eKI q2) ?_
        exact r_ireturn d_X_later_48.1 rfl (hQ _ _ hw)
      · replace hw := hw.2 w9
        refine r_iconst d_X_later_26 kc_m1 ?_
        exact r_ireturn d_X_later_27.1 rfl (hQ _ _ hw)
set_option maxRecDepth 100000 in
set_option maxHeartbeats 4000000 in
theorem s_X_fits {d : Nat} (hd : 3 ≤ d) {v0 : Nat} {v1 : Int32} {h : Hp} {Q : Int32 → Hp → Prop} {QQ : Option AV → Hp → Prop} (hw : w_X_fits v0 v1 h Q) (hQ : ∀ r9 h9, Q r9 h9 → QQ (some (ai r9)) h9) : aCall m_X_fits d [ar v0, ai v1] h 0 0 QQ := by
  obtain ⟨d, rfl⟩ : ∃ d9, d = d9 + 1 := ⟨d - 1, by omega⟩
  refine aCall_in pl_X_fits (nle rfl) ?_
  show aW none m_X_fits (d + 1) 0 [(0, ar v0), (1, ai v1)] [] h 0 0 QQ
  unfold w_X_fits at hw
  refine r_aload_n (j := 0) d_X_fits_0 rfl ?_
  obtain ⟨q1, hw⟩ := hw
  refine r_getR d_X_fits_1 ok_11 (nle rfl) (nle rfl) rfl lf_X_99 q1 ?_
  refine r_iload_n (j := 1) d_X_fits_4 rfl ?_
  obtain ⟨q4, hw⟩ := hw
  refine r_callV (av := [ai v1]) (rest := []) (ci := 5) d_X_fits_5 mk_Kn_fitting ll_X_366 im_Kn_fitting se_Kn_fitting rfl (nle rfl) rfl rfl (nle rfl) q4 (s_Kn_fitting (by omega) hw (fun r3 h2 hw => ?_))
  show aW none m_X_fits (d + 1) 8 [(0, ar v0), (1, ai v1)] [ai r3] h2 0 0 QQ
  refine r_callS (av := [ai r3]) (rest := []) d_X_fits_8 mk_JI_bitCount ll_X_369 st_JI_bitCount rfl rfl (nle rfl) (s_JI_bitCount  hw (fun r6 h5 hw => ?_))
  show aW none m_X_fits (d + 1) 11 [(0, ar v0), (1, ai v1)] [ai r6] h5 0 0 QQ
  exact r_ireturn d_X_fits_11.1 rfl (hQ _ _ hw)
set_option maxRecDepth 100000 in
set_option maxHeartbeats 4000000 in
theorem s_X_fit_L15 {d : Nat} (hd : 3 ≤ d + 1) {Q : Int32 → Hp → Prop} {QQ : Option AV → Hp → Prop} (hQ : ∀ r9 h9, Q r9 h9 → QQ (some (ai r9)) h9) {v1 : Int32} {v3 : Int32} : ∀ (n : Nat) (v4 : Int32) (v5 : Int32) (h : Hp), w_X_fit_L15 Q  v1 v3 n v4 v5 h → aW none m_X_fit (d + 1) 15 [(1, ai v1), (3, ai v3), (4, ai v4), (5, ai v5)] [] h 0 0 QQ := by
  intro n
  induction n with
  | zero => intro v4 v5 h hw; exact hw.elim
  | succ n ih =>
    intro v4 v5 h hw
    unfold w_X_fit_L15 at hw
    refine r_iload (j := 3) d_X_fit_15 rfl ?_
    refine r_bipush d_X_fit_17 kb_8 ?_
    refine r_icmp_gt d_X_fit_19 (fun w9 => ?_) (fun w9 => ?_)
    · replace hw := hw.1 w9
      refine r_bipush d_X_fit_51 kb_m2 ?_
      exact r_ireturn d_X_fit_53.1 rfl (hQ _ _ hw)
    · replace hw := hw.2 w9
      refine r_iload_n (j := 1) d_X_fit_22 rfl ?_
      refine r_iload (j := 3) d_X_fit_23 rfl ?_
      refine r_ishr d_X_fit_25 ?_
      refine r_iconst d_X_fit_26 kc_1 ?_
      refine r_iand d_X_fit_27 ?_
      refine r_if_eq d_X_fit_28 (fun w9 => ?_) (fun w9 => ?_)
      · replace hw := hw.1 w9
        refine r_iinc (j := 3) (ls2 := [(5, ai (v5 + (1 : Int32))), (1, ai v1), (3, ai v3), (4, ai v4)]) d_X_fit_45 rfl (congrArg (HAdd.hAdd v5) kc_1) (nle rfl) rfl ?_
        refine r_goto d_X_fit_48 ?_
        refine r_pick (ls2 := [(1, ai v1), (3, ai v3), (4, ai v4), (5, ai (v5 + (1 : Int32)))]) [1, 2, 3, 0] rfl ?_
        exact ih _ _ _ hw
      · replace hw := hw.2 w9
        refine r_iload (j := 2) d_X_fit_31 rfl ?_
        refine r_iload_n (j := 0) d_X_fit_33 rfl ?_
        refine r_icmp_ne d_X_fit_34 (fun w9 => ?_) (fun w9 => ?_)
        · replace hw := hw.2 w9
          refine r_iinc (j := 2) (ls2 := [(4, ai (v4 + (1 : Int32))), (1, ai v1), (3, ai v3), (5, ai v5)]) d_X_fit_42 rfl (congrArg (HAdd.hAdd v4) kc_1) (nle rfl) rfl ?_
          refine r_iinc (j := 3) (ls2 := [(5, ai (v5 + (1 : Int32))), (4, ai (v4 + (1 : Int32))), (1, ai v1), (3, ai v3)]) d_X_fit_45 rfl (congrArg (HAdd.hAdd v5) kc_1) (nle rfl) rfl ?_
          refine r_goto d_X_fit_48 ?_
          refine r_pick (ls2 := [(1, ai v1), (3, ai v3), (4, ai (v4 + (1 : Int32))), (5, ai (v5 + (1 : Int32)))]) [2, 3, 1, 0] rfl ?_
          exact ih _ _ _ hw
        · replace hw := hw.1 w9
          refine r_iload (j := 3) d_X_fit_37 rfl ?_
          refine r_iconst d_X_fit_39 kc_1 ?_
          refine r_isub d_X_fit_40 ?_
          exact r_ireturn d_X_fit_41.1 rfl (hQ _ _ hw)
set_option maxRecDepth 100000 in
set_option maxHeartbeats 4000000 in
theorem s_X_fit {d : Nat} (hd : 3 ≤ d) {v0 : Nat} {v1 : Int32} {v2 : Int32} {h : Hp} {Q : Int32 → Hp → Prop} {QQ : Option AV → Hp → Prop} (hw : w_X_fit v0 v1 v2 h Q) (hQ : ∀ r9 h9, Q r9 h9 → QQ (some (ai r9)) h9) : aCall m_X_fit d [ar v0, ai v1, ai v2] h 0 0 QQ := by
  obtain ⟨d, rfl⟩ : ∃ d9, d = d9 + 1 := ⟨d - 1, by omega⟩
  refine aCall_in pl_X_fit (nle rfl) ?_
  show aW none m_X_fit (d + 1) 0 [(0, ar v0), (1, ai v1), (2, ai v2)] [] h 0 0 QQ
  unfold w_X_fit at hw
  refine r_aload_n (j := 0) d_X_fit_0 rfl ?_
  obtain ⟨q1, hw⟩ := hw
  refine r_getR d_X_fit_1 ok_11 (nle rfl) (nle rfl) rfl lf_X_99 q1 ?_
  refine r_iload_n (j := 2) d_X_fit_4 rfl ?_
  obtain ⟨q4, hw⟩ := hw
  refine r_callV (av := [ai v2]) (rest := []) (ci := 5) d_X_fit_5 mk_Kn_fitting ll_X_366 im_Kn_fitting se_Kn_fitting rfl (nle rfl) rfl rfl (nle rfl) q4 (s_Kn_fitting (by omega) hw (fun r3 h2 hw => ?_))
  show aW none m_X_fit (d + 1) 8 [(0, ar v0), (1, ai v1), (2, ai v2)] [ai r3] h2 0 0 QQ
  refine r_istore_n (ls2 := [(3, ai r3), (0, ar v0), (1, ai v1), (2, ai v2)]) d_X_fit_8 (nle rfl) rfl ?_
  refine r_iconst d_X_fit_9 kc_0 ?_
  refine r_istore (ls2 := [(4, ai (0 : Int32)), (3, ai r3), (0, ar v0), (1, ai v1), (2, ai v2)]) d_X_fit_10 (nle rfl) rfl ?_
  refine r_iconst d_X_fit_12 kc_0 ?_
  refine r_istore (ls2 := [(5, ai (0 : Int32)), (4, ai (0 : Int32)), (3, ai r3), (0, ar v0), (1, ai v1), (2, ai v2)]) d_X_fit_13 (nle rfl) rfl ?_
  obtain ⟨n5, hw⟩ := hw
  refine r_pick (ls2 := [(1, ai v1), (3, ai r3), (4, ai (0 : Int32)), (5, ai (0 : Int32))]) [4, 2, 1, 0] rfl ?_
  exact s_X_fit_L15 hd hQ  n5 _ _ _ hw
