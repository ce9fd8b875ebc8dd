set_option maxRecDepth 100000 in
set_option maxHeartbeats 4000000 in
theorem s_X_ask {d : Nat} (hd : 4 ≤ d) {v0 : Nat} {v1 : Int32} {v2 : Int32} {v3 : Int32} {h : Hp} {Q : Int32 → Hp → Prop} {QQ : Option AV → Hp → Prop} (hw : w_X_ask v0 v1 v2 v3 h Q) (hQ : ∀ r9 h9, Q r9 h9 → QQ (some (ai r9)) h9) : aCall m_X_ask d [ar v0, ai v1, ai v2, ai v3] h 0 0 QQ := by
  obtain ⟨d, rfl⟩ : ∃ d9, d = d9 + 1 := ⟨d - 1, by omega⟩
  refine aCall_in pl_X_ask (nle rfl) ?_
  show aW none m_X_ask (d + 1) 0 [(0, ar v0), (1, ai v1), (2, ai v2), (3, ai v3)] [] h 0 0 QQ
  unfold w_X_ask at hw
  refine r_iload_n (j := 1) d_X_ask_0 rfl ?_
  refine r_callS (av := [ai v1]) (rest := []) d_X_ask_1 mk_X_isSeenLength ll_X_346 st_X_isSeenLength rfl rfl (nle rfl) (s_X_isSeenLength  hw (fun r2 h1 hw => ?_))
  show aW none m_X_ask (d + 1) 4 [(0, ar v0), (1, ai v1), (2, ai v2), (3, ai v3)] [ai (b2i r2)] h1 0 0 QQ
  refine r_if_eq d_X_ask_4 (fun w9 => ?_) (fun w9 => ?_)
  · replace hw := hw.1 (b2i_0.mp w9)
    refine r_ldc d_X_ask_27 lc_X_145 ?_
    exact r_ireturn d_X_ask_29.1 rfl (hQ _ _ hw)
  · replace hw := hw.2 (fun g9 => w9 (b2i_0.mpr g9))
    refine r_iload_n (j := 2) d_X_ask_7 rfl ?_
    refine r_if_lt d_X_ask_8 (fun w9 => ?_) (fun w9 => ?_)
    · replace hw := hw.1 w9
      refine r_ldc d_X_ask_27 lc_X_145 ?_
      exact r_ireturn d_X_ask_29.1 rfl (hQ _ _ hw)
    · replace hw := hw.2 w9
      refine r_iload_n (j := 2) d_X_ask_11 rfl ?_
      refine r_iconst d_X_ask_12 kc_1 ?_
      refine r_icmp_gt d_X_ask_13 (fun w9 => ?_) (fun w9 => ?_)
      · replace hw := hw.1 w9
        refine r_ldc d_X_ask_27 lc_X_145 ?_
        exact r_ireturn d_X_ask_29.1 rfl (hQ _ _ hw)
      · replace hw := hw.2 w9
        refine r_aload_n (j := 0) d_X_ask_16 rfl ?_
        obtain ⟨q3, hw⟩ := hw
        refine r_getR d_X_ask_17 ok_11 (nle rfl) (nle rfl) rfl lf_X_99 q3 ?_
        refine r_iload_n (j := 3) d_X_ask_20 rfl ?_
        obtain ⟨q6, hw⟩ := hw
        refine r_callV (av := [ai v3]) (rest := []) (ci := 5) d_X_ask_21 mk_Kn_fitting ll_X_366 im_Kn_fitting se_Kn_fitting rfl (nle rfl) rfl rfl (nle rfl) q6 (s_Kn_fitting (by omega) hw (fun r5 h4 hw => ?_))
        show aW none m_X_ask (d + 1) 24 [(0, ar v0), (1, ai v1), (2, ai v2), (3, ai v3)] [ai r5] h4 0 0 QQ
        refine r_if_ne d_X_ask_24 (fun w9 => ?_) (fun w9 => ?_)
        · replace hw := hw.2 w9
          refine r_aload_n (j := 0) d_X_ask_30 rfl ?_
          obtain ⟨q7, hw⟩ := hw
          refine r_getR d_X_ask_31 ok_11 (nle rfl) (nle rfl) rfl lf_X_99 q7 ?_
          refine r_iload_n (j := 1) d_X_ask_34 rfl ?_
          refine r_aload_n (j := 0) d_X_ask_35 rfl ?_
          refine r_getR d_X_ask_36 ok_11 (nle rfl) (nle rfl) rfl lf_X_99 q7 ?_
          refine r_iload_n (j := 3) d_X_ask_39 rfl ?_
          obtain ⟨q10, hw⟩ := hw
          refine r_callV (av := [ai v3]) (rest := [ai v1, ar (gR h4 v0 13)]) (ci := 5) d_X_ask_40 mk_Kn_fitting ll_X_366 im_Kn_fitting se_Kn_fitting rfl (nle rfl) rfl rfl (nle rfl) q10 (s_Kn_fitting (by omega) hw (fun r9 h8 hw => ?_))
          show aW none m_X_ask (d + 1) 43 [(0, ar v0), (1, ai v1), (2, ai v2), (3, ai v3)] [ai r9, ai v1, ar (gR h4 v0 13)] h8 0 0 QQ
          obtain ⟨q12, hw⟩ := hw
          refine r_callV (av := [ai v1, ai r9]) (rest := []) (ci := 5) d_X_ask_43 mk_Kn_chooseAsk ll_X_374 im_Kn_chooseAsk se_Kn_chooseAsk rfl (nle rfl) rfl rfl (nle rfl) q12 (s_Kn_chooseAsk (by omega) hw (fun h11 hw => ?_))
          show aW none m_X_ask (d + 1) 46 [(0, ar v0), (1, ai v1), (2, ai v2), (3, ai v3)] [] h11 0 0 QQ
          refine r_iload_n (j := 2) d_X_ask_46 rfl ?_
          refine r_if_ne d_X_ask_47 (fun w9 => ?_) (fun w9 => ?_)
          · replace hw := hw.2 w9
            refine r_aload_n (j := 0) d_X_ask_60 rfl ?_
            obtain ⟨q13, hw⟩ := hw
            refine r_getR d_X_ask_61 ok_11 (nle rfl) (nle rfl) rfl lf_X_99 q13 ?_
            obtain ⟨q14, hw⟩ := hw
            refine r_getI d_X_ask_64 ok_5 (nle rfl) (nle rfl) rfl lf_X_380 q14 ?_
            exact r_ireturn d_X_ask_67.1 rfl (hQ _ _ hw)
          · replace hw := hw.1 w9
            refine r_aload_n (j := 0) d_X_ask_50 rfl ?_
            obtain ⟨q15, hw⟩ := hw
            refine r_getR d_X_ask_51 ok_11 (nle rfl) (nle rfl) rfl lf_X_99 q15 ?_
            obtain ⟨q16, hw⟩ := hw
            refine r_getI d_X_ask_54 ok_5 (nle rfl) (nle rfl) rfl lf_X_377 q16 ?_
            refine r_goto d_X_ask_57 ?_
            exact r_ireturn d_X_ask_67.1 rfl (hQ _ _ hw)
        · replace hw := hw.1 w9
          refine r_ldc d_X_ask_27 lc_X_145 ?_
          exact r_ireturn d_X_ask_29.1 rfl (hQ _ _ hw)
set_option maxRecDepth 100000 in
set_option maxHeartbeats 4000000 in
theorem s_X_image {d : Nat} (hd : 2 ≤ d) {v0 : Nat} {v1 : Int32} {h : Hp} {Q : Int32 → Hp → Prop} {QQ : Option AV → Hp → Prop} (hw : w_X_image v0 v1 h Q) (hQ : ∀ r9 h9, Q r9 h9 → QQ (some (ai r9)) h9) : aCall m_X_image d [ar v0, ai v1] h 0 0 QQ := by
  obtain ⟨d, rfl⟩ : ∃ d9, d = d9 + 1 := ⟨d - 1, by omega⟩
  refine aCall_in pl_X_image (nle rfl) ?_
  show aW none m_X_image (d + 1) 0 [(0, ar v0), (1, ai v1)] [] h 0 0 QQ
  unfold w_X_image at hw
  refine r_iload_n (j := 1) d_X_image_0 rfl ?_
  refine r_if_lt d_X_image_1 (fun w9 => ?_) (fun w9 => ?_)
  · replace hw := hw.1 w9
    refine r_iconst d_X_image_9 kc_m1 ?_
    exact r_ireturn d_X_image_10.1 rfl (hQ _ _ hw)
  · replace hw := hw.2 w9
    refine r_iload_n (j := 1) d_X_image_4 rfl ?_
    refine r_iconst d_X_image_5 kc_2 ?_
    refine r_icmp_lt d_X_image_6 (fun w9 => ?_) (fun w9 => ?_)
    · replace hw := hw.1 w9
      refine r_aload_n (j := 0) d_X_image_11 rfl ?_
      obtain ⟨q1, hw⟩ := hw
      refine r_getR d_X_image_12 ok_11 (nle rfl) (nle rfl) rfl lf_X_35 q1 ?_
      refine r_iload_n (j := 1) d_X_image_15 rfl ?_
      obtain ⟨q2, hw⟩ := hw
      obtain ⟨q3, hw⟩ := hw
      refine r_aald d_X_image_16 q2 q3 ?_
      refine r_aload_n (j := 0) d_X_image_17 rfl ?_
      refine r_getR d_X_image_18 ok_11 (nle rfl) (nle rfl) rfl lf_X_23 q1 ?_
      obtain ⟨q5, hw⟩ := hw
      refine r_callV (av := [ar (gR h v0 2)]) (rest := []) (ci := 1) d_X_image_21 mk_Co_copyFrom ll_X_122 im_Co_copyFrom se_Co_copyFrom rfl (nle rfl) rfl rfl (nle rfl) q5 (s_Co_copyFrom (by omega) hw (fun h4 hw => ?_))
      show aW none m_X_image (d + 1) 24 [(0, ar v0), (1, ai v1)] [] h4 0 0 QQ
      refine r_aload_n (j := 0) d_X_image_24 rfl ?_
      obtain ⟨q6, hw⟩ := hw
      refine r_getR d_X_image_25 ok_11 (nle rfl) (nle rfl) rfl lf_X_39 q6 ?_
      refine r_iload_n (j := 1) d_X_image_28 rfl ?_
      refine r_iconst d_X_image_29 kc_1 ?_
      obtain ⟨q7, hw⟩ := hw
      obtain ⟨q8, hw⟩ := hw
      refine r_zast d_X_image_30 q7 q8 (Or.inr rfl) ?_
      refine r_aload_n (j := 0) d_X_image_31 rfl ?_
      refine r_getRb eRI d_X_image_32 ok_11 (nle rfl) (nle rfl) rfl lf_X_23 (kt eKI q6) ?_
      obtain ⟨q9, hw⟩ := hw
      refine r_getI d_X_image_35 ok_1 (nle rfl) (nle rfl) rfl lf_X_129 (kt eKI q9) ?_
      exact r_ireturn d_X_image_38.1 rfl (hQ _ _ hw)
    · replace hw := hw.2 w9
      refine r_iconst d_X_image_9 kc_m1 ?_
      exact r_ireturn d_X_image_10.1 rfl (hQ _ _ hw)
set_option maxRecDepth 100000 in
set_option maxHeartbeats 4000000 in
theorem s_X_back {d : Nat} (hd : 2 ≤ d) {v0 : Nat} {v1 : Int32} {h : Hp} {Q : Int32 → Hp → Prop} {QQ : Option AV → Hp → Prop} (hw : w_X_back v0 v1 h Q) (hQ : ∀ r9 h9, Q r9 h9 → QQ (some (ai r9)) h9) : aCall m_X_back d [ar v0, ai v1] h 0 0 QQ := by
  obtain ⟨d, rfl⟩ : ∃ d9, d = d9 + 1 := ⟨d - 1, by omega⟩
  refine aCall_in pl_X_back (nle rfl) ?_
  show aW none m_X_back (d + 1) 0 [(0, ar v0), (1, ai v1)] [] h 0 0 QQ
  unfold w_X_back at hw
  refine r_iload_n (j := 1) d_X_back_0 rfl ?_
  refine r_if_lt d_X_back_1 (fun w9 => ?_) (fun w9 => ?_)
  · replace hw := hw.1 w9
    refine r_iconst d_X_back_18 kc_m1 ?_
    exact r_ireturn d_X_back_19.1 rfl (hQ _ _ hw)
  · replace hw := hw.2 w9
    refine r_iload_n (j := 1) d_X_back_4 rfl ?_
    refine r_iconst d_X_back_5 kc_2 ?_
    refine r_icmp_ge d_X_back_6 (fun w9 => ?_) (fun w9 => ?_)
    · replace hw := hw.1 w9
      refine r_iconst d_X_back_18 kc_m1 ?_
      exact r_ireturn d_X_back_19.1 rfl (hQ _ _ hw)
    · replace hw := hw.2 w9
      refine r_aload_n (j := 0) d_X_back_9 rfl ?_
      obtain ⟨q1, hw⟩ := hw
      refine r_getR d_X_back_10 ok_11 (nle rfl) (nle rfl) rfl lf_X_39 q1 ?_
      refine r_iload_n (j := 1) d_X_back_13 rfl ?_
      obtain ⟨q2, hw⟩ := hw
      obtain ⟨q3, hw⟩ := hw
      refine r_zald d_X_back_14 q2 q3 ?_
      refine r_if_ne d_X_back_15 (fun w9 => ?_) (fun w9 => ?_)
      · replace hw := hw.2 w9
        refine r_aload_n (j := 0) d_X_back_20 rfl ?_
        refine r_getR d_X_back_21 ok_11 (nle rfl) (nle rfl) rfl lf_X_23 q1 ?_
        refine r_aload_n (j := 0) d_X_back_24 rfl ?_
        refine r_getR d_X_back_25 ok_11 (nle rfl) (nle rfl) rfl lf_X_35 q1 ?_
        refine r_iload_n (j := 1) d_X_back_28 rfl ?_
        obtain ⟨q4, hw⟩ := hw
        obtain ⟨q5, hw⟩ := hw
        refine r_aald d_X_back_29 q4 q5 ?_
        obtain ⟨q7, hw⟩ := hw
        refine r_callV (av := [ar (gR h (gR h v0 4) (ix v1))]) (rest := []) (ci := 1) d_X_back_30 mk_Co_copyFrom ll_X_122 im_Co_copyFrom se_Co_copyFrom rfl (nle rfl) rfl rfl (nle rfl) q7 (s_Co_copyFrom (by omega) hw (fun h6 hw => ?_))
        show aW none m_X_back (d + 1) 33 [(0, ar v0), (1, ai v1)] [] h6 0 0 QQ
        refine r_aload_n (j := 0) d_X_back_33 rfl ?_
        obtain ⟨q8, hw⟩ := hw
        refine r_getR d_X_back_34 ok_11 (nle rfl) (nle rfl) rfl lf_X_46 q8 ?_
        obtain ⟨q10, hw⟩ := hw
        refine r_callV (av := []) (rest := []) (ci := 0) d_X_back_37 mk_Ac_forget ll_X_125 im_Ac_forget se_Ac_forget rfl (nle rfl) rfl rfl (nle rfl) q10 (s_Ac_forget  hw (fun h9 hw => ?_))
        show aW none m_X_back (d + 1) 40 [(0, ar v0), (1, ai v1)] [] h9 0 0 QQ
        refine r_aload_n (j := 0) d_X_back_40 rfl ?_
        obtain ⟨q11, hw⟩ := hw
        refine r_getR d_X_back_41 ok_11 (nle rfl) (nle rfl) rfl lf_X_23 q11 ?_
        obtain ⟨q12, hw⟩ := hw
        refine r_getI d_X_back_44 ok_1 (nle rfl) (nle rfl) rfl lf_X_129 q12 ?_
        exact r_ireturn d_X_back_47.1 rfl (hQ _ _ hw)
      · replace hw := hw.1 w9
        refine r_iconst d_X_back_18 kc_m1 ?_
        exact r_ireturn d_X_back_19.1 rfl (hQ _ _ hw)
set_option maxRecDepth 100000 in
set_option maxHeartbeats 4000000 in
theorem s_X_about {d : Nat} (hd : 2 ≤ d) {v0 : Nat} {v1 : Int32} {h : Hp} {Q : Int32 → Hp → Prop} {QQ : Option AV → Hp → Prop} (hw : w_X_about v0 v1 h Q) (hQ : ∀ r9 h9, Q r9 h9 → QQ (some (ai r9)) h9) : aCall m_X_about d [ar v0, ai v1] h 0 0 QQ := by
  obtain ⟨d, rfl⟩ : ∃ d9, d = d9 + 1 := ⟨d - 1, by omega⟩
  refine aCall_in pl_X_about (nle rfl) ?_
  show aW none m_X_about (d + 1) 0 [(0, ar v0), (1, ai v1)] [] h 0 0 QQ
  unfold w_X_about at hw
  refine r_iload_n (j := 1) d_X_about_0 rfl ?_
  by_cases o9 : v1.toInt < 0 ∨ 8 < v1.toInt
  · refine r_tabOut (tgt := 124) d_X_about_1 o9 (by decide) ?_
    replace hw := hw.1 o9
    refine r_iconst d_X_about_124 kc_m1 ?_
    exact r_ireturn d_X_about_125.1 rfl (hQ _ _ hw)
  · have o8 : v1.toInt = 0 ∨ v1.toInt = 1 ∨ v1.toInt = 2 ∨ v1.toInt = 3 ∨ v1.toInt = 4 ∨ v1.toInt = 5 ∨ v1.toInt = 6 ∨ v1.toInt = 7 ∨ v1.toInt = 8 := by omega
    replace hw := hw.2
    rcases o8 with o8 | o8 | o8 | o8 | o8 | o8 | o8 | o8 | o8
    · refine r_tabIn (off := 51) (tgt := 52) d_X_about_1 (by omega) (by omega) (by rw [o8]; rfl) (by decide) ?_
      replace hw := hw.1 o8
      refine r_aload_n (j := 0) d_X_about_52 rfl ?_
      obtain ⟨q1, hw⟩ := hw
      refine r_getR d_X_about_53 ok_11 (nle rfl) (nle rfl) rfl lf_X_23 q1 ?_
      obtain ⟨q2, hw⟩ := hw
      refine r_getI d_X_about_56 ok_1 (nle rfl) (nle rfl) rfl lf_X_352 q2 ?_
      exact r_ireturn d_X_about_59.1 rfl (hQ _ _ hw)
    · refine r_tabIn (off := 59) (tgt := 60) d_X_about_1 (by omega) (by omega) (by rw [o8]; rfl) (by decide) ?_
      replace hw := hw.2.1 o8
      refine r_aload_n (j := 0) d_X_about_60 rfl ?_
      obtain ⟨q3, hw⟩ := hw
      refine r_getR d_X_about_61 ok_11 (nle rfl) (nle rfl) rfl lf_X_23 q3 ?_
      obtain ⟨q4, hw⟩ := hw
      refine r_getI d_X_about_64 ok_1 (nle rfl) (nle rfl) rfl lf_X_129 q4 ?_
      exact r_ireturn d_X_about_67.1 rfl (hQ _ _ hw)
    · refine r_tabIn (off := 67) (tgt := 68) d_X_about_1 (by omega) (by omega) (by rw [o8]; rfl) (by decide) ?_
      replace hw := hw.2.2.1 o8
      refine r_aload_n (j := 0) d_X_about_68 rfl ?_
      obtain ⟨q5, hw⟩ := hw
      refine r_getR d_X_about_69 ok_11 (nle rfl) (nle rfl) rfl lf_X_23 q5 ?_
      obtain ⟨q8, hw⟩ := hw
      refine r_callV (av := []) (rest := []) (ci := 1) d_X_about_72 mk_Co_steps ll_X_383 im_Co_steps se_Co_steps rfl (nle rfl) rfl rfl (nle rfl) q8 (s_Co_steps  hw (fun r7 h6 hw => ?_))
      show aW none m_X_about (d + 1) 75 [(0, ar v0), (1, ai v1)] [ai r7] h6 0 0 QQ
      exact r_ireturn d_X_about_75.1 rfl (hQ _ _ hw)
    · refine r_tabIn (off := 75) (tgt := 76) d_X_about_1 (by omega) (by omega) (by rw [o8]; rfl) (by decide) ?_
      replace hw := hw.2.2.2.1 o8
      refine r_aload_n (j := 0) d_X_about_76 rfl ?_
      obtain ⟨q9, hw⟩ := hw
      refine r_getR d_X_about_77 ok_11 (nle rfl) (nle rfl) rfl lf_X_23 q9 ?_
      obtain ⟨q12, hw⟩ := hw
      refine r_callV (av := []) (rest := []) (ci := 1) d_X_about_80 mk_Co_greatestNumber ll_X_386 im_Co_greatestNumber se_Co_greatestNumber rfl (nle rfl) rfl rfl (nle rfl) q12 (s_Co_greatestNumber (by omega) hw (fun r11 h10 hw => ?_))
      show aW none m_X_about (d + 1) 83 [(0, ar v0), (1, ai v1)] [ai r11] h10 0 0 QQ
      exact r_ireturn d_X_about_83.1 rfl (hQ _ _ hw)
    · refine r_tabIn (off := 83) (tgt := 84) d_X_about_1 (by omega) (by omega) (by rw [o8]; rfl) (by decide) ?_
      replace hw := hw.2.2.2.2.1 o8
      refine r_aload_n (j := 0) d_X_about_84 rfl ?_
      obtain ⟨q13, hw⟩ := hw
      refine r_getR d_X_about_85 ok_11 (nle rfl) (nle rfl) rfl lf_X_46 q13 ?_
      obtain ⟨q14, hw⟩ := hw
      refine r_getI d_X_about_88 ok_0 (nle rfl) (nle rfl) rfl lf_X_389 q14 ?_
      exact r_ireturn d_X_about_91.1 rfl (hQ _ _ hw)
    · refine r_tabIn (off := 91) (tgt := 92) d_X_about_1 (by omega) (by omega) (by rw [o8]; rfl) (by decide) ?_
      replace hw := hw.2.2.2.2.2.1 o8
      refine r_aload_n (j := 0) d_X_about_92 rfl ?_
      obtain ⟨q15, hw⟩ := hw
      refine r_getR d_X_about_93 ok_11 (nle rfl) (nle rfl) rfl lf_X_46 q15 ?_
      obtain ⟨q16, hw⟩ := hw
      refine r_getI d_X_about_96 ok_0 (nle rfl) (nle rfl) rfl lf_X_392 q16 ?_
      exact r_ireturn d_X_about_99.1 rfl (hQ _ _ hw)
    · refine r_tabIn (off := 99) (tgt := 100) d_X_about_1 (by omega) (by omega) (by rw [o8]; rfl) (by decide) ?_
      replace hw := hw.2.2.2.2.2.2.1 o8
      refine r_aload_n (j := 0) d_X_about_100 rfl ?_
      obtain ⟨q17, hw⟩ := hw
      refine r_getR d_X_about_101 ok_11 (nle rfl) (nle rfl) rfl lf_X_99 q17 ?_
      obtain ⟨q18, hw⟩ := hw
      refine r_getI d_X_about_104 ok_5 (nle rfl) (nle rfl) rfl lf_X_395 q18 ?_
      exact r_ireturn d_X_about_107.1 rfl (hQ _ _ hw)
    · refine r_tabIn (off := 107) (tgt := 108) d_X_about_1 (by omega) (by omega) (by rw [o8]; rfl) (by decide) ?_
      replace hw := hw.2.2.2.2.2.2.2.1 o8
      refine r_aload_n (j := 0) d_X_about_108 rfl ?_
      obtain ⟨q19, hw⟩ := hw
      refine r_getR d_X_about_109 ok_11 (nle rfl) (nle rfl) rfl lf_X_99 q19 ?_
      obtain ⟨q20, hw⟩ := hw
      refine r_getI d_X_about_112 ok_5 (nle rfl) (nle rfl) rfl lf_X_362 q20 ?_
      exact r_ireturn d_X_about_115.1 rfl (hQ _ _ hw)
    · refine r_tabIn (off := 115) (tgt := 116) d_X_about_1 (by omega) (by omega) (by rw [o8]; rfl) (by decide) ?_
      replace hw := hw.2.2.2.2.2.2.2.2 o8
      refine r_aload_n (j := 0) d_X_about_116 rfl ?_
      obtain ⟨q21, hw⟩ := hw
      refine r_getR d_X_about_117 ok_11 (nle rfl) (nle rfl) rfl lf_X_10 q21 ?_
      obtain ⟨q22, hw⟩ := hw
      refine r_getI d_X_about_120 ok_10 (nle rfl) (nle rfl) rfl lf_X_107 q22 ?_
      exact r_ireturn d_X_about_123.1 rfl (hQ _ _ hw)
set_option maxRecDepth 100000 in
set_option maxHeartbeats 4000000 in
theorem s_M_begins_L12 {d : Nat} {Q : Hp → Prop} {QQ : Option AV → Hp → Prop} (hQ : ∀ h9, Q h9 → QQ none h9) {v0 : Nat} : ∀ (n : Nat) (v1 : Int32) (h : Hp), w_M_begins_L12 Q  v0 n v1 h → aW none m_M_begins d 12 [(0, ar v0), (1, ai v1)] [] h 0 0 QQ := by
  intro n
  induction n with
  | zero => intro v1 h hw; exact hw.elim
  | succ n ih =>
    intro v1 h hw
    unfold w_M_begins_L12 at hw
    refine r_iload_n (j := 1) d_M_begins_12 rfl ?_
    refine r_bipush d_M_begins_13 kb_44 ?_
    refine r_icmp_ge d_M_begins_15 (fun w9 => ?_) (fun w9 => ?_)
    · replace hw := hw.1 w9
      refine r_aload_n (j := 0) d_M_begins_31 rfl ?_
      obtain ⟨q2, hw⟩ := hw
      refine r_getR d_M_begins_32 ok_12 (nle rfl) (nle rfl) rfl lf_M_20 q2 ?_
      refine r_bipush d_M_begins_35 kb_35 ?_
      refine r_bipush d_M_begins_37 kb_8 ?_
      obtain ⟨q3, hw⟩ := hw
      obtain ⟨q4, hw⟩ := hw
      refine r_iast d_M_begins_39 q3 q4 ?_
      refine r_aload_n (j := 0) d_M_begins_40 rfl ?_
      refine r_iconst d_M_begins_41 kc_0 ?_
      refine r_putZ d_M_begins_42 ok_12 (nle rfl) (nle rfl) rfl lf_M_205 rfl (kt eKI q2) (Or.inl rfl) ?_
      refine r_aload_n (j := 0) d_M_begins_45 rfl ?_
      refine r_iconst d_M_begins_46 kc_0 ?_
      refine r_putZ d_M_begins_47 ok_12 (nle rfl) (nle rfl) rfl lf_M_209 rfl (kt (eKI.trans eKI) q2) (Or.inl rfl) ?_
      refine r_aload_n (j := 0) d_M_begins_50 rfl ?_
      refine r_iconst d_M_begins_51 kc_0 ?_
      refine r_putZ d_M_begins_52 ok_12 (nle rfl) (nle rfl) rfl lf_M_212 rfl (kt (eKI.trans (eKI.trans eKI)) q2) (Or.inl rfl) ?_
      exact r_return d_M_begins_55.1 rfl (hQ _ hw)
    · replace hw := hw.2 w9
      refine r_aload_n (j := 0) d_M_begins_18 rfl ?_
      obtain ⟨q5, hw⟩ := hw
      refine r_getR d_M_begins_19 ok_12 (nle rfl) (nle rfl) rfl lf_M_20 q5 ?_
      refine r_iload_n (j := 1) d_M_begins_22 rfl ?_
      refine r_iconst d_M_begins_23 kc_0 ?_
      obtain ⟨q6, hw⟩ := hw
      obtain ⟨q7, hw⟩ := hw
      refine r_iast d_M_begins_24 q6 q7 ?_
      refine r_iinc (j := 1) (ls2 := [(1, ai (v1 + (1 : Int32))), (0, ar v0)]) d_M_begins_25 rfl (congrArg (HAdd.hAdd v1) kc_1) (nle rfl) rfl ?_
      refine r_goto d_M_begins_28 ?_
      refine r_pick (ls2 := [(0, ar v0), (1, ai (v1 + (1 : Int32)))]) [1, 0] rfl ?_
      exact ih _ _ hw
set_option maxRecDepth 100000 in
set_option maxHeartbeats 4000000 in
theorem s_M_begins {d : Nat} {v0 : Nat} {h : Hp} {Q : Hp → Prop} {QQ : Option AV → Hp → Prop} (hw : w_M_begins v0 h Q) (hQ : ∀ h9, Q h9 → QQ none h9) : aCall m_M_begins d [ar v0] h 0 0 QQ := by
  refine aCall_in pl_M_begins (nle rfl) ?_
  show aW none m_M_begins d 0 [(0, ar v0)] [] h 0 0 QQ
  unfold w_M_begins at hw
  refine r_aload_n (j := 0) d_M_begins_0 rfl ?_
  refine r_iconst d_M_begins_1 kc_1 ?_
  obtain ⟨q1, hw⟩ := hw
  refine r_putI d_M_begins_2 ok_12 (nle rfl) (nle rfl) rfl lf_M_199 rfl q1 ?_
  refine r_aload_n (j := 0) d_M_begins_5 rfl ?_
  refine r_iconst d_M_begins_6 kc_0 ?_
  refine r_putI d_M_begins_7 ok_12 (nle rfl) (nle rfl) rfl lf_M_202 rfl (kt eKI q1) ?_
  refine r_iconst d_M_begins_10 kc_0 ?_
  refine r_istore_n (ls2 := [(1, ai (0 : Int32)), (0, ar v0)]) d_M_begins_11 (nle rfl) rfl ?_
  obtain ⟨n8, hw⟩ := hw
  refine r_pick (ls2 := [(0, ar v0), (1, ai (0 : Int32))]) [1, 0] rfl ?_
  exact s_M_begins_L12 hQ  n8 _ _ hw
set_option maxRecDepth 100000 in
set_option maxHeartbeats 4000000 in
theorem s_M_takesOver_L76 {d : Nat} {Q : Hp → Prop} {QQ : Option AV → Hp → Prop} (hQ : ∀ h9, Q h9 → QQ none h9) {v0 : Nat} : ∀ (n : Nat) (v1 : Int32) (h : Hp), w_M_takesOver_L76 Q  v0 n v1 h → aW none m_M_takesOver d 76 [(0, ar v0), (1, ai v1)] [] h 0 0 QQ := by
  intro n
  induction n with
  | zero => intro v1 h hw; exact hw.elim
  | succ n ih =>
    intro v1 h hw
    unfold w_M_takesOver_L76 at hw
    refine r_iload_n (j := 1) d_M_takesOver_76 rfl ?_
    refine r_iconst d_M_takesOver_77 kc_2 ?_
    refine r_icmp_ge d_M_takesOver_78 (fun w9 => ?_) (fun w9 => ?_)
    · replace hw := hw.1 w9
      exact r_return d_M_takesOver_94.1 rfl (hQ _ hw)
    · replace hw := hw.2 w9
      refine r_aload_n (j := 0) d_M_takesOver_81 rfl ?_
      obtain ⟨q3, hw⟩ := hw
      refine r_getR d_M_takesOver_82 ok_12 (nle rfl) (nle rfl) rfl lf_M_132 q3 ?_
      refine r_iload_n (j := 1) d_M_takesOver_85 rfl ?_
      refine r_iconst d_M_takesOver_86 kc_0 ?_
      obtain ⟨q4, hw⟩ := hw
      obtain ⟨q5, hw⟩ := hw
      refine r_zast d_M_takesOver_87 q4 q5 (Or.inl rfl) ?_
      refine r_iinc (j := 1) (ls2 := [(1, ai (v1 + (1 : Int32))), (0, ar v0)]) d_M_takesOver_88 rfl (congrArg (HAdd.hAdd v1) kc_1) (nle rfl) rfl ?_
      refine r_goto d_M_takesOver_91 ?_
      refine r_pick (ls2 := [(0, ar v0), (1, ai (v1 + (1 : Int32)))]) [1, 0] rfl ?_
      exact ih _ _ hw
set_option maxRecDepth 100000 in
set_option maxHeartbeats 4000000 in
theorem s_M_takesOver_L18 {d : Nat} {Q : Hp → Prop} {QQ : Option AV → Hp → Prop} (hQ : ∀ h9, Q h9 → QQ none h9) {v0 : Nat} : ∀ (n : Nat) (v1 : Int32) (h : Hp), w_M_takesOver_L18 Q  v0 n v1 h → aW none m_M_takesOver d 18 [(0, ar v0), (1, ai v1)] [] h 0 0 QQ := by
  intro n
  induction n with
  | zero => intro v1 h hw; exact hw.elim
  | succ n ih =>
    intro v1 h hw
    unfold w_M_takesOver_L18 at hw
    refine r_iload_n (j := 1) d_M_takesOver_18 rfl ?_
    refine r_bipush d_M_takesOver_19 kb_44 ?_
    refine r_icmp_ge d_M_takesOver_21 (fun w9 => ?_) (fun w9 => ?_)
    · replace hw := hw.1 w9
      refine r_aload_n (j := 0) d_M_takesOver_54 rfl ?_
      refine r_iconst d_M_takesOver_55 kc_0 ?_
      obtain ⟨q2, hw⟩ := hw
      refine r_putI d_M_takesOver_56 ok_12 (nle rfl) (nle rfl) rfl lf_M_250 rfl q2 ?_
      refine r_aload_n (j := 0) d_M_takesOver_59 rfl ?_
      refine r_iconst d_M_takesOver_60 kc_0 ?_
      refine r_putI d_M_takesOver_61 ok_12 (nle rfl) (nle rfl) rfl lf_M_253 rfl (kt eKI q2) ?_
      refine r_aload_n (j := 0) d_M_takesOver_64 rfl ?_
      refine r_iconst d_M_takesOver_65 kc_0 ?_
      refine r_putI d_M_takesOver_66 ok_12 (nle rfl) (nle rfl) rfl lf_M_256 rfl (kt (eKI.trans eKI) q2) ?_
      refine r_aload_n (j := 0) d_M_takesOver_69 rfl ?_
      refine r_iconst d_M_takesOver_70 kc_0 ?_
      refine r_putZ d_M_takesOver_71 ok_12 (nle rfl) (nle rfl) rfl lf_M_259 rfl (kt (eKI.trans (eKI.trans eKI)) q2) (Or.inl rfl) ?_
      refine r_iconst d_M_takesOver_74 kc_0 ?_
      refine r_istore_n (ls2 := [(1, ai (0 : Int32)), (0, ar v0)]) d_M_takesOver_75 (nle rfl) rfl ?_
      obtain ⟨n6, hw⟩ := hw
      refine r_pick (ls2 := [(0, ar v0), (1, ai (0 : Int32))]) [1, 0] rfl ?_
      exact s_M_takesOver_L76 hQ  n6 _ _ hw
    · replace hw := hw.2 w9
      refine r_aload_n (j := 0) d_M_takesOver_24 rfl ?_
      obtain ⟨q7, hw⟩ := hw
      refine r_getR d_M_takesOver_25 ok_12 (nle rfl) (nle rfl) rfl lf_M_23 q7 ?_
      refine r_iload_n (j := 1) d_M_takesOver_28 rfl ?_
      refine r_aload_n (j := 0) d_M_takesOver_29 rfl ?_
      refine r_getR d_M_takesOver_30 ok_12 (nle rfl) (nle rfl) rfl lf_M_20 q7 ?_
      refine r_iload_n (j := 1) d_M_takesOver_33 rfl ?_
      obtain ⟨q8, hw⟩ := hw
      obtain ⟨q9, hw⟩ := hw
      refine r_iald d_M_takesOver_34 q8 q9 ?_
      obtain ⟨q10, hw⟩ := hw
      obtain ⟨q11, hw⟩ := hw
      refine r_iast d_M_takesOver_35 q10 q11 ?_
      refine r_aload_n (j := 0) d_M_takesOver_36 rfl ?_
      refine r_getRb eRI d_M_takesOver_37 ok_12 (nle rfl) (nle rfl) rfl lf_M_30 (kt eKI q7) ?_
      refine r_iload_n (j := 1) d_M_takesOver_40 rfl ?_
      refine r_aload_n (j := 0) d_M_takesOver_41 rfl ?_
      refine r_getRb eRI d_M_takesOver_42 ok_12 (nle rfl) (nle rfl) rfl lf_M_20 (kt eKI q7) ?_
      refine r_iload_n (j := 1) d_M_takesOver_45 rfl ?_
      refine r_iald d_M_takesOver_46 (kt eKI q8) (nt eNI q9) ?_
      obtain ⟨q12, hw⟩ := hw
      obtain ⟨q13, hw⟩ := hw
      refine r_iast d_M_takesOver_47 (kt eKI q12) (nt eNI q13) ?_
      refine r_iinc (j := 1) (ls2 := [(1, ai (v1 + (1 : Int32))), (0, ar v0)]) d_M_takesOver_48 rfl (congrArg (HAdd.hAdd v1) kc_1) (nle rfl) rfl ?_
      refine r_goto d_M_takesOver_51 ?_
      refine r_pick (ls2 := [(0, ar v0), (1, ai (v1 + (1 : Int32)))]) [1, 0] rfl ?_
      exact ih _ _ hw
set_option maxRecDepth 100000 in
set_option maxHeartbeats 4000000 in
theorem s_M_takesOver {d : Nat} {v0 : Nat} {h : Hp} {Q : Hp → Prop} {QQ : Option AV → Hp → Prop} (hw : w_M_takesOver v0 h Q) (hQ : ∀ h9, Q h9 → QQ none h9) : aCall m_M_takesOver d [ar v0] h 0 0 QQ := by
  refine aCall_in pl_M_takesOver (nle rfl) ?_
  show aW none m_M_takesOver d 0 [(0, ar v0)] [] h 0 0 QQ
  unfold w_M_takesOver at hw
  refine r_aload_n (j := 0) d_M_takesOver_0 rfl ?_
  refine r_aload_n (j := 0) d_M_takesOver_1 rfl ?_
  obtain ⟨q1, hw⟩ := hw
  refine r_getI d_M_takesOver_2 ok_12 (nle rfl) (nle rfl) rfl lf_M_199 q1 ?_
  refine r_putI d_M_takesOver_5 ok_12 (nle rfl) (nle rfl) rfl lf_M_244 rfl q1 ?_
  refine r_aload_n (j := 0) d_M_takesOver_8 rfl ?_
  refine r_aload_n (j := 0) d_M_takesOver_9 rfl ?_
  refine r_getI d_M_takesOver_10 ok_12 (nle rfl) (nle rfl) rfl lf_M_202 (kt eKI q1) ?_
  refine r_putI d_M_takesOver_13 ok_12 (nle rfl) (nle rfl) rfl lf_M_247 rfl (kt eKI q1) ?_
  refine r_iconst d_M_takesOver_16 kc_0 ?_
  refine r_istore_n (ls2 := [(1, ai (0 : Int32)), (0, ar v0)]) d_M_takesOver_17 (nle rfl) rfl ?_
  obtain ⟨n14, hw⟩ := hw
  refine r_pick (ls2 := [(0, ar v0), (1, ai (0 : Int32))]) [1, 0] rfl ?_
  exact s_M_takesOver_L18 hQ  n14 _ _ hw
set_option maxRecDepth 100000 in
set_option maxHeartbeats 4000000 in
theorem s_M_init {d : Nat} (hd : 1 ≤ d) {v0 : Nat} {bc bs : Nat} {h : Hp} {Q : Hp → Prop} {QQ : Option AV → Hp → Prop} (hw : w_M_init bc bs v0 h Q) (hQ : ∀ h9, Q h9 → QQ none h9) : aCall m_M_init d [ar v0] h bc bs QQ := by
  obtain ⟨d, rfl⟩ : ∃ d9, d = d9 + 1 := ⟨d - 1, by omega⟩
  refine aCall_in pl_M_init (nle rfl) ?_
  show aW none m_M_init (d + 1) 0 [(0, ar v0)] [] h bc bs QQ
  unfold w_M_init at hw
  refine r_aload_n (j := 0) d_M_init_0 rfl ?_
  obtain ⟨q1, hw⟩ := hw
  refine r_objInit d_M_init_1 ll_M_1 oi_1 oi_2 (nle rfl) q1 ?_
  refine r_aload_n (j := 0) d_M_init_4 rfl ?_
  refine r_sipush d_M_init_5 ks_700 ?_
  obtain ⟨q2, hw⟩ := hw
  obtain ⟨b3, t4, u8, u9, u6, u7, hw⟩ := hw
  subst u8 u9
  refine r_newI d_M_init_8 ac_I u6 rfl u7 (refB_r q2 refB_n) (refL_r q2 refL_n) ?_
  generalize e8 : nw h 20 (ix (700 : Int32)) = h5
  generalize e7 : gX h = a6
  replace hw := hw a6 h5 e7.symm e8.symm
  obtain ⟨q7, hw⟩ := hw
  obtain ⟨q8, hw⟩ := hw
  refine r_putFR d_M_init_10 ok_12 (nle rfl) (nle rfl) rfl lf_M_7 rfl rfl rfl q7 q8 ?_
  refine r_aload_n (j := 0) d_M_init_13 rfl ?_
  refine r_iconst d_M_init_14 kc_m1 ?_
  refine r_putI d_M_init_15 ok_12 (nle rfl) (nle rfl) rfl lf_M_13 rfl (kt eKR q7) ?_
  refine r_aload_n (j := 0) d_M_init_18 rfl ?_
  refine r_iconst d_M_init_19 kc_m1 ?_
  refine r_putI d_M_init_20 ok_12 (nle rfl) (nle rfl) rfl lf_M_17 rfl (kt (eKI.trans eKR) q7) ?_
  refine r_aload_n (j := 0) d_M_init_23 rfl ?_
  refine r_bipush d_M_init_24 kb_44 ?_
  obtain ⟨q9, hw⟩ := hw
  obtain ⟨b10, t11, u8, u9, u6, u7, hw⟩ := hw
  subst u8 u9
  refine r_newI d_M_init_26 ac_I u6 rfl u7 (refB_r (xt (eXI.trans (eXI.trans eXR)) q9) refB_n) (refL_r (xt (eXI.trans (eXI.trans eXR)) q9) refL_n) ?_
  generalize e8 : nw (sI (sI (sR h5 v0 0 a6) v0 8 (-1 : Int32)) v0 10 (-1 : Int32)) 20 (ix (44 : Int32)) = h12
  generalize e7 : gX (sI (sI (sR h5 v0 0 a6) v0 8 (-1 : Int32)) v0 10 (-1 : Int32)) = a13
  replace hw := hw a13 h12 e7.symm e8.symm
  obtain ⟨q14, hw⟩ := hw
  obtain ⟨q15, hw⟩ := hw
  refine r_putFR d_M_init_28 ok_12 (nle rfl) (nle rfl) rfl lf_M_20 rfl rfl rfl q14 q15 ?_
  refine r_aload_n (j := 0) d_M_init_31 rfl ?_
  refine r_bipush d_M_init_32 kb_44 ?_
  obtain ⟨q16, hw⟩ := hw
  obtain ⟨b17, t18, u8, u9, u6, u7, hw⟩ := hw
  subst u8 u9
  refine r_newI d_M_init_34 ac_I u6 rfl u7 (refB_r (xt eXR q16) refB_n) (refL_r (xt eXR q16) refL_n) ?_
  generalize e8 : nw (sR h12 v0 12 a13) 20 (ix (44 : Int32)) = h19
  generalize e7 : gX (sR h12 v0 12 a13) = a20
  replace hw := hw a20 h19 e7.symm e8.symm
  obtain ⟨q21, hw⟩ := hw
  obtain ⟨q22, hw⟩ := hw
  refine r_putFR d_M_init_36 ok_12 (nle rfl) (nle rfl) rfl lf_M_23 rfl rfl rfl q21 q22 ?_
  refine r_aload_n (j := 0) d_M_init_39 rfl ?_
  refine r_bipush d_M_init_40 kb_8 ?_
  obtain ⟨q23, hw⟩ := hw
  obtain ⟨b24, t25, u8, u9, u6, u7, hw⟩ := hw
  subst u8 u9
  refine r_newL d_M_init_42 ac_J u6 rfl u7 (refB_r (xt eXR q23) refB_n) (refL_r (xt eXR q23) refL_n) ?_
  generalize e8 : nw (sR h19 v0 13 a20) 21 (ix (8 : Int32)) = h26
  generalize e7 : gX (sR h19 v0 13 a20) = a27
  replace hw := hw a27 h26 e7.symm e8.symm
  obtain ⟨q28, hw⟩ := hw
  obtain ⟨q29, hw⟩ := hw
  refine r_putFR d_M_init_44 ok_12 (nle rfl) (nle rfl) rfl lf_M_26 rfl rfl rfl q28 q29 ?_
  refine r_aload_n (j := 0) d_M_init_47 rfl ?_
  refine r_bipush d_M_init_48 kb_44 ?_
  obtain ⟨q30, hw⟩ := hw
  obtain ⟨b31, t32, u8, u9, u6, u7, hw⟩ := hw
  subst u8 u9
  refine r_newI d_M_init_50 ac_I u6 rfl u7 (refB_r (xt eXR q30) refB_n) (refL_r (xt eXR q30) refL_n) ?_
  generalize e8 : nw (sR h26 v0 14 a27) 20 (ix (44 : Int32)) = h33
  generalize e7 : gX (sR h26 v0 14 a27) = a34
  replace hw := hw a34 h33 e7.symm e8.symm
  obtain ⟨q35, hw⟩ := hw
  obtain ⟨q36, hw⟩ := hw
  refine r_putFR d_M_init_52 ok_12 (nle rfl) (nle rfl) rfl lf_M_30 rfl rfl rfl q35 q36 ?_
  refine r_aload_n (j := 0) d_M_init_55 rfl ?_
  refine r_sipush d_M_init_56 ks_880 ?_
  obtain ⟨q37, hw⟩ := hw
  obtain ⟨b38, t39, u8, u9, u6, u7, hw⟩ := hw
  subst u8 u9
  refine r_newI d_M_init_59 ac_I u6 rfl u7 (refB_r (xt eXR q37) refB_n) (refL_r (xt eXR q37) refL_n) ?_
  generalize e8 : nw (sR h33 v0 22 a34) 20 (ix (880 : Int32)) = h40
  generalize e7 : gX (sR h33 v0 22 a34) = a41
  replace hw := hw a41 h40 e7.symm e8.symm
  obtain ⟨q42, hw⟩ := hw
  obtain ⟨q43, hw⟩ := hw
  refine r_putFR d_M_init_61 ok_12 (nle rfl) (nle rfl) rfl lf_M_33 rfl rfl rfl q42 q43 ?_
  refine r_aload_n (j := 0) d_M_init_64 rfl ?_
  refine r_bipush d_M_init_65 kb_8 ?_
  obtain ⟨q44, hw⟩ := hw
  obtain ⟨b45, t46, u8, u9, u6, u7, hw⟩ := hw
  subst u8 u9
  refine r_newI d_M_init_67 ac_I u6 rfl u7 (refB_r (xt eXR q44) refB_n) (refL_r (xt eXR q44) refL_n) ?_
  generalize e8 : nw (sR h40 v0 23 a41) 20 (ix (8 : Int32)) = h47
  generalize e7 : gX (sR h40 v0 23 a41) = a48
  replace hw := hw a48 h47 e7.symm e8.symm
  obtain ⟨q49, hw⟩ := hw
  obtain ⟨q50, hw⟩ := hw
  refine r_putFR d_M_init_69 ok_12 (nle rfl) (nle rfl) rfl lf_M_36 rfl rfl rfl q49 q50 ?_
  refine r_aload_n (j := 0) d_M_init_72 rfl ?_
  refine r_bipush d_M_init_73 kb_8 ?_
  obtain ⟨q51, hw⟩ := hw
  obtain ⟨b52, t53, u8, u9, u6, u7, hw⟩ := hw
  subst u8 u9
  refine r_newI d_M_init_75 ac_I u6 rfl u7 (refB_r (xt eXR q51) refB_n) (refL_r (xt eXR q51) refL_n) ?_
  generalize e8 : nw (sR h47 v0 26 a48) 20 (ix (8 : Int32)) = h54
  generalize e7 : gX (sR h47 v0 26 a48) = a55
  replace hw := hw a55 h54 e7.symm e8.symm
  obtain ⟨q56, hw⟩ := hw
  obtain ⟨q57, hw⟩ := hw
  refine r_putFR d_M_init_77 ok_12 (nle rfl) (nle rfl) rfl lf_M_39 rfl rfl rfl q56 q57 ?_
  refine r_aload_n (j := 0) d_M_init_80 rfl ?_
  refine r_sipush d_M_init_81 ks_6561 ?_
  obtain ⟨q58, hw⟩ := hw
  obtain ⟨b59, t60, u8, u9, u6, u7, hw⟩ := hw
  subst u8 u9
  refine r_newI d_M_init_84 ac_I u6 rfl u7 (refB_r (xt eXR q58) refB_n) (refL_r (xt eXR q58) refL_n) ?_
  generalize e8 : nw (sR h54 v0 27 a55) 20 (ix (6561 : Int32)) = h61
  generalize e7 : gX (sR h54 v0 27 a55) = a62
  replace hw := hw a62 h61 e7.symm e8.symm
  obtain ⟨q63, hw⟩ := hw
  obtain ⟨q64, hw⟩ := hw
  refine r_putFR d_M_init_86 ok_12 (nle rfl) (nle rfl) rfl lf_M_42 rfl rfl rfl q63 q64 ?_
  refine r_aload_n (j := 0) d_M_init_89 rfl ?_
  refine r_bipush d_M_init_90 kb_9 ?_
  obtain ⟨q65, hw⟩ := hw
  obtain ⟨b66, t67, u8, u9, u6, u7, hw⟩ := hw
  subst u8 u9
  refine r_newI d_M_init_92 ac_I u6 rfl u7 (refB_r (xt eXR q65) refB_n) (refL_r (xt eXR q65) refL_n) ?_
  generalize e8 : nw (sR h61 v0 30 a62) 20 (ix (9 : Int32)) = h68
  generalize e7 : gX (sR h61 v0 30 a62) = a69
  replace hw := hw a69 h68 e7.symm e8.symm
  obtain ⟨q70, hw⟩ := hw
  obtain ⟨q71, hw⟩ := hw
  refine r_putFR d_M_init_94 ok_12 (nle rfl) (nle rfl) rfl lf_M_45 rfl rfl rfl q70 q71 ?_
  refine r_aload_n (j := 0) d_M_init_97 rfl ?_
  refine r_iconst d_M_init_98 kc_3 ?_
  obtain ⟨q72, hw⟩ := hw
  obtain ⟨b73, t74, u8, u9, u6, u7, hw⟩ := hw
  subst u8 u9
  refine r_newI d_M_init_99 ac_I u6 rfl u7 (refB_r (xt eXR q72) refB_n) (refL_r (xt eXR q72) refL_n) ?_
  generalize e8 : nw (sR h68 v0 31 a69) 20 (ix (3 : Int32)) = h75
  generalize e7 : gX (sR h68 v0 31 a69) = a76
  replace hw := hw a76 h75 e7.symm e8.symm
  obtain ⟨q77, hw⟩ := hw
  obtain ⟨q78, hw⟩ := hw
  refine r_putFR d_M_init_101 ok_12 (nle rfl) (nle rfl) rfl lf_M_48 rfl rfl rfl q77 q78 ?_
  refine r_aload_n (j := 0) d_M_init_104 rfl ?_
  refine r_ldc d_M_init_105 lc_M_51 ?_
  obtain ⟨q79, hw⟩ := hw
  obtain ⟨b80, t81, u8, u9, u6, u7, hw⟩ := hw
  subst u8 u9
  refine r_newI d_M_init_107 ac_I u6 rfl u7 (refB_r (xt eXR q79) refB_n) (refL_r (xt eXR q79) refL_n) ?_
  generalize e8 : nw (sR h75 v0 32 a76) 20 (ix (126000 : Int32)) = h82
  generalize e7 : gX (sR h75 v0 32 a76) = a83
  replace hw := hw a83 h82 e7.symm e8.symm
  obtain ⟨q84, hw⟩ := hw
  obtain ⟨q85, hw⟩ := hw
  refine r_putFR d_M_init_109 ok_12 (nle rfl) (nle rfl) rfl lf_M_52 rfl rfl rfl q84 q85 ?_
  refine r_aload_n (j := 0) d_M_init_112 rfl ?_
  refine r_ldc d_M_init_113 lc_M_51 ?_
  obtain ⟨q86, hw⟩ := hw
  obtain ⟨b87, t88, u8, u9, u6, u7, hw⟩ := hw
  subst u8 u9
  refine r_newI d_M_init_115 ac_I u6 rfl u7 (refB_r (xt eXR q86) refB_n) (refL_r (xt eXR q86) refL_n) ?_
  generalize e8 : nw (sR h82 v0 33 a83) 20 (ix (126000 : Int32)) = h89
  generalize e7 : gX (sR h82 v0 33 a83) = a90
  replace hw := hw a90 h89 e7.symm e8.symm
  obtain ⟨q91, hw⟩ := hw
  obtain ⟨q92, hw⟩ := hw
  refine r_putFR d_M_init_117 ok_12 (nle rfl) (nle rfl) rfl lf_M_55 rfl rfl rfl q91 q92 ?_
  refine r_aload_n (j := 0) d_M_init_120 rfl ?_
  refine r_bipush d_M_init_121 kb_15 ?_
  obtain ⟨q93, hw⟩ := hw
  obtain ⟨b94, t95, u8, u9, u6, u7, hw⟩ := hw
  subst u8 u9
  refine r_newI d_M_init_123 ac_I u6 rfl u7 (refB_r (xt eXR q93) refB_n) (refL_r (xt eXR q93) refL_n) ?_
  generalize e8 : nw (sR h89 v0 34 a90) 20 (ix (15 : Int32)) = h96
  generalize e7 : gX (sR h89 v0 34 a90) = a97
  replace hw := hw a97 h96 e7.symm e8.symm
  obtain ⟨q98, hw⟩ := hw
  obtain ⟨q99, hw⟩ := hw
  refine r_putFR d_M_init_125 ok_12 (nle rfl) (nle rfl) rfl lf_M_58 rfl rfl rfl q98 q99 ?_
  refine r_aload_n (j := 0) d_M_init_128 rfl ?_
  refine r_ldc d_M_init_129 lc_M_61 ?_
  obtain ⟨q100, hw⟩ := hw
  obtain ⟨b101, t102, u8, u9, u6, u7, hw⟩ := hw
  subst u8 u9
  refine r_newI d_M_init_131 ac_I u6 rfl u7 (refB_r (xt eXR q100) refB_n) (refL_r (xt eXR q100) refL_n) ?_
  generalize e8 : nw (sR h96 v0 35 a97) 20 (ix (262144 : Int32)) = h103
  generalize e7 : gX (sR h96 v0 35 a97) = a104
  replace hw := hw a104 h103 e7.symm e8.symm
  obtain ⟨q105, hw⟩ := hw
  obtain ⟨q106, hw⟩ := hw
  refine r_putFR d_M_init_133 ok_12 (nle rfl) (nle rfl) rfl lf_M_62 rfl rfl rfl q105 q106 ?_
  refine r_aload_n (j := 0) d_M_init_136 rfl ?_
  refine r_ldc d_M_init_137 lc_M_51 ?_
  obtain ⟨q107, hw⟩ := hw
  obtain ⟨b108, t109, u8, u9, u6, u7, hw⟩ := hw
  subst u8 u9
  refine r_newL d_M_init_139 ac_J u6 rfl u7 (refB_r (xt eXR q107) refB_n) (refL_r (xt eXR q107) refL_n) ?_
  generalize e8 : nw (sR h103 v0 36 a104) 21 (ix (126000 : Int32)) = h110
  generalize e7 : gX (sR h103 v0 36 a104) = a111
  replace hw := hw a111 h110 e7.symm e8.symm
  obtain ⟨q112, hw⟩ := hw
  obtain ⟨q113, hw⟩ := hw
  refine r_putFR d_M_init_141 ok_12 (nle rfl) (nle rfl) rfl lf_M_65 rfl rfl rfl q112 q113 ?_
  refine r_aload_n (j := 0) d_M_init_144 rfl ?_
  refine r_sipush d_M_init_145 ks_6000 ?_
  obtain ⟨q114, hw⟩ := hw
  obtain ⟨b115, t116, u8, u9, u6, u7, hw⟩ := hw
  subst u8 u9
  refine r_newI d_M_init_148 ac_I u6 rfl u7 (refB_r (xt eXR q114) refB_n) (refL_r (xt eXR q114) refL_n) ?_
  generalize e8 : nw (sR h110 v0 37 a111) 20 (ix (6000 : Int32)) = h117
  generalize e7 : gX (sR h110 v0 37 a111) = a118
  replace hw := hw a118 h117 e7.symm e8.symm
  obtain ⟨q119, hw⟩ := hw
  obtain ⟨q120, hw⟩ := hw
  refine r_putFR d_M_init_150 ok_12 (nle rfl) (nle rfl) rfl lf_M_68 rfl rfl rfl q119 q120 ?_
  refine r_aload_n (j := 0) d_M_init_153 rfl ?_
  refine r_bipush d_M_init_154 kb_6 ?_
  obtain ⟨q121, hw⟩ := hw
  obtain ⟨b122, t123, u8, u9, u6, u7, hw⟩ := hw
  subst u8 u9
  refine r_newI d_M_init_156 ac_I u6 rfl u7 (refB_r (xt eXR q121) refB_n) (refL_r (xt eXR q121) refL_n) ?_
  generalize e8 : nw (sR h117 v0 42 a118) 20 (ix (6 : Int32)) = h124
  generalize e7 : gX (sR h117 v0 42 a118) = a125
  replace hw := hw a125 h124 e7.symm e8.symm
  obtain ⟨q126, hw⟩ := hw
  obtain ⟨q127, hw⟩ := hw
  refine r_putFR d_M_init_158 ok_12 (nle rfl) (nle rfl) rfl lf_M_71 rfl rfl rfl q126 q127 ?_
  refine r_aload_n (j := 0) d_M_init_161 rfl ?_
  refine r_bipush d_M_init_162 kb_15 ?_
  obtain ⟨q128, hw⟩ := hw
  obtain ⟨b129, t130, u8, u9, u6, u7, hw⟩ := hw
  subst u8 u9
  refine r_newL d_M_init_164 ac_J u6 rfl u7 (refB_r (xt eXR q128) refB_n) (refL_r (xt eXR q128) refL_n) ?_
  generalize e8 : nw (sR h124 v0 43 a125) 21 (ix (15 : Int32)) = h131
  generalize e7 : gX (sR h124 v0 43 a125) = a132
  replace hw := hw a132 h131 e7.symm e8.symm
  obtain ⟨q133, hw⟩ := hw
  obtain ⟨q134, hw⟩ := hw
  refine r_putFR d_M_init_166 ok_12 (nle rfl) (nle rfl) rfl lf_M_74 rfl rfl rfl q133 q134 ?_
  refine r_aload_n (j := 0) d_M_init_169 rfl ?_
  refine r_bipush d_M_init_170 kb_8 ?_
  obtain ⟨q135, hw⟩ := hw
  obtain ⟨b136, t137, u8, u9, u6, u7, hw⟩ := hw
  subst u8 u9
  refine r_newL d_M_init_172 ac_J u6 rfl u7 (refB_r (xt eXR q135) refB_n) (refL_r (xt eXR q135) refL_n) ?_
  generalize e8 : nw (sR h131 v0 45 a132) 21 (ix (8 : Int32)) = h138
  generalize e7 : gX (sR h131 v0 45 a132) = a139
  replace hw := hw a139 h138 e7.symm e8.symm
  obtain ⟨q140, hw⟩ := hw
  obtain ⟨q141, hw⟩ := hw
  refine r_putFR d_M_init_174 ok_12 (nle rfl) (nle rfl) rfl lf_M_77 rfl rfl rfl q140 q141 ?_
  refine r_aload_n (j := 0) d_M_init_177 rfl ?_
  refine r_bipush d_M_init_178 kb_8 ?_
  obtain ⟨q142, hw⟩ := hw
  obtain ⟨b143, t144, u8, u9, u6, u7, hw⟩ := hw
  subst u8 u9
  refine r_newL d_M_init_180 ac_J u6 rfl u7 (refB_r (xt eXR q142) refB_n) (refL_r (xt eXR q142) refL_n) ?_
  generalize e8 : nw (sR h138 v0 46 a139) 21 (ix (8 : Int32)) = h145
  generalize e7 : gX (sR h138 v0 46 a139) = a146
  replace hw := hw a146 h145 e7.symm e8.symm
  obtain ⟨q147, hw⟩ := hw
  obtain ⟨q148, hw⟩ := hw
  refine r_putFR d_M_init_182 ok_12 (nle rfl) (nle rfl) rfl lf_M_80 rfl rfl rfl q147 q148 ?_
  refine r_aload_n (j := 0) d_M_init_185 rfl ?_
  refine r_bipush d_M_init_186 kb_8 ?_
  obtain ⟨q149, hw⟩ := hw
  obtain ⟨b150, t151, u8, u9, u6, u7, hw⟩ := hw
  subst u8 u9
  refine r_newL d_M_init_188 ac_J u6 rfl u7 (refB_r (xt eXR q149) refB_n) (refL_r (xt eXR q149) refL_n) ?_
  generalize e8 : nw (sR h145 v0 47 a146) 21 (ix (8 : Int32)) = h152
  generalize e7 : gX (sR h145 v0 47 a146) = a153
  replace hw := hw a153 h152 e7.symm e8.symm
  obtain ⟨q154, hw⟩ := hw
  obtain ⟨q155, hw⟩ := hw
  refine r_putFR d_M_init_190 ok_12 (nle rfl) (nle rfl) rfl lf_M_83 rfl rfl rfl q154 q155 ?_
  refine r_aload_n (j := 0) d_M_init_193 rfl ?_
  refine r_bipush d_M_init_194 kb_8 ?_
  obtain ⟨q156, hw⟩ := hw
  obtain ⟨b157, t158, u8, u9, u6, u7, hw⟩ := hw
  subst u8 u9
  refine r_newL d_M_init_196 ac_J u6 rfl u7 (refB_r (xt eXR q156) refB_n) (refL_r (xt eXR q156) refL_n) ?_
  generalize e8 : nw (sR h152 v0 48 a153) 21 (ix (8 : Int32)) = h159
  generalize e7 : gX (sR h152 v0 48 a153) = a160
  replace hw := hw a160 h159 e7.symm e8.symm
  obtain ⟨q161, hw⟩ := hw
  obtain ⟨q162, hw⟩ := hw
  refine r_putFR d_M_init_198 ok_12 (nle rfl) (nle rfl) rfl lf_M_86 rfl rfl rfl q161 q162 ?_
  refine r_aload_n (j := 0) d_M_init_201 rfl ?_
  refine r_bipush d_M_init_202 kb_8 ?_
  obtain ⟨q163, hw⟩ := hw
  obtain ⟨b164, t165, u8, u9, u6, u7, hw⟩ := hw
  subst u8 u9
  refine r_newI d_M_init_204 ac_I u6 rfl u7 (refB_r (xt eXR q163) refB_n) (refL_r (xt eXR q163) refL_n) ?_
  generalize e8 : nw (sR h159 v0 49 a160) 20 (ix (8 : Int32)) = h166
  generalize e7 : gX (sR h159 v0 49 a160) = a167
  replace hw := hw a167 h166 e7.symm e8.symm
  obtain ⟨q168, hw⟩ := hw
  obtain ⟨q169, hw⟩ := hw
  refine r_putFR d_M_init_206 ok_12 (nle rfl) (nle rfl) rfl lf_M_89 rfl rfl rfl q168 q169 ?_
  refine r_aload_n (j := 0) d_M_init_209 rfl ?_
  refine r_iconst d_M_init_210 kc_3 ?_
  obtain ⟨q170, hw⟩ := hw
  obtain ⟨b171, t172, u8, u9, u6, u7, hw⟩ := hw
  subst u8 u9
  refine r_newI d_M_init_211 ac_I u6 rfl u7 (refB_r (xt eXR q170) refB_n) (refL_r (xt eXR q170) refL_n) ?_
  generalize e8 : nw (sR h166 v0 50 a167) 20 (ix (3 : Int32)) = h173
  generalize e7 : gX (sR h166 v0 50 a167) = a174
  replace hw := hw a174 h173 e7.symm e8.symm
  obtain ⟨q175, hw⟩ := hw
  obtain ⟨q176, hw⟩ := hw
  refine r_putFR d_M_init_213 ok_12 (nle rfl) (nle rfl) rfl lf_M_92 rfl rfl rfl q175 q176 ?_
  refine r_aload_n (j := 0) d_M_init_216 rfl ?_
  refine r_bipush d_M_init_217 kb_8 ?_
  obtain ⟨q177, hw⟩ := hw
  obtain ⟨b178, t179, u8, u9, u6, u7, hw⟩ := hw
  subst u8 u9
  refine r_newI d_M_init_219 ac_I u6 rfl u7 (refB_r (xt eXR q177) refB_n) (refL_r (xt eXR q177) refL_n) ?_
  generalize e8 : nw (sR h173 v0 51 a174) 20 (ix (8 : Int32)) = h180
  generalize e7 : gX (sR h173 v0 51 a174) = a181
  replace hw := hw a181 h180 e7.symm e8.symm
  obtain ⟨q182, hw⟩ := hw
  obtain ⟨q183, hw⟩ := hw
  refine r_putFR d_M_init_221 ok_12 (nle rfl) (nle rfl) rfl lf_M_95 rfl rfl rfl q182 q183 ?_
  refine r_aload_n (j := 0) d_M_init_224 rfl ?_
  refine r_bipush d_M_init_225 kb_8 ?_
  obtain ⟨q184, hw⟩ := hw
  obtain ⟨b185, t186, u8, u9, u6, u7, hw⟩ := hw
  subst u8 u9
  refine r_newI d_M_init_227 ac_I u6 rfl u7 (refB_r (xt eXR q184) refB_n) (refL_r (xt eXR q184) refL_n) ?_
  generalize e8 : nw (sR h180 v0 59 a181) 20 (ix (8 : Int32)) = h187
  generalize e7 : gX (sR h180 v0 59 a181) = a188
  replace hw := hw a188 h187 e7.symm e8.symm
  obtain ⟨q189, hw⟩ := hw
  obtain ⟨q190, hw⟩ := hw
  refine r_putFR d_M_init_229 ok_12 (nle rfl) (nle rfl) rfl lf_M_98 rfl rfl rfl q189 q190 ?_
  refine r_aload_n (j := 0) d_M_init_232 rfl ?_
  refine r_bipush d_M_init_233 kb_8 ?_
  obtain ⟨q191, hw⟩ := hw
  obtain ⟨b192, t193, u8, u9, u6, u7, hw⟩ := hw
  subst u8 u9
  refine r_newI d_M_init_235 ac_I u6 rfl u7 (refB_r (xt eXR q191) refB_n) (refL_r (xt eXR q191) refL_n) ?_
  generalize e8 : nw (sR h187 v0 60 a188) 20 (ix (8 : Int32)) = h194
  generalize e7 : gX (sR h187 v0 60 a188) = a195
  replace hw := hw a195 h194 e7.symm e8.symm
  obtain ⟨q196, hw⟩ := hw
  obtain ⟨q197, hw⟩ := hw
  refine r_putFR d_M_init_237 ok_12 (nle rfl) (nle rfl) rfl lf_M_101 rfl rfl rfl q196 q197 ?_
  refine r_aload_n (j := 0) d_M_init_240 rfl ?_
  refine r_iconst d_M_init_241 kc_3 ?_
  obtain ⟨q198, hw⟩ := hw
  obtain ⟨b199, t200, u8, u9, u6, u7, hw⟩ := hw
  subst u8 u9
  refine r_newI d_M_init_242 ac_I u6 rfl u7 (refB_r (xt eXR q198) refB_n) (refL_r (xt eXR q198) refL_n) ?_
  generalize e8 : nw (sR h194 v0 61 a195) 20 (ix (3 : Int32)) = h201
  generalize e7 : gX (sR h194 v0 61 a195) = a202
  replace hw := hw a202 h201 e7.symm e8.symm
  obtain ⟨q203, hw⟩ := hw
  obtain ⟨q204, hw⟩ := hw
  refine r_putFR d_M_init_244 ok_12 (nle rfl) (nle rfl) rfl lf_M_104 rfl rfl rfl q203 q204 ?_
  refine r_aload_n (j := 0) d_M_init_247 rfl ?_
  refine r_bipush d_M_init_248 kb_20 ?_
  obtain ⟨q205, hw⟩ := hw
  obtain ⟨b206, t207, u8, u9, u6, u7, hw⟩ := hw
  subst u8 u9
  refine r_newI d_M_init_250 ac_I u6 rfl u7 (refB_r (xt eXR q205) refB_n) (refL_r (xt eXR q205) refL_n) ?_
  generalize e8 : nw (sR h201 v0 62 a202) 20 (ix (20 : Int32)) = h208
  generalize e7 : gX (sR h201 v0 62 a202) = a209
  replace hw := hw a209 h208 e7.symm e8.symm
  obtain ⟨q210, hw⟩ := hw
  obtain ⟨q211, hw⟩ := hw
  refine r_putFR d_M_init_252 ok_12 (nle rfl) (nle rfl) rfl lf_M_107 rfl rfl rfl q210 q211 ?_
  refine r_aload_n (j := 0) d_M_init_255 rfl ?_
  refine r_bipush d_M_init_256 kb_60 ?_
  obtain ⟨q212, hw⟩ := hw
  obtain ⟨b213, t214, u8, u9, u6, u7, hw⟩ := hw
  subst u8 u9
  refine r_newI d_M_init_258 ac_I u6 rfl u7 (refB_r (xt eXR q212) refB_n) (refL_r (xt eXR q212) refL_n) ?_
  generalize e8 : nw (sR h208 v0 68 a209) 20 (ix (60 : Int32)) = h215
  generalize e7 : gX (sR h208 v0 68 a209) = a216
  replace hw := hw a216 h215 e7.symm e8.symm
  obtain ⟨q217, hw⟩ := hw
  obtain ⟨q218, hw⟩ := hw
  refine r_putFR d_M_init_260 ok_12 (nle rfl) (nle rfl) rfl lf_M_110 rfl rfl rfl q217 q218 ?_
  refine r_aload_n (j := 0) d_M_init_263 rfl ?_
  refine r_bipush d_M_init_264 kb_20 ?_
  obtain ⟨q219, hw⟩ := hw
  obtain ⟨b220, t221, u8, u9, u6, u7, hw⟩ := hw
  subst u8 u9
  refine r_newI d_M_init_266 ac_I u6 rfl u7 (refB_r (xt eXR q219) refB_n) (refL_r (xt eXR q219) refL_n) ?_
  generalize e8 : nw (sR h215 v0 69 a216) 20 (ix (20 : Int32)) = h222
  generalize e7 : gX (sR h215 v0 69 a216) = a223
  replace hw := hw a223 h222 e7.symm e8.symm
  obtain ⟨q224, hw⟩ := hw
  obtain ⟨q225, hw⟩ := hw
  refine r_putFR d_M_init_268 ok_12 (nle rfl) (nle rfl) rfl lf_M_113 rfl rfl rfl q224 q225 ?_
  refine r_aload_n (j := 0) d_M_init_271 rfl ?_
  refine r_bipush d_M_init_272 kb_20 ?_
  obtain ⟨q226, hw⟩ := hw
  obtain ⟨b227, t228, u8, u9, u6, u7, hw⟩ := hw
  subst u8 u9
  refine r_newI d_M_init_274 ac_I u6 rfl u7 (refB_r (xt eXR q226) refB_n) (refL_r (xt eXR q226) refL_n) ?_
  generalize e8 : nw (sR h222 v0 70 a223) 20 (ix (20 : Int32)) = h229
  generalize e7 : gX (sR h222 v0 70 a223) = a230
  replace hw := hw a230 h229 e7.symm e8.symm
  obtain ⟨q231, hw⟩ := hw
  obtain ⟨q232, hw⟩ := hw
  refine r_putFR d_M_init_276 ok_12 (nle rfl) (nle rfl) rfl lf_M_116 rfl rfl rfl q231 q232 ?_
  refine r_aload_n (j := 0) d_M_init_279 rfl ?_
  refine r_bipush d_M_init_280 kb_20 ?_
  obtain ⟨q233, hw⟩ := hw
  obtain ⟨b234, t235, u8, u9, u6, u7, hw⟩ := hw
  subst u8 u9
  refine r_newI d_M_init_282 ac_I u6 rfl u7 (refB_r (xt eXR q233) refB_n) (refL_r (xt eXR q233) refL_n) ?_
  generalize e8 : nw (sR h229 v0 71 a230) 20 (ix (20 : Int32)) = h236
  generalize e7 : gX (sR h229 v0 71 a230) = a237
  replace hw := hw a237 h236 e7.symm e8.symm
  obtain ⟨q238, hw⟩ := hw
  obtain ⟨q239, hw⟩ := hw
  refine r_putFR d_M_init_284 ok_12 (nle rfl) (nle rfl) rfl lf_M_119 rfl rfl rfl q238 q239 ?_
  refine r_aload_n (j := 0) d_M_init_287 rfl ?_
  refine r_bipush d_M_init_288 kb_9 ?_
  obtain ⟨q240, hw⟩ := hw
  obtain ⟨b241, t242, u8, u9, u6, u7, hw⟩ := hw
  subst u8 u9
  refine r_newZ d_M_init_290 ac_Z u6 rfl u7 (refB_r (xt eXR q240) refB_n) (refL_r (xt eXR q240) refL_n) ?_
  generalize e8 : nw (sR h236 v0 72 a237) 22 (ix (9 : Int32)) = h243
  generalize e7 : gX (sR h236 v0 72 a237) = a244
  replace hw := hw a244 h243 e7.symm e8.symm
  obtain ⟨q245, hw⟩ := hw
  obtain ⟨q246, hw⟩ := hw
  refine r_putFR d_M_init_292 ok_12 (nle rfl) (nle rfl) rfl lf_M_122 rfl rfl rfl q245 q246 ?_
  refine r_aload_n (j := 0) d_M_init_295 rfl ?_
  refine r_sipush d_M_init_296 ks_369 ?_
  obtain ⟨q247, hw⟩ := hw
  obtain ⟨b248, t249, u8, u9, u6, u7, hw⟩ := hw
  subst u8 u9
  refine r_newZ d_M_init_299 ac_Z u6 rfl u7 (refB_r (xt eXR q247) refB_n) (refL_r (xt eXR q247) refL_n) ?_
  generalize e8 : nw (sR h243 v0 75 a244) 22 (ix (369 : Int32)) = h250
  generalize e7 : gX (sR h243 v0 75 a244) = a251
  replace hw := hw a251 h250 e7.symm e8.symm
  obtain ⟨q252, hw⟩ := hw
  obtain ⟨q253, hw⟩ := hw
  refine r_putFR d_M_init_301 ok_12 (nle rfl) (nle rfl) rfl lf_M_126 rfl rfl rfl q252 q253 ?_
  refine r_aload_n (j := 0) d_M_init_304 rfl ?_
  refine r_bipush d_M_init_305 kb_88 ?_
  obtain ⟨q254, hw⟩ := hw
  obtain ⟨b255, t256, u8, u9, u6, u7, hw⟩ := hw
  subst u8 u9
  refine r_newI d_M_init_307 ac_I u6 rfl u7 (refB_r (xt eXR q254) refB_n) (refL_r (xt eXR q254) refL_n) ?_
  generalize e8 : nw (sR h250 v0 76 a251) 20 (ix (88 : Int32)) = h257
  generalize e7 : gX (sR h250 v0 76 a251) = a258
  replace hw := hw a258 h257 e7.symm e8.symm
  obtain ⟨q259, hw⟩ := hw
  obtain ⟨q260, hw⟩ := hw
  refine r_putFR d_M_init_309 ok_12 (nle rfl) (nle rfl) rfl lf_M_129 rfl rfl rfl q259 q260 ?_
  refine r_aload_n (j := 0) d_M_init_312 rfl ?_
  refine r_iconst d_M_init_313 kc_2 ?_
  obtain ⟨q261, hw⟩ := hw
  obtain ⟨b262, t263, u8, u9, u6, u7, hw⟩ := hw
  subst u8 u9
  refine r_newZ d_M_init_314 ac_Z u6 rfl u7 (refB_r (xt eXR q261) refB_n) (refL_r (xt eXR q261) refL_n) ?_
  generalize e8 : nw (sR h257 v0 77 a258) 22 (ix (2 : Int32)) = h264
  generalize e7 : gX (sR h257 v0 77 a258) = a265
  replace hw := hw a265 h264 e7.symm e8.symm
  obtain ⟨q266, hw⟩ := hw
  obtain ⟨q267, hw⟩ := hw
  refine r_putFR d_M_init_316 ok_12 (nle rfl) (nle rfl) rfl lf_M_132 rfl rfl rfl q266 q267 ?_
  refine r_aload_n (j := 0) d_M_init_319 rfl ?_
  refine r_callV (av := []) (rest := []) (ci := 12) d_M_init_320 mk_M_begins ll_M_135 im_M_begins se_M_begins rfl (nle rfl) rfl rfl (nle rfl) (kt eKR q266) (s_M_begins  hw (fun h268 hv => ?_))
  replace hw := hv
  clear hv
  show aW none m_M_init (d + 1) 323 [(0, ar v0)] [] h268 b262 t263 QQ
  refine r_aload_n (j := 0) d_M_init_323 rfl ?_
  obtain ⟨q270, hw⟩ := hw
  refine r_callV (av := []) (rest := []) (ci := 12) d_M_init_324 mk_M_takesOver ll_M_138 im_M_takesOver se_M_takesOver rfl (nle rfl) rfl rfl (nle rfl) q270 (s_M_takesOver  hw (fun h269 hv => ?_))
  replace hw := hv
  clear hv
  show aW none m_M_init (d + 1) 327 [(0, ar v0)] [] h269 b262 t263 QQ
  exact r_return d_M_init_327.1 rfl (hQ _ hw)
set_option maxRecDepth 100000 in
set_option maxHeartbeats 4000000 in
theorem s_M_isIn {d : Nat} {v0 : Int32} {v1 : Int32} {v2 : Int32} {h : Hp} {Q : Bool → Hp → Prop} {QQ : Option AV → Hp → Prop} (hw : w_M_isIn v0 v1 v2 h Q) (hQ : ∀ r9 h9, Q r9 h9 → QQ (some (ai (b2i r9))) h9) : aCall m_M_isIn d [ai v0, ai v1, ai v2] h 0 0 QQ := by
  refine aCall_in pl_M_isIn (nle rfl) ?_
  show aW none m_M_isIn d 0 [(0, ai v0), (1, ai v1), (2, ai v2)] [] h 0 0 QQ
  unfold w_M_isIn at hw
  refine r_iload_n (j := 0) d_M_isIn_0 rfl ?_
  refine r_iload_n (j := 1) d_M_isIn_1 rfl ?_
  refine r_icmp_lt d_M_isIn_2 (fun w9 => ?_) (fun w9 => ?_)
  · replace hw := hw.1 w9
    refine r_iconst d_M_isIn_14 kc_0 ?_
    exact r_zreturn d_M_isIn_15.1 rfl (Or.inl rfl) (hQ _ _ hw)
  · replace hw := hw.2 w9
    refine r_iload_n (j := 0) d_M_isIn_5 rfl ?_
    refine r_iload_n (j := 2) d_M_isIn_6 rfl ?_
    refine r_icmp_gt d_M_isIn_7 (fun w9 => ?_) (fun w9 => ?_)
    · replace hw := hw.1 w9
      refine r_iconst d_M_isIn_14 kc_0 ?_
      exact r_zreturn d_M_isIn_15.1 rfl (Or.inl rfl) (hQ _ _ hw)
    · replace hw := hw.2 w9
      refine r_iconst d_M_isIn_10 kc_1 ?_
      refine r_goto d_M_isIn_11 ?_
      exact r_zreturn d_M_isIn_15.1 rfl (Or.inr rfl) (hQ _ _ hw)
set_option maxRecDepth 100000 in
set_option maxHeartbeats 4000000 in
theorem s_M_greater {d : Nat} {v0 : Int32} {v1 : Int32} {h : Hp} {Q : Int32 → Hp → Prop} {QQ : Option AV → Hp → Prop} (hw : w_M_greater v0 v1 h Q) (hQ : ∀ r9 h9, Q r9 h9 → QQ (some (ai r9)) h9) : aCall m_M_greater d [ai v0, ai v1] h 0 0 QQ := by
  refine aCall_in pl_M_greater (nle rfl) ?_
  show aW none m_M_greater d 0 [(0, ai v0), (1, ai v1)] [] h 0 0 QQ
  unfold w_M_greater at hw
  refine r_iload_n (j := 0) d_M_greater_0 rfl ?_
  refine r_iload_n (j := 1) d_M_greater_1 rfl ?_
  refine r_icmp_le d_M_greater_2 (fun w9 => ?_) (fun w9 => ?_)
  · replace hw := hw.1 w9
    refine r_iload_n (j := 1) d_M_greater_9 rfl ?_
    exact r_ireturn d_M_greater_10.1 rfl (hQ _ _ hw)
  · replace hw := hw.2 w9
    refine r_iload_n (j := 0) d_M_greater_5 rfl ?_
    refine r_goto d_M_greater_6 ?_
    exact r_ireturn d_M_greater_10.1 rfl (hQ _ _ hw)
set_option maxRecDepth 100000 in
set_option maxHeartbeats 4000000 in
theorem s_M_lesser {d : Nat} {v0 : Int32} {v1 : Int32} {h : Hp} {Q : Int32 → Hp → Prop} {QQ : Option AV → Hp → Prop} (hw : w_M_lesser v0 v1 h Q) (hQ : ∀ r9 h9, Q r9 h9 → QQ (some (ai r9)) h9) : aCall m_M_lesser d [ai v0, ai v1] h 0 0 QQ := by
  refine aCall_in pl_M_lesser (nle rfl) ?_
  show aW none m_M_lesser d 0 [(0, ai v0), (1, ai v1)] [] h 0 0 QQ
  unfold w_M_lesser at hw
  refine r_iload_n (j := 0) d_M_lesser_0 rfl ?_
  refine r_iload_n (j := 1) d_M_lesser_1 rfl ?_
  refine r_icmp_ge d_M_lesser_2 (fun w9 => ?_) (fun w9 => ?_)
  · replace hw := hw.1 w9
    refine r_iload_n (j := 1) d_M_lesser_9 rfl ?_
    exact r_ireturn d_M_lesser_10.1 rfl (hQ _ _ hw)
  · replace hw := hw.2 w9
    refine r_iload_n (j := 0) d_M_lesser_5 rfl ?_
    refine r_goto d_M_lesser_6 ?_
    exact r_ireturn d_M_lesser_10.1 rfl (hQ _ _ hw)
set_option maxRecDepth 100000 in
set_option maxHeartbeats 4000000 in
theorem s_M_truth {d : Nat} {v0 : Int32} {h : Hp} {Q : Int32 → Hp → Prop} {QQ : Option AV → Hp → Prop} (hw : w_M_truth v0 h Q) (hQ : ∀ r9 h9, Q r9 h9 → QQ (some (ai r9)) h9) : aCall m_M_truth d [ai v0] h 0 0 QQ := by
  refine aCall_in pl_M_truth (nle rfl) ?_
  show aW none m_M_truth d 0 [(0, ai v0)] [] h 0 0 QQ
  unfold w_M_truth at hw
  refine r_iload_n (j := 0) d_M_truth_0 rfl ?_
  refine r_if_eq d_M_truth_1 (fun w9 => ?_) (fun w9 => ?_)
  · replace hw := hw.1 w9
    refine r_iconst d_M_truth_8 kc_0 ?_
    exact r_ireturn d_M_truth_9.1 rfl (hQ _ _ hw)
  · replace hw := hw.2 w9
    refine r_iconst d_M_truth_4 kc_1 ?_
    refine r_goto d_M_truth_5 ?_
    exact r_ireturn d_M_truth_9.1 rfl (hQ _ _ hw)
set_option maxRecDepth 100000 in
set_option maxHeartbeats 4000000 in
theorem s_M_plus {d : Nat} {v0 : Int32} {h : Hp} {Q : Int32 → Hp → Prop} {QQ : Option AV → Hp → Prop} (hw : w_M_plus v0 h Q) (hQ : ∀ r9 h9, Q r9 h9 → QQ (some (ai r9)) h9) : aCall m_M_plus d [ai v0] h 0 0 QQ := by
  refine aCall_in pl_M_plus (nle rfl) ?_
  show aW none m_M_plus d 0 [(0, ai v0)] [] h 0 0 QQ
  unfold w_M_plus at hw
  refine r_iload_n (j := 0) d_M_plus_0 rfl ?_
  refine r_if_ge d_M_plus_1 (fun w9 => ?_) (fun w9 => ?_)
  · replace hw := hw.1 w9
    refine r_iload_n (j := 0) d_M_plus_9 rfl ?_
    exact r_ireturn d_M_plus_10.1 rfl (hQ _ _ hw)
  · replace hw := hw.2 w9
    refine r_iload_n (j := 0) d_M_plus_4 rfl ?_
    refine r_ineg d_M_plus_5 ?_
    refine r_goto d_M_plus_6 ?_
    exact r_ireturn d_M_plus_10.1 rfl (hQ _ _ hw)
set_option maxRecDepth 100000 in
set_option maxHeartbeats 4000000 in
theorem s_M_four_L3 {d : Nat} {Q : Hp → Prop} {QQ : Option AV → Hp → Prop} (hQ : ∀ h9, Q h9 → QQ none h9) {v0 : Nat} {v1 : Int32} : ∀ (n : Nat) (v2 : Int32) (h : Hp), w_M_four_L3 Q  v0 v1 n v2 h → aW none m_M_four d 3 [(0, ar v0), (1, ai v1), (2, ai v2)] [] h 0 0 QQ := by
  intro n
  induction n with
  | zero => intro v2 h hw; exact hw.elim
  | succ n ih =>
    intro v2 h hw
    unfold w_M_four_L3 at hw
    refine r_iload_n (j := 2) d_M_four_3 rfl ?_
    refine r_if_lt d_M_four_4 (fun w9 => ?_) (fun w9 => ?_)
    · replace hw := hw.1 w9
      exact r_return d_M_four_39.1 rfl (hQ _ hw)
    · replace hw := hw.2 w9
      refine r_aload_n (j := 0) d_M_four_7 rfl ?_
      obtain ⟨q1, hw⟩ := hw
      refine r_getR d_M_four_8 ok_12 (nle rfl) (nle rfl) rfl lf_M_7 q1 ?_
      refine r_aload_n (j := 0) d_M_four_11 rfl ?_
      refine r_getI d_M_four_12 ok_12 (nle rfl) (nle rfl) rfl lf_M_141 q1 ?_
      refine r_iload_n (j := 1) d_M_four_15 rfl ?_
      refine r_iload_n (j := 2) d_M_four_16 rfl ?_
      refine r_ishr d_M_four_17 ?_
      refine r_sipush d_M_four_18 ks_255 ?_
      refine r_iand d_M_four_21 ?_
      obtain ⟨q2, hw⟩ := hw
      obtain ⟨q3, hw⟩ := hw
      refine r_iast d_M_four_22 q2 q3 ?_
      refine r_aload_n (j := 0) d_M_four_23 rfl ?_
      refine r_dup d_M_four_24 rfl ?_
      refine r_getI d_M_four_25 ok_12 (nle rfl) (nle rfl) rfl lf_M_141 (kt eKI q1) ?_
      refine r_iconst d_M_four_28 kc_1 ?_
      refine r_iadd d_M_four_29 ?_
      refine r_putI d_M_four_30 ok_12 (nle rfl) (nle rfl) rfl lf_M_141 rfl (kt eKI q1) ?_
      refine r_iinc (j := 2) (ls2 := [(2, ai (v2 + (-8 : Int32))), (0, ar v0), (1, ai v1)]) d_M_four_33 rfl (congrArg (HAdd.hAdd v2) kc_m8) (nle rfl) rfl ?_
      refine r_goto d_M_four_36 ?_
      refine r_pick (ls2 := [(0, ar v0), (1, ai v1), (2, ai (v2 + (-8 : Int32)))]) [1, 2, 0] rfl ?_
      exact ih _ _ hw
set_option maxRecDepth 100000 in
set_option maxHeartbeats 4000000 in
theorem s_M_four {d : Nat} {v0 : Nat} {v1 : Int32} {h : Hp} {Q : Hp → Prop} {QQ : Option AV → Hp → Prop} (hw : w_M_four v0 v1 h Q) (hQ : ∀ h9, Q h9 → QQ none h9) : aCall m_M_four d [ar v0, ai v1] h 0 0 QQ := by
  refine aCall_in pl_M_four (nle rfl) ?_
  show aW none m_M_four d 0 [(0, ar v0), (1, ai v1)] [] h 0 0 QQ
  unfold w_M_four at hw
  refine r_bipush d_M_four_0 kb_24 ?_
  refine r_istore_n (ls2 := [(2, ai (24 : Int32)), (0, ar v0), (1, ai v1)]) d_M_four_2 (nle rfl) rfl ?_
  obtain ⟨n4, hw⟩ := hw
  refine r_pick (ls2 := [(0, ar v0), (1, ai v1), (2, ai (24 : Int32))]) [1, 2, 0] rfl ?_
  exact s_M_four_L3 hQ  n4 _ _ hw
set_option maxRecDepth 100000 in
set_option maxHeartbeats 4000000 in
theorem s_M_feed {d : Nat} (hd : 1 ≤ d) {v0 : Nat} {v1 : Int32} {v2 : Int32} {v3 : Int32} {v4 : Int32} {v5 : Int32} {h : Hp} {Q : Int32 → Hp → Prop} {QQ : Option AV → Hp → Prop} (hw : w_M_feed v0 v1 v2 v3 v4 v5 h Q) (hQ : ∀ r9 h9, Q r9 h9 → QQ (some (ai r9)) h9) : aCall m_M_feed d [ar v0, ai v1, ai v2, ai v3, ai v4, ai v5] h 0 0 QQ := by
  obtain ⟨d, rfl⟩ : ∃ d9, d = d9 + 1 := ⟨d - 1, by omega⟩
  refine aCall_in pl_M_feed (nle rfl) ?_
  show aW none m_M_feed (d + 1) 0 [(0, ar v0), (1, ai v1), (2, ai v2), (3, ai v3), (4, ai v4), (5, ai v5)] [] h 0 0 QQ
  unfold w_M_feed at hw
  refine r_aload_n (j := 0) d_M_feed_0 rfl ?_
  obtain ⟨q1, hw⟩ := hw
  refine r_getI d_M_feed_1 ok_12 (nle rfl) (nle rfl) rfl lf_M_141 q1 ?_
  refine r_bipush d_M_feed_4 kb_20 ?_
  refine r_iadd d_M_feed_6 ?_
  refine r_sipush d_M_feed_7 ks_700 ?_
  refine r_icmp_le d_M_feed_10 (fun w9 => ?_) (fun w9 => ?_)
  · replace hw := hw.1 w9
    refine r_aload_n (j := 0) d_M_feed_15 rfl ?_
    refine r_iload_n (j := 1) d_M_feed_16 rfl ?_
    refine r_callV (av := [ai v1]) (rest := []) (ci := 12) d_M_feed_17 mk_M_four ll_M_144 im_M_four se_M_four rfl (nle rfl) rfl rfl (nle rfl) q1 (s_M_four  hw (fun h2 hw => ?_))
    show aW none m_M_feed (d + 1) 20 [(0, ar v0), (1, ai v1), (2, ai v2), (3, ai v3), (4, ai v4), (5, ai v5)] [] h2 0 0 QQ
    refine r_aload_n (j := 0) d_M_feed_20 rfl ?_
    refine r_iload_n (j := 2) d_M_feed_21 rfl ?_
    obtain ⟨q4, hw⟩ := hw
    refine r_callV (av := [ai v2]) (rest := []) (ci := 12) d_M_feed_22 mk_M_four ll_M_144 im_M_four se_M_four rfl (nle rfl) rfl rfl (nle rfl) q4 (s_M_four  hw (fun h3 hw => ?_))
    show aW none m_M_feed (d + 1) 25 [(0, ar v0), (1, ai v1), (2, ai v2), (3, ai v3), (4, ai v4), (5, ai v5)] [] h3 0 0 QQ
    refine r_aload_n (j := 0) d_M_feed_25 rfl ?_
    refine r_iload_n (j := 3) d_M_feed_26 rfl ?_
    obtain ⟨q6, hw⟩ := hw
    refine r_callV (av := [ai v3]) (rest := []) (ci := 12) d_M_feed_27 mk_M_four ll_M_144 im_M_four se_M_four rfl (nle rfl) rfl rfl (nle rfl) q6 (s_M_four  hw (fun h5 hw => ?_))
    show aW none m_M_feed (d + 1) 30 [(0, ar v0), (1, ai v1), (2, ai v2), (3, ai v3), (4, ai v4), (5, ai v5)] [] h5 0 0 QQ
    refine r_aload_n (j := 0) d_M_feed_30 rfl ?_
    refine r_iload (j := 4) d_M_feed_31 rfl ?_
    obtain ⟨q8, hw⟩ := hw
    refine r_callV (av := [ai v4]) (rest := []) (ci := 12) d_M_feed_33 mk_M_four ll_M_144 im_M_four se_M_four rfl (nle rfl) rfl rfl (nle rfl) q8 (s_M_four  hw (fun h7 hw => ?_))
    show aW none m_M_feed (d + 1) 36 [(0, ar v0), (1, ai v1), (2, ai v2), (3, ai v3), (4, ai v4), (5, ai v5)] [] h7 0 0 QQ
    refine r_aload_n (j := 0) d_M_feed_36 rfl ?_
    refine r_iload (j := 5) d_M_feed_37 rfl ?_
    obtain ⟨q10, hw⟩ := hw
    refine r_callV (av := [ai v5]) (rest := []) (ci := 12) d_M_feed_39 mk_M_four ll_M_144 im_M_four se_M_four rfl (nle rfl) rfl rfl (nle rfl) q10 (s_M_four  hw (fun h9 hw => ?_))
    show aW none m_M_feed (d + 1) 42 [(0, ar v0), (1, ai v1), (2, ai v2), (3, ai v3), (4, ai v4), (5, ai v5)] [] h9 0 0 QQ
    refine r_aload_n (j := 0) d_M_feed_42 rfl ?_
    obtain ⟨q11, hw⟩ := hw
    refine r_getI d_M_feed_43 ok_12 (nle rfl) (nle rfl) rfl lf_M_141 q11 ?_
    exact r_ireturn d_M_feed_46.1 rfl (hQ _ _ hw)
  · replace hw := hw.2 w9
    refine r_iconst d_M_feed_13 kc_m1 ?_
    exact r_ireturn d_M_feed_14.1 rfl (hQ _ _ hw)
set_option maxRecDepth 100000 in
set_option maxHeartbeats 4000000 in
theorem s_M_end {d : Nat} (hd : 1 ≤ d) {v0 : Nat} {v1 : Int32} {h : Hp} {Q : Int32 → Hp → Prop} {QQ : Option AV → Hp → Prop} (hw : w_M_end v0 v1 h Q) (hQ : ∀ r9 h9, Q r9 h9 → QQ (some (ai r9)) h9) : aCall m_M_end d [ar v0, ai v1] h 0 0 QQ := by
  obtain ⟨d, rfl⟩ : ∃ d9, d = d9 + 1 := ⟨d - 1, by omega⟩
  refine aCall_in pl_M_end (nle rfl) ?_
  show aW none m_M_end (d + 1) 0 [(0, ar v0), (1, ai v1)] [] h 0 0 QQ
  unfold w_M_end at hw
  refine r_iload_n (j := 1) d_M_end_0 rfl ?_
  refine r_iconst d_M_end_1 kc_0 ?_
  refine r_aload_n (j := 0) d_M_end_2 rfl ?_
  obtain ⟨q1, hw⟩ := hw
  refine r_getI d_M_end_3 ok_12 (nle rfl) (nle rfl) rfl lf_M_141 q1 ?_
  refine r_callS (av := [ai v1, ai (0 : Int32), ai (gI h v0 1)]) (rest := []) d_M_end_6 mk_M_isIn ll_M_148 st_M_isIn rfl rfl (nle rfl) (s_M_isIn  hw (fun r3 h2 hw => ?_))
  show aW none m_M_end (d + 1) 9 [(0, ar v0), (1, ai v1)] [ai (b2i r3)] h2 0 0 QQ
  refine r_if_ne d_M_end_9 (fun w9 => ?_) (fun w9 => ?_)
  · replace hw := hw.2 (fun g9 => w9 (b2i_0.mpr g9))
    refine r_aload_n (j := 0) d_M_end_14 rfl ?_
    refine r_iload_n (j := 1) d_M_end_15 rfl ?_
    obtain ⟨q4, hw⟩ := hw
    refine r_putI d_M_end_16 ok_12 (nle rfl) (nle rfl) rfl lf_M_141 rfl q4 ?_
    refine r_iload_n (j := 1) d_M_end_19 rfl ?_
    exact r_ireturn d_M_end_20.1 rfl (hQ _ _ hw)
  · replace hw := hw.1 (b2i_0.mp w9)
    refine r_iconst d_M_end_12 kc_m1 ?_
    exact r_ireturn d_M_end_13.1 rfl (hQ _ _ hw)
set_option maxRecDepth 100000 in
set_option maxHeartbeats 4000000 in
theorem s_M_here {d : Nat} {v0 : Nat} {v1 : Int32} {h : Hp} {Q : Int32 → Hp → Prop} {QQ : Option AV → Hp → Prop} (hw : w_M_here v0 v1 h Q) (hQ : ∀ r9 h9, Q r9 h9 → QQ (some (ai r9)) h9) : aCall m_M_here d [ar v0, ai v1] h 0 0 QQ := by
  refine aCall_in pl_M_here (nle rfl) ?_
  show aW none m_M_here d 0 [(0, ar v0), (1, ai v1)] [] h 0 0 QQ
  unfold w_M_here at hw
  refine r_aload_n (j := 0) d_M_here_0 rfl ?_
  obtain ⟨q1, hw⟩ := hw
  refine r_getI d_M_here_1 ok_12 (nle rfl) (nle rfl) rfl lf_M_152 q1 ?_
  refine r_iload_n (j := 1) d_M_here_4 rfl ?_
  refine r_iadd d_M_here_5 ?_
  refine r_aload_n (j := 0) d_M_here_6 rfl ?_
  refine r_getI d_M_here_7 ok_12 (nle rfl) (nle rfl) rfl lf_M_155 q1 ?_
  refine r_icmp_ge d_M_here_10 (fun w9 => ?_) (fun w9 => ?_)
  · replace hw := hw.1 w9
    refine r_iconst d_M_here_27 kc_m1 ?_
    exact r_ireturn d_M_here_28.1 rfl (hQ _ _ hw)
  · replace hw := hw.2 w9
    refine r_aload_n (j := 0) d_M_here_13 rfl ?_
    refine r_getR d_M_here_14 ok_12 (nle rfl) (nle rfl) rfl lf_M_7 q1 ?_
    refine r_aload_n (j := 0) d_M_here_17 rfl ?_
    refine r_getI d_M_here_18 ok_12 (nle rfl) (nle rfl) rfl lf_M_152 q1 ?_
    refine r_iload_n (j := 1) d_M_here_21 rfl ?_
    refine r_iadd d_M_here_22 ?_
    obtain ⟨q2, hw⟩ := hw
    obtain ⟨q3, hw⟩ := hw
    refine r_iald d_M_here_23 q2 q3 ?_
    refine r_goto d_M_here_24 ?_
    exact r_ireturn d_M_here_28.1 rfl (hQ _ _ hw)
set_option maxRecDepth 100000 in
set_option maxHeartbeats 4000000 in
theorem s_M_isLetter {d : Nat} {v0 : Int32} {h : Hp} {Q : Bool → Hp → Prop} {QQ : Option AV → Hp → Prop} (hw : w_M_isLetter v0 h Q) (hQ : ∀ r9 h9, Q r9 h9 → QQ (some (ai (b2i r9))) h9) : aCall m_M_isLetter d [ai v0] h 0 0 QQ := by
  refine aCall_in pl_M_isLetter (nle rfl) ?_
  show aW none m_M_isLetter d 0 [(0, ai v0)] [] h 0 0 QQ
  unfold w_M_isLetter at hw
  refine r_iload_n (j := 0) d_M_isLetter_0 rfl ?_
  refine r_bipush d_M_isLetter_1 kb_97 ?_
  refine r_icmp_lt d_M_isLetter_3 (fun w9 => ?_) (fun w9 => ?_)
  · replace hw := hw.1 w9
    refine r_iconst d_M_isLetter_16 kc_0 ?_
    exact r_zreturn d_M_isLetter_17.1 rfl (Or.inl rfl) (hQ _ _ hw)
  · replace hw := hw.2 w9
    refine r_iload_n (j := 0) d_M_isLetter_6 rfl ?_
    refine r_bipush d_M_isLetter_7 kb_122 ?_
    refine r_icmp_gt d_M_isLetter_9 (fun w9 => ?_) (fun w9 => ?_)
    · replace hw := hw.1 w9
      refine r_iconst d_M_isLetter_16 kc_0 ?_
      exact r_zreturn d_M_isLetter_17.1 rfl (Or.inl rfl) (hQ _ _ hw)
    · replace hw := hw.2 w9
      refine r_iconst d_M_isLetter_12 kc_1 ?_
      refine r_goto d_M_isLetter_13 ?_
      exact r_zreturn d_M_isLetter_17.1 rfl (Or.inr rfl) (hQ _ _ hw)
set_option maxRecDepth 100000 in
set_option maxHeartbeats 4000000 in
theorem s_M_isDigit {d : Nat} {v0 : Int32} {h : Hp} {Q : Bool → Hp → Prop} {QQ : Option AV → Hp → Prop} (hw : w_M_isDigit v0 h Q) (hQ : ∀ r9 h9, Q r9 h9 → QQ (some (ai (b2i r9))) h9) : aCall m_M_isDigit d [ai v0] h 0 0 QQ := by
  refine aCall_in pl_M_isDigit (nle rfl) ?_
  show aW none m_M_isDigit d 0 [(0, ai v0)] [] h 0 0 QQ
  unfold w_M_isDigit at hw
  refine r_iload_n (j := 0) d_M_isDigit_0 rfl ?_
  refine r_bipush d_M_isDigit_1 kb_48 ?_
  refine r_icmp_lt d_M_isDigit_3 (fun w9 => ?_) (fun w9 => ?_)
  · replace hw := hw.1 w9
    refine r_iconst d_M_isDigit_16 kc_0 ?_
    exact r_zreturn d_M_isDigit_17.1 rfl (Or.inl rfl) (hQ _ _ hw)
  · replace hw := hw.2 w9
    refine r_iload_n (j := 0) d_M_isDigit_6 rfl ?_
    refine r_bipush d_M_isDigit_7 kb_57 ?_
    refine r_icmp_gt d_M_isDigit_9 (fun w9 => ?_) (fun w9 => ?_)
    · replace hw := hw.1 w9
      refine r_iconst d_M_isDigit_16 kc_0 ?_
      exact r_zreturn d_M_isDigit_17.1 rfl (Or.inl rfl) (hQ _ _ hw)
    · replace hw := hw.2 w9
      refine r_iconst d_M_isDigit_12 kc_1 ?_
      refine r_goto d_M_isDigit_13 ?_
      exact r_zreturn d_M_isDigit_17.1 rfl (Or.inr rfl) (hQ _ _ hw)
set_option maxRecDepth 100000 in
set_option maxHeartbeats 4000000 in
theorem s_M_goOn_B248 {d : Nat} (hd : 1 ≤ d + 1) {Q : Hp → Prop} {QQ : Option AV → Hp → Prop} (hQ : ∀ h9, Q h9 → QQ none h9) {v0 : Nat} {s0 : Nat} {s1 : Int32} {h : Hp} (hw : w_M_goOn_B248 Q  v0 s0 s1 h) : aW none m_M_goOn (d + 1) 248 [(0, ar v0)] [ai s1, ar s0] h 0 0 QQ := by
  unfold w_M_goOn_B248 at hw
  obtain ⟨q27, hw⟩ := hw
  refine r_putI d_M_goOn_248 ok_12 (nle rfl) (nle rfl) rfl lf_M_172 rfl q27 ?_
  refine r_iconst d_M_goOn_251 kc_1 ?_
  refine r_istore_n (ls2 := [(1, ai (1 : Int32)), (0, ar v0)]) d_M_goOn_252 (nle rfl) rfl ?_
  refine r_aload_n (j := 1) d_M_goOn_253 rfl ?_
  refine r_dup d_M_goOn_254 rfl ?_
  obtain ⟨q28, hw⟩ := hw
  refine r_getI d_M_goOn_255 ok_12 (nle rfl) (nle rfl) rfl lf_M_152 (kt eKI q28) ?_
  refine r_iload_n (j := 0) d_M_goOn_258 rfl ?_
  refine r_iadd d_M_goOn_259 ?_
  refine r_putI d_M_goOn_260 ok_12 (nle rfl) (nle rfl) rfl lf_M_152 rfl (kt eKI q28) ?_
  exact r_return d_M_goOn_263.1 rfl (hQ _ hw)
set_option maxRecDepth 100000 in
set_option maxHeartbeats 4000000 in
theorem s_M_goOn_B212 {d : Nat} (hd : 1 ≤ d + 1) {Q : Hp → Prop} {QQ : Option AV → Hp → Prop} (hQ : ∀ h9, Q h9 → QQ none h9) {v0 : Nat} {v1 : Int32} {s0 : Nat} {s1 : Int32} {h : Hp} (hw : w_M_goOn_B212 Q  v0 v1 s0 s1 h) : aW none m_M_goOn (d + 1) 212 [(0, ar v0), (1, ai v1)] [ai s1, ar s0] h 0 0 QQ := by
  unfold w_M_goOn_B212 at hw
  obtain ⟨q34, hw⟩ := hw
  refine r_putI d_M_goOn_212 ok_12 (nle rfl) (nle rfl) rfl lf_M_172 rfl q34 ?_
  refine r_goto d_M_goOn_215 ?_
  refine r_aload_n (j := 0) d_M_goOn_253 rfl ?_
  refine r_dup d_M_goOn_254 rfl ?_
  obtain ⟨q35, hw⟩ := hw
  refine r_getI d_M_goOn_255 ok_12 (nle rfl) (nle rfl) rfl lf_M_152 (kt eKI q35) ?_
  refine r_iload_n (j := 1) d_M_goOn_258 rfl ?_
  refine r_iadd d_M_goOn_259 ?_
  refine r_putI d_M_goOn_260 ok_12 (nle rfl) (nle rfl) rfl lf_M_152 rfl (kt eKI q35) ?_
  exact r_return d_M_goOn_263.1 rfl (hQ _ hw)
set_option maxRecDepth 100000 in
set_option maxHeartbeats 4000000 in
theorem s_M_goOn_B207 {d : Nat} (hd : 1 ≤ d + 1) {Q : Hp → Prop} {QQ : Option AV → Hp → Prop} (hQ : ∀ h9, Q h9 → QQ none h9) {v0 : Nat} {v1 : Int32} {s0 : Nat} {h : Hp} (hw : w_M_goOn_B207 Q  v0 v1 s0 h) : aW none m_M_goOn (d + 1) 207 [(0, ar v0), (1, ai v1)] [ar s0] h 0 0 QQ := by
  unfold w_M_goOn_B207 at hw
  refine r_iconst d_M_goOn_207 kc_5 ?_
  refine r_goto d_M_goOn_208 ?_
  exact s_M_goOn_B212 hd hQ  hw
