set_option maxRecDepth 100000 in
set_option maxHeartbeats 4000000 in
theorem s_Ac_init {d : Nat} (hd : 1 ≤ d) {v0 : Nat} {bc bs : Nat} {h : Hp} {Q : Hp → Prop} {QQ : Option AV → Hp → Prop} (hw : w_Ac_init bc bs v0 h Q) (hQ : ∀ h9, Q h9 → QQ none h9) : aCall m_Ac_init d [ar v0] h bc bs QQ := by
  obtain ⟨d, rfl⟩ : ∃ d9, d = d9 + 1 := ⟨d - 1, by omega⟩
  refine aCall_in pl_Ac_init (nle rfl) ?_
  show aW none m_Ac_init (d + 1) 0 [(0, ar v0)] [] h bc bs QQ
  unfold w_Ac_init at hw
  refine r_aload_n (j := 0) d_Ac_init_0 rfl ?_
  obtain ⟨q1, hw⟩ := hw
  refine r_objInit d_Ac_init_1 ll_Ac_3 oi_1 oi_2 (nle rfl) q1 ?_
  refine r_aload_n (j := 0) d_Ac_init_4 rfl ?_
  refine r_bipush d_Ac_init_5 kb_20 ?_
  obtain ⟨q2, hw⟩ := hw
  obtain ⟨b3, t4, u8, u9, u6, u7, hw⟩ := hw
  subst u8 u9
  refine r_newI d_Ac_init_7 ac_I u6 rfl u7 (refB_r q2 refB_n) (refL_r q2 refL_n) ?_
  generalize e8 : nw h 20 (ix (20 : Int32)) = h5
  generalize e7 : gX h = a6
  replace hw := hw a6 h5 e7.symm e8.symm
  obtain ⟨q7, hw⟩ := hw
  obtain ⟨q8, hw⟩ := hw
  refine r_putFR d_Ac_init_9 ok_0 (nle rfl) (nle rfl) rfl lf_Ac_11 rfl rfl rfl q7 q8 ?_
  refine r_aload_n (j := 0) d_Ac_init_12 rfl ?_
  refine r_bipush d_Ac_init_13 kb_20 ?_
  obtain ⟨q9, hw⟩ := hw
  obtain ⟨b10, t11, u8, u9, u6, u7, hw⟩ := hw
  subst u8 u9
  refine r_newI d_Ac_init_15 ac_I u6 rfl u7 (refB_r (xt eXR q9) refB_n) (refL_r (xt eXR q9) refL_n) ?_
  generalize e8 : nw (sR h5 v0 0 a6) 20 (ix (20 : Int32)) = h12
  generalize e7 : gX (sR h5 v0 0 a6) = a13
  replace hw := hw a13 h12 e7.symm e8.symm
  obtain ⟨q14, hw⟩ := hw
  obtain ⟨q15, hw⟩ := hw
  refine r_putFR d_Ac_init_17 ok_0 (nle rfl) (nle rfl) rfl lf_Ac_15 rfl rfl rfl q14 q15 ?_
  refine r_aload_n (j := 0) d_Ac_init_20 rfl ?_
  refine r_bipush d_Ac_init_21 kb_20 ?_
  obtain ⟨q16, hw⟩ := hw
  obtain ⟨b17, t18, u8, u9, u6, u7, hw⟩ := hw
  subst u8 u9
  refine r_newI d_Ac_init_23 ac_I u6 rfl u7 (refB_r (xt eXR q16) refB_n) (refL_r (xt eXR q16) refL_n) ?_
  generalize e8 : nw (sR h12 v0 1 a13) 20 (ix (20 : Int32)) = h19
  generalize e7 : gX (sR h12 v0 1 a13) = a20
  replace hw := hw a20 h19 e7.symm e8.symm
  obtain ⟨q21, hw⟩ := hw
  obtain ⟨q22, hw⟩ := hw
  refine r_putFR d_Ac_init_25 ok_0 (nle rfl) (nle rfl) rfl lf_Ac_18 rfl rfl rfl q21 q22 ?_
  refine r_aload_n (j := 0) d_Ac_init_28 rfl ?_
  refine r_sipush d_Ac_init_29 ks_160 ?_
  obtain ⟨q23, hw⟩ := hw
  obtain ⟨b24, t25, u8, u9, u6, u7, hw⟩ := hw
  subst u8 u9
  refine r_newI d_Ac_init_32 ac_I u6 rfl u7 (refB_r (xt eXR q23) refB_n) (refL_r (xt eXR q23) refL_n) ?_
  generalize e8 : nw (sR h19 v0 2 a20) 20 (ix (160 : Int32)) = h26
  generalize e7 : gX (sR h19 v0 2 a20) = a27
  replace hw := hw a27 h26 e7.symm e8.symm
  obtain ⟨q28, hw⟩ := hw
  obtain ⟨q29, hw⟩ := hw
  refine r_putFR d_Ac_init_34 ok_0 (nle rfl) (nle rfl) rfl lf_Ac_21 rfl rfl rfl q28 q29 ?_
  exact r_return d_Ac_init_37.1 rfl (hQ _ hw)
set_option maxRecDepth 100000 in
set_option maxHeartbeats 4000000 in
theorem s_Ac_forget {d : Nat} {v0 : Nat} {h : Hp} {Q : Hp → Prop} {QQ : Option AV → Hp → Prop} (hw : w_Ac_forget v0 h Q) (hQ : ∀ h9, Q h9 → QQ none h9) : aCall m_Ac_forget d [ar v0] h 0 0 QQ := by
  refine aCall_in pl_Ac_forget (nle rfl) ?_
  show aW none m_Ac_forget d 0 [(0, ar v0)] [] h 0 0 QQ
  unfold w_Ac_forget at hw
  refine r_aload_n (j := 0) d_Ac_forget_0 rfl ?_
  refine r_iconst d_Ac_forget_1 kc_0 ?_
  obtain ⟨q1, hw⟩ := hw
  refine r_putI d_Ac_forget_2 ok_0 (nle rfl) (nle rfl) rfl lf_Ac_24 rfl q1 ?_
  refine r_aload_n (j := 0) d_Ac_forget_5 rfl ?_
  refine r_iconst d_Ac_forget_6 kc_0 ?_
  refine r_putI d_Ac_forget_7 ok_0 (nle rfl) (nle rfl) rfl lf_Ac_28 rfl (kt eKI q1) ?_
  refine r_aload_n (j := 0) d_Ac_forget_10 rfl ?_
  refine r_iconst d_Ac_forget_11 kc_0 ?_
  refine r_putI d_Ac_forget_12 ok_0 (nle rfl) (nle rfl) rfl lf_Ac_31 rfl (kt (eKI.trans eKI) q1) ?_
  exact r_return d_Ac_forget_15.1 rfl (hQ _ hw)
set_option maxRecDepth 100000 in
set_option maxHeartbeats 4000000 in
theorem s_Ac_latest {d : Nat} {v0 : Nat} {h : Hp} {Q : Int32 → Hp → Prop} {QQ : Option AV → Hp → Prop} (hw : w_Ac_latest v0 h Q) (hQ : ∀ r9 h9, Q r9 h9 → QQ (some (ai r9)) h9) : aCall m_Ac_latest d [ar v0] h 0 0 QQ := by
  refine aCall_in pl_Ac_latest (nle rfl) ?_
  show aW none m_Ac_latest d 0 [(0, ar v0)] [] h 0 0 QQ
  unfold w_Ac_latest at hw
  refine r_aload_n (j := 0) d_Ac_latest_0 rfl ?_
  obtain ⟨q1, hw⟩ := hw
  refine r_getI d_Ac_latest_1 ok_0 (nle rfl) (nle rfl) rfl lf_Ac_24 q1 ?_
  refine r_aload_n (j := 0) d_Ac_latest_4 rfl ?_
  refine r_getI d_Ac_latest_5 ok_0 (nle rfl) (nle rfl) rfl lf_Ac_28 q1 ?_
  refine r_iadd d_Ac_latest_8 ?_
  refine r_bipush d_Ac_latest_9 kb_20 ?_
  refine r_iadd d_Ac_latest_11 ?_
  refine r_iconst d_Ac_latest_12 kc_1 ?_
  refine r_isub d_Ac_latest_13 ?_
  refine r_bipush d_Ac_latest_14 kb_20 ?_
  refine r_irem d_Ac_latest_16 (by decide) ?_
  exact r_ireturn d_Ac_latest_17.1 rfl (hQ _ _ hw)
set_option maxRecDepth 100000 in
set_option maxHeartbeats 4000000 in
theorem s_Ac_keep_B40 {d : Nat} (hd : 1 ≤ d + 1) {Q : Hp → Prop} {QQ : Option AV → Hp → Prop} (hQ : ∀ h9, Q h9 → QQ none h9) {v0 : Nat} {v1 : Int32} {v2 : Int32} {v3 : Int32} {h : Hp} (hw : w_Ac_keep_B40 Q  v0 v1 v2 v3 h) : aW none m_Ac_keep (d + 1) 40 [(0, ar v0), (1, ai v1), (2, ai v2), (3, ai v3)] [] h 0 0 QQ := by
  unfold w_Ac_keep_B40 at hw
  refine r_aload_n (j := 0) d_Ac_keep_40 rfl ?_
  obtain ⟨q4, hw⟩ := hw
  refine r_callV (av := []) (rest := []) (ci := 0) d_Ac_keep_41 mk_Ac_latest ll_Ac_34 im_Ac_latest se_Ac_latest rfl (nle rfl) rfl rfl (nle rfl) q4 (s_Ac_latest  hw (fun r3 h2 hw => ?_))
  show aW none m_Ac_keep (d + 1) 44 [(0, ar v0), (1, ai v1), (2, ai v2), (3, ai v3)] [ai r3] h2 0 0 QQ
  refine r_istore (ls2 := [(4, ai r3), (0, ar v0), (1, ai v1), (2, ai v2), (3, ai v3)]) d_Ac_keep_44 (nle rfl) rfl ?_
  refine r_aload_n (j := 1) d_Ac_keep_46 rfl ?_
  obtain ⟨q5, hw⟩ := hw
  refine r_getR d_Ac_keep_47 ok_0 (nle rfl) (nle rfl) rfl lf_Ac_11 q5 ?_
  refine r_iload (j := 0) d_Ac_keep_50 rfl ?_
  refine r_iload_n (j := 2) d_Ac_keep_52 rfl ?_
  obtain ⟨q6, hw⟩ := hw
  obtain ⟨q7, hw⟩ := hw
  refine r_iast d_Ac_keep_53 q6 q7 ?_
  refine r_aload_n (j := 1) d_Ac_keep_54 rfl ?_
  refine r_getRb eRI d_Ac_keep_55 ok_0 (nle rfl) (nle rfl) rfl lf_Ac_15 (kt eKI q5) ?_
  refine r_iload (j := 0) d_Ac_keep_58 rfl ?_
  refine r_iload_n (j := 3) d_Ac_keep_60 rfl ?_
  obtain ⟨q8, hw⟩ := hw
  obtain ⟨q9, hw⟩ := hw
  refine r_iast d_Ac_keep_61 (kt eKI q8) (nt eNI q9) ?_
  refine r_aload_n (j := 1) d_Ac_keep_62 rfl ?_
  refine r_getRb (eRI.trans eRI) d_Ac_keep_63 ok_0 (nle rfl) (nle rfl) rfl lf_Ac_18 (kt (eKI.trans eKI) q5) ?_
  refine r_iload (j := 0) d_Ac_keep_66 rfl ?_
  refine r_iload_n (j := 4) d_Ac_keep_68 rfl ?_
  obtain ⟨q10, hw⟩ := hw
  obtain ⟨q11, hw⟩ := hw
  refine r_iast d_Ac_keep_69 (kt (eKI.trans eKI) q10) (nt (eNI.trans eNI) q11) ?_
  exact r_return d_Ac_keep_70.1 rfl (hQ _ hw)
set_option maxRecDepth 100000 in
set_option maxHeartbeats 4000000 in
theorem s_Ac_keep {d : Nat} (hd : 1 ≤ d) {v0 : Nat} {v1 : Int32} {v2 : Int32} {v3 : Int32} {h : Hp} {Q : Hp → Prop} {QQ : Option AV → Hp → Prop} (hw : w_Ac_keep v0 v1 v2 v3 h Q) (hQ : ∀ h9, Q h9 → QQ none h9) : aCall m_Ac_keep d [ar v0, ai v1, ai v2, ai v3] h 0 0 QQ := by
  obtain ⟨d, rfl⟩ : ∃ d9, d = d9 + 1 := ⟨d - 1, by omega⟩
  refine aCall_in pl_Ac_keep (nle rfl) ?_
  show aW none m_Ac_keep (d + 1) 0 [(0, ar v0), (1, ai v1), (2, ai v2), (3, ai v3)] [] h 0 0 QQ
  unfold w_Ac_keep at hw
  refine r_aload_n (j := 0) d_Ac_keep_0 rfl ?_
  refine r_iconst d_Ac_keep_1 kc_0 ?_
  obtain ⟨q1, hw⟩ := hw
  refine r_putI d_Ac_keep_2 ok_0 (nle rfl) (nle rfl) rfl lf_Ac_31 rfl q1 ?_
  refine r_aload_n (j := 0) d_Ac_keep_5 rfl ?_
  refine r_getI d_Ac_keep_6 ok_0 (nle rfl) (nle rfl) rfl lf_Ac_28 (kt eKI q1) ?_
  refine r_bipush d_Ac_keep_9 kb_20 ?_
  refine r_icmp_ge d_Ac_keep_11 (fun w9 => ?_) (fun w9 => ?_)
  · replace hw := hw.1 w9
    refine r_aload_n (j := 0) d_Ac_keep_27 rfl ?_
    refine r_aload_n (j := 0) d_Ac_keep_28 rfl ?_
    refine r_getI d_Ac_keep_29 ok_0 (nle rfl) (nle rfl) rfl lf_Ac_24 (kt eKI q1) ?_
    refine r_iconst d_Ac_keep_32 kc_1 ?_
    refine r_iadd d_Ac_keep_33 ?_
    refine r_bipush d_Ac_keep_34 kb_20 ?_
    refine r_irem d_Ac_keep_36 (by decide) ?_
    refine r_putI d_Ac_keep_37 ok_0 (nle rfl) (nle rfl) rfl lf_Ac_24 rfl (kt eKI q1) ?_
    exact s_Ac_keep_B40 hd hQ  hw
  · replace hw := hw.2 w9
    refine r_aload_n (j := 0) d_Ac_keep_14 rfl ?_
    refine r_dup d_Ac_keep_15 rfl ?_
    refine r_getI d_Ac_keep_16 ok_0 (nle rfl) (nle rfl) rfl lf_Ac_28 (kt eKI q1) ?_
    refine r_iconst d_Ac_keep_19 kc_1 ?_
    refine r_iadd d_Ac_keep_20 ?_
    refine r_putI d_Ac_keep_21 ok_0 (nle rfl) (nle rfl) rfl lf_Ac_28 rfl (kt eKI q1) ?_
    refine r_goto d_Ac_keep_24 ?_
    exact s_Ac_keep_B40 hd hQ  hw
set_option maxRecDepth 100000 in
set_option maxHeartbeats 4000000 in
theorem s_Ex_times_L10 {d : Nat} {Q : Int32 → Hp → Prop} {QQ : Option AV → Hp → Prop} (hQ : ∀ r9 h9, Q r9 h9 → QQ (some (ai r9)) h9) {v2 : Int32} : ∀ (n : Nat) (v3 : Int32) (v4 : Int32) (h : Hp), w_Ex_times_L10 Q  v2 n v3 v4 h → aW none m_Ex_times d 10 [(2, ai v2), (3, ai v3), (4, ai v4)] [] h 0 0 QQ := by
  intro n
  induction n with
  | zero => intro v3 v4 h hw; exact hw.elim
  | succ n ih =>
    intro v3 v4 h hw
    unfold w_Ex_times_L10 at hw
    refine r_iload (j := 2) d_Ex_times_10 rfl ?_
    refine r_if_le d_Ex_times_12 (fun w9 => ?_) (fun w9 => ?_)
    · replace hw := hw.1 w9
      refine r_iload_n (j := 1) d_Ex_times_38 rfl ?_
      exact r_ireturn d_Ex_times_39.1 rfl (hQ _ _ hw)
    · replace hw := hw.2 w9
      refine r_iload (j := 2) d_Ex_times_15 rfl ?_
      refine r_bipush d_Ex_times_17 kb_15 ?_
      refine r_iand d_Ex_times_19 ?_
      refine r_iload_n (j := 0) d_Ex_times_20 rfl ?_
      refine r_iconst d_Ex_times_21 kc_1 ?_
      refine r_iadd d_Ex_times_22 ?_
      refine r_icmp_ne d_Ex_times_23 (fun w9 => ?_) (fun w9 => ?_)
      · replace hw := hw.2 w9
        refine r_iload (j := 2) d_Ex_times_29 rfl ?_
        refine r_iconst d_Ex_times_31 kc_4 ?_
        refine r_ishr d_Ex_times_32 ?_
        refine r_istore (ls2 := [(4, ai (jshr v4 (4 : Int32))), (2, ai v2), (3, ai v3)]) d_Ex_times_33 (nle rfl) rfl ?_
        refine r_goto d_Ex_times_35 ?_
        refine r_pick (ls2 := [(2, ai v2), (3, ai v3), (4, ai (jshr v4 (4 : Int32)))]) [1, 2, 0] rfl ?_
        exact ih _ _ _ hw
      · replace hw := hw.1 w9
        refine r_iinc (j := 1) (ls2 := [(3, ai (v3 + (1 : Int32))), (2, ai v2), (4, ai v4)]) d_Ex_times_26 rfl (congrArg (HAdd.hAdd v3) kc_1) (nle rfl) rfl ?_
        refine r_iload (j := 2) d_Ex_times_29 rfl ?_
        refine r_iconst d_Ex_times_31 kc_4 ?_
        refine r_ishr d_Ex_times_32 ?_
        refine r_istore (ls2 := [(4, ai (jshr v4 (4 : Int32))), (3, ai (v3 + (1 : Int32))), (2, ai v2)]) d_Ex_times_33 (nle rfl) rfl ?_
        refine r_goto d_Ex_times_35 ?_
        refine r_pick (ls2 := [(2, ai v2), (3, ai (v3 + (1 : Int32))), (4, ai (jshr v4 (4 : Int32)))]) [2, 1, 0] rfl ?_
        exact ih _ _ _ hw
set_option maxRecDepth 100000 in
set_option maxHeartbeats 4000000 in
theorem s_Ex_times {d : Nat} {v0 : Nat} {v1 : Int32} {v2 : Int32} {h : Hp} {Q : Int32 → Hp → Prop} {QQ : Option AV → Hp → Prop} (hw : w_Ex_times v0 v1 v2 h Q) (hQ : ∀ r9 h9, Q r9 h9 → QQ (some (ai r9)) h9) : aCall m_Ex_times d [ar v0, ai v1, ai v2] h 0 0 QQ := by
  refine aCall_in pl_Ex_times (nle rfl) ?_
  show aW none m_Ex_times d 0 [(0, ar v0), (1, ai v1), (2, ai v2)] [] h 0 0 QQ
  unfold w_Ex_times at hw
  refine r_iconst d_Ex_times_0 kc_0 ?_
  refine r_istore_n (ls2 := [(3, ai (0 : Int32)), (0, ar v0), (1, ai v1), (2, ai v2)]) d_Ex_times_1 (nle rfl) rfl ?_
  refine r_aload_n (j := 1) d_Ex_times_2 rfl ?_
  obtain ⟨q1, hw⟩ := hw
  refine r_getR d_Ex_times_3 ok_4 (nle rfl) (nle rfl) rfl lf_Ex_15 q1 ?_
  refine r_iload_n (j := 2) d_Ex_times_6 rfl ?_
  obtain ⟨q2, hw⟩ := hw
  obtain ⟨q3, hw⟩ := hw
  refine r_iald d_Ex_times_7 q2 q3 ?_
  refine r_istore (ls2 := [(4, ai (gI h (gR h v0 2) (ix v1))), (3, ai (0 : Int32)), (0, ar v0), (1, ai v1), (2, ai v2)]) d_Ex_times_8 (nle rfl) rfl ?_
  obtain ⟨n4, hw⟩ := hw
  refine r_pick (ls2 := [(2, ai v2), (3, ai (0 : Int32)), (4, ai (gI h (gR h v0 2) (ix v1)))]) [4, 1, 0] rfl ?_
  exact s_Ex_times_L10 hQ  n4 _ _ _ hw
set_option maxRecDepth 100000 in
set_option maxHeartbeats 4000000 in
theorem s_Ex_shiftOf {d : Nat} (hd : 1 ≤ d) {v0 : Nat} {v1 : Int32} {h : Hp} {Q : Int32 → Hp → Prop} {QQ : Option AV → Hp → Prop} (hw : w_Ex_shiftOf v0 v1 h Q) (hQ : ∀ r9 h9, Q r9 h9 → QQ (some (ai r9)) h9) : aCall m_Ex_shiftOf d [ar v0, ai v1] h 0 0 QQ := by
  obtain ⟨d, rfl⟩ : ∃ d9, d = d9 + 1 := ⟨d - 1, by omega⟩
  refine aCall_in pl_Ex_shiftOf (nle rfl) ?_
  show aW none m_Ex_shiftOf (d + 1) 0 [(0, ar v0), (1, ai v1)] [] h 0 0 QQ
  unfold w_Ex_shiftOf at hw
  refine r_aload_n (j := 0) d_Ex_shiftOf_0 rfl ?_
  refine r_aload_n (j := 0) d_Ex_shiftOf_1 rfl ?_
  obtain ⟨q1, hw⟩ := hw
  refine r_getI d_Ex_shiftOf_2 ok_4 (nle rfl) (nle rfl) rfl lf_Ex_54 q1 ?_
  refine r_iload_n (j := 1) d_Ex_shiftOf_5 rfl ?_
  refine r_callV (av := [ai (gI h v0 12), ai v1]) (rest := []) (ci := 4) d_Ex_shiftOf_6 mk_Ex_times ll_Ex_57 im_Ex_times se_Ex_times rfl (nle rfl) rfl rfl (nle rfl) q1 (s_Ex_times  hw (fun r3 h2 hw => ?_))
  show aW none m_Ex_shiftOf (d + 1) 9 [(0, ar v0), (1, ai v1)] [ai r3] h2 0 0 QQ
  refine r_aload_n (j := 0) d_Ex_shiftOf_9 rfl ?_
  refine r_aload_n (j := 0) d_Ex_shiftOf_10 rfl ?_
  obtain ⟨q4, hw⟩ := hw
  refine r_getI d_Ex_shiftOf_11 ok_4 (nle rfl) (nle rfl) rfl lf_Ex_61 q4 ?_
  refine r_iload_n (j := 1) d_Ex_shiftOf_14 rfl ?_
  refine r_callV (av := [ai (gI h2 v0 11), ai v1]) (rest := [ai r3]) (ci := 4) d_Ex_shiftOf_15 mk_Ex_times ll_Ex_57 im_Ex_times se_Ex_times rfl (nle rfl) rfl rfl (nle rfl) q4 (s_Ex_times  hw (fun r6 h5 hw => ?_))
  show aW none m_Ex_shiftOf (d + 1) 18 [(0, ar v0), (1, ai v1)] [ai r6, ai r3] h5 0 0 QQ
  refine r_isub d_Ex_shiftOf_18 ?_
  exact r_ireturn d_Ex_shiftOf_19.1 rfl (hQ _ _ hw)
set_option maxRecDepth 100000 in
set_option maxHeartbeats 4000000 in
theorem s_Ac_keepShifts_L14 {d : Nat} (hd : 2 ≤ d + 1) {Q : Hp → Prop} {QQ : Option AV → Hp → Prop} (hQ : ∀ h9, Q h9 → QQ none h9) {v0 : Nat} {v1 : Nat} {v2 : Int32} : ∀ (n : Nat) (v3 : Int32) (h : Hp), w_Ac_keepShifts_L14 Q  v0 v1 v2 n v3 h → aW none m_Ac_keepShifts (d + 1) 14 [(0, ar v0), (1, ar v1), (2, ai v2), (3, ai v3)] [] h 0 0 QQ := by
  intro n
  induction n with
  | zero => intro v3 h hw; exact hw.elim
  | succ n ih =>
    intro v3 h hw
    unfold w_Ac_keepShifts_L14 at hw
    refine r_iload_n (j := 3) d_Ac_keepShifts_14 rfl ?_
    refine r_bipush d_Ac_keepShifts_15 kb_8 ?_
    refine r_icmp_ge d_Ac_keepShifts_17 (fun w9 => ?_) (fun w9 => ?_)
    · replace hw := hw.1 w9
      exact r_return d_Ac_keepShifts_42.1 rfl (hQ _ hw)
    · replace hw := hw.2 w9
      refine r_aload_n (j := 0) d_Ac_keepShifts_20 rfl ?_
      obtain ⟨q6, hw⟩ := hw
      refine r_getR d_Ac_keepShifts_21 ok_0 (nle rfl) (nle rfl) rfl lf_Ac_21 q6 ?_
      refine r_iload_n (j := 2) d_Ac_keepShifts_24 rfl ?_
      refine r_bipush d_Ac_keepShifts_25 kb_8 ?_
      refine r_imul d_Ac_keepShifts_27 ?_
      refine r_iload_n (j := 3) d_Ac_keepShifts_28 rfl ?_
      refine r_iadd d_Ac_keepShifts_29 ?_
      refine r_aload_n (j := 1) d_Ac_keepShifts_30 rfl ?_
      refine r_iload_n (j := 3) d_Ac_keepShifts_31 rfl ?_
      obtain ⟨q9, hw⟩ := hw
      refine r_callV (av := [ai v3]) (rest := [ai ((v2 * (8 : Int32)) + v3), ar (gR h v0 3)]) (ci := 4) d_Ac_keepShifts_32 mk_Ex_shiftOf ll_Ac_42 im_Ex_shiftOf se_Ex_shiftOf rfl (nle rfl) rfl rfl (nle rfl) q9 (s_Ex_shiftOf (by omega) hw (fun r8 h7 hw => ?_))
      show aW none m_Ac_keepShifts (d + 1) 35 [(0, ar v0), (1, ar v1), (2, ai v2), (3, ai v3)] [ai r8, ai ((v2 * (8 : Int32)) + v3), ar (gR h v0 3)] h7 0 0 QQ
      obtain ⟨q10, hw⟩ := hw
      obtain ⟨q11, hw⟩ := hw
      refine r_iast d_Ac_keepShifts_35 q10 q11 ?_
      refine r_iinc (j := 3) (ls2 := [(3, ai (v3 + (1 : Int32))), (0, ar v0), (1, ar v1), (2, ai v2)]) d_Ac_keepShifts_36 rfl (congrArg (HAdd.hAdd v3) kc_1) (nle rfl) rfl ?_
      refine r_goto d_Ac_keepShifts_39 ?_
      refine r_pick (ls2 := [(0, ar v0), (1, ar v1), (2, ai v2), (3, ai (v3 + (1 : Int32)))]) [1, 2, 3, 0] rfl ?_
      exact ih _ _ hw
set_option maxRecDepth 100000 in
set_option maxHeartbeats 4000000 in
theorem s_Ac_keepShifts {d : Nat} (hd : 2 ≤ d) {v0 : Nat} {v1 : Nat} {h : Hp} {Q : Hp → Prop} {QQ : Option AV → Hp → Prop} (hw : w_Ac_keepShifts v0 v1 h Q) (hQ : ∀ h9, Q h9 → QQ none h9) : aCall m_Ac_keepShifts d [ar v0, ar v1] h 0 0 QQ := by
  obtain ⟨d, rfl⟩ : ∃ d9, d = d9 + 1 := ⟨d - 1, by omega⟩
  refine aCall_in pl_Ac_keepShifts (nle rfl) ?_
  show aW none m_Ac_keepShifts (d + 1) 0 [(0, ar v0), (1, ar v1)] [] h 0 0 QQ
  unfold w_Ac_keepShifts at hw
  refine r_aload_n (j := 0) d_Ac_keepShifts_0 rfl ?_
  refine r_iconst d_Ac_keepShifts_1 kc_m1 ?_
  refine r_iconst d_Ac_keepShifts_2 kc_0 ?_
  refine r_iconst d_Ac_keepShifts_3 kc_0 ?_
  obtain ⟨q2, hw⟩ := hw
  refine r_callV (av := [ai (-1 : Int32), ai (0 : Int32), ai (0 : Int32)]) (rest := []) (ci := 0) d_Ac_keepShifts_4 mk_Ac_keep ll_Ac_38 im_Ac_keep se_Ac_keep rfl (nle rfl) rfl rfl (nle rfl) q2 (s_Ac_keep (by omega) hw (fun h1 hw => ?_))
  show aW none m_Ac_keepShifts (d + 1) 7 [(0, ar v0), (1, ar v1)] [] h1 0 0 QQ
  refine r_aload_n (j := 0) d_Ac_keepShifts_7 rfl ?_
  obtain ⟨q5, hw⟩ := hw
  refine r_callV (av := []) (rest := []) (ci := 0) d_Ac_keepShifts_8 mk_Ac_latest ll_Ac_34 im_Ac_latest se_Ac_latest rfl (nle rfl) rfl rfl (nle rfl) q5 (s_Ac_latest  hw (fun r4 h3 hw => ?_))
  show aW none m_Ac_keepShifts (d + 1) 11 [(0, ar v0), (1, ar v1)] [ai r4] h3 0 0 QQ
  refine r_istore_n (ls2 := [(2, ai r4), (0, ar v0), (1, ar v1)]) d_Ac_keepShifts_11 (nle rfl) rfl ?_
  refine r_iconst d_Ac_keepShifts_12 kc_0 ?_
  refine r_istore_n (ls2 := [(3, ai (0 : Int32)), (2, ai r4), (0, ar v0), (1, ar v1)]) d_Ac_keepShifts_13 (nle rfl) rfl ?_
  obtain ⟨n12, hw⟩ := hw
  refine r_pick (ls2 := [(0, ar v0), (1, ar v1), (2, ai r4), (3, ai (0 : Int32))]) [2, 3, 1, 0] rfl ?_
  exact s_Ac_keepShifts_L14 hd hQ  n12 _ _ hw
set_option maxRecDepth 100000 in
set_option maxHeartbeats 4000000 in
theorem s_Co_get {d : Nat} {v0 : Nat} {v1 : Int32} {h : Hp} {Q : Int32 → Hp → Prop} {QQ : Option AV → Hp → Prop} (hw : w_Co_get v0 v1 h Q) (hQ : ∀ r9 h9, Q r9 h9 → QQ (some (ai r9)) h9) : aCall m_Co_get d [ar v0, ai v1] h 0 0 QQ := by
  refine aCall_in pl_Co_get (nle rfl) ?_
  show aW none m_Co_get d 0 [(0, ar v0), (1, ai v1)] [] h 0 0 QQ
  unfold w_Co_get at hw
  refine r_iload_n (j := 1) d_Co_get_0 rfl ?_
  refine r_if_lt d_Co_get_1 (fun w9 => ?_) (fun w9 => ?_)
  · replace hw := hw.1 w9
    refine r_iconst d_Co_get_19 kc_0 ?_
    exact r_ireturn d_Co_get_20.1 rfl (hQ _ _ hw)
  · replace hw := hw.2 w9
    refine r_iload_n (j := 1) d_Co_get_4 rfl ?_
    refine r_bipush d_Co_get_5 kb_44 ?_
    refine r_icmp_ge d_Co_get_7 (fun w9 => ?_) (fun w9 => ?_)
    · replace hw := hw.1 w9
      refine r_iconst d_Co_get_19 kc_0 ?_
      exact r_ireturn d_Co_get_20.1 rfl (hQ _ _ hw)
    · replace hw := hw.2 w9
      refine r_aload_n (j := 0) d_Co_get_10 rfl ?_
      obtain ⟨q1, hw⟩ := hw
      refine r_getR d_Co_get_11 ok_1 (nle rfl) (nle rfl) rfl lf_Co_11 q1 ?_
      refine r_iload_n (j := 1) d_Co_get_14 rfl ?_
      obtain ⟨q2, hw⟩ := hw
      obtain ⟨q3, hw⟩ := hw
      refine r_iald d_Co_get_15 q2 q3 ?_
      refine r_goto d_Co_get_16 ?_
      exact r_ireturn d_Co_get_20.1 rfl (hQ _ _ hw)
set_option maxRecDepth 100000 in
set_option maxHeartbeats 4000000 in
theorem s_Co_put {d : Nat} {v0 : Nat} {v1 : Int32} {v2 : Int32} {h : Hp} {Q : Hp → Prop} {QQ : Option AV → Hp → Prop} (hw : w_Co_put v0 v1 v2 h Q) (hQ : ∀ h9, Q h9 → QQ none h9) : aCall m_Co_put d [ar v0, ai v1, ai v2] h 0 0 QQ := by
  refine aCall_in pl_Co_put (nle rfl) ?_
  show aW none m_Co_put d 0 [(0, ar v0), (1, ai v1), (2, ai v2)] [] h 0 0 QQ
  unfold w_Co_put at hw
  refine r_iload_n (j := 1) d_Co_put_0 rfl ?_
  refine r_if_lt d_Co_put_1 (fun w9 => ?_) (fun w9 => ?_)
  · replace hw := hw.1 w9
    exact r_return d_Co_put_27.1 rfl (hQ _ hw)
  · replace hw := hw.2 w9
    refine r_iload_n (j := 1) d_Co_put_4 rfl ?_
    refine r_bipush d_Co_put_5 kb_44 ?_
    refine r_icmp_ge d_Co_put_7 (fun w9 => ?_) (fun w9 => ?_)
    · replace hw := hw.1 w9
      exact r_return d_Co_put_27.1 rfl (hQ _ hw)
    · replace hw := hw.2 w9
      refine r_aload_n (j := 0) d_Co_put_10 rfl ?_
      obtain ⟨q1, hw⟩ := hw
      refine r_getR d_Co_put_11 ok_1 (nle rfl) (nle rfl) rfl lf_Co_11 q1 ?_
      refine r_iload_n (j := 1) d_Co_put_14 rfl ?_
      refine r_iload_n (j := 2) d_Co_put_15 rfl ?_
      obtain ⟨q2, hw⟩ := hw
      obtain ⟨q3, hw⟩ := hw
      refine r_iast d_Co_put_16 q2 q3 ?_
      refine r_aload_n (j := 0) d_Co_put_17 rfl ?_
      refine r_dup d_Co_put_18 rfl ?_
      refine r_getI d_Co_put_19 ok_1 (nle rfl) (nle rfl) rfl lf_Co_28 (kt eKI q1) ?_
      refine r_iconst d_Co_put_22 kc_1 ?_
      refine r_iadd d_Co_put_23 ?_
      refine r_putI d_Co_put_24 ok_1 (nle rfl) (nle rfl) rfl lf_Co_28 rfl (kt eKI q1) ?_
      exact r_return d_Co_put_27.1 rfl (hQ _ hw)
set_option maxRecDepth 100000 in
set_option maxHeartbeats 4000000 in
theorem s_Ac_apply_L43 {d : Nat} (hd : 1 ≤ d + 1) {Q : Hp → Prop} {QQ : Option AV → Hp → Prop} (hQ : ∀ h9, Q h9 → QQ none h9) {v0 : Nat} {v1 : Nat} {v2 : Int32} {v3 : Int32} : ∀ (n : Nat) (v4 : Int32) (h : Hp), w_Ac_apply_L43 Q  v0 v1 v2 v3 n v4 h → aW none m_Ac_apply (d + 1) 43 [(0, ar v0), (1, ar v1), (2, ai v2), (3, ai v3), (4, ai v4)] [] h 0 0 QQ := by
  intro n
  induction n with
  | zero => intro v4 h hw; exact hw.elim
  | succ n ih =>
    intro v4 h hw
    unfold w_Ac_apply_L43 at hw
    refine r_iload (j := 4) d_Ac_apply_43 rfl ?_
    refine r_aload_n (j := 1) d_Ac_apply_45 rfl ?_
    obtain ⟨q4, hw⟩ := hw
    refine r_getI d_Ac_apply_46 ok_1 (nle rfl) (nle rfl) rfl lf_Ac_54 q4 ?_
    refine r_icmp_ge d_Ac_apply_49 (fun w9 => ?_) (fun w9 => ?_)
    · replace hw := hw.1 w9
      exact r_return d_Ac_apply_92.1 rfl (hQ _ hw)
    · replace hw := hw.2 w9
      refine r_bipush d_Ac_apply_52 kb_36 ?_
      refine r_iload (j := 4) d_Ac_apply_54 rfl ?_
      refine r_iadd d_Ac_apply_56 ?_
      refine r_istore (ls2 := [(5, ai ((36 : Int32) + v4)), (0, ar v0), (1, ar v1), (2, ai v2), (3, ai v3), (4, ai v4)]) d_Ac_apply_57 (nle rfl) rfl ?_
      refine r_aload_n (j := 2) d_Ac_apply_59 rfl ?_
      refine r_iload (j := 0) d_Ac_apply_60 rfl ?_
      refine r_aload_n (j := 2) d_Ac_apply_62 rfl ?_
      refine r_iload (j := 0) d_Ac_apply_63 rfl ?_
      refine r_callV (av := [ai ((36 : Int32) + v4)]) (rest := [ai ((36 : Int32) + v4), ar v1]) (ci := 1) d_Ac_apply_65 mk_Co_get ll_Ac_57 im_Co_get se_Co_get rfl (nle rfl) rfl rfl (nle rfl) q4 (s_Co_get  hw (fun r6 h5 hw => ?_))
      show aW none m_Ac_apply (d + 1) 68 [(5, ai ((36 : Int32) + v4)), (0, ar v0), (1, ar v1), (2, ai v2), (3, ai v3), (4, ai v4)] [ai r6, ai ((36 : Int32) + v4), ar v1] h5 0 0 QQ
      refine r_iload_n (j := 4) d_Ac_apply_68 rfl ?_
      refine r_aload_n (j := 1) d_Ac_apply_69 rfl ?_
      obtain ⟨q7, hw⟩ := hw
      refine r_getR d_Ac_apply_70 ok_0 (nle rfl) (nle rfl) rfl lf_Ac_21 q7 ?_
      refine r_iload_n (j := 3) d_Ac_apply_73 rfl ?_
      refine r_bipush d_Ac_apply_74 kb_8 ?_
      refine r_imul d_Ac_apply_76 ?_
      refine r_iload (j := 5) d_Ac_apply_77 rfl ?_
      refine r_iadd d_Ac_apply_79 ?_
      obtain ⟨q8, hw⟩ := hw
      obtain ⟨q9, hw⟩ := hw
      refine r_iald d_Ac_apply_80 q8 q9 ?_
      refine r_imul d_Ac_apply_81 ?_
      refine r_iadd d_Ac_apply_82 ?_
      obtain ⟨q11, hw⟩ := hw
      refine r_callV (av := [ai ((36 : Int32) + v4), ai (r6 + (v3 * (gI h5 (gR h5 v0 3) (ix ((v2 * (8 : Int32)) + v4)))))]) (rest := []) (ci := 1) d_Ac_apply_83 mk_Co_put ll_Ac_48 im_Co_put se_Co_put rfl (nle rfl) rfl rfl (nle rfl) q11 (s_Co_put  hw (fun h10 hw => ?_))
      show aW none m_Ac_apply (d + 1) 86 [(5, ai ((36 : Int32) + v4)), (0, ar v0), (1, ar v1), (2, ai v2), (3, ai v3), (4, ai v4)] [] h10 0 0 QQ
      refine r_iinc (j := 5) (ls2 := [(4, ai (v4 + (1 : Int32))), (5, ai ((36 : Int32) + v4)), (0, ar v0), (1, ar v1), (2, ai v2), (3, ai v3)]) d_Ac_apply_86 rfl (congrArg (HAdd.hAdd v4) kc_1) (nle rfl) rfl ?_
      refine r_goto d_Ac_apply_89 ?_
      refine r_pick (ls2 := [(0, ar v0), (1, ar v1), (2, ai v2), (3, ai v3), (4, ai (v4 + (1 : Int32)))]) [2, 3, 4, 5, 0] rfl ?_
      exact ih _ _ hw
set_option maxRecDepth 100000 in
set_option maxHeartbeats 4000000 in
theorem s_Ac_apply_B36 {d : Nat} (hd : 1 ≤ d + 1) {Q : Hp → Prop} {QQ : Option AV → Hp → Prop} (hQ : ∀ h9, Q h9 → QQ none h9) {s0 : Nat} {s1 : Int32} {s2 : Int32} {h : Hp} (hw : w_Ac_apply_B36 Q  s0 s1 s2 h) : aW none m_Ac_apply (d + 1) 36 [] [ai s2, ai s1, ar s0] h 0 0 QQ := by
  unfold w_Ac_apply_B36 at hw
  obtain ⟨q16, hw⟩ := hw
  refine r_callV (av := [ai s1, ai s2]) (rest := []) (ci := 1) d_Ac_apply_36 mk_Co_put ll_Ac_48 im_Co_put se_Co_put rfl (nle rfl) rfl rfl (nle rfl) q16 (s_Co_put  hw (fun h15 hw => ?_))
  show aW none m_Ac_apply (d + 1) 39 [] [] h15 0 0 QQ
  exact r_return d_Ac_apply_39.1 rfl (hQ _ hw)
set_option maxRecDepth 100000 in
set_option maxHeartbeats 4000000 in
theorem s_Ac_apply {d : Nat} (hd : 1 ≤ d) {v0 : Nat} {v1 : Nat} {v2 : Int32} {v3 : Int32} {h : Hp} {Q : Hp → Prop} {QQ : Option AV → Hp → Prop} (hw : w_Ac_apply v0 v1 v2 v3 h Q) (hQ : ∀ h9, Q h9 → QQ none h9) : aCall m_Ac_apply d [ar v0, ar v1, ai v2, ai v3] h 0 0 QQ := by
  obtain ⟨d, rfl⟩ : ∃ d9, d = d9 + 1 := ⟨d - 1, by omega⟩
  refine aCall_in pl_Ac_apply (nle rfl) ?_
  show aW none m_Ac_apply (d + 1) 0 [(0, ar v0), (1, ar v1), (2, ai v2), (3, ai v3)] [] h 0 0 QQ
  unfold w_Ac_apply at hw
  refine r_aload_n (j := 0) d_Ac_apply_0 rfl ?_
  obtain ⟨q1, hw⟩ := hw
  refine r_getR d_Ac_apply_1 ok_0 (nle rfl) (nle rfl) rfl lf_Ac_11 q1 ?_
  refine r_iload_n (j := 2) d_Ac_apply_4 rfl ?_
  obtain ⟨q2, hw⟩ := hw
  obtain ⟨q3, hw⟩ := hw
  refine r_iald d_Ac_apply_5 q2 q3 ?_
  refine r_iconst d_Ac_apply_6 kc_m1 ?_
  refine r_icmp_eq d_Ac_apply_7 (fun w9 => ?_) (fun w9 => ?_)
  · replace hw := hw.1 w9
    refine r_iconst d_Ac_apply_40 kc_0 ?_
    refine r_istore (ls2 := [(4, ai (0 : Int32)), (0, ar v0), (1, ar v1), (2, ai v2), (3, ai v3)]) d_Ac_apply_41 (nle rfl) rfl ?_
    obtain ⟨n12, hw⟩ := hw
    refine r_pick (ls2 := [(0, ar v0), (1, ar v1), (2, ai v2), (3, ai v3), (4, ai (0 : Int32))]) [1, 2, 3, 4, 0] rfl ?_
    exact s_Ac_apply_L43 hd hQ  n12 _ _ hw
  · replace hw := hw.2 w9
    refine r_aload_n (j := 1) d_Ac_apply_10 rfl ?_
    refine r_aload_n (j := 0) d_Ac_apply_11 rfl ?_
    refine r_getR d_Ac_apply_12 ok_0 (nle rfl) (nle rfl) rfl lf_Ac_11 q1 ?_
    refine r_iload_n (j := 2) d_Ac_apply_15 rfl ?_
    refine r_iald d_Ac_apply_16 q2 q3 ?_
    refine r_iload_n (j := 3) d_Ac_apply_17 rfl ?_
    refine r_if_le d_Ac_apply_18 (fun w9 => ?_) (fun w9 => ?_)
    · replace hw := hw.1 w9
      refine r_aload_n (j := 0) d_Ac_apply_30 rfl ?_
      refine r_getR d_Ac_apply_31 ok_0 (nle rfl) (nle rfl) rfl lf_Ac_15 q1 ?_
      refine r_iload_n (j := 2) d_Ac_apply_34 rfl ?_
      obtain ⟨q13, hw⟩ := hw
      obtain ⟨q14, hw⟩ := hw
      refine r_iald d_Ac_apply_35 q13 q14 ?_
      refine r_pick (ls2 := []) [] rfl ?_
      exact s_Ac_apply_B36 hd hQ  hw
    · replace hw := hw.2 w9
      refine r_aload_n (j := 0) d_Ac_apply_21 rfl ?_
      refine r_getR d_Ac_apply_22 ok_0 (nle rfl) (nle rfl) rfl lf_Ac_18 q1 ?_
      refine r_iload_n (j := 2) d_Ac_apply_25 rfl ?_
      obtain ⟨q17, hw⟩ := hw
      obtain ⟨q18, hw⟩ := hw
      refine r_iald d_Ac_apply_26 q17 q18 ?_
      refine r_goto d_Ac_apply_27 ?_
      refine r_pick (ls2 := []) [] rfl ?_
      exact s_Ac_apply_B36 hd hQ  hw
set_option maxRecDepth 100000 in
set_option maxHeartbeats 4000000 in
theorem s_Ac_takeBack {d : Nat} (hd : 2 ≤ d) {v0 : Nat} {v1 : Nat} {h : Hp} {Q : Bool → Hp → Prop} {QQ : Option AV → Hp → Prop} (hw : w_Ac_takeBack v0 v1 h Q) (hQ : ∀ r9 h9, Q r9 h9 → QQ (some (ai (b2i r9))) h9) : aCall m_Ac_takeBack d [ar v0, ar v1] h 0 0 QQ := by
  obtain ⟨d, rfl⟩ : ∃ d9, d = d9 + 1 := ⟨d - 1, by omega⟩
  refine aCall_in pl_Ac_takeBack (nle rfl) ?_
  show aW none m_Ac_takeBack (d + 1) 0 [(0, ar v0), (1, ar v1)] [] h 0 0 QQ
  unfold w_Ac_takeBack at hw
  refine r_aload_n (j := 0) d_Ac_takeBack_0 rfl ?_
  obtain ⟨q1, hw⟩ := hw
  refine r_getI d_Ac_takeBack_1 ok_0 (nle rfl) (nle rfl) rfl lf_Ac_28 q1 ?_
  refine r_iconst d_Ac_takeBack_4 kc_1 ?_
  refine r_icmp_ge d_Ac_takeBack_5 (fun w9 => ?_) (fun w9 => ?_)
  · replace hw := hw.1 w9
    refine r_aload_n (j := 0) d_Ac_takeBack_10 rfl ?_
    refine r_aload_n (j := 1) d_Ac_takeBack_11 rfl ?_
    refine r_aload_n (j := 0) d_Ac_takeBack_12 rfl ?_
    refine r_callV (av := []) (rest := [ar v1, ar v0]) (ci := 0) d_Ac_takeBack_13 mk_Ac_latest ll_Ac_34 im_Ac_latest se_Ac_latest rfl (nle rfl) rfl rfl (nle rfl) q1 (s_Ac_latest  hw (fun r3 h2 hw => ?_))
    show aW none m_Ac_takeBack (d + 1) 16 [(0, ar v0), (1, ar v1)] [ai r3, ar v1, ar v0] h2 0 0 QQ
    refine r_iconst d_Ac_takeBack_16 kc_m1 ?_
    obtain ⟨q5, hw⟩ := hw
    refine r_callV (av := [ar v1, ai r3, ai (-1 : Int32)]) (rest := []) (ci := 0) d_Ac_takeBack_17 mk_Ac_apply ll_Ac_60 im_Ac_apply se_Ac_apply rfl (nle rfl) rfl rfl (nle rfl) q5 (s_Ac_apply (by omega) hw (fun h4 hw => ?_))
    show aW none m_Ac_takeBack (d + 1) 20 [(0, ar v0), (1, ar v1)] [] h4 0 0 QQ
    refine r_aload_n (j := 0) d_Ac_takeBack_20 rfl ?_
    refine r_dup d_Ac_takeBack_21 rfl ?_
    obtain ⟨q6, hw⟩ := hw
    refine r_getI d_Ac_takeBack_22 ok_0 (nle rfl) (nle rfl) rfl lf_Ac_28 q6 ?_
    refine r_iconst d_Ac_takeBack_25 kc_1 ?_
    refine r_isub d_Ac_takeBack_26 ?_
    refine r_putI d_Ac_takeBack_27 ok_0 (nle rfl) (nle rfl) rfl lf_Ac_28 rfl q6 ?_
    refine r_aload_n (j := 0) d_Ac_takeBack_30 rfl ?_
    refine r_dup d_Ac_takeBack_31 rfl ?_
    refine r_getI d_Ac_takeBack_32 ok_0 (nle rfl) (nle rfl) rfl lf_Ac_31 (kt eKI q6) ?_
    refine r_iconst d_Ac_takeBack_35 kc_1 ?_
    refine r_iadd d_Ac_takeBack_36 ?_
    refine r_putI d_Ac_takeBack_37 ok_0 (nle rfl) (nle rfl) rfl lf_Ac_31 rfl (kt eKI q6) ?_
    refine r_iconst d_Ac_takeBack_40 kc_1 ?_
    exact r_zreturn d_Ac_takeBack_41.1 rfl (Or.inr rfl) (hQ _ _ hw)
  · replace hw := hw.2 w9
    refine r_iconst d_Ac_takeBack_8 kc_0 ?_
    exact r_zreturn d_Ac_takeBack_9.1 rfl (Or.inl rfl) (hQ _ _ hw)
set_option maxRecDepth 100000 in
set_option maxHeartbeats 4000000 in
theorem s_Ac_doAgain {d : Nat} (hd : 2 ≤ d) {v0 : Nat} {v1 : Nat} {h : Hp} {Q : Bool → Hp → Prop} {QQ : Option AV → Hp → Prop} (hw : w_Ac_doAgain v0 v1 h Q) (hQ : ∀ r9 h9, Q r9 h9 → QQ (some (ai (b2i r9))) h9) : aCall m_Ac_doAgain d [ar v0, ar v1] h 0 0 QQ := by
  obtain ⟨d, rfl⟩ : ∃ d9, d = d9 + 1 := ⟨d - 1, by omega⟩
  refine aCall_in pl_Ac_doAgain (nle rfl) ?_
  show aW none m_Ac_doAgain (d + 1) 0 [(0, ar v0), (1, ar v1)] [] h 0 0 QQ
  unfold w_Ac_doAgain at hw
  refine r_aload_n (j := 0) d_Ac_doAgain_0 rfl ?_
  obtain ⟨q1, hw⟩ := hw
  refine r_getI d_Ac_doAgain_1 ok_0 (nle rfl) (nle rfl) rfl lf_Ac_31 q1 ?_
  refine r_iconst d_Ac_doAgain_4 kc_1 ?_
  refine r_icmp_ge d_Ac_doAgain_5 (fun w9 => ?_) (fun w9 => ?_)
  · replace hw := hw.1 w9
    refine r_aload_n (j := 0) d_Ac_doAgain_10 rfl ?_
    refine r_dup d_Ac_doAgain_11 rfl ?_
    refine r_getI d_Ac_doAgain_12 ok_0 (nle rfl) (nle rfl) rfl lf_Ac_28 q1 ?_
    refine r_iconst d_Ac_doAgain_15 kc_1 ?_
    refine r_iadd d_Ac_doAgain_16 ?_
    refine r_putI d_Ac_doAgain_17 ok_0 (nle rfl) (nle rfl) rfl lf_Ac_28 rfl q1 ?_
    refine r_aload_n (j := 0) d_Ac_doAgain_20 rfl ?_
    refine r_dup d_Ac_doAgain_21 rfl ?_
    refine r_getI d_Ac_doAgain_22 ok_0 (nle rfl) (nle rfl) rfl lf_Ac_31 (kt eKI q1) ?_
    refine r_iconst d_Ac_doAgain_25 kc_1 ?_
    refine r_isub d_Ac_doAgain_26 ?_
    refine r_putI d_Ac_doAgain_27 ok_0 (nle rfl) (nle rfl) rfl lf_Ac_31 rfl (kt eKI q1) ?_
    refine r_aload_n (j := 0) d_Ac_doAgain_30 rfl ?_
    refine r_aload_n (j := 1) d_Ac_doAgain_31 rfl ?_
    refine r_aload_n (j := 0) d_Ac_doAgain_32 rfl ?_
    refine r_callV (av := []) (rest := [ar v1, ar v0]) (ci := 0) d_Ac_doAgain_33 mk_Ac_latest ll_Ac_34 im_Ac_latest se_Ac_latest rfl (nle rfl) rfl rfl (nle rfl) (kt (eKI.trans eKI) q1) (s_Ac_latest  hw (fun r3 h2 hw => ?_))
    show aW none m_Ac_doAgain (d + 1) 36 [(0, ar v0), (1, ar v1)] [ai r3, ar v1, ar v0] h2 0 0 QQ
    refine r_iconst d_Ac_doAgain_36 kc_1 ?_
    obtain ⟨q5, hw⟩ := hw
    refine r_callV (av := [ar v1, ai r3, ai (1 : Int32)]) (rest := []) (ci := 0) d_Ac_doAgain_37 mk_Ac_apply ll_Ac_60 im_Ac_apply se_Ac_apply rfl (nle rfl) rfl rfl (nle rfl) q5 (s_Ac_apply (by omega) hw (fun h4 hw => ?_))
    show aW none m_Ac_doAgain (d + 1) 40 [(0, ar v0), (1, ar v1)] [] h4 0 0 QQ
    refine r_iconst d_Ac_doAgain_40 kc_1 ?_
    exact r_zreturn d_Ac_doAgain_41.1 rfl (Or.inr rfl) (hQ _ _ hw)
  · replace hw := hw.2 w9
    refine r_iconst d_Ac_doAgain_8 kc_0 ?_
    exact r_zreturn d_Ac_doAgain_9.1 rfl (Or.inl rfl) (hQ _ _ hw)
set_option maxRecDepth 100000 in
set_option maxHeartbeats 4000000 in
theorem s_Co_init {d : Nat} (hd : 1 ≤ d) {v0 : Nat} {bc bs : Nat} {h : Hp} {Q : Hp → Prop} {QQ : Option AV → Hp → Prop} (hw : w_Co_init bc bs v0 h Q) (hQ : ∀ h9, Q h9 → QQ none h9) : aCall m_Co_init d [ar v0] h bc bs QQ := by
  obtain ⟨d, rfl⟩ : ∃ d9, d = d9 + 1 := ⟨d - 1, by omega⟩
  refine aCall_in pl_Co_init (nle rfl) ?_
  show aW none m_Co_init (d + 1) 0 [(0, ar v0)] [] h bc bs QQ
  unfold w_Co_init at hw
  refine r_aload_n (j := 0) d_Co_init_0 rfl ?_
  obtain ⟨q1, hw⟩ := hw
  refine r_objInit d_Co_init_1 ll_Co_5 oi_1 oi_2 (nle rfl) q1 ?_
  refine r_aload_n (j := 0) d_Co_init_4 rfl ?_
  refine r_bipush d_Co_init_5 kb_44 ?_
  obtain ⟨q2, hw⟩ := hw
  obtain ⟨b3, t4, u8, u9, u6, u7, hw⟩ := hw
  subst u8 u9
  refine r_newI d_Co_init_7 ac_I u6 rfl u7 (refB_r q2 refB_n) (refL_r q2 refL_n) ?_
  generalize e8 : nw h 20 (ix (44 : Int32)) = h5
  generalize e7 : gX h = a6
  replace hw := hw a6 h5 e7.symm e8.symm
  obtain ⟨q7, hw⟩ := hw
  obtain ⟨q8, hw⟩ := hw
  refine r_putFR d_Co_init_9 ok_1 (nle rfl) (nle rfl) rfl lf_Co_11 rfl rfl rfl q7 q8 ?_
  refine r_aload_n (j := 0) d_Co_init_12 rfl ?_
  refine r_iconst d_Co_init_13 kc_1 ?_
  refine r_putI d_Co_init_14 ok_1 (nle rfl) (nle rfl) rfl lf_Co_15 rfl (kt eKR q7) ?_
  refine r_aload_n (j := 0) d_Co_init_17 rfl ?_
  refine r_getR d_Co_init_18 ok_1 (nle rfl) (nle rfl) rfl lf_Co_11 (kt (eKI.trans eKR) q7) ?_
  refine r_bipush d_Co_init_21 kb_35 ?_
  refine r_bipush d_Co_init_23 kb_8 ?_
  obtain ⟨q9, hw⟩ := hw
  obtain ⟨q10, hw⟩ := hw
  refine r_iast d_Co_init_25 (kt (eKI.trans eKR) q9) (nt (eNI.trans eNR) q10) ?_
  exact r_return d_Co_init_26.1 rfl (hQ _ hw)
set_option maxRecDepth 100000 in
set_option maxHeartbeats 4000000 in
theorem s_JA_fill_IIV_L5 {d : Nat} {Q : Hp → Prop} {QQ : Option AV → Hp → Prop} (hQ : ∀ h9, Q h9 → QQ none h9) {v0 : Nat} {v1 : Int32} {v3 : Int32} : ∀ (n : Nat) (v2 : Int32) (h : Hp), w_JA_fill_IIV_L5 Q  v0 v1 v3 n v2 h → aW none m_JA_fill_IIV d 5 [(0, ar v0), (1, ai v1), (2, ai v2), (3, ai v3)] [] h 0 0 QQ := by
  intro n
  induction n with
  | zero => intro v2 h hw; exact hw.elim
  | succ n ih =>
    intro v2 h hw
    unfold w_JA_fill_IIV_L5 at hw
    refine r_iload_n (j := 2) d_JA_fill_IIV_5 rfl ?_
    refine r_iload_n (j := 3) d_JA_fill_IIV_6 rfl ?_
    refine r_icmp_ge d_JA_fill_IIV_7 (fun w9 => ?_) (fun w9 => ?_)
    · replace hw := hw.1 w9
      exact r_return d_JA_fill_IIV_20.1 rfl (hQ _ hw)
    · replace hw := hw.2 w9
      refine r_aload_n (j := 0) d_JA_fill_IIV_10 rfl ?_
      refine r_iload_n (j := 2) d_JA_fill_IIV_11 rfl ?_
      refine r_iload_n (j := 1) d_JA_fill_IIV_12 rfl ?_
      obtain ⟨q2, hw⟩ := hw
      obtain ⟨q3, hw⟩ := hw
      refine r_iast d_JA_fill_IIV_13 q2 q3 ?_
      refine r_iinc (j := 2) (ls2 := [(2, ai (v2 + (1 : Int32))), (0, ar v0), (1, ai v1), (3, ai v3)]) d_JA_fill_IIV_14 rfl (congrArg (HAdd.hAdd v2) kc_1) (nle rfl) rfl ?_
      refine r_goto d_JA_fill_IIV_17 ?_
      refine r_pick (ls2 := [(0, ar v0), (1, ai v1), (2, ai (v2 + (1 : Int32))), (3, ai v3)]) [1, 2, 0, 3] rfl ?_
      exact ih _ _ hw
set_option maxRecDepth 100000 in
set_option maxHeartbeats 4000000 in
theorem s_JA_fill_IIV {d : Nat} {v0 : Nat} {v1 : Int32} {h : Hp} {Q : Hp → Prop} {QQ : Option AV → Hp → Prop} (hw : w_JA_fill_IIV v0 v1 h Q) (hQ : ∀ h9, Q h9 → QQ none h9) : aCall m_JA_fill_IIV d [ar v0, ai v1] h 0 0 QQ := by
  refine aCall_in pl_JA_fill_IIV (nle rfl) ?_
  show aW none m_JA_fill_IIV d 0 [(0, ar v0), (1, ai v1)] [] h 0 0 QQ
  unfold w_JA_fill_IIV at hw
  refine r_iconst d_JA_fill_IIV_0 kc_0 ?_
  refine r_istore_n (ls2 := [(2, ai (0 : Int32)), (0, ar v0), (1, ai v1)]) d_JA_fill_IIV_1 (nle rfl) rfl ?_
  refine r_aload_n (j := 1) d_JA_fill_IIV_2 rfl ?_
  obtain ⟨q1, hw⟩ := hw
  refine r_alen d_JA_fill_IIV_3 q1 ?_
  refine r_istore_n (ls2 := [(3, ai (Int32.ofNat (gN h v0))), (2, ai (0 : Int32)), (0, ar v0), (1, ai v1)]) d_JA_fill_IIV_4 (nle rfl) rfl ?_
  obtain ⟨n4, hw⟩ := hw
  refine r_pick (ls2 := [(0, ar v0), (1, ai v1), (2, ai (0 : Int32)), (3, ai (Int32.ofNat (gN h v0)))]) [2, 3, 1, 0] rfl ?_
  exact s_JA_fill_IIV_L5 hQ  n4 _ _ hw
set_option maxRecDepth 100000 in
set_option maxHeartbeats 4000000 in
theorem s_Co_clear {d : Nat} (hd : 1 ≤ d) {v0 : Nat} {h : Hp} {Q : Hp → Prop} {QQ : Option AV → Hp → Prop} (hw : w_Co_clear v0 h Q) (hQ : ∀ h9, Q h9 → QQ none h9) : aCall m_Co_clear d [ar v0] h 0 0 QQ := by
  obtain ⟨d, rfl⟩ : ∃ d9, d = d9 + 1 := ⟨d - 1, by omega⟩
  refine aCall_in pl_Co_clear (nle rfl) ?_
  show aW none m_Co_clear (d + 1) 0 [(0, ar v0)] [] h 0 0 QQ
  unfold w_Co_clear at hw
  refine r_aload_n (j := 0) d_Co_clear_0 rfl ?_
  obtain ⟨q1, hw⟩ := hw
  refine r_getR d_Co_clear_1 ok_1 (nle rfl) (nle rfl) rfl lf_Co_11 q1 ?_
  refine r_iconst d_Co_clear_4 kc_0 ?_
  refine r_callS (av := [ar (gR h v0 0), ai (0 : Int32)]) (rest := []) d_Co_clear_5 mk_JA_fill_IIV ll_Co_19 st_JA_fill_IIV rfl rfl (nle rfl) (s_JA_fill_IIV  hw (fun h2 hw => ?_))
  show aW none m_Co_clear (d + 1) 8 [(0, ar v0)] [] h2 0 0 QQ
  refine r_aload_n (j := 0) d_Co_clear_8 rfl ?_
  obtain ⟨q3, hw⟩ := hw
  refine r_getR d_Co_clear_9 ok_1 (nle rfl) (nle rfl) rfl lf_Co_11 q3 ?_
  refine r_bipush d_Co_clear_12 kb_35 ?_
  refine r_bipush d_Co_clear_14 kb_8 ?_
  obtain ⟨q4, hw⟩ := hw
  obtain ⟨q5, hw⟩ := hw
  refine r_iast d_Co_clear_16 q4 q5 ?_
  refine r_aload_n (j := 0) d_Co_clear_17 rfl ?_
  refine r_iconst d_Co_clear_18 kc_1 ?_
  refine r_putI d_Co_clear_19 ok_1 (nle rfl) (nle rfl) rfl lf_Co_15 rfl (kt eKI q3) ?_
  refine r_aload_n (j := 0) d_Co_clear_22 rfl ?_
  refine r_iconst d_Co_clear_23 kc_0 ?_
  refine r_putI d_Co_clear_24 ok_1 (nle rfl) (nle rfl) rfl lf_Co_25 rfl (kt (eKI.trans eKI) q3) ?_
  refine r_aload_n (j := 0) d_Co_clear_27 rfl ?_
  refine r_dup d_Co_clear_28 rfl ?_
  refine r_getI d_Co_clear_29 ok_1 (nle rfl) (nle rfl) rfl lf_Co_28 (kt (eKI.trans (eKI.trans eKI)) q3) ?_
  refine r_iconst d_Co_clear_32 kc_1 ?_
  refine r_iadd d_Co_clear_33 ?_
  refine r_putI d_Co_clear_34 ok_1 (nle rfl) (nle rfl) rfl lf_Co_28 rfl (kt (eKI.trans (eKI.trans eKI)) q3) ?_
  exact r_return d_Co_clear_37.1 rfl (hQ _ hw)
set_option maxRecDepth 100000 in
set_option maxHeartbeats 4000000 in
theorem s_Co_copyFrom {d : Nat} (hd : 1 ≤ d) {v0 : Nat} {v1 : Nat} {h : Hp} {Q : Hp → Prop} {QQ : Option AV → Hp → Prop} (hw : w_Co_copyFrom v0 v1 h Q) (hQ : ∀ h9, Q h9 → QQ none h9) : aCall m_Co_copyFrom d [ar v0, ar v1] h 0 0 QQ := by
  obtain ⟨d, rfl⟩ : ∃ d9, d = d9 + 1 := ⟨d - 1, by omega⟩
  refine aCall_in pl_Co_copyFrom (nle rfl) ?_
  show aW none m_Co_copyFrom (d + 1) 0 [(0, ar v0), (1, ar v1)] [] h 0 0 QQ
  unfold w_Co_copyFrom at hw
  refine r_aload_n (j := 1) d_Co_copyFrom_0 rfl ?_
  obtain ⟨q1, hw⟩ := hw
  refine r_getR d_Co_copyFrom_1 ok_1 (nle rfl) (nle rfl) rfl lf_Co_11 q1 ?_
  refine r_iconst d_Co_copyFrom_4 kc_0 ?_
  refine r_aload_n (j := 0) d_Co_copyFrom_5 rfl ?_
  obtain ⟨q2, hw⟩ := hw
  refine r_getR d_Co_copyFrom_6 ok_1 (nle rfl) (nle rfl) rfl lf_Co_11 q2 ?_
  refine r_iconst d_Co_copyFrom_9 kc_0 ?_
  refine r_bipush d_Co_copyFrom_10 kb_44 ?_
  obtain ⟨q3, hw⟩ := hw
  obtain ⟨q4, hw⟩ := hw
  obtain ⟨q5, hw⟩ := hw
  obtain ⟨q6, hw⟩ := hw
  refine r_copy d_Co_copyFrom_12 ll_Co_31 cp_1 cp_2 cp_3 (nle rfl) q3 q4 (by decide) (by decide) (by decide) q5 q6 ?_
  refine r_aload_n (j := 0) d_Co_copyFrom_15 rfl ?_
  refine r_aload_n (j := 1) d_Co_copyFrom_16 rfl ?_
  refine r_getI d_Co_copyFrom_17 ok_1 (nle rfl) (nle rfl) rfl lf_Co_15 (kt eKA q1) ?_
  refine r_putI d_Co_copyFrom_20 ok_1 (nle rfl) (nle rfl) rfl lf_Co_15 rfl (kt eKA q2) ?_
  refine r_aload_n (j := 0) d_Co_copyFrom_23 rfl ?_
  refine r_aload_n (j := 1) d_Co_copyFrom_24 rfl ?_
  refine r_getI d_Co_copyFrom_25 ok_1 (nle rfl) (nle rfl) rfl lf_Co_25 (kt (eKI.trans eKA) q1) ?_
  refine r_putI d_Co_copyFrom_28 ok_1 (nle rfl) (nle rfl) rfl lf_Co_25 rfl (kt (eKI.trans eKA) q2) ?_
  refine r_aload_n (j := 0) d_Co_copyFrom_31 rfl ?_
  refine r_dup d_Co_copyFrom_32 rfl ?_
  refine r_getI d_Co_copyFrom_33 ok_1 (nle rfl) (nle rfl) rfl lf_Co_28 (kt (eKI.trans (eKI.trans eKA)) q2) ?_
  refine r_iconst d_Co_copyFrom_36 kc_1 ?_
  refine r_iadd d_Co_copyFrom_37 ?_
  refine r_putI d_Co_copyFrom_38 ok_1 (nle rfl) (nle rfl) rfl lf_Co_28 rfl (kt (eKI.trans (eKI.trans eKA)) q2) ?_
  exact r_return d_Co_copyFrom_41.1 rfl (hQ _ hw)
set_option maxRecDepth 100000 in
set_option maxHeartbeats 4000000 in
theorem s_Co_hasColumn {d : Nat} {v0 : Nat} {v1 : Int32} {h : Hp} {Q : Bool → Hp → Prop} {QQ : Option AV → Hp → Prop} (hw : w_Co_hasColumn v0 v1 h Q) (hQ : ∀ r9 h9, Q r9 h9 → QQ (some (ai (b2i r9))) h9) : aCall m_Co_hasColumn d [ar v0, ai v1] h 0 0 QQ := by
  refine aCall_in pl_Co_hasColumn (nle rfl) ?_
  show aW none m_Co_hasColumn d 0 [(0, ar v0), (1, ai v1)] [] h 0 0 QQ
  unfold w_Co_hasColumn at hw
  refine r_iload_n (j := 1) d_Co_hasColumn_0 rfl ?_
  refine r_if_lt d_Co_hasColumn_1 (fun w9 => ?_) (fun w9 => ?_)
  · replace hw := hw.1 w9
    refine r_iconst d_Co_hasColumn_16 kc_0 ?_
    exact r_zreturn d_Co_hasColumn_17.1 rfl (Or.inl rfl) (hQ _ _ hw)
  · replace hw := hw.2 w9
    refine r_iload_n (j := 1) d_Co_hasColumn_4 rfl ?_
    refine r_aload_n (j := 0) d_Co_hasColumn_5 rfl ?_
    obtain ⟨q1, hw⟩ := hw
    refine r_getI d_Co_hasColumn_6 ok_1 (nle rfl) (nle rfl) rfl lf_Co_25 q1 ?_
    refine r_icmp_ge d_Co_hasColumn_9 (fun w9 => ?_) (fun w9 => ?_)
    · replace hw := hw.1 w9
      refine r_iconst d_Co_hasColumn_16 kc_0 ?_
      exact r_zreturn d_Co_hasColumn_17.1 rfl (Or.inl rfl) (hQ _ _ hw)
    · replace hw := hw.2 w9
      refine r_iconst d_Co_hasColumn_12 kc_1 ?_
      refine r_goto d_Co_hasColumn_13 ?_
      exact r_zreturn d_Co_hasColumn_17.1 rfl (Or.inr rfl) (hQ _ _ hw)
set_option maxRecDepth 100000 in
set_option maxHeartbeats 4000000 in
theorem s_Co_hasRow {d : Nat} {v0 : Nat} {v1 : Int32} {h : Hp} {Q : Bool → Hp → Prop} {QQ : Option AV → Hp → Prop} (hw : w_Co_hasRow v0 v1 h Q) (hQ : ∀ r9 h9, Q r9 h9 → QQ (some (ai (b2i r9))) h9) : aCall m_Co_hasRow d [ar v0, ai v1] h 0 0 QQ := by
  refine aCall_in pl_Co_hasRow (nle rfl) ?_
  show aW none m_Co_hasRow d 0 [(0, ar v0), (1, ai v1)] [] h 0 0 QQ
  unfold w_Co_hasRow at hw
  refine r_iload_n (j := 1) d_Co_hasRow_0 rfl ?_
  refine r_if_lt d_Co_hasRow_1 (fun w9 => ?_) (fun w9 => ?_)
  · replace hw := hw.1 w9
    refine r_iconst d_Co_hasRow_16 kc_0 ?_
    exact r_zreturn d_Co_hasRow_17.1 rfl (Or.inl rfl) (hQ _ _ hw)
  · replace hw := hw.2 w9
    refine r_iload_n (j := 1) d_Co_hasRow_4 rfl ?_
    refine r_aload_n (j := 0) d_Co_hasRow_5 rfl ?_
    obtain ⟨q1, hw⟩ := hw
    refine r_getI d_Co_hasRow_6 ok_1 (nle rfl) (nle rfl) rfl lf_Co_15 q1 ?_
    refine r_icmp_ge d_Co_hasRow_9 (fun w9 => ?_) (fun w9 => ?_)
    · replace hw := hw.1 w9
      refine r_iconst d_Co_hasRow_16 kc_0 ?_
      exact r_zreturn d_Co_hasRow_17.1 rfl (Or.inl rfl) (hQ _ _ hw)
    · replace hw := hw.2 w9
      refine r_iconst d_Co_hasRow_12 kc_1 ?_
      refine r_goto d_Co_hasRow_13 ?_
      exact r_zreturn d_Co_hasRow_17.1 rfl (Or.inr rfl) (hQ _ _ hw)
set_option maxRecDepth 100000 in
set_option maxHeartbeats 4000000 in
theorem s_Co_numberOf {d : Nat} {v0 : Nat} {v1 : Int32} {v2 : Int32} {h : Hp} {Q : Int32 → Hp → Prop} {QQ : Option AV → Hp → Prop} (hw : w_Co_numberOf v0 v1 v2 h Q) (hQ : ∀ r9 h9, Q r9 h9 → QQ (some (ai r9)) h9) : aCall m_Co_numberOf d [ar v0, ai v1, ai v2] h 0 0 QQ := by
  refine aCall_in pl_Co_numberOf (nle rfl) ?_
  show aW none m_Co_numberOf d 0 [(0, ar v0), (1, ai v1), (2, ai v2)] [] h 0 0 QQ
  unfold w_Co_numberOf at hw
  refine r_aload_n (j := 0) d_Co_numberOf_0 rfl ?_
  obtain ⟨q1, hw⟩ := hw
  refine r_getR d_Co_numberOf_1 ok_1 (nle rfl) (nle rfl) rfl lf_Co_11 q1 ?_
  refine r_iload_n (j := 1) d_Co_numberOf_4 rfl ?_
  refine r_iconst d_Co_numberOf_5 kc_3 ?_
  refine r_imul d_Co_numberOf_6 ?_
  refine r_iload_n (j := 2) d_Co_numberOf_7 rfl ?_
  refine r_iadd d_Co_numberOf_8 ?_
  obtain ⟨q2, hw⟩ := hw
  obtain ⟨q3, hw⟩ := hw
  refine r_iald d_Co_numberOf_9 q2 q3 ?_
  exact r_ireturn d_Co_numberOf_10.1 rfl (hQ _ _ hw)
set_option maxRecDepth 100000 in
set_option maxHeartbeats 4000000 in
theorem s_Co_gainOf {d : Nat} {v0 : Nat} {v1 : Int32} {h : Hp} {Q : Int32 → Hp → Prop} {QQ : Option AV → Hp → Prop} (hw : w_Co_gainOf v0 v1 h Q) (hQ : ∀ r9 h9, Q r9 h9 → QQ (some (ai r9)) h9) : aCall m_Co_gainOf d [ar v0, ai v1] h 0 0 QQ := by
  refine aCall_in pl_Co_gainOf (nle rfl) ?_
  show aW none m_Co_gainOf d 0 [(0, ar v0), (1, ai v1)] [] h 0 0 QQ
  unfold w_Co_gainOf at hw
  refine r_aload_n (j := 0) d_Co_gainOf_0 rfl ?_
  obtain ⟨q1, hw⟩ := hw
  refine r_getR d_Co_gainOf_1 ok_1 (nle rfl) (nle rfl) rfl lf_Co_11 q1 ?_
  refine r_bipush d_Co_gainOf_4 kb_24 ?_
  refine r_iload_n (j := 1) d_Co_gainOf_6 rfl ?_
  refine r_iadd d_Co_gainOf_7 ?_
  obtain ⟨q2, hw⟩ := hw
  obtain ⟨q3, hw⟩ := hw
  refine r_iald d_Co_gainOf_8 q2 q3 ?_
  exact r_ireturn d_Co_gainOf_9.1 rfl (hQ _ _ hw)
set_option maxRecDepth 100000 in
set_option maxHeartbeats 4000000 in
theorem s_Co_needOf {d : Nat} {v0 : Nat} {v1 : Int32} {h : Hp} {Q : Int32 → Hp → Prop} {QQ : Option AV → Hp → Prop} (hw : w_Co_needOf v0 v1 h Q) (hQ : ∀ r9 h9, Q r9 h9 → QQ (some (ai r9)) h9) : aCall m_Co_needOf d [ar v0, ai v1] h 0 0 QQ := by
  refine aCall_in pl_Co_needOf (nle rfl) ?_
  show aW none m_Co_needOf d 0 [(0, ar v0), (1, ai v1)] [] h 0 0 QQ
  unfold w_Co_needOf at hw
  refine r_aload_n (j := 0) d_Co_needOf_0 rfl ?_
  obtain ⟨q1, hw⟩ := hw
  refine r_getR d_Co_needOf_1 ok_1 (nle rfl) (nle rfl) rfl lf_Co_11 q1 ?_
  refine r_bipush d_Co_needOf_4 kb_32 ?_
  refine r_iload_n (j := 1) d_Co_needOf_6 rfl ?_
  refine r_iadd d_Co_needOf_7 ?_
  obtain ⟨q2, hw⟩ := hw
  obtain ⟨q3, hw⟩ := hw
  refine r_iald d_Co_needOf_8 q2 q3 ?_
  exact r_ireturn d_Co_needOf_9.1 rfl (hQ _ _ hw)
set_option maxRecDepth 100000 in
set_option maxHeartbeats 4000000 in
theorem s_Co_heldOf {d : Nat} {v0 : Nat} {v1 : Int32} {h : Hp} {Q : Int32 → Hp → Prop} {QQ : Option AV → Hp → Prop} (hw : w_Co_heldOf v0 v1 h Q) (hQ : ∀ r9 h9, Q r9 h9 → QQ (some (ai r9)) h9) : aCall m_Co_heldOf d [ar v0, ai v1] h 0 0 QQ := by
  refine aCall_in pl_Co_heldOf (nle rfl) ?_
  show aW none m_Co_heldOf d 0 [(0, ar v0), (1, ai v1)] [] h 0 0 QQ
  unfold w_Co_heldOf at hw
  refine r_aload_n (j := 0) d_Co_heldOf_0 rfl ?_
  obtain ⟨q1, hw⟩ := hw
  refine r_getR d_Co_heldOf_1 ok_1 (nle rfl) (nle rfl) rfl lf_Co_11 q1 ?_
  refine r_bipush d_Co_heldOf_4 kb_36 ?_
  refine r_iload_n (j := 1) d_Co_heldOf_6 rfl ?_
  refine r_iadd d_Co_heldOf_7 ?_
  obtain ⟨q2, hw⟩ := hw
  obtain ⟨q3, hw⟩ := hw
  refine r_iald d_Co_heldOf_8 q2 q3 ?_
  exact r_ireturn d_Co_heldOf_9.1 rfl (hQ _ _ hw)
set_option maxRecDepth 100000 in
set_option maxHeartbeats 4000000 in
theorem s_Co_steps {d : Nat} {v0 : Nat} {h : Hp} {Q : Int32 → Hp → Prop} {QQ : Option AV → Hp → Prop} (hw : w_Co_steps v0 h Q) (hQ : ∀ r9 h9, Q r9 h9 → QQ (some (ai r9)) h9) : aCall m_Co_steps d [ar v0] h 0 0 QQ := by
  refine aCall_in pl_Co_steps (nle rfl) ?_
  show aW none m_Co_steps d 0 [(0, ar v0)] [] h 0 0 QQ
  unfold w_Co_steps at hw
  refine r_aload_n (j := 0) d_Co_steps_0 rfl ?_
  obtain ⟨q1, hw⟩ := hw
  refine r_getR d_Co_steps_1 ok_1 (nle rfl) (nle rfl) rfl lf_Co_11 q1 ?_
  refine r_bipush d_Co_steps_4 kb_35 ?_
  obtain ⟨q2, hw⟩ := hw
  obtain ⟨q3, hw⟩ := hw
  refine r_iald d_Co_steps_6 q2 q3 ?_
  exact r_ireturn d_Co_steps_7.1 rfl (hQ _ _ hw)
set_option maxRecDepth 100000 in
set_option maxHeartbeats 4000000 in
theorem s_JM_abs {d : Nat} {v0 : Int32} {h : Hp} {Q : Int32 → Hp → Prop} {QQ : Option AV → Hp → Prop} (hw : w_JM_abs v0 h Q) (hQ : ∀ r9 h9, Q r9 h9 → QQ (some (ai r9)) h9) : aCall m_JM_abs d [ai v0] h 0 0 QQ := by
  refine aCall_in pl_JM_abs (nle rfl) ?_
  show aW none m_JM_abs d 0 [(0, ai v0)] [] h 0 0 QQ
  unfold w_JM_abs at hw
  refine r_iload_n (j := 0) d_JM_abs_0 rfl ?_
  refine r_if_ge d_JM_abs_1 (fun w9 => ?_) (fun w9 => ?_)
  · replace hw := hw.1 w9
    refine r_iload_n (j := 0) d_JM_abs_9 rfl ?_
    exact r_ireturn d_JM_abs_10.1 rfl (hQ _ _ hw)
  · replace hw := hw.2 w9
    refine r_iload_n (j := 0) d_JM_abs_4 rfl ?_
    refine r_ineg d_JM_abs_5 ?_
    refine r_goto d_JM_abs_6 ?_
    exact r_ireturn d_JM_abs_10.1 rfl (hQ _ _ hw)
set_option maxRecDepth 100000 in
set_option maxHeartbeats 4000000 in
theorem s_JM_max {d : Nat} {v0 : Int32} {v1 : Int32} {h : Hp} {Q : Int32 → Hp → Prop} {QQ : Option AV → Hp → Prop} (hw : w_JM_max v0 v1 h Q) (hQ : ∀ r9 h9, Q r9 h9 → QQ (some (ai r9)) h9) : aCall m_JM_max d [ai v0, ai v1] h 0 0 QQ := by
  refine aCall_in pl_JM_max (nle rfl) ?_
  show aW none m_JM_max d 0 [(0, ai v0), (1, ai v1)] [] h 0 0 QQ
  unfold w_JM_max at hw
  refine r_iload_n (j := 0) d_JM_max_0 rfl ?_
  refine r_iload_n (j := 1) d_JM_max_1 rfl ?_
  refine r_icmp_lt d_JM_max_2 (fun w9 => ?_) (fun w9 => ?_)
  · replace hw := hw.1 w9
    refine r_iload_n (j := 1) d_JM_max_9 rfl ?_
    exact r_ireturn d_JM_max_10.1 rfl (hQ _ _ hw)
  · replace hw := hw.2 w9
    refine r_iload_n (j := 0) d_JM_max_5 rfl ?_
    refine r_goto d_JM_max_6 ?_
    exact r_ireturn d_JM_max_10.1 rfl (hQ _ _ hw)
set_option maxRecDepth 100000 in
set_option maxHeartbeats 4000000 in
theorem s_Co_greatestNumber_L4 {d : Nat} (hd : 1 ≤ d + 1) {Q : Int32 → Hp → Prop} {QQ : Option AV → Hp → Prop} (hQ : ∀ r9 h9, Q r9 h9 → QQ (some (ai r9)) h9) {v0 : Nat} : ∀ (n : Nat) (v1 : Int32) (v2 : Int32) (h : Hp), w_Co_greatestNumber_L4 Q  v0 n v1 v2 h → aW none m_Co_greatestNumber (d + 1) 4 [(0, ar v0), (1, ai v1), (2, ai v2)] [] h 0 0 QQ := by
  intro n
  induction n with
  | zero => intro v1 v2 h hw; exact hw.elim
  | succ n ih =>
    intro v1 v2 h hw
    unfold w_Co_greatestNumber_L4 at hw
    refine r_iload_n (j := 2) d_Co_greatestNumber_4 rfl ?_
    refine r_aload_n (j := 0) d_Co_greatestNumber_5 rfl ?_
    obtain ⟨q1, hw⟩ := hw
    refine r_getI d_Co_greatestNumber_6 ok_1 (nle rfl) (nle rfl) rfl lf_Co_25 q1 ?_
    refine r_iconst d_Co_greatestNumber_9 kc_3 ?_
    refine r_imul d_Co_greatestNumber_10 ?_
    refine r_icmp_ge d_Co_greatestNumber_11 (fun w9 => ?_) (fun w9 => ?_)
    · replace hw := hw.1 w9
      refine r_iload_n (j := 1) d_Co_greatestNumber_34 rfl ?_
      exact r_ireturn d_Co_greatestNumber_35.1 rfl (hQ _ _ hw)
    · replace hw := hw.2 w9
      refine r_iload_n (j := 1) d_Co_greatestNumber_14 rfl ?_
      refine r_aload_n (j := 0) d_Co_greatestNumber_15 rfl ?_
      refine r_getR d_Co_greatestNumber_16 ok_1 (nle rfl) (nle rfl) rfl lf_Co_11 q1 ?_
      refine r_iload_n (j := 2) d_Co_greatestNumber_19 rfl ?_
      obtain ⟨q2, hw⟩ := hw
      obtain ⟨q3, hw⟩ := hw
      refine r_iald d_Co_greatestNumber_20 q2 q3 ?_
      refine r_callS (av := [ai (gI h (gR h v0 0) (ix v2))]) (rest := [ai v1]) d_Co_greatestNumber_21 mk_JM_abs ll_Co_37 st_JM_abs rfl rfl (nle rfl) (s_JM_abs  hw (fun r5 h4 hw => ?_))
      show aW none m_Co_greatestNumber (d + 1) 24 [(0, ar v0), (1, ai v1), (2, ai v2)] [ai r5, ai v1] h4 0 0 QQ
      refine r_callS (av := [ai v1, ai r5]) (rest := []) d_Co_greatestNumber_24 mk_JM_max ll_Co_43 st_JM_max rfl rfl (nle rfl) (s_JM_max  hw (fun r7 h6 hw => ?_))
      show aW none m_Co_greatestNumber (d + 1) 27 [(0, ar v0), (1, ai v1), (2, ai v2)] [ai r7] h6 0 0 QQ
      refine r_istore_n (ls2 := [(1, ai r7), (0, ar v0), (2, ai v2)]) d_Co_greatestNumber_27 (nle rfl) rfl ?_
      refine r_iinc (j := 2) (ls2 := [(2, ai (v2 + (1 : Int32))), (1, ai r7), (0, ar v0)]) d_Co_greatestNumber_28 rfl (congrArg (HAdd.hAdd v2) kc_1) (nle rfl) rfl ?_
      refine r_goto d_Co_greatestNumber_31 ?_
      refine r_pick (ls2 := [(0, ar v0), (1, ai r7), (2, ai (v2 + (1 : Int32)))]) [2, 1, 0] rfl ?_
      exact ih _ _ _ hw
set_option maxRecDepth 100000 in
set_option maxHeartbeats 4000000 in
theorem s_Co_greatestNumber {d : Nat} (hd : 1 ≤ d) {v0 : Nat} {h : Hp} {Q : Int32 → Hp → Prop} {QQ : Option AV → Hp → Prop} (hw : w_Co_greatestNumber v0 h Q) (hQ : ∀ r9 h9, Q r9 h9 → QQ (some (ai r9)) h9) : aCall m_Co_greatestNumber d [ar v0] h 0 0 QQ := by
  obtain ⟨d, rfl⟩ : ∃ d9, d = d9 + 1 := ⟨d - 1, by omega⟩
  refine aCall_in pl_Co_greatestNumber (nle rfl) ?_
  show aW none m_Co_greatestNumber (d + 1) 0 [(0, ar v0)] [] h 0 0 QQ
  unfold w_Co_greatestNumber at hw
  refine r_iconst d_Co_greatestNumber_0 kc_0 ?_
  refine r_istore_n (ls2 := [(1, ai (0 : Int32)), (0, ar v0)]) d_Co_greatestNumber_1 (nle rfl) rfl ?_
  refine r_iconst d_Co_greatestNumber_2 kc_0 ?_
  refine r_istore_n (ls2 := [(2, ai (0 : Int32)), (1, ai (0 : Int32)), (0, ar v0)]) d_Co_greatestNumber_3 (nle rfl) rfl ?_
  obtain ⟨n8, hw⟩ := hw
  refine r_pick (ls2 := [(0, ar v0), (1, ai (0 : Int32)), (2, ai (0 : Int32))]) [2, 1, 0] rfl ?_
  exact s_Co_greatestNumber_L4 hd hQ  n8 _ _ _ hw
set_option maxRecDepth 100000 in
set_option maxHeartbeats 4000000 in
theorem s_Co_isNothing_L2 {d : Nat} (hd : 1 ≤ d + 1) {Q : Bool → Hp → Prop} {QQ : Option AV → Hp → Prop} (hQ : ∀ r9 h9, Q r9 h9 → QQ (some (ai (b2i r9))) h9) {v0 : Nat} {v1 : Int32} : ∀ (n : Nat) (v2 : Int32) (h : Hp), w_Co_isNothing_L2 Q  v0 v1 n v2 h → aW none m_Co_isNothing (d + 1) 2 [(0, ar v0), (1, ai v1), (2, ai v2)] [] h 0 0 QQ := by
  intro n
  induction n with
  | zero => intro v2 h hw; exact hw.elim
  | succ n ih =>
    intro v2 h hw
    unfold w_Co_isNothing_L2 at hw
    refine r_iload_n (j := 2) d_Co_isNothing_2 rfl ?_
    refine r_iconst d_Co_isNothing_3 kc_3 ?_
    refine r_icmp_ge d_Co_isNothing_4 (fun w9 => ?_) (fun w9 => ?_)
    · replace hw := hw.1 w9
      refine r_iconst d_Co_isNothing_24 kc_1 ?_
      exact r_zreturn d_Co_isNothing_25.1 rfl (Or.inr rfl) (hQ _ _ hw)
    · replace hw := hw.2 w9
      refine r_aload_n (j := 0) d_Co_isNothing_7 rfl ?_
      refine r_iload_n (j := 1) d_Co_isNothing_8 rfl ?_
      refine r_iload_n (j := 2) d_Co_isNothing_9 rfl ?_
      obtain ⟨q3, hw⟩ := hw
      refine r_callV (av := [ai v1, ai v2]) (rest := []) (ci := 1) d_Co_isNothing_10 mk_Co_numberOf ll_Co_47 im_Co_numberOf se_Co_numberOf rfl (nle rfl) rfl rfl (nle rfl) q3 (s_Co_numberOf  hw (fun r2 h1 hw => ?_))
      show aW none m_Co_isNothing (d + 1) 13 [(0, ar v0), (1, ai v1), (2, ai v2)] [ai r2] h1 0 0 QQ
      refine r_if_eq d_Co_isNothing_13 (fun w9 => ?_) (fun w9 => ?_)
      · replace hw := hw.1 w9
        refine r_iinc (j := 2) (ls2 := [(2, ai (v2 + (1 : Int32))), (0, ar v0), (1, ai v1)]) d_Co_isNothing_18 rfl (congrArg (HAdd.hAdd v2) kc_1) (nle rfl) rfl ?_
        refine r_goto d_Co_isNothing_21 ?_
        refine r_pick (ls2 := [(0, ar v0), (1, ai v1), (2, ai (v2 + (1 : Int32)))]) [1, 2, 0] rfl ?_
        exact ih _ _ hw
      · replace hw := hw.2 w9
        refine r_iconst d_Co_isNothing_16 kc_0 ?_
        exact r_zreturn d_Co_isNothing_17.1 rfl (Or.inl rfl) (hQ _ _ hw)
set_option maxRecDepth 100000 in
set_option maxHeartbeats 4000000 in
theorem s_Co_isNothing {d : Nat} (hd : 1 ≤ d) {v0 : Nat} {v1 : Int32} {h : Hp} {Q : Bool → Hp → Prop} {QQ : Option AV → Hp → Prop} (hw : w_Co_isNothing v0 v1 h Q) (hQ : ∀ r9 h9, Q r9 h9 → QQ (some (ai (b2i r9))) h9) : aCall m_Co_isNothing d [ar v0, ai v1] h 0 0 QQ := by
  obtain ⟨d, rfl⟩ : ∃ d9, d = d9 + 1 := ⟨d - 1, by omega⟩
  refine aCall_in pl_Co_isNothing (nle rfl) ?_
  show aW none m_Co_isNothing (d + 1) 0 [(0, ar v0), (1, ai v1)] [] h 0 0 QQ
  unfold w_Co_isNothing at hw
  refine r_iconst d_Co_isNothing_0 kc_0 ?_
  refine r_istore_n (ls2 := [(2, ai (0 : Int32)), (0, ar v0), (1, ai v1)]) d_Co_isNothing_1 (nle rfl) rfl ?_
  obtain ⟨n4, hw⟩ := hw
  refine r_pick (ls2 := [(0, ar v0), (1, ai v1), (2, ai (0 : Int32))]) [1, 2, 0] rfl ?_
  exact s_Co_isNothing_L2 hd hQ  n4 _ _ hw
set_option maxRecDepth 100000 in
set_option maxHeartbeats 4000000 in
theorem s_Co_addTo_L3 {d : Nat} (hd : 1 ≤ d + 1) {Q : Hp → Prop} {QQ : Option AV → Hp → Prop} (hQ : ∀ h9, Q h9 → QQ none h9) {v0 : Nat} {v1 : Nat} {v2 : Int32} {v3 : Int32} : ∀ (n : Nat) (v4 : Int32) (h : Hp), w_Co_addTo_L3 Q  v0 v1 v2 v3 n v4 h → aW none m_Co_addTo (d + 1) 3 [(0, ar v0), (1, ar v1), (2, ai v2), (3, ai v3), (4, ai v4)] [] h 0 0 QQ := by
  intro n
  induction n with
  | zero => intro v4 h hw; exact hw.elim
  | succ n ih =>
    intro v4 h hw
    unfold w_Co_addTo_L3 at hw
    refine r_iload (j := 4) d_Co_addTo_3 rfl ?_
    refine r_iconst d_Co_addTo_5 kc_3 ?_
    refine r_icmp_ge d_Co_addTo_6 (fun w9 => ?_) (fun w9 => ?_)
    · replace hw := hw.1 w9
      exact r_return d_Co_addTo_31.1 rfl (hQ _ hw)
    · replace hw := hw.2 w9
      refine r_aload_n (j := 1) d_Co_addTo_9 rfl ?_
      refine r_iload (j := 4) d_Co_addTo_10 rfl ?_
      refine r_dup2 d_Co_addTo_12 rfl rfl ?_
      obtain ⟨q1, hw⟩ := hw
      obtain ⟨q2, hw⟩ := hw
      refine r_iald d_Co_addTo_13 q1 q2 ?_
      refine r_iload_n (j := 3) d_Co_addTo_14 rfl ?_
      refine r_aload_n (j := 0) d_Co_addTo_15 rfl ?_
      refine r_iload_n (j := 2) d_Co_addTo_16 rfl ?_
      refine r_iload (j := 4) d_Co_addTo_17 rfl ?_
      obtain ⟨q5, hw⟩ := hw
      refine r_callV (av := [ai v2, ai v4]) (rest := [ai v3, ai (gI h v1 (ix v4)), ai v4, ar v1]) (ci := 1) d_Co_addTo_19 mk_Co_numberOf ll_Co_47 im_Co_numberOf se_Co_numberOf rfl (nle rfl) rfl rfl (nle rfl) q5 (s_Co_numberOf  hw (fun r4 h3 hw => ?_))
      show aW none m_Co_addTo (d + 1) 22 [(0, ar v0), (1, ar v1), (2, ai v2), (3, ai v3), (4, ai v4)] [ai r4, ai v3, ai (gI h v1 (ix v4)), ai v4, ar v1] h3 0 0 QQ
      refine r_imul d_Co_addTo_22 ?_
      refine r_iadd d_Co_addTo_23 ?_
      obtain ⟨q6, hw⟩ := hw
      obtain ⟨q7, hw⟩ := hw
      refine r_iast d_Co_addTo_24 q6 q7 ?_
      refine r_iinc (j := 4) (ls2 := [(4, ai (v4 + (1 : Int32))), (0, ar v0), (1, ar v1), (2, ai v2), (3, ai v3)]) d_Co_addTo_25 rfl (congrArg (HAdd.hAdd v4) kc_1) (nle rfl) rfl ?_
      refine r_goto d_Co_addTo_28 ?_
      refine r_pick (ls2 := [(0, ar v0), (1, ar v1), (2, ai v2), (3, ai v3), (4, ai (v4 + (1 : Int32)))]) [1, 2, 3, 4, 0] rfl ?_
      exact ih _ _ hw
set_option maxRecDepth 100000 in
set_option maxHeartbeats 4000000 in
theorem s_Co_addTo {d : Nat} (hd : 1 ≤ d) {v0 : Nat} {v1 : Nat} {v2 : Int32} {v3 : Int32} {h : Hp} {Q : Hp → Prop} {QQ : Option AV → Hp → Prop} (hw : w_Co_addTo v0 v1 v2 v3 h Q) (hQ : ∀ h9, Q h9 → QQ none h9) : aCall m_Co_addTo d [ar v0, ar v1, ai v2, ai v3] h 0 0 QQ := by
  obtain ⟨d, rfl⟩ : ∃ d9, d = d9 + 1 := ⟨d - 1, by omega⟩
  refine aCall_in pl_Co_addTo (nle rfl) ?_
  show aW none m_Co_addTo (d + 1) 0 [(0, ar v0), (1, ar v1), (2, ai v2), (3, ai v3)] [] h 0 0 QQ
  unfold w_Co_addTo at hw
  refine r_iconst d_Co_addTo_0 kc_0 ?_
  refine r_istore (ls2 := [(4, ai (0 : Int32)), (0, ar v0), (1, ar v1), (2, ai v2), (3, ai v3)]) d_Co_addTo_1 (nle rfl) rfl ?_
  obtain ⟨n8, hw⟩ := hw
  refine r_pick (ls2 := [(0, ar v0), (1, ar v1), (2, ai v2), (3, ai v3), (4, ai (0 : Int32))]) [1, 2, 3, 4, 0] rfl ?_
  exact s_Co_addTo_L3 hd hQ  n8 _ _ hw
set_option maxRecDepth 100000 in
set_option maxHeartbeats 4000000 in
theorem s_Co_strayAt_L6 {d : Nat} (hd : 1 ≤ d + 1) {Q : Int32 → Hp → Prop} {QQ : Option AV → Hp → Prop} (hQ : ∀ r9 h9, Q r9 h9 → QQ (some (ai r9)) h9) {v0 : Nat} {v1 : Nat} {v2 : Int32} {v3 : Int32} : ∀ (n : Nat) (v4 : Int32) (v5 : Int32) (h : Hp), w_Co_strayAt_L6 Q  v0 v1 v2 v3 n v4 v5 h → aW none m_Co_strayAt (d + 1) 6 [(0, ar v0), (1, ar v1), (2, ai v2), (3, ai v3), (4, ai v4), (5, ai v5)] [] h 0 0 QQ := by
  intro n
  induction n with
  | zero => intro v4 v5 h hw; exact hw.elim
  | succ n ih =>
    intro v4 v5 h hw
    unfold w_Co_strayAt_L6 at hw
    refine r_iload (j := 5) d_Co_strayAt_6 rfl ?_
    refine r_iconst d_Co_strayAt_8 kc_3 ?_
    refine r_icmp_ge d_Co_strayAt_9 (fun w9 => ?_) (fun w9 => ?_)
    · replace hw := hw.1 w9
      refine r_iload (j := 4) d_Co_strayAt_43 rfl ?_
      exact r_ireturn d_Co_strayAt_45.1 rfl (hQ _ _ hw)
    · replace hw := hw.2 w9
      refine r_iload (j := 4) d_Co_strayAt_12 rfl ?_
      refine r_iload_n (j := 2) d_Co_strayAt_14 rfl ?_
      refine r_aload_n (j := 1) d_Co_strayAt_15 rfl ?_
      refine r_iload (j := 5) d_Co_strayAt_16 rfl ?_
      obtain ⟨q1, hw⟩ := hw
      obtain ⟨q2, hw⟩ := hw
      refine r_iald d_Co_strayAt_18 q1 q2 ?_
      refine r_imul d_Co_strayAt_19 ?_
      refine r_iload_n (j := 3) d_Co_strayAt_20 rfl ?_
      refine r_aload_n (j := 0) d_Co_strayAt_21 rfl ?_
      refine r_iload (j := 5) d_Co_strayAt_22 rfl ?_
      obtain ⟨q5, hw⟩ := hw
      refine r_callV (av := [ai v5]) (rest := [ai v3, ai (v2 * (gI h v1 (ix v5))), ai v4]) (ci := 1) d_Co_strayAt_24 mk_Co_needOf ll_Co_50 im_Co_needOf se_Co_needOf rfl (nle rfl) rfl rfl (nle rfl) q5 (s_Co_needOf  hw (fun r4 h3 hw => ?_))
      show aW none m_Co_strayAt (d + 1) 27 [(0, ar v0), (1, ar v1), (2, ai v2), (3, ai v3), (4, ai v4), (5, ai v5)] [ai r4, ai v3, ai (v2 * (gI h v1 (ix v5))), ai v4] h3 0 0 QQ
      refine r_imul d_Co_strayAt_27 ?_
      refine r_isub d_Co_strayAt_28 ?_
      refine r_callS (av := [ai ((v2 * (gI h v1 (ix v5))) - (v3 * r4))]) (rest := [ai v4]) d_Co_strayAt_29 mk_JM_abs ll_Co_37 st_JM_abs rfl rfl (nle rfl) (s_JM_abs  hw (fun r7 h6 hw => ?_))
      show aW none m_Co_strayAt (d + 1) 32 [(0, ar v0), (1, ar v1), (2, ai v2), (3, ai v3), (4, ai v4), (5, ai v5)] [ai r7, ai v4] h6 0 0 QQ
      refine r_callS (av := [ai v4, ai r7]) (rest := []) d_Co_strayAt_32 mk_JM_max ll_Co_43 st_JM_max rfl rfl (nle rfl) (s_JM_max  hw (fun r9 h8 hw => ?_))
      show aW none m_Co_strayAt (d + 1) 35 [(0, ar v0), (1, ar v1), (2, ai v2), (3, ai v3), (4, ai v4), (5, ai v5)] [ai r9] h8 0 0 QQ
      refine r_istore (ls2 := [(4, ai r9), (0, ar v0), (1, ar v1), (2, ai v2), (3, ai v3), (5, ai v5)]) d_Co_strayAt_35 (nle rfl) rfl ?_
      refine r_iinc (j := 5) (ls2 := [(5, ai (v5 + (1 : Int32))), (4, ai r9), (0, ar v0), (1, ar v1), (2, ai v2), (3, ai v3)]) d_Co_strayAt_37 rfl (congrArg (HAdd.hAdd v5) kc_1) (nle rfl) rfl ?_
      refine r_goto d_Co_strayAt_40 ?_
      refine r_pick (ls2 := [(0, ar v0), (1, ar v1), (2, ai v2), (3, ai v3), (4, ai r9), (5, ai (v5 + (1 : Int32)))]) [2, 3, 4, 5, 1, 0] rfl ?_
      exact ih _ _ _ hw
set_option maxRecDepth 100000 in
set_option maxHeartbeats 4000000 in
theorem s_Co_strayAt {d : Nat} (hd : 1 ≤ d) {v0 : Nat} {v1 : Nat} {v2 : Int32} {v3 : Int32} {h : Hp} {Q : Int32 → Hp → Prop} {QQ : Option AV → Hp → Prop} (hw : w_Co_strayAt v0 v1 v2 v3 h Q) (hQ : ∀ r9 h9, Q r9 h9 → QQ (some (ai r9)) h9) : aCall m_Co_strayAt d [ar v0, ar v1, ai v2, ai v3] h 0 0 QQ := by
  obtain ⟨d, rfl⟩ : ∃ d9, d = d9 + 1 := ⟨d - 1, by omega⟩
  refine aCall_in pl_Co_strayAt (nle rfl) ?_
  show aW none m_Co_strayAt (d + 1) 0 [(0, ar v0), (1, ar v1), (2, ai v2), (3, ai v3)] [] h 0 0 QQ
  unfold w_Co_strayAt at hw
  refine r_iconst d_Co_strayAt_0 kc_0 ?_
  refine r_istore (ls2 := [(4, ai (0 : Int32)), (0, ar v0), (1, ar v1), (2, ai v2), (3, ai v3)]) d_Co_strayAt_1 (nle rfl) rfl ?_
  refine r_iconst d_Co_strayAt_3 kc_0 ?_
  refine r_istore (ls2 := [(5, ai (0 : Int32)), (4, ai (0 : Int32)), (0, ar v0), (1, ar v1), (2, ai v2), (3, ai v3)]) d_Co_strayAt_4 (nle rfl) rfl ?_
  obtain ⟨n10, hw⟩ := hw
  refine r_pick (ls2 := [(0, ar v0), (1, ar v1), (2, ai v2), (3, ai v3), (4, ai (0 : Int32)), (5, ai (0 : Int32))]) [2, 3, 4, 5, 1, 0] rfl ?_
  exact s_Co_strayAt_L6 hd hQ  n10 _ _ _ hw
set_option maxRecDepth 100000 in
set_option maxHeartbeats 4000000 in
theorem s_Co_farFromNeed_L4 {d : Nat} (hd : 1 ≤ d + 1) {Q : Int32 → Hp → Prop} {QQ : Option AV → Hp → Prop} (hQ : ∀ r9 h9, Q r9 h9 → QQ (some (ai r9)) h9) {v0 : Nat} {v1 : Nat} : ∀ (n : Nat) (v2 : Int32) (v3 : Int32) (h : Hp), w_Co_farFromNeed_L4 Q  v0 v1 n v2 v3 h → aW none m_Co_farFromNeed (d + 1) 4 [(0, ar v0), (1, ar v1), (2, ai v2), (3, ai v3)] [] h 0 0 QQ := by
  intro n
  induction n with
  | zero => intro v2 v3 h hw; exact hw.elim
  | succ n ih =>
    intro v2 v3 h hw
    unfold w_Co_farFromNeed_L4 at hw
    refine r_iload_n (j := 3) d_Co_farFromNeed_4 rfl ?_
    refine r_iconst d_Co_farFromNeed_5 kc_3 ?_
    refine r_icmp_ge d_Co_farFromNeed_6 (fun w9 => ?_) (fun w9 => ?_)
    · replace hw := hw.1 w9
      refine r_iload_n (j := 2) d_Co_farFromNeed_30 rfl ?_
      exact r_ireturn d_Co_farFromNeed_31.1 rfl (hQ _ _ hw)
    · replace hw := hw.2 w9
      refine r_iload_n (j := 2) d_Co_farFromNeed_9 rfl ?_
      refine r_aload_n (j := 1) d_Co_farFromNeed_10 rfl ?_
      refine r_iload_n (j := 3) d_Co_farFromNeed_11 rfl ?_
      obtain ⟨q1, hw⟩ := hw
      obtain ⟨q2, hw⟩ := hw
      refine r_iald d_Co_farFromNeed_12 q1 q2 ?_
      refine r_aload_n (j := 0) d_Co_farFromNeed_13 rfl ?_
      refine r_iload_n (j := 3) d_Co_farFromNeed_14 rfl ?_
      obtain ⟨q5, hw⟩ := hw
      refine r_callV (av := [ai v3]) (rest := [ai (gI h v1 (ix v3)), ai v2]) (ci := 1) d_Co_farFromNeed_15 mk_Co_needOf ll_Co_50 im_Co_needOf se_Co_needOf rfl (nle rfl) rfl rfl (nle rfl) q5 (s_Co_needOf  hw (fun r4 h3 hw => ?_))
      show aW none m_Co_farFromNeed (d + 1) 18 [(0, ar v0), (1, ar v1), (2, ai v2), (3, ai v3)] [ai r4, ai (gI h v1 (ix v3)), ai v2] h3 0 0 QQ
      refine r_isub d_Co_farFromNeed_18 ?_
      refine r_callS (av := [ai ((gI h v1 (ix v3)) - r4)]) (rest := [ai v2]) d_Co_farFromNeed_19 mk_JM_abs ll_Co_37 st_JM_abs rfl rfl (nle rfl) (s_JM_abs  hw (fun r7 h6 hw => ?_))
      show aW none m_Co_farFromNeed (d + 1) 22 [(0, ar v0), (1, ar v1), (2, ai v2), (3, ai v3)] [ai r7, ai v2] h6 0 0 QQ
      refine r_iadd d_Co_farFromNeed_22 ?_
      refine r_istore_n (ls2 := [(2, ai (v2 + r7)), (0, ar v0), (1, ar v1), (3, ai v3)]) d_Co_farFromNeed_23 (nle rfl) rfl ?_
      refine r_iinc (j := 3) (ls2 := [(3, ai (v3 + (1 : Int32))), (2, ai (v2 + r7)), (0, ar v0), (1, ar v1)]) d_Co_farFromNeed_24 rfl (congrArg (HAdd.hAdd v3) kc_1) (nle rfl) rfl ?_
      refine r_goto d_Co_farFromNeed_27 ?_
      refine r_pick (ls2 := [(0, ar v0), (1, ar v1), (2, ai (v2 + r7)), (3, ai (v3 + (1 : Int32)))]) [2, 3, 1, 0] rfl ?_
      exact ih _ _ _ hw
set_option maxRecDepth 100000 in
set_option maxHeartbeats 4000000 in
theorem s_Co_farFromNeed {d : Nat} (hd : 1 ≤ d) {v0 : Nat} {v1 : Nat} {h : Hp} {Q : Int32 → Hp → Prop} {QQ : Option AV → Hp → Prop} (hw : w_Co_farFromNeed v0 v1 h Q) (hQ : ∀ r9 h9, Q r9 h9 → QQ (some (ai r9)) h9) : aCall m_Co_farFromNeed d [ar v0, ar v1] h 0 0 QQ := by
  obtain ⟨d, rfl⟩ : ∃ d9, d = d9 + 1 := ⟨d - 1, by omega⟩
  refine aCall_in pl_Co_farFromNeed (nle rfl) ?_
  show aW none m_Co_farFromNeed (d + 1) 0 [(0, ar v0), (1, ar v1)] [] h 0 0 QQ
  unfold w_Co_farFromNeed at hw
  refine r_iconst d_Co_farFromNeed_0 kc_0 ?_
  refine r_istore_n (ls2 := [(2, ai (0 : Int32)), (0, ar v0), (1, ar v1)]) d_Co_farFromNeed_1 (nle rfl) rfl ?_
  refine r_iconst d_Co_farFromNeed_2 kc_0 ?_
  refine r_istore_n (ls2 := [(3, ai (0 : Int32)), (2, ai (0 : Int32)), (0, ar v0), (1, ar v1)]) d_Co_farFromNeed_3 (nle rfl) rfl ?_
  obtain ⟨n8, hw⟩ := hw
  refine r_pick (ls2 := [(0, ar v0), (1, ar v1), (2, ai (0 : Int32)), (3, ai (0 : Int32))]) [2, 3, 1, 0] rfl ?_
  exact s_Co_farFromNeed_L4 hd hQ  n8 _ _ _ hw
set_option maxRecDepth 100000 in
set_option maxHeartbeats 4000000 in
theorem s_Co_heldSums_L7 {d : Nat} (hd : 2 ≤ d + 1) {Q : Hp → Prop} {QQ : Option AV → Hp → Prop} (hQ : ∀ h9, Q h9 → QQ none h9) {v0 : Nat} {v1 : Nat} : ∀ (n : Nat) (v2 : Int32) (h : Hp), w_Co_heldSums_L7 Q  v0 v1 n v2 h → aW none m_Co_heldSums (d + 1) 7 [(0, ar v0), (1, ar v1), (2, ai v2)] [] h 0 0 QQ := by
  intro n
  induction n with
  | zero => intro v2 h hw; exact hw.elim
  | succ n ih =>
    intro v2 h hw
    unfold w_Co_heldSums_L7 at hw
    refine r_iload_n (j := 2) d_Co_heldSums_7 rfl ?_
    refine r_aload_n (j := 0) d_Co_heldSums_8 rfl ?_
    obtain ⟨q2, hw⟩ := hw
    refine r_getI d_Co_heldSums_9 ok_1 (nle rfl) (nle rfl) rfl lf_Co_25 q2 ?_
    refine r_icmp_ge d_Co_heldSums_12 (fun w9 => ?_) (fun w9 => ?_)
    · replace hw := hw.1 w9
      exact r_return d_Co_heldSums_32.1 rfl (hQ _ hw)
    · replace hw := hw.2 w9
      refine r_aload_n (j := 0) d_Co_heldSums_15 rfl ?_
      refine r_aload_n (j := 1) d_Co_heldSums_16 rfl ?_
      refine r_iload_n (j := 2) d_Co_heldSums_17 rfl ?_
      refine r_aload_n (j := 0) d_Co_heldSums_18 rfl ?_
      refine r_iload_n (j := 2) d_Co_heldSums_19 rfl ?_
      refine r_callV (av := [ai v2]) (rest := [ai v2, ar v1, ar v0]) (ci := 1) d_Co_heldSums_20 mk_Co_heldOf ll_Co_53 im_Co_heldOf se_Co_heldOf rfl (nle rfl) rfl rfl (nle rfl) q2 (s_Co_heldOf  hw (fun r4 h3 hw => ?_))
      show aW none m_Co_heldSums (d + 1) 23 [(0, ar v0), (1, ar v1), (2, ai v2)] [ai r4, ai v2, ar v1, ar v0] h3 0 0 QQ
      obtain ⟨q6, hw⟩ := hw
      refine r_callV (av := [ar v1, ai v2, ai r4]) (rest := []) (ci := 1) d_Co_heldSums_23 mk_Co_addTo ll_Co_56 im_Co_addTo se_Co_addTo rfl (nle rfl) rfl rfl (nle rfl) q6 (s_Co_addTo (by omega) hw (fun h5 hw => ?_))
      show aW none m_Co_heldSums (d + 1) 26 [(0, ar v0), (1, ar v1), (2, ai v2)] [] h5 0 0 QQ
      refine r_iinc (j := 2) (ls2 := [(2, ai (v2 + (1 : Int32))), (0, ar v0), (1, ar v1)]) d_Co_heldSums_26 rfl (congrArg (HAdd.hAdd v2) kc_1) (nle rfl) rfl ?_
      refine r_goto d_Co_heldSums_29 ?_
      refine r_pick (ls2 := [(0, ar v0), (1, ar v1), (2, ai (v2 + (1 : Int32)))]) [1, 2, 0] rfl ?_
      exact ih _ _ hw
