set_option maxRecDepth 100000 in
set_option maxHeartbeats 4000000 in
theorem s_Ac_init {d : Nat} (hd : 1 ≤ d) {v0 : Nat} {bc bs : Nat} {h : Hp} {Q : Hp → Prop} {QQ : Option AV → Hp → Prop} (hw : w_Ac_init bc bs v0 h Q) (hQ : ∀ h9, Q h9 → QQ none h9) : aCall m_Ac_init d [ar v0] h bc bs QQ := by
  obtain ⟨d, rfl⟩ : ∃ d9, d = d9 + 1 := ⟨d - 1, by omega⟩
  refine aCall_in pl_Ac_init (nle rfl) ?_
  show aW none m_Ac_init (d + 1) 0 [(0, ar v0)] [] h bc bs QQ
  unfold w_Ac_init at hw
  refine r_aload_n (j := 0) d_Ac_init_0 rfl ?_
  obtain ⟨q1, hw⟩ := hw
  refine r_objInit d_Ac_init_1 ll_Ac_3 oi_1 oi_2 (nle rfl) q1 ?_
  refine r_aload_n (j := 0) d_Ac_init_4 rfl ?_
  refine r_bipush d_Ac_init_5 kb_20 ?_
  obtain ⟨q2, hw⟩ := hw
  obtain ⟨b3, t4, u8, u9, u6, u7, hw⟩ := hw
  subst u8 u9
  refine r_newI d_Ac_init_7 ac_I u6 rfl u7 (refB_r q2 refB_n) (refL_r q2 refL_n) ?_
  generalize e8 : nw h 20 (ix (20 : Int32)) = h5 at hw ⊢
  generalize e7 : gX h = a6 at hw ⊢
  replace hw := hw a6 h5 e7.symm e8.symm
  obtain ⟨q7, hw⟩ := hw
  obtain ⟨q8, hw⟩ := hw
  refine r_putFR d_Ac_init_9 ok_0 (nle rfl) (nle rfl) rfl lf_Ac_11 rfl rfl rfl q7 q8 ?_
  refine r_aload_n (j := 0) d_Ac_init_12 rfl ?_
  refine r_bipush d_Ac_init_13 kb_20 ?_
  obtain ⟨q9, hw⟩ := hw
  obtain ⟨b10, t11, u8, u9, u6, u7, hw⟩ := hw
  subst u8 u9
  refine r_newI d_Ac_init_15 ac_I u6 rfl u7 (refB_r q9 refB_n) (refL_r q9 refL_n) ?_
  generalize e8 : nw (sR h5 v0 0 a6) 20 (ix (20 : Int32)) = h12 at hw ⊢
  generalize e7 : gX (sR h5 v0 0 a6) = a13 at hw ⊢
  replace hw := hw a13 h12 e7.symm e8.symm
  obtain ⟨q14, hw⟩ := hw
  obtain ⟨q15, hw⟩ := hw
  refine r_putFR d_Ac_init_17 ok_0 (nle rfl) (nle rfl) rfl lf_Ac_15 rfl rfl rfl q14 q15 ?_
  refine r_aload_n (j := 0) d_Ac_init_20 rfl ?_
  refine r_bipush d_Ac_init_21 kb_20 ?_
  obtain ⟨q16, hw⟩ := hw
  obtain ⟨b17, t18, u8, u9, u6, u7, hw⟩ := hw
  subst u8 u9
  refine r_newI d_Ac_init_23 ac_I u6 rfl u7 (refB_r q16 refB_n) (refL_r q16 refL_n) ?_
  generalize e8 : nw (sR h12 v0 1 a13) 20 (ix (20 : Int32)) = h19 at hw ⊢
  generalize e7 : gX (sR h12 v0 1 a13) = a20 at hw ⊢
  replace hw := hw a20 h19 e7.symm e8.symm
  obtain ⟨q21, hw⟩ := hw
  obtain ⟨q22, hw⟩ := hw
  refine r_putFR d_Ac_init_25 ok_0 (nle rfl) (nle rfl) rfl lf_Ac_18 rfl rfl rfl q21 q22 ?_
  refine r_aload_n (j := 0) d_Ac_init_28 rfl ?_
  refine r_sipush d_Ac_init_29 ks_160 ?_
  obtain ⟨q23, hw⟩ := hw
  obtain ⟨b24, t25, u8, u9, u6, u7, hw⟩ := hw
  subst u8 u9
  refine r_newI d_Ac_init_32 ac_I u6 rfl u7 (refB_r q23 refB_n) (refL_r q23 refL_n) ?_
  generalize e8 : nw (sR h19 v0 2 a20) 20 (ix (160 : Int32)) = h26 at hw ⊢
  generalize e7 : gX (sR h19 v0 2 a20) = a27 at hw ⊢
  replace hw := hw a27 h26 e7.symm e8.symm
  obtain ⟨q28, hw⟩ := hw
  obtain ⟨q29, hw⟩ := hw
  refine r_putFR d_Ac_init_34 ok_0 (nle rfl) (nle rfl) rfl lf_Ac_21 rfl rfl rfl q28 q29 ?_
  exact r_return d_Ac_init_37.1 rfl (hQ _ hw)
set_option maxRecDepth 100000 in
set_option maxHeartbeats 4000000 in
theorem s_Ac_forget {d : Nat} {v0 : Nat} {h : Hp} {Q : Hp → Prop} {QQ : Option AV → Hp → Prop} (hw : w_Ac_forget v0 h Q) (hQ : ∀ h9, Q h9 → QQ none h9) : aCall m_Ac_forget d [ar v0] h 0 0 QQ := by
  refine aCall_in pl_Ac_forget (nle rfl) ?_
  show aW none m_Ac_forget d 0 [(0, ar v0)] [] h 0 0 QQ
  unfold w_Ac_forget at hw
  refine r_aload_n (j := 0) d_Ac_forget_0 rfl ?_
  refine r_iconst d_Ac_forget_1 kc_0 ?_
  obtain ⟨q1, hw⟩ := hw
  refine r_putI d_Ac_forget_2 ok_0 (nle rfl) (nle rfl) rfl lf_Ac_24 rfl q1 ?_
  refine r_aload_n (j := 0) d_Ac_forget_5 rfl ?_
  refine r_iconst d_Ac_forget_6 kc_0 ?_
  refine r_putI d_Ac_forget_7 ok_0 (nle rfl) (nle rfl) rfl lf_Ac_28 rfl q1 ?_
  refine r_aload_n (j := 0) d_Ac_forget_10 rfl ?_
  refine r_iconst d_Ac_forget_11 kc_0 ?_
  refine r_putI d_Ac_forget_12 ok_0 (nle rfl) (nle rfl) rfl lf_Ac_31 rfl q1 ?_
  exact r_return d_Ac_forget_15.1 rfl (hQ _ hw)
set_option maxRecDepth 100000 in
set_option maxHeartbeats 4000000 in
theorem s_Ac_latest {d : Nat} {v0 : Nat} {h : Hp} {Q : Int32 → Hp → Prop} {QQ : Option AV → Hp → Prop} (hw : w_Ac_latest v0 h Q) (hQ : ∀ r9 h9, Q r9 h9 → QQ (some (ai r9)) h9) : aCall m_Ac_latest d [ar v0] h 0 0 QQ := by
  refine aCall_in pl_Ac_latest (nle rfl) ?_
  show aW none m_Ac_latest d 0 [(0, ar v0)] [] h 0 0 QQ
  unfold w_Ac_latest at hw
  refine r_aload_n (j := 0) d_Ac_latest_0 rfl ?_
  obtain ⟨q1, hw⟩ := hw
  refine r_getI d_Ac_latest_1 ok_0 (nle rfl) (nle rfl) rfl lf_Ac_24 q1 ?_
  refine r_aload_n (j := 0) d_Ac_latest_4 rfl ?_
  refine r_getI d_Ac_latest_5 ok_0 (nle rfl) (nle rfl) rfl lf_Ac_28 q1 ?_
  refine r_iadd d_Ac_latest_8 ?_
  refine r_bipush d_Ac_latest_9 kb_20 ?_
  refine r_iadd d_Ac_latest_11 ?_
  refine r_iconst d_Ac_latest_12 kc_1 ?_
  refine r_isub d_Ac_latest_13 ?_
  refine r_bipush d_Ac_latest_14 kb_20 ?_
  refine r_irem d_Ac_latest_16 (by decide) ?_
  exact r_ireturn d_Ac_latest_17.1 rfl (hQ _ _ hw)
set_option maxRecDepth 100000 in
set_option maxHeartbeats 4000000 in
theorem s_Ac_keep_B40 {d : Nat} (hd : 1 ≤ d + 1) {Q : Hp → Prop} {QQ : Option AV → Hp → Prop} (hQ : ∀ h9, Q h9 → QQ none h9) {v0 : Nat} {v1 : Int32} {v2 : Int32} {v3 : Int32} {h : Hp} (hw : w_Ac_keep_B40 Q  v0 v1 v2 v3 h) : aW none m_Ac_keep (d + 1) 40 [(0, ar v0), (1, ai v1), (2, ai v2), (3, ai v3)] [] h 0 0 QQ := by
  unfold w_Ac_keep_B40 at hw
  refine r_aload_n (j := 0) d_Ac_keep_40 rfl ?_
  obtain ⟨q4, hw⟩ := hw
  refine r_callV (av := []) (rest := []) (ci := 0) d_Ac_keep_41 mk_Ac_latest ll_Ac_34 im_Ac_latest se_Ac_latest rfl (nle rfl) rfl rfl (nle rfl) q4 (s_Ac_latest  hw (fun r3 h2 hw => ?_))
  show aW none m_Ac_keep (d + 1) 44 [(0, ar v0), (1, ai v1), (2, ai v2), (3, ai v3)] [ai r3] h2 0 0 QQ
  refine r_istore (ls2 := [(4, ai r3), (0, ar v0), (1, ai v1), (2, ai v2), (3, ai v3)]) d_Ac_keep_44 (nle rfl) rfl ?_
  refine r_aload_n (j := 1) d_Ac_keep_46 rfl ?_
  obtain ⟨q5, hw⟩ := hw
  refine r_getR d_Ac_keep_47 ok_0 (nle rfl) (nle rfl) rfl lf_Ac_11 q5 ?_
  refine r_iload (j := 0) d_Ac_keep_50 rfl ?_
  refine r_iload_n (j := 2) d_Ac_keep_52 rfl ?_
  obtain ⟨q6, hw⟩ := hw
  obtain ⟨q7, hw⟩ := hw
  refine r_iast d_Ac_keep_53 q6 q7 ?_
  refine r_aload_n (j := 1) d_Ac_keep_54 rfl ?_
  refine r_getR d_Ac_keep_55 ok_0 (nle rfl) (nle rfl) rfl lf_Ac_15 q5 ?_
  refine r_iload (j := 0) d_Ac_keep_58 rfl ?_
  refine r_iload_n (j := 3) d_Ac_keep_60 rfl ?_
  obtain ⟨q8, hw⟩ := hw
  obtain ⟨q9, hw⟩ := hw
  refine r_iast d_Ac_keep_61 q8 q9 ?_
  refine r_aload_n (j := 1) d_Ac_keep_62 rfl ?_
  refine r_getR d_Ac_keep_63 ok_0 (nle rfl) (nle rfl) rfl lf_Ac_18 q5 ?_
  refine r_iload (j := 0) d_Ac_keep_66 rfl ?_
  refine r_iload_n (j := 4) d_Ac_keep_68 rfl ?_
  obtain ⟨q10, hw⟩ := hw
  obtain ⟨q11, hw⟩ := hw
  refine r_iast d_Ac_keep_69 q10 q11 ?_
  exact r_return d_Ac_keep_70.1 rfl (hQ _ hw)
set_option maxRecDepth 100000 in
set_option maxHeartbeats 4000000 in
theorem s_Ac_keep {d : Nat} (hd : 1 ≤ d) {v0 : Nat} {v1 : Int32} {v2 : Int32} {v3 : Int32} {h : Hp} {Q : Hp → Prop} {QQ : Option AV → Hp → Prop} (hw : w_Ac_keep v0 v1 v2 v3 h Q) (hQ : ∀ h9, Q h9 → QQ none h9) : aCall m_Ac_keep d [ar v0, ai v1, ai v2, ai v3] h 0 0 QQ := by
  obtain ⟨d, rfl⟩ : ∃ d9, d = d9 + 1 := ⟨d - 1, by omega⟩
  refine aCall_in pl_Ac_keep (nle rfl) ?_
  show aW none m_Ac_keep (d + 1) 0 [(0, ar v0), (1, ai v1), (2, ai v2), (3, ai v3)] [] h 0 0 QQ
  unfold w_Ac_keep at hw
  refine r_aload_n (j := 0) d_Ac_keep_0 rfl ?_
  refine r_iconst d_Ac_keep_1 kc_0 ?_
  obtain ⟨q1, hw⟩ := hw
  refine r_putI d_Ac_keep_2 ok_0 (nle rfl) (nle rfl) rfl lf_Ac_31 rfl q1 ?_
  refine r_aload_n (j := 0) d_Ac_keep_5 rfl ?_
  refine r_getI d_Ac_keep_6 ok_0 (nle rfl) (nle rfl) rfl lf_Ac_28 q1 ?_
  refine r_bipush d_Ac_keep_9 kb_20 ?_
  refine r_icmp_ge d_Ac_keep_11 (fun w9 => ?_) (fun w9 => ?_)
  · replace hw := hw.1 w9
    refine r_aload_n (j := 0) d_Ac_keep_27 rfl ?_
    refine r_aload_n (j := 0) d_Ac_keep_28 rfl ?_
    refine r_getI d_Ac_keep_29 ok_0 (nle rfl) (nle rfl) rfl lf_Ac_24 q1 ?_
    refine r_iconst d_Ac_keep_32 kc_1 ?_
    refine r_iadd d_Ac_keep_33 ?_
    refine r_bipush d_Ac_keep_34 kb_20 ?_
    refine r_irem d_Ac_keep_36 (by decide) ?_
    refine r_putI d_Ac_keep_37 ok_0 (nle rfl) (nle rfl) rfl lf_Ac_24 rfl q1 ?_
    exact s_Ac_keep_B40 hd hQ  hw
  · replace hw := hw.2 w9
    refine r_aload_n (j := 0) d_Ac_keep_14 rfl ?_
    refine r_dup d_Ac_keep_15 rfl ?_
    refine r_getI d_Ac_keep_16 ok_0 (nle rfl) (nle rfl) rfl lf_Ac_28 q1 ?_
    refine r_iconst d_Ac_keep_19 kc_1 ?_
    refine r_iadd d_Ac_keep_20 ?_
    refine r_putI d_Ac_keep_21 ok_0 (nle rfl) (nle rfl) rfl lf_Ac_28 rfl q1 ?_
    refine r_goto d_Ac_keep_24 ?_
    exact s_Ac_keep_B40 hd hQ  hw
set_option maxRecDepth 100000 in
set_option maxHeartbeats 4000000 in
theorem s_Ex_times_L10 {d : Nat} {Q : Int32 → Hp → Prop} {QQ : Option AV → Hp → Prop} (hQ : ∀ r9 h9, Q r9 h9 → QQ (some (ai r9)) h9) {v2 : Int32} : ∀ (n : Nat) (v3 : Int32) (v4 : Int32) (h : Hp), w_Ex_times_L10 Q  v2 n v3 v4 h → aW none m_Ex_times d 10 [(2, ai v2), (3, ai v3), (4, ai v4)] [] h 0 0 QQ := by
  intro n
  induction n with
  | zero => intro v3 v4 h hw; exact hw.elim
  | succ n ih =>
    intro v3 v4 h hw
    unfold w_Ex_times_L10 at hw
    refine r_iload (j := 2) d_Ex_times_10 rfl ?_
    refine r_if_le d_Ex_times_12 (fun w9 => ?_) (fun w9 => ?_)
    · replace hw := hw.1 w9
      refine r_iload_n (j := 1) d_Ex_times_38 rfl ?_
      exact r_ireturn d_Ex_times_39.1 rfl (hQ _ _ hw)
    · replace hw := hw.2 w9
      refine r_iload (j := 2) d_Ex_times_15 rfl ?_
      refine r_bipush d_Ex_times_17 kb_15 ?_
      refine r_iand d_Ex_times_19 ?_
      refine r_iload_n (j := 0) d_Ex_times_20 rfl ?_
      refine r_iconst d_Ex_times_21 kc_1 ?_
      refine r_iadd d_Ex_times_22 ?_
      refine r_icmp_ne d_Ex_times_23 (fun w9 => ?_) (fun w9 => ?_)
      · replace hw := hw.2 w9
        refine r_iload (j := 2) d_Ex_times_29 rfl ?_
        refine r_iconst d_Ex_times_31 kc_4 ?_
        refine r_ishr d_Ex_times_32 ?_
        refine r_istore (ls2 := [(4, ai (jshr v4 (4 : Int32))), (2, ai v2), (3, ai v3)]) d_Ex_times_33 (nle rfl) rfl ?_
        refine r_goto d_Ex_times_35 ?_
        refine r_pick (ls2 := [(2, ai v2), (3, ai v3), (4, ai (jshr v4 (4 : Int32)))]) [1, 2, 0] rfl ?_
        exact ih _ _ _ hw
      · replace hw := hw.1 w9
        refine r_iinc (j := 1) (ls2 := [(3, ai (v3 + (1 : Int32))), (2, ai v2), (4, ai v4)]) d_Ex_times_26 rfl (congrArg (HAdd.hAdd v3) kc_1) (nle rfl) rfl ?_
        refine r_iload (j := 2) d_Ex_times_29 rfl ?_
        refine r_iconst d_Ex_times_31 kc_4 ?_
        refine r_ishr d_Ex_times_32 ?_
        refine r_istore (ls2 := [(4, ai (jshr v4 (4 : Int32))), (3, ai (v3 + (1 : Int32))), (2, ai v2)]) d_Ex_times_33 (nle rfl) rfl ?_
        refine r_goto d_Ex_times_35 ?_
        refine r_pick (ls2 := [(2, ai v2), (3, ai (v3 + (1 : Int32))), (4, ai (jshr v4 (4 : Int32)))]) [2, 1, 0] rfl ?_
        exact ih _ _ _ hw
set_option maxRecDepth 100000 in
set_option maxHeartbeats 4000000 in
theorem s_Ex_times {d : Nat} {v0 : Nat} {v1 : Int32} {v2 : Int32} {h : Hp} {Q : Int32 → Hp → Prop} {QQ : Option AV → Hp → Prop} (hw : w_Ex_times v0 v1 v2 h Q) (hQ : ∀ r9 h9, Q r9 h9 → QQ (some (ai r9)) h9) : aCall m_Ex_times d [ar v0, ai v1, ai v2] h 0 0 QQ := by
  refine aCall_in pl_Ex_times (nle rfl) ?_
  show aW none m_Ex_times d 0 [(0, ar v0), (1, ai v1), (2, ai v2)] [] h 0 0 QQ
  unfold w_Ex_times at hw
  refine r_iconst d_Ex_times_0 kc_0 ?_
  refine r_istore_n (ls2 := [(3, ai (0 : Int32)), (0, ar v0), (1, ai v1), (2, ai v2)]) d_Ex_times_1 (nle rfl) rfl ?_
  refine r_aload_n (j := 1) d_Ex_times_2 rfl ?_
  obtain ⟨q1, hw⟩ := hw
  refine r_getR d_Ex_times_3 ok_4 (nle rfl) (nle rfl) rfl lf_Ex_15 q1 ?_
  refine r_iload_n (j := 2) d_Ex_times_6 rfl ?_
  obtain ⟨q2, hw⟩ := hw
  obtain ⟨q3, hw⟩ := hw
  refine r_iald d_Ex_times_7 q2 q3 ?_
  refine r_istore (ls2 := [(4, ai (gI h (gR h v0 2) (ix v1))), (3, ai (0 : Int32)), (0, ar v0), (1, ai v1), (2, ai v2)]) d_Ex_times_8 (nle rfl) rfl ?_
  obtain ⟨n4, hw⟩ := hw
  refine r_pick (ls2 := [(2, ai v2), (3, ai (0 : Int32)), (4, ai (gI h (gR h v0 2) (ix v1)))]) [4, 1, 0] rfl ?_
  exact s_Ex_times_L10 hQ  n4 _ _ _ hw
set_option maxRecDepth 100000 in
set_option maxHeartbeats 4000000 in
theorem s_Ex_shiftOf {d : Nat} (hd : 1 ≤ d) {v0 : Nat} {v1 : Int32} {h : Hp} {Q : Int32 → Hp → Prop} {QQ : Option AV → Hp → Prop} (hw : w_Ex_shiftOf v0 v1 h Q) (hQ : ∀ r9 h9, Q r9 h9 → QQ (some (ai r9)) h9) : aCall m_Ex_shiftOf d [ar v0, ai v1] h 0 0 QQ := by
  obtain ⟨d, rfl⟩ : ∃ d9, d = d9 + 1 := ⟨d - 1, by omega⟩
  refine aCall_in pl_Ex_shiftOf (nle rfl) ?_
  show aW none m_Ex_shiftOf (d + 1) 0 [(0, ar v0), (1, ai v1)] [] h 0 0 QQ
  unfold w_Ex_shiftOf at hw
  refine r_aload_n (j := 0) d_Ex_shiftOf_0 rfl ?_
  refine r_aload_n (j := 0) d_Ex_shiftOf_1 rfl ?_
  obtain ⟨q1, hw⟩ := hw
  refine r_getI d_Ex_shiftOf_2 ok_4 (nle rfl) (nle rfl) rfl lf_Ex_54 q1 ?_
  refine r_iload_n (j := 1) d_Ex_shiftOf_5 rfl ?_
  refine r_callV (av := [ai (gI h v0 12), ai v1]) (rest := []) (ci := 4) d_Ex_shiftOf_6 mk_Ex_times ll_Ex_57 im_Ex_times se_Ex_times rfl (nle rfl) rfl rfl (nle rfl) q1 (s_Ex_times  hw (fun r3 h2 hw => ?_))
  show aW none m_Ex_shiftOf (d + 1) 9 [(0, ar v0), (1, ai v1)] [ai r3] h2 0 0 QQ
  refine r_aload_n (j := 0) d_Ex_shiftOf_9 rfl ?_
  refine r_aload_n (j := 0) d_Ex_shiftOf_10 rfl ?_
  obtain ⟨q4, hw⟩ := hw
  refine r_getI d_Ex_shiftOf_11 ok_4 (nle rfl) (nle rfl) rfl lf_Ex_61 q4 ?_
  refine r_iload_n (j := 1) d_Ex_shiftOf_14 rfl ?_
  refine r_callV (av := [ai (gI h2 v0 11), ai v1]) (rest := [ai r3]) (ci := 4) d_Ex_shiftOf_15 mk_Ex_times ll_Ex_57 im_Ex_times se_Ex_times rfl (nle rfl) rfl rfl (nle rfl) q4 (s_Ex_times  hw (fun r6 h5 hw => ?_))
  show aW none m_Ex_shiftOf (d + 1) 18 [(0, ar v0), (1, ai v1)] [ai r6, ai r3] h5 0 0 QQ
  refine r_isub d_Ex_shiftOf_18 ?_
  exact r_ireturn d_Ex_shiftOf_19.1 rfl (hQ _ _ hw)
set_option maxRecDepth 100000 in
set_option maxHeartbeats 4000000 in
theorem s_Ac_keepShifts_L14 {d : Nat} (hd : 2 ≤ d + 1) {Q : Hp → Prop} {QQ : Option AV → Hp → Prop} (hQ : ∀ h9, Q h9 → QQ none h9) {v0 : Nat} {v1 : Nat} {v2 : Int32} : ∀ (n : Nat) (v3 : Int32) (h : Hp), w_Ac_keepShifts_L14 Q  v0 v1 v2 n v3 h → aW none m_Ac_keepShifts (d + 1) 14 [(0, ar v0), (1, ar v1), (2, ai v2), (3, ai v3)] [] h 0 0 QQ := by
  intro n
  induction n with
  | zero => intro v3 h hw; exact hw.elim
  | succ n ih =>
    intro v3 h hw
    unfold w_Ac_keepShifts_L14 at hw
    refine r_iload_n (j := 3) d_Ac_keepShifts_14 rfl ?_
    refine r_bipush d_Ac_keepShifts_15 kb_8 ?_
    refine r_icmp_ge d_Ac_keepShifts_17 (fun w9 => ?_) (fun w9 => ?_)
    · replace hw := hw.1 w9
      exact r_return d_Ac_keepShifts_42.1 rfl (hQ _ hw)
    · replace hw := hw.2 w9
      refine r_aload_n (j := 0) d_Ac_keepShifts_20 rfl ?_
      obtain ⟨q6, hw⟩ := hw
      refine r_getR d_Ac_keepShifts_21 ok_0 (nle rfl) (nle rfl) rfl lf_Ac_21 q6 ?_
      refine r_iload_n (j := 2) d_Ac_keepShifts_24 rfl ?_
      refine r_bipush d_Ac_keepShifts_25 kb_8 ?_
      refine r_imul d_Ac_keepShifts_27 ?_
      refine r_iload_n (j := 3) d_Ac_keepShifts_28 rfl ?_
      refine r_iadd d_Ac_keepShifts_29 ?_
      refine r_aload_n (j := 1) d_Ac_keepShifts_30 rfl ?_
      refine r_iload_n (j := 3) d_Ac_keepShifts_31 rfl ?_
      obtain ⟨q9, hw⟩ := hw
      refine r_callV (av := [ai v3]) (rest := [ai ((v2 * (8 : Int32)) + v3), ar (gR h v0 3)]) (ci := 4) d_Ac_keepShifts_32 mk_Ex_shiftOf ll_Ac_42 im_Ex_shiftOf se_Ex_shiftOf rfl (nle rfl) rfl rfl (nle rfl) q9 (s_Ex_shiftOf (by omega) hw (fun r8 h7 hw => ?_))
      show aW none m_Ac_keepShifts (d + 1) 35 [(0, ar v0), (1, ar v1), (2, ai v2), (3, ai v3)] [ai r8, ai ((v2 * (8 : Int32)) + v3), ar (gR h v0 3)] h7 0 0 QQ
      obtain ⟨q10, hw⟩ := hw
      obtain ⟨q11, hw⟩ := hw
      refine r_iast d_Ac_keepShifts_35 q10 q11 ?_
      refine r_iinc (j := 3) (ls2 := [(3, ai (v3 + (1 : Int32))), (0, ar v0), (1, ar v1), (2, ai v2)]) d_Ac_keepShifts_36 rfl (congrArg (HAdd.hAdd v3) kc_1) (nle rfl) rfl ?_
      refine r_goto d_Ac_keepShifts_39 ?_
      refine r_pick (ls2 := [(0, ar v0), (1, ar v1), (2, ai v2), (3, ai (v3 + (1 : Int32)))]) [1, 2, 3, 0] rfl ?_
      exact ih _ _ hw
set_option maxRecDepth 100000 in
set_option maxHeartbeats 4000000 in
theorem s_Ac_keepShifts {d : Nat} (hd : 2 ≤ d) {v0 : Nat} {v1 : Nat} {h : Hp} {Q : Hp → Prop} {QQ : Option AV → Hp → Prop} (hw : w_Ac_keepShifts v0 v1 h Q) (hQ : ∀ h9, Q h9 → QQ none h9) : aCall m_Ac_keepShifts d [ar v0, ar v1] h 0 0 QQ := by
  obtain ⟨d, rfl⟩ : ∃ d9, d = d9 + 1 := ⟨d - 1, by omega⟩
  refine aCall_in pl_Ac_keepShifts (nle rfl) ?_
  show aW none m_Ac_keepShifts (d + 1) 0 [(0, ar v0), (1, ar v1)] [] h 0 0 QQ
  unfold w_Ac_keepShifts at hw
  refine r_aload_n (j := 0) d_Ac_keepShifts_0 rfl ?_
  refine r_iconst d_Ac_keepShifts_1 kc_m1 ?_
  refine r_iconst d_Ac_keepShifts_2 kc_0 ?_
  refine r_iconst d_Ac_keepShifts_3 kc_0 ?_
  obtain ⟨q2, hw⟩ := hw
  refine r_callV (av := [ai (-1 : Int32), ai (0 : Int32), ai (0 : Int32)]) (rest := []) (ci := 0) d_Ac_keepShifts_4 mk_Ac_keep ll_Ac_38 im_Ac_keep se_Ac_keep rfl (nle rfl) rfl rfl (nle rfl) q2 (s_Ac_keep (by omega) hw (fun h1 hw => ?_))
  show aW none m_Ac_keepShifts (d + 1) 7 [(0, ar v0), (1, ar v1)] [] h1 0 0 QQ
  refine r_aload_n (j := 0) d_Ac_keepShifts_7 rfl ?_
  obtain ⟨q5, hw⟩ := hw
  refine r_callV (av := []) (rest := []) (ci := 0) d_Ac_keepShifts_8 mk_Ac_latest ll_Ac_34 im_Ac_latest se_Ac_latest rfl (nle rfl) rfl rfl (nle rfl) q5 (s_Ac_latest  hw (fun r4 h3 hw => ?_))
  show aW none m_Ac_keepShifts (d + 1) 11 [(0, ar v0), (1, ar v1)] [ai r4] h3 0 0 QQ
  refine r_istore_n (ls2 := [(2, ai r4), (0, ar v0), (1, ar v1)]) d_Ac_keepShifts_11 (nle rfl) rfl ?_
  refine r_iconst d_Ac_keepShifts_12 kc_0 ?_
  refine r_istore_n (ls2 := [(3, ai (0 : Int32)), (2, ai r4), (0, ar v0), (1, ar v1)]) d_Ac_keepShifts_13 (nle rfl) rfl ?_
  obtain ⟨n12, hw⟩ := hw
  refine r_pick (ls2 := [(0, ar v0), (1, ar v1), (2, ai r4), (3, ai (0 : Int32))]) [2, 3, 1, 0] rfl ?_
  exact s_Ac_keepShifts_L14 hd hQ  n12 _ _ hw
set_option maxRecDepth 100000 in
set_option maxHeartbeats 4000000 in
theorem s_Co_get {d : Nat} {v0 : Nat} {v1 : Int32} {h : Hp} {Q : Int32 → Hp → Prop} {QQ : Option AV → Hp → Prop} (hw : w_Co_get v0 v1 h Q) (hQ : ∀ r9 h9, Q r9 h9 → QQ (some (ai r9)) h9) : aCall m_Co_get d [ar v0, ai v1] h 0 0 QQ := by
  refine aCall_in pl_Co_get (nle rfl) ?_
  show aW none m_Co_get d 0 [(0, ar v0), (1, ai v1)] [] h 0 0 QQ
  unfold w_Co_get at hw
  refine r_iload_n (j := 1) d_Co_get_0 rfl ?_
  refine r_if_lt d_Co_get_1 (fun w9 => ?_) (fun w9 => ?_)
  · replace hw := hw.1 w9
    refine r_iconst d_Co_get_19 kc_0 ?_
    exact r_ireturn d_Co_get_20.1 rfl (hQ _ _ hw)
  · replace hw := hw.2 w9
    refine r_iload_n (j := 1) d_Co_get_4 rfl ?_
    refine r_bipush d_Co_get_5 kb_44 ?_
    refine r_icmp_ge d_Co_get_7 (fun w9 => ?_) (fun w9 => ?_)
    · replace hw := hw.1 w9
      refine r_iconst d_Co_get_19 kc_0 ?_
      exact r_ireturn d_Co_get_20.1 rfl (hQ _ _ hw)
    · replace hw := hw.2 w9
      refine r_aload_n (j := 0) d_Co_get_10 rfl ?_
      obtain ⟨q1, hw⟩ := hw
      refine r_getR d_Co_get_11 ok_1 (nle rfl) (nle rfl) rfl lf_Co_11 q1 ?_
      refine r_iload_n (j := 1) d_Co_get_14 rfl ?_
      obtain ⟨q2, hw⟩ := hw
      obtain ⟨q3, hw⟩ := hw
      refine r_iald d_Co_get_15 q2 q3 ?_
      refine r_goto d_Co_get_16 ?_
      exact r_ireturn d_Co_get_20.1 rfl (hQ _ _ hw)
set_option maxRecDepth 100000 in
set_option maxHeartbeats 4000000 in
theorem s_Co_put {d : Nat} {v0 : Nat} {v1 : Int32} {v2 : Int32} {h : Hp} {Q : Hp → Prop} {QQ : Option AV → Hp → Prop} (hw : w_Co_put v0 v1 v2 h Q) (hQ : ∀ h9, Q h9 → QQ none h9) : aCall m_Co_put d [ar v0, ai v1, ai v2] h 0 0 QQ := by
  refine aCall_in pl_Co_put (nle rfl) ?_
  show aW none m_Co_put d 0 [(0, ar v0), (1, ai v1), (2, ai v2)] [] h 0 0 QQ
  unfold w_Co_put at hw
  refine r_iload_n (j := 1) d_Co_put_0 rfl ?_
  refine r_if_lt d_Co_put_1 (fun w9 => ?_) (fun w9 => ?_)
  · replace hw := hw.1 w9
    exact r_return d_Co_put_27.1 rfl (hQ _ hw)
  · replace hw := hw.2 w9
    refine r_iload_n (j := 1) d_Co_put_4 rfl ?_
    refine r_bipush d_Co_put_5 kb_44 ?_
    refine r_icmp_ge d_Co_put_7 (fun w9 => ?_) (fun w9 => ?_)
    · replace hw := hw.1 w9
      exact r_return d_Co_put_27.1 rfl (hQ _ hw)
    · replace hw := hw.2 w9
      refine r_aload_n (j := 0) d_Co_put_10 rfl ?_
      obtain ⟨q1, hw⟩ := hw
      refine r_getR d_Co_put_11 ok_1 (nle rfl) (nle rfl) rfl lf_Co_11 q1 ?_
      refine r_iload_n (j := 1) d_Co_put_14 rfl ?_
      refine r_iload_n (j := 2) d_Co_put_15 rfl ?_
      obtain ⟨q2, hw⟩ := hw
      obtain ⟨q3, hw⟩ := hw
      refine r_iast d_Co_put_16 q2 q3 ?_
      refine r_aload_n (j := 0) d_Co_put_17 rfl ?_
      refine r_dup d_Co_put_18 rfl ?_
      refine r_getI d_Co_put_19 ok_1 (nle rfl) (nle rfl) rfl lf_Co_28 q1 ?_
      refine r_iconst d_Co_put_22 kc_1 ?_
      refine r_iadd d_Co_put_23 ?_
      refine r_putI d_Co_put_24 ok_1 (nle rfl) (nle rfl) rfl lf_Co_28 rfl q1 ?_
      exact r_return d_Co_put_27.1 rfl (hQ _ hw)
set_option maxRecDepth 100000 in
set_option maxHeartbeats 4000000 in
theorem s_Ac_apply_L43 {d : Nat} (hd : 1 ≤ d + 1) {Q : Hp → Prop} {QQ : Option AV → Hp → Prop} (hQ : ∀ h9, Q h9 → QQ none h9) {v0 : Nat} {v1 : Nat} {v2 : Int32} {v3 : Int32} : ∀ (n : Nat) (v4 : Int32) (h : Hp), w_Ac_apply_L43 Q  v0 v1 v2 v3 n v4 h → aW none m_Ac_apply (d + 1) 43 [(0, ar v0), (1, ar v1), (2, ai v2), (3, ai v3), (4, ai v4)] [] h 0 0 QQ := by
  intro n
  induction n with
  | zero => intro v4 h hw; exact hw.elim
  | succ n ih =>
    intro v4 h hw
    unfold w_Ac_apply_L43 at hw
    refine r_iload (j := 4) d_Ac_apply_43 rfl ?_
    refine r_aload_n (j := 1) d_Ac_apply_45 rfl ?_
    obtain ⟨q4, hw⟩ := hw
    refine r_getI d_Ac_apply_46 ok_1 (nle rfl) (nle rfl) rfl lf_Ac_54 q4 ?_
    refine r_icmp_ge d_Ac_apply_49 (fun w9 => ?_) (fun w9 => ?_)
    · replace hw := hw.1 w9
      exact r_return d_Ac_apply_92.1 rfl (hQ _ hw)
    · replace hw := hw.2 w9
      refine r_bipush d_Ac_apply_52 kb_36 ?_
      refine r_iload (j := 4) d_Ac_apply_54 rfl ?_
      refine r_iadd d_Ac_apply_56 ?_
      refine r_istore (ls2 := [(5, ai ((36 : Int32) + v4)), (0, ar v0), (1, ar v1), (2, ai v2), (3, ai v3), (4, ai v4)]) d_Ac_apply_57 (nle rfl) rfl ?_
      refine r_aload_n (j := 2) d_Ac_apply_59 rfl ?_
      refine r_iload (j := 0) d_Ac_apply_60 rfl ?_
      refine r_aload_n (j := 2) d_Ac_apply_62 rfl ?_
      refine r_iload (j := 0) d_Ac_apply_63 rfl ?_
      refine r_callV (av := [ai ((36 : Int32) + v4)]) (rest := [ai ((36 : Int32) + v4), ar v1]) (ci := 1) d_Ac_apply_65 mk_Co_get ll_Ac_57 im_Co_get se_Co_get rfl (nle rfl) rfl rfl (nle rfl) q4 (s_Co_get  hw (fun r6 h5 hw => ?_))
      show aW none m_Ac_apply (d + 1) 68 [(5, ai ((36 : Int32) + v4)), (0, ar v0), (1, ar v1), (2, ai v2), (3, ai v3), (4, ai v4)] [ai r6, ai ((36 : Int32) + v4), ar v1] h5 0 0 QQ
      refine r_iload_n (j := 4) d_Ac_apply_68 rfl ?_
      refine r_aload_n (j := 1) d_Ac_apply_69 rfl ?_
      obtain ⟨q7, hw⟩ := hw
      refine r_getR d_Ac_apply_70 ok_0 (nle rfl) (nle rfl) rfl lf_Ac_21 q7 ?_
      refine r_iload_n (j := 3) d_Ac_apply_73 rfl ?_
      refine r_bipush d_Ac_apply_74 kb_8 ?_
      refine r_imul d_Ac_apply_76 ?_
      refine r_iload (j := 5) d_Ac_apply_77 rfl ?_
      refine r_iadd d_Ac_apply_79 ?_
      obtain ⟨q8, hw⟩ := hw
      obtain ⟨q9, hw⟩ := hw
      refine r_iald d_Ac_apply_80 q8 q9 ?_
      refine r_imul d_Ac_apply_81 ?_
      refine r_iadd d_Ac_apply_82 ?_
      obtain ⟨q11, hw⟩ := hw
      refine r_callV (av := [ai ((36 : Int32) + v4), ai (r6 + (v3 * (gI h5 (gR h5 v0 3) (ix ((v2 * (8 : Int32)) + v4)))))]) (rest := []) (ci := 1) d_Ac_apply_83 mk_Co_put ll_Ac_48 im_Co_put se_Co_put rfl (nle rfl) rfl rfl (nle rfl) q11 (s_Co_put  hw (fun h10 hw => ?_))
      show aW none m_Ac_apply (d + 1) 86 [(5, ai ((36 : Int32) + v4)), (0, ar v0), (1, ar v1), (2, ai v2), (3, ai v3), (4, ai v4)] [] h10 0 0 QQ
      refine r_iinc (j := 5) (ls2 := [(4, ai (v4 + (1 : Int32))), (5, ai ((36 : Int32) + v4)), (0, ar v0), (1, ar v1), (2, ai v2), (3, ai v3)]) d_Ac_apply_86 rfl (congrArg (HAdd.hAdd v4) kc_1) (nle rfl) rfl ?_
      refine r_goto d_Ac_apply_89 ?_
      refine r_pick (ls2 := [(0, ar v0), (1, ar v1), (2, ai v2), (3, ai v3), (4, ai (v4 + (1 : Int32)))]) [2, 3, 4, 5, 0] rfl ?_
      exact ih _ _ hw
set_option maxRecDepth 100000 in
set_option maxHeartbeats 4000000 in
theorem s_Ac_apply_B36 {d : Nat} (hd : 1 ≤ d + 1) {Q : Hp → Prop} {QQ : Option AV → Hp → Prop} (hQ : ∀ h9, Q h9 → QQ none h9) {s0 : Nat} {s1 : Int32} {s2 : Int32} {h : Hp} (hw : w_Ac_apply_B36 Q  s0 s1 s2 h) : aW none m_Ac_apply (d + 1) 36 [] [ar s0, ai s1, ai s2] h 0 0 QQ := by
  unfold w_Ac_apply_B36 at hw
  obtain ⟨q16, hw⟩ := hw
  refine r_callV (av := [ai s1, ai s2]) (rest := []) (ci := 1) d_Ac_apply_36 mk_Co_put ll_Ac_48 im_Co_put se_Co_put rfl (nle rfl) rfl rfl (nle rfl) q16 (s_Co_put  hw (fun h15 hw => ?_))
  show aW none m_Ac_apply (d + 1) 39 [] [] h15 0 0 QQ
  exact r_return d_Ac_apply_39.1 rfl (hQ _ hw)
set_option maxRecDepth 100000 in
set_option maxHeartbeats 4000000 in
theorem s_Ac_apply {d : Nat} (hd : 1 ≤ d) {v0 : Nat} {v1 : Nat} {v2 : Int32} {v3 : Int32} {h : Hp} {Q : Hp → Prop} {QQ : Option AV → Hp → Prop} (hw : w_Ac_apply v0 v1 v2 v3 h Q) (hQ : ∀ h9, Q h9 → QQ none h9) : aCall m_Ac_apply d [ar v0, ar v1, ai v2, ai v3] h 0 0 QQ := by
  obtain ⟨d, rfl⟩ : ∃ d9, d = d9 + 1 := ⟨d - 1, by omega⟩
  refine aCall_in pl_Ac_apply (nle rfl) ?_
  show aW none m_Ac_apply (d + 1) 0 [(0, ar v0), (1, ar v1), (2, ai v2), (3, ai v3)] [] h 0 0 QQ
  unfold w_Ac_apply at hw
  refine r_aload_n (j := 0) d_Ac_apply_0 rfl ?_
  obtain ⟨q1, hw⟩ := hw
  refine r_getR d_Ac_apply_1 ok_0 (nle rfl) (nle rfl) rfl lf_Ac_11 q1 ?_
  refine r_iload_n (j := 2) d_Ac_apply_4 rfl ?_
  obtain ⟨q2, hw⟩ := hw
  obtain ⟨q3, hw⟩ := hw
  refine r_iald d_Ac_apply_5 q2 q3 ?_
  refine r_iconst d_Ac_apply_6 kc_m1 ?_
  refine r_icmp_eq d_Ac_apply_7 (fun w9 => ?_) (fun w9 => ?_)
  · replace hw := hw.1 w9
    refine r_iconst d_Ac_apply_40 kc_0 ?_
    refine r_istore (ls2 := [(4, ai (0 : Int32)), (0, ar v0), (1, ar v1), (2, ai v2), (3, ai v3)]) d_Ac_apply_41 (nle rfl) rfl ?_
    obtain ⟨n12, hw⟩ := hw
    refine r_pick (ls2 := [(0, ar v0), (1, ar v1), (2, ai v2), (3, ai v3), (4, ai (0 : Int32))]) [1, 2, 3, 4, 0] rfl ?_
    exact s_Ac_apply_L43 hd hQ  n12 _ _ hw
  · replace hw := hw.2 w9
    refine r_aload_n (j := 1) d_Ac_apply_10 rfl ?_
    refine r_aload_n (j := 0) d_Ac_apply_11 rfl ?_
    refine r_getR d_Ac_apply_12 ok_0 (nle rfl) (nle rfl) rfl lf_Ac_11 q1 ?_
    refine r_iload_n (j := 2) d_Ac_apply_15 rfl ?_
    refine r_iald d_Ac_apply_16 q2 q3 ?_
    refine r_iload_n (j := 3) d_Ac_apply_17 rfl ?_
    refine r_if_le d_Ac_apply_18 (fun w9 => ?_) (fun w9 => ?_)
    · replace hw := hw.1 w9
      refine r_aload_n (j := 0) d_Ac_apply_30 rfl ?_
      refine r_getR d_Ac_apply_31 ok_0 (nle rfl) (nle rfl) rfl lf_Ac_15 q1 ?_
      refine r_iload_n (j := 2) d_Ac_apply_34 rfl ?_
      obtain ⟨q13, hw⟩ := hw
      obtain ⟨q14, hw⟩ := hw
      refine r_iald d_Ac_apply_35 q13 q14 ?_
      refine r_pick (ls2 := []) [] rfl ?_
      exact s_Ac_apply_B36 hd hQ  hw
    · replace hw := hw.2 w9
      refine r_aload_n (j := 0) d_Ac_apply_21 rfl ?_
      refine r_getR d_Ac_apply_22 ok_0 (nle rfl) (nle rfl) rfl lf_Ac_18 q1 ?_
      refine r_iload_n (j := 2) d_Ac_apply_25 rfl ?_
      obtain ⟨q17, hw⟩ := hw
      obtain ⟨q18, hw⟩ := hw
      refine r_iald d_Ac_apply_26 q17 q18 ?_
      refine r_goto d_Ac_apply_27 ?_
      refine r_pick (ls2 := []) [] rfl ?_
      exact s_Ac_apply_B36 hd hQ  hw
set_option maxRecDepth 100000 in
set_option maxHeartbeats 4000000 in
theorem s_Ac_takeBack {d : Nat} (hd : 2 ≤ d) {v0 : Nat} {v1 : Nat} {h : Hp} {Q : Bool → Hp → Prop} {QQ : Option AV → Hp → Prop} (hw : w_Ac_takeBack v0 v1 h Q) (hQ : ∀ r9 h9, Q r9 h9 → QQ (some (ai (b2i r9))) h9) : aCall m_Ac_takeBack d [ar v0, ar v1] h 0 0 QQ := by
  obtain ⟨d, rfl⟩ : ∃ d9, d = d9 + 1 := ⟨d - 1, by omega⟩
  refine aCall_in pl_Ac_takeBack (nle rfl) ?_
  show aW none m_Ac_takeBack (d + 1) 0 [(0, ar v0), (1, ar v1)] [] h 0 0 QQ
  unfold w_Ac_takeBack at hw
  refine r_aload_n (j := 0) d_Ac_takeBack_0 rfl ?_
  obtain ⟨q1, hw⟩ := hw
  refine r_getI d_Ac_takeBack_1 ok_0 (nle rfl) (nle rfl) rfl lf_Ac_28 q1 ?_
  refine r_iconst d_Ac_takeBack_4 kc_1 ?_
  refine r_icmp_ge d_Ac_takeBack_5 (fun w9 => ?_) (fun w9 => ?_)
  · replace hw := hw.1 w9
    refine r_aload_n (j := 0) d_Ac_takeBack_10 rfl ?_
    refine r_aload_n (j := 1) d_Ac_takeBack_11 rfl ?_
    refine r_aload_n (j := 0) d_Ac_takeBack_12 rfl ?_
    refine r_callV (av := []) (rest := [ar v1, ar v0]) (ci := 0) d_Ac_takeBack_13 mk_Ac_latest ll_Ac_34 im_Ac_latest se_Ac_latest rfl (nle rfl) rfl rfl (nle rfl) q1 (s_Ac_latest  hw (fun r3 h2 hw => ?_))
    show aW none m_Ac_takeBack (d + 1) 16 [(0, ar v0), (1, ar v1)] [ai r3, ar v1, ar v0] h2 0 0 QQ
    refine r_iconst d_Ac_takeBack_16 kc_m1 ?_
    obtain ⟨q5, hw⟩ := hw
    refine r_callV (av := [ar v1, ai r3, ai (-1 : Int32)]) (rest := []) (ci := 0) d_Ac_takeBack_17 mk_Ac_apply ll_Ac_60 im_Ac_apply se_Ac_apply rfl (nle rfl) rfl rfl (nle rfl) q5 (s_Ac_apply (by omega) hw (fun h4 hw => ?_))
    show aW none m_Ac_takeBack (d + 1) 20 [(0, ar v0), (1, ar v1)] [] h4 0 0 QQ
    refine r_aload_n (j := 0) d_Ac_takeBack_20 rfl ?_
    refine r_dup d_Ac_takeBack_21 rfl ?_
    obtain ⟨q6, hw⟩ := hw
    refine r_getI d_Ac_takeBack_22 ok_0 (nle rfl) (nle rfl) rfl lf_Ac_28 q6 ?_
    refine r_iconst d_Ac_takeBack_25 kc_1 ?_
    refine r_isub d_Ac_takeBack_26 ?_
    refine r_putI d_Ac_takeBack_27 ok_0 (nle rfl) (nle rfl) rfl lf_Ac_28 rfl q6 ?_
    refine r_aload_n (j := 0) d_Ac_takeBack_30 rfl ?_
    refine r_dup d_Ac_takeBack_31 rfl ?_
    refine r_getI d_Ac_takeBack_32 ok_0 (nle rfl) (nle rfl) rfl lf_Ac_31 q6 ?_
    refine r_iconst d_Ac_takeBack_35 kc_1 ?_
    refine r_iadd d_Ac_takeBack_36 ?_
    refine r_putI d_Ac_takeBack_37 ok_0 (nle rfl) (nle rfl) rfl lf_Ac_31 rfl q6 ?_
    refine r_iconst d_Ac_takeBack_40 kc_1 ?_
    exact r_zreturn d_Ac_takeBack_41.1 rfl (Or.inr rfl) (hQ _ _ hw)
  · replace hw := hw.2 w9
    refine r_iconst d_Ac_takeBack_8 kc_0 ?_
    exact r_zreturn d_Ac_takeBack_9.1 rfl (Or.inl rfl) (hQ _ _ hw)
set_option maxRecDepth 100000 in
set_option maxHeartbeats 4000000 in
theorem s_Ac_doAgain {d : Nat} (hd : 2 ≤ d) {v0 : Nat} {v1 : Nat} {h : Hp} {Q : Bool → Hp → Prop} {QQ : Option AV → Hp → Prop} (hw : w_Ac_doAgain v0 v1 h Q) (hQ : ∀ r9 h9, Q r9 h9 → QQ (some (ai (b2i r9))) h9) : aCall m_Ac_doAgain d [ar v0, ar v1] h 0 0 QQ := by
  obtain ⟨d, rfl⟩ : ∃ d9, d = d9 + 1 := ⟨d - 1, by omega⟩
  refine aCall_in pl_Ac_doAgain (nle rfl) ?_
  show aW none m_Ac_doAgain (d + 1) 0 [(0, ar v0), (1, ar v1)] [] h 0 0 QQ
  unfold w_Ac_doAgain at hw
  refine r_aload_n (j := 0) d_Ac_doAgain_0 rfl ?_
  obtain ⟨q1, hw⟩ := hw
  refine r_getI d_Ac_doAgain_1 ok_0 (nle rfl) (nle rfl) rfl lf_Ac_31 q1 ?_
  refine r_iconst d_Ac_doAgain_4 kc_1 ?_
  refine r_icmp_ge d_Ac_doAgain_5 (fun w9 => ?_) (fun w9 => ?_)
  · replace hw := hw.1 w9
    refine r_aload_n (j := 0) d_Ac_doAgain_10 rfl ?_
    refine r_dup d_Ac_doAgain_11 rfl ?_
    refine r_getI d_Ac_doAgain_12 ok_0 (nle rfl) (nle rfl) rfl lf_Ac_28 q1 ?_
    refine r_iconst d_Ac_doAgain_15 kc_1 ?_
    refine r_iadd d_Ac_doAgain_16 ?_
    refine r_putI d_Ac_doAgain_17 ok_0 (nle rfl) (nle rfl) rfl lf_Ac_28 rfl q1 ?_
    refine r_aload_n (j := 0) d_Ac_doAgain_20 rfl ?_
    refine r_dup d_Ac_doAgain_21 rfl ?_
    refine r_getI d_Ac_doAgain_22 ok_0 (nle rfl) (nle rfl) rfl lf_Ac_31 q1 ?_
    refine r_iconst d_Ac_doAgain_25 kc_1 ?_
    refine r_isub d_Ac_doAgain_26 ?_
    refine r_putI d_Ac_doAgain_27 ok_0 (nle rfl) (nle rfl) rfl lf_Ac_31 rfl q1 ?_
    refine r_aload_n (j := 0) d_Ac_doAgain_30 rfl ?_
    refine r_aload_n (j := 1) d_Ac_doAgain_31 rfl ?_
    refine r_aload_n (j := 0) d_Ac_doAgain_32 rfl ?_
    refine r_callV (av := []) (rest := [ar v1, ar v0]) (ci := 0) d_Ac_doAgain_33 mk_Ac_latest ll_Ac_34 im_Ac_latest se_Ac_latest rfl (nle rfl) rfl rfl (nle rfl) q1 (s_Ac_latest  hw (fun r3 h2 hw => ?_))
    show aW none m_Ac_doAgain (d + 1) 36 [(0, ar v0), (1, ar v1)] [ai r3, ar v1, ar v0] h2 0 0 QQ
    refine r_iconst d_Ac_doAgain_36 kc_1 ?_
    obtain ⟨q5, hw⟩ := hw
    refine r_callV (av := [ar v1, ai r3, ai (1 : Int32)]) (rest := []) (ci := 0) d_Ac_doAgain_37 mk_Ac_apply ll_Ac_60 im_Ac_apply se_Ac_apply rfl (nle rfl) rfl rfl (nle rfl) q5 (s_Ac_apply (by omega) hw (fun h4 hw => ?_))
    show aW none m_Ac_doAgain (d + 1) 40 [(0, ar v0), (1, ar v1)] [] h4 0 0 QQ
    refine r_iconst d_Ac_doAgain_40 kc_1 ?_
    exact r_zreturn d_Ac_doAgain_41.1 rfl (Or.inr rfl) (hQ _ _ hw)
  · replace hw := hw.2 w9
    refine r_iconst d_Ac_doAgain_8 kc_0 ?_
    exact r_zreturn d_Ac_doAgain_9.1 rfl (Or.inl rfl) (hQ _ _ hw)
set_option maxRecDepth 100000 in
set_option maxHeartbeats 4000000 in
theorem s_Co_init {d : Nat} (hd : 1 ≤ d) {v0 : Nat} {bc bs : Nat} {h : Hp} {Q : Hp → Prop} {QQ : Option AV → Hp → Prop} (hw : w_Co_init bc bs v0 h Q) (hQ : ∀ h9, Q h9 → QQ none h9) : aCall m_Co_init d [ar v0] h bc bs QQ := by
  obtain ⟨d, rfl⟩ : ∃ d9, d = d9 + 1 := ⟨d - 1, by omega⟩
  refine aCall_in pl_Co_init (nle rfl) ?_
  show aW none m_Co_init (d + 1) 0 [(0, ar v0)] [] h bc bs QQ
  unfold w_Co_init at hw
  refine r_aload_n (j := 0) d_Co_init_0 rfl ?_
  obtain ⟨q1, hw⟩ := hw
  refine r_objInit d_Co_init_1 ll_Co_5 oi_1 oi_2 (nle rfl) q1 ?_
  refine r_aload_n (j := 0) d_Co_init_4 rfl ?_
  refine r_bipush d_Co_init_5 kb_44 ?_
  obtain ⟨q2, hw⟩ := hw
  obtain ⟨b3, t4, u8, u9, u6, u7, hw⟩ := hw
  subst u8 u9
  refine r_newI d_Co_init_7 ac_I u6 rfl u7 (refB_r q2 refB_n) (refL_r q2 refL_n) ?_
  generalize e8 : nw h 20 (ix (44 : Int32)) = h5 at hw ⊢
  generalize e7 : gX h = a6 at hw ⊢
  replace hw := hw a6 h5 e7.symm e8.symm
  obtain ⟨q7, hw⟩ := hw
  obtain ⟨q8, hw⟩ := hw
  refine r_putFR d_Co_init_9 ok_1 (nle rfl) (nle rfl) rfl lf_Co_11 rfl rfl rfl q7 q8 ?_
  refine r_aload_n (j := 0) d_Co_init_12 rfl ?_
  refine r_iconst d_Co_init_13 kc_1 ?_
  refine r_putI d_Co_init_14 ok_1 (nle rfl) (nle rfl) rfl lf_Co_15 rfl q7 ?_
  refine r_aload_n (j := 0) d_Co_init_17 rfl ?_
  refine r_getR d_Co_init_18 ok_1 (nle rfl) (nle rfl) rfl lf_Co_11 q7 ?_
  refine r_bipush d_Co_init_21 kb_35 ?_
  refine r_bipush d_Co_init_23 kb_8 ?_
  obtain ⟨q9, hw⟩ := hw
  obtain ⟨q10, hw⟩ := hw
  refine r_iast d_Co_init_25 q9 q10 ?_
  exact r_return d_Co_init_26.1 rfl (hQ _ hw)
set_option maxRecDepth 100000 in
set_option maxHeartbeats 4000000 in
theorem s_JA_fill_IIV_L5 {d : Nat} {Q : Hp → Prop} {QQ : Option AV → Hp → Prop} (hQ : ∀ h9, Q h9 → QQ none h9) {v0 : Nat} {v1 : Int32} {v3 : Int32} : ∀ (n : Nat) (v2 : Int32) (h : Hp), w_JA_fill_IIV_L5 Q  v0 v1 v3 n v2 h → aW none m_JA_fill_IIV d 5 [(0, ar v0), (1, ai v1), (2, ai v2), (3, ai v3)] [] h 0 0 QQ := by
  intro n
  induction n with
  | zero => intro v2 h hw; exact hw.elim
  | succ n ih =>
    intro v2 h hw
    unfold w_JA_fill_IIV_L5 at hw
    refine r_iload_n (j := 2) d_JA_fill_IIV_5 rfl ?_
    refine r_iload_n (j := 3) d_JA_fill_IIV_6 rfl ?_
    refine r_icmp_ge d_JA_fill_IIV_7 (fun w9 => ?_) (fun w9 => ?_)
    · replace hw := hw.1 w9
      exact r_return d_JA_fill_IIV_20.1 rfl (hQ _ hw)
    · replace hw := hw.2 w9
      refine r_aload_n (j := 0) d_JA_fill_IIV_10 rfl ?_
      refine r_iload_n (j := 2) d_JA_fill_IIV_11 rfl ?_
      refine r_iload_n (j := 1) d_JA_fill_IIV_12 rfl ?_
      obtain ⟨q2, hw⟩ := hw
      obtain ⟨q3, hw⟩ := hw
      refine r_iast d_JA_fill_IIV_13 q2 q3 ?_
      refine r_iinc (j := 2) (ls2 := [(2, ai (v2 + (1 : Int32))), (0, ar v0), (1, ai v1), (3, ai v3)]) d_JA_fill_IIV_14 rfl (congrArg (HAdd.hAdd v2) kc_1) (nle rfl) rfl ?_
      refine r_goto d_JA_fill_IIV_17 ?_
      refine r_pick (ls2 := [(0, ar v0), (1, ai v1), (2, ai (v2 + (1 : Int32))), (3, ai v3)]) [1, 2, 0, 3] rfl ?_
      exact ih _ _ hw
set_option maxRecDepth 100000 in
set_option maxHeartbeats 4000000 in
theorem s_JA_fill_IIV {d : Nat} {v0 : Nat} {v1 : Int32} {h : Hp} {Q : Hp → Prop} {QQ : Option AV → Hp → Prop} (hw : w_JA_fill_IIV v0 v1 h Q) (hQ : ∀ h9, Q h9 → QQ none h9) : aCall m_JA_fill_IIV d [ar v0, ai v1] h 0 0 QQ := by
  refine aCall_in pl_JA_fill_IIV (nle rfl) ?_
  show aW none m_JA_fill_IIV d 0 [(0, ar v0), (1, ai v1)] [] h 0 0 QQ
  unfold w_JA_fill_IIV at hw
  refine r_iconst d_JA_fill_IIV_0 kc_0 ?_
  refine r_istore_n (ls2 := [(2, ai (0 : Int32)), (0, ar v0), (1, ai v1)]) d_JA_fill_IIV_1 (nle rfl) rfl ?_
  refine r_aload_n (j := 1) d_JA_fill_IIV_2 rfl ?_
  obtain ⟨q1, hw⟩ := hw
  refine r_alen d_JA_fill_IIV_3 q1 ?_
  refine r_istore_n (ls2 := [(3, ai (Int32.ofNat (gN h v0))), (2, ai (0 : Int32)), (0, ar v0), (1, ai v1)]) d_JA_fill_IIV_4 (nle rfl) rfl ?_
  obtain ⟨n4, hw⟩ := hw
  refine r_pick (ls2 := [(0, ar v0), (1, ai v1), (2, ai (0 : Int32)), (3, ai (Int32.ofNat (gN h v0)))]) [2, 3, 1, 0] rfl ?_
  exact s_JA_fill_IIV_L5 hQ  n4 _ _ hw
set_option maxRecDepth 100000 in
set_option maxHeartbeats 4000000 in
theorem s_Co_clear {d : Nat} (hd : 1 ≤ d) {v0 : Nat} {h : Hp} {Q : Hp → Prop} {QQ : Option AV → Hp → Prop} (hw : w_Co_clear v0 h Q) (hQ : ∀ h9, Q h9 → QQ none h9) : aCall m_Co_clear d [ar v0] h 0 0 QQ := by
  obtain ⟨d, rfl⟩ : ∃ d9, d = d9 + 1 := ⟨d - 1, by omega⟩
  refine aCall_in pl_Co_clear (nle rfl) ?_
  show aW none m_Co_clear (d + 1) 0 [(0, ar v0)] [] h 0 0 QQ
  unfold w_Co_clear at hw
  refine r_aload_n (j := 0) d_Co_clear_0 rfl ?_
  obtain ⟨q1, hw⟩ := hw
  refine r_getR d_Co_clear_1 ok_1 (nle rfl) (nle rfl) rfl lf_Co_11 q1 ?_
  refine r_iconst d_Co_clear_4 kc_0 ?_
  refine r_callS (av := [ar (gR h v0 0), ai (0 : Int32)]) (rest := []) d_Co_clear_5 mk_JA_fill_IIV ll_Co_19 st_JA_fill_IIV rfl rfl (nle rfl) (s_JA_fill_IIV  hw (fun h2 hw => ?_))
  show aW none m_Co_clear (d + 1) 8 [(0, ar v0)] [] h2 0 0 QQ
  refine r_aload_n (j := 0) d_Co_clear_8 rfl ?_
  obtain ⟨q3, hw⟩ := hw
  refine r_getR d_Co_clear_9 ok_1 (nle rfl) (nle rfl) rfl lf_Co_11 q3 ?_
  refine r_bipush d_Co_clear_12 kb_35 ?_
  refine r_bipush d_Co_clear_14 kb_8 ?_
  obtain ⟨q4, hw⟩ := hw
  obtain ⟨q5, hw⟩ := hw
  refine r_iast d_Co_clear_16 q4 q5 ?_
  refine r_aload_n (j := 0) d_Co_clear_17 rfl ?_
  refine r_iconst d_Co_clear_18 kc_1 ?_
  refine r_putI d_Co_clear_19 ok_1 (nle rfl) (nle rfl) rfl lf_Co_15 rfl q3 ?_
  refine r_aload_n (j := 0) d_Co_clear_22 rfl ?_
  refine r_iconst d_Co_clear_23 kc_0 ?_
  refine r_putI d_Co_clear_24 ok_1 (nle rfl) (nle rfl) rfl lf_Co_25 rfl q3 ?_
  refine r_aload_n (j := 0) d_Co_clear_27 rfl ?_
  refine r_dup d_Co_clear_28 rfl ?_
  refine r_getI d_Co_clear_29 ok_1 (nle rfl) (nle rfl) rfl lf_Co_28 q3 ?_
  refine r_iconst d_Co_clear_32 kc_1 ?_
  refine r_iadd d_Co_clear_33 ?_
  refine r_putI d_Co_clear_34 ok_1 (nle rfl) (nle rfl) rfl lf_Co_28 rfl q3 ?_
  exact r_return d_Co_clear_37.1 rfl (hQ _ hw)
set_option maxRecDepth 100000 in
set_option maxHeartbeats 4000000 in
theorem s_Co_copyFrom {d : Nat} (hd : 1 ≤ d) {v0 : Nat} {v1 : Nat} {h : Hp} {Q : Hp → Prop} {QQ : Option AV → Hp → Prop} (hw : w_Co_copyFrom v0 v1 h Q) (hQ : ∀ h9, Q h9 → QQ none h9) : aCall m_Co_copyFrom d [ar v0, ar v1] h 0 0 QQ := by
  obtain ⟨d, rfl⟩ : ∃ d9, d = d9 + 1 := ⟨d - 1, by omega⟩
  refine aCall_in pl_Co_copyFrom (nle rfl) ?_
  show aW none m_Co_copyFrom (d + 1) 0 [(0, ar v0), (1, ar v1)] [] h 0 0 QQ
  unfold w_Co_copyFrom at hw
  refine r_aload_n (j := 1) d_Co_copyFrom_0 rfl ?_
  obtain ⟨q1, hw⟩ := hw
  refine r_getR d_Co_copyFrom_1 ok_1 (nle rfl) (nle rfl) rfl lf_Co_11 q1 ?_
  refine r_iconst d_Co_copyFrom_4 kc_0 ?_
  refine r_aload_n (j := 0) d_Co_copyFrom_5 rfl ?_
  obtain ⟨q2, hw⟩ := hw
  refine r_getR d_Co_copyFrom_6 ok_1 (nle rfl) (nle rfl) rfl lf_Co_11 q2 ?_
  refine r_iconst d_Co_copyFrom_9 kc_0 ?_
  refine r_bipush d_Co_copyFrom_10 kb_44 ?_
  obtain ⟨q3, hw⟩ := hw
  obtain ⟨q4, hw⟩ := hw
  obtain ⟨q5, hw⟩ := hw
  obtain ⟨q6, hw⟩ := hw
  refine r_copy d_Co_copyFrom_12 ll_Co_31 cp_1 cp_2 cp_3 (nle rfl) q3 q4 (by decide) (by decide) (by decide) q5 q6 ?_
  refine r_aload_n (j := 0) d_Co_copyFrom_15 rfl ?_
  refine r_aload_n (j := 1) d_Co_copyFrom_16 rfl ?_
  refine r_getI d_Co_copyFrom_17 ok_1 (nle rfl) (nle rfl) rfl lf_Co_15 q1 ?_
  refine r_putI d_Co_copyFrom_20 ok_1 (nle rfl) (nle rfl) rfl lf_Co_15 rfl q2 ?_
  refine r_aload_n (j := 0) d_Co_copyFrom_23 rfl ?_
  refine r_aload_n (j := 1) d_Co_copyFrom_24 rfl ?_
  refine r_getI d_Co_copyFrom_25 ok_1 (nle rfl) (nle rfl) rfl lf_Co_25 q1 ?_
  refine r_putI d_Co_copyFrom_28 ok_1 (nle rfl) (nle rfl) rfl lf_Co_25 rfl q2 ?_
  refine r_aload_n (j := 0) d_Co_copyFrom_31 rfl ?_
  refine r_dup d_Co_copyFrom_32 rfl ?_
  refine r_getI d_Co_copyFrom_33 ok_1 (nle rfl) (nle rfl) rfl lf_Co_28 q2 ?_
  refine r_iconst d_Co_copyFrom_36 kc_1 ?_
  refine r_iadd d_Co_copyFrom_37 ?_
  refine r_putI d_Co_copyFrom_38 ok_1 (nle rfl) (nle rfl) rfl lf_Co_28 rfl q2 ?_
  exact r_return d_Co_copyFrom_41.1 rfl (hQ _ hw)
set_option maxRecDepth 100000 in
set_option maxHeartbeats 4000000 in
theorem s_Co_hasColumn {d : Nat} {v0 : Nat} {v1 : Int32} {h : Hp} {Q : Bool → Hp → Prop} {QQ : Option AV → Hp → Prop} (hw : w_Co_hasColumn v0 v1 h Q) (hQ : ∀ r9 h9, Q r9 h9 → QQ (some (ai (b2i r9))) h9) : aCall m_Co_hasColumn d [ar v0, ai v1] h 0 0 QQ := by
  refine aCall_in pl_Co_hasColumn (nle rfl) ?_
  show aW none m_Co_hasColumn d 0 [(0, ar v0), (1, ai v1)] [] h 0 0 QQ
  unfold w_Co_hasColumn at hw
  refine r_iload_n (j := 1) d_Co_hasColumn_0 rfl ?_
  refine r_if_lt d_Co_hasColumn_1 (fun w9 => ?_) (fun w9 => ?_)
  · replace hw := hw.1 w9
    refine r_iconst d_Co_hasColumn_16 kc_0 ?_
    exact r_zreturn d_Co_hasColumn_17.1 rfl (Or.inl rfl) (hQ _ _ hw)
  · replace hw := hw.2 w9
    refine r_iload_n (j := 1) d_Co_hasColumn_4 rfl ?_
    refine r_aload_n (j := 0) d_Co_hasColumn_5 rfl ?_
    obtain ⟨q1, hw⟩ := hw
    refine r_getI d_Co_hasColumn_6 ok_1 (nle rfl) (nle rfl) rfl lf_Co_25 q1 ?_
    refine r_icmp_ge d_Co_hasColumn_9 (fun w9 => ?_) (fun w9 => ?_)
    · replace hw := hw.1 w9
      refine r_iconst d_Co_hasColumn_16 kc_0 ?_
      exact r_zreturn d_Co_hasColumn_17.1 rfl (Or.inl rfl) (hQ _ _ hw)
    · replace hw := hw.2 w9
      refine r_iconst d_Co_hasColumn_12 kc_1 ?_
      refine r_goto d_Co_hasColumn_13 ?_
      exact r_zreturn d_Co_hasColumn_17.1 rfl (Or.inr rfl) (hQ _ _ hw)
set_option maxRecDepth 100000 in
set_option maxHeartbeats 4000000 in
theorem s_Co_hasRow {d : Nat} {v0 : Nat} {v1 : Int32} {h : Hp} {Q : Bool → Hp → Prop} {QQ : Option AV → Hp → Prop} (hw : w_Co_hasRow v0 v1 h Q) (hQ : ∀ r9 h9, Q r9 h9 → QQ (some (ai (b2i r9))) h9) : aCall m_Co_hasRow d [ar v0, ai v1] h 0 0 QQ := by
  refine aCall_in pl_Co_hasRow (nle rfl) ?_
  show aW none m_Co_hasRow d 0 [(0, ar v0), (1, ai v1)] [] h 0 0 QQ
  unfold w_Co_hasRow at hw
  refine r_iload_n (j := 1) d_Co_hasRow_0 rfl ?_
  refine r_if_lt d_Co_hasRow_1 (fun w9 => ?_) (fun w9 => ?_)
  · replace hw := hw.1 w9
    refine r_iconst d_Co_hasRow_16 kc_0 ?_
    exact r_zreturn d_Co_hasRow_17.1 rfl (Or.inl rfl) (hQ _ _ hw)
  · replace hw := hw.2 w9
    refine r_iload_n (j := 1) d_Co_hasRow_4 rfl ?_
    refine r_aload_n (j := 0) d_Co_hasRow_5 rfl ?_
    obtain ⟨q1, hw⟩ := hw
    refine r_getI d_Co_hasRow_6 ok_1 (nle rfl) (nle rfl) rfl lf_Co_15 q1 ?_
    refine r_icmp_ge d_Co_hasRow_9 (fun w9 => ?_) (fun w9 => ?_)
    · replace hw := hw.1 w9
      refine r_iconst d_Co_hasRow_16 kc_0 ?_
      exact r_zreturn d_Co_hasRow_17.1 rfl (Or.inl rfl) (hQ _ _ hw)
    · replace hw := hw.2 w9
      refine r_iconst d_Co_hasRow_12 kc_1 ?_
      refine r_goto d_Co_hasRow_13 ?_
      exact r_zreturn d_Co_hasRow_17.1 rfl (Or.inr rfl) (hQ _ _ hw)
set_option maxRecDepth 100000 in
set_option maxHeartbeats 4000000 in
theorem s_Co_numberOf {d : Nat} {v0 : Nat} {v1 : Int32} {v2 : Int32} {h : Hp} {Q : Int32 → Hp → Prop} {QQ : Option AV → Hp → Prop} (hw : w_Co_numberOf v0 v1 v2 h Q) (hQ : ∀ r9 h9, Q r9 h9 → QQ (some (ai r9)) h9) : aCall m_Co_numberOf d [ar v0, ai v1, ai v2] h 0 0 QQ := by
  refine aCall_in pl_Co_numberOf (nle rfl) ?_
  show aW none m_Co_numberOf d 0 [(0, ar v0), (1, ai v1), (2, ai v2)] [] h 0 0 QQ
  unfold w_Co_numberOf at hw
  refine r_aload_n (j := 0) d_Co_numberOf_0 rfl ?_
  obtain ⟨q1, hw⟩ := hw
  refine r_getR d_Co_numberOf_1 ok_1 (nle rfl) (nle rfl) rfl lf_Co_11 q1 ?_
  refine r_iload_n (j := 1) d_Co_numberOf_4 rfl ?_
  refine r_iconst d_Co_numberOf_5 kc_3 ?_
  refine r_imul d_Co_numberOf_6 ?_
  refine r_iload_n (j := 2) d_Co_numberOf_7 rfl ?_
  refine r_iadd d_Co_numberOf_8 ?_
  obtain ⟨q2, hw⟩ := hw
  obtain ⟨q3, hw⟩ := hw
  refine r_iald d_Co_numberOf_9 q2 q3 ?_
  exact r_ireturn d_Co_numberOf_10.1 rfl (hQ _ _ hw)
set_option maxRecDepth 100000 in
set_option maxHeartbeats 4000000 in
theorem s_Co_gainOf {d : Nat} {v0 : Nat} {v1 : Int32} {h : Hp} {Q : Int32 → Hp → Prop} {QQ : Option AV → Hp → Prop} (hw : w_Co_gainOf v0 v1 h Q) (hQ : ∀ r9 h9, Q r9 h9 → QQ (some (ai r9)) h9) : aCall m_Co_gainOf d [ar v0, ai v1] h 0 0 QQ := by
  refine aCall_in pl_Co_gainOf (nle rfl) ?_
  show aW none m_Co_gainOf d 0 [(0, ar v0), (1, ai v1)] [] h 0 0 QQ
  unfold w_Co_gainOf at hw
  refine r_aload_n (j := 0) d_Co_gainOf_0 rfl ?_
  obtain ⟨q1, hw⟩ := hw
  refine r_getR d_Co_gainOf_1 ok_1 (nle rfl) (nle rfl) rfl lf_Co_11 q1 ?_
  refine r_bipush d_Co_gainOf_4 kb_24 ?_
  refine r_iload_n (j := 1) d_Co_gainOf_6 rfl ?_
  refine r_iadd d_Co_gainOf_7 ?_
  obtain ⟨q2, hw⟩ := hw
  obtain ⟨q3, hw⟩ := hw
  refine r_iald d_Co_gainOf_8 q2 q3 ?_
  exact r_ireturn d_Co_gainOf_9.1 rfl (hQ _ _ hw)
set_option maxRecDepth 100000 in
set_option maxHeartbeats 4000000 in
theorem s_Co_needOf {d : Nat} {v0 : Nat} {v1 : Int32} {h : Hp} {Q : Int32 → Hp → Prop} {QQ : Option AV → Hp → Prop} (hw : w_Co_needOf v0 v1 h Q) (hQ : ∀ r9 h9, Q r9 h9 → QQ (some (ai r9)) h9) : aCall m_Co_needOf d [ar v0, ai v1] h 0 0 QQ := by
  refine aCall_in pl_Co_needOf (nle rfl) ?_
  show aW none m_Co_needOf d 0 [(0, ar v0), (1, ai v1)] [] h 0 0 QQ
  unfold w_Co_needOf at hw
  refine r_aload_n (j := 0) d_Co_needOf_0 rfl ?_
  obtain ⟨q1, hw⟩ := hw
  refine r_getR d_Co_needOf_1 ok_1 (nle rfl) (nle rfl) rfl lf_Co_11 q1 ?_
  refine r_bipush d_Co_needOf_4 kb_32 ?_
  refine r_iload_n (j := 1) d_Co_needOf_6 rfl ?_
  refine r_iadd d_Co_needOf_7 ?_
  obtain ⟨q2, hw⟩ := hw
  obtain ⟨q3, hw⟩ := hw
  refine r_iald d_Co_needOf_8 q2 q3 ?_
  exact r_ireturn d_Co_needOf_9.1 rfl (hQ _ _ hw)
set_option maxRecDepth 100000 in
set_option maxHeartbeats 4000000 in
theorem s_Co_heldOf {d : Nat} {v0 : Nat} {v1 : Int32} {h : Hp} {Q : Int32 → Hp → Prop} {QQ : Option AV → Hp → Prop} (hw : w_Co_heldOf v0 v1 h Q) (hQ : ∀ r9 h9, Q r9 h9 → QQ (some (ai r9)) h9) : aCall m_Co_heldOf d [ar v0, ai v1] h 0 0 QQ := by
  refine aCall_in pl_Co_heldOf (nle rfl) ?_
  show aW none m_Co_heldOf d 0 [(0, ar v0), (1, ai v1)] [] h 0 0 QQ
  unfold w_Co_heldOf at hw
  refine r_aload_n (j := 0) d_Co_heldOf_0 rfl ?_
  obtain ⟨q1, hw⟩ := hw
  refine r_getR d_Co_heldOf_1 ok_1 (nle rfl) (nle rfl) rfl lf_Co_11 q1 ?_
  refine r_bipush d_Co_heldOf_4 kb_36 ?_
  refine r_iload_n (j := 1) d_Co_heldOf_6 rfl ?_
  refine r_iadd d_Co_heldOf_7 ?_
  obtain ⟨q2, hw⟩ := hw
  obtain ⟨q3, hw⟩ := hw
  refine r_iald d_Co_heldOf_8 q2 q3 ?_
  exact r_ireturn d_Co_heldOf_9.1 rfl (hQ _ _ hw)
set_option maxRecDepth 100000 in
set_option maxHeartbeats 4000000 in
theorem s_Co_steps {d : Nat} {v0 : Nat} {h : Hp} {Q : Int32 → Hp → Prop} {QQ : Option AV → Hp → Prop} (hw : w_Co_steps v0 h Q) (hQ : ∀ r9 h9, Q r9 h9 → QQ (some (ai r9)) h9) : aCall m_Co_steps d [ar v0] h 0 0 QQ := by
  refine aCall_in pl_Co_steps (nle rfl) ?_
  show aW none m_Co_steps d 0 [(0, ar v0)] [] h 0 0 QQ
  unfold w_Co_steps at hw
  refine r_aload_n (j := 0) d_Co_steps_0 rfl ?_
  obtain ⟨q1, hw⟩ := hw
  refine r_getR d_Co_steps_1 ok_1 (nle rfl) (nle rfl) rfl lf_Co_11 q1 ?_
  refine r_bipush d_Co_steps_4 kb_35 ?_
  obtain ⟨q2, hw⟩ := hw
  obtain ⟨q3, hw⟩ := hw
  refine r_iald d_Co_steps_6 q2 q3 ?_
  exact r_ireturn d_Co_steps_7.1 rfl (hQ _ _ hw)
set_option maxRecDepth 100000 in
set_option maxHeartbeats 4000000 in
theorem s_JM_abs {d : Nat} {v0 : Int32} {h : Hp} {Q : Int32 → Hp → Prop} {QQ : Option AV → Hp → Prop} (hw : w_JM_abs v0 h Q) (hQ : ∀ r9 h9, Q r9 h9 → QQ (some (ai r9)) h9) : aCall m_JM_abs d [ai v0] h 0 0 QQ := by
  refine aCall_in pl_JM_abs (nle rfl) ?_
  show aW none m_JM_abs d 0 [(0, ai v0)] [] h 0 0 QQ
  unfold w_JM_abs at hw
  refine r_iload_n (j := 0) d_JM_abs_0 rfl ?_
  refine r_if_ge d_JM_abs_1 (fun w9 => ?_) (fun w9 => ?_)
  · replace hw := hw.1 w9
    refine r_iload_n (j := 0) d_JM_abs_9 rfl ?_
    exact r_ireturn d_JM_abs_10.1 rfl (hQ _ _ hw)
  · replace hw := hw.2 w9
    refine r_iload_n (j := 0) d_JM_abs_4 rfl ?_
    refine r_ineg d_JM_abs_5 ?_
    refine r_goto d_JM_abs_6 ?_
    exact r_ireturn d_JM_abs_10.1 rfl (hQ _ _ hw)
set_option maxRecDepth 100000 in
set_option maxHeartbeats 4000000 in
theorem s_JM_max {d : Nat} {v0 : Int32} {v1 : Int32} {h : Hp} {Q : Int32 → Hp → Prop} {QQ : Option AV → Hp → Prop} (hw : w_JM_max v0 v1 h Q) (hQ : ∀ r9 h9, Q r9 h9 → QQ (some (ai r9)) h9) : aCall m_JM_max d [ai v0, ai v1] h 0 0 QQ := by
  refine aCall_in pl_JM_max (nle rfl) ?_
  show aW none m_JM_max d 0 [(0, ai v0), (1, ai v1)] [] h 0 0 QQ
  unfold w_JM_max at hw
  refine r_iload_n (j := 0) d_JM_max_0 rfl ?_
  refine r_iload_n (j := 1) d_JM_max_1 rfl ?_
  refine r_icmp_lt d_JM_max_2 (fun w9 => ?_) (fun w9 => ?_)
  · replace hw := hw.1 w9
    refine r_iload_n (j := 1) d_JM_max_9 rfl ?_
    exact r_ireturn d_JM_max_10.1 rfl (hQ _ _ hw)
  · replace hw := hw.2 w9
    refine r_iload_n (j := 0) d_JM_max_5 rfl ?_
    refine r_goto d_JM_max_6 ?_
    exact r_ireturn d_JM_max_10.1 rfl (hQ _ _ hw)
set_option maxRecDepth 100000 in
set_option maxHeartbeats 4000000 in
theorem s_Co_greatestNumber_L4 {d : Nat} (hd : 1 ≤ d + 1) {Q : Int32 → Hp → Prop} {QQ : Option AV → Hp → Prop} (hQ : ∀ r9 h9, Q r9 h9 → QQ (some (ai r9)) h9) {v0 : Nat} : ∀ (n : Nat) (v1 : Int32) (v2 : Int32) (h : Hp), w_Co_greatestNumber_L4 Q  v0 n v1 v2 h → aW none m_Co_greatestNumber (d + 1) 4 [(0, ar v0), (1, ai v1), (2, ai v2)] [] h 0 0 QQ := by
  intro n
  induction n with
  | zero => intro v1 v2 h hw; exact hw.elim
  | succ n ih =>
    intro v1 v2 h hw
    unfold w_Co_greatestNumber_L4 at hw
    refine r_iload_n (j := 2) d_Co_greatestNumber_4 rfl ?_
    refine r_aload_n (j := 0) d_Co_greatestNumber_5 rfl ?_
    obtain ⟨q1, hw⟩ := hw
    refine r_getI d_Co_greatestNumber_6 ok_1 (nle rfl) (nle rfl) rfl lf_Co_25 q1 ?_
    refine r_iconst d_Co_greatestNumber_9 kc_3 ?_
    refine r_imul d_Co_greatestNumber_10 ?_
    refine r_icmp_ge d_Co_greatestNumber_11 (fun w9 => ?_) (fun w9 => ?_)
    · replace hw := hw.1 w9
      refine r_iload_n (j := 1) d_Co_greatestNumber_34 rfl ?_
      exact r_ireturn d_Co_greatestNumber_35.1 rfl (hQ _ _ hw)
    · replace hw := hw.2 w9
      refine r_iload_n (j := 1) d_Co_greatestNumber_14 rfl ?_
      refine r_aload_n (j := 0) d_Co_greatestNumber_15 rfl ?_
      refine r_getR d_Co_greatestNumber_16 ok_1 (nle rfl) (nle rfl) rfl lf_Co_11 q1 ?_
      refine r_iload_n (j := 2) d_Co_greatestNumber_19 rfl ?_
      obtain ⟨q2, hw⟩ := hw
      obtain ⟨q3, hw⟩ := hw
      refine r_iald d_Co_greatestNumber_20 q2 q3 ?_
      refine r_callS (av := [ai (gI h (gR h v0 0) (ix v2))]) (rest := [ai v1]) d_Co_greatestNumber_21 mk_JM_abs ll_Co_37 st_JM_abs rfl rfl (nle rfl) (s_JM_abs  hw (fun r5 h4 hw => ?_))
      show aW none m_Co_greatestNumber (d + 1) 24 [(0, ar v0), (1, ai v1), (2, ai v2)] [ai r5, ai v1] h4 0 0 QQ
      refine r_callS (av := [ai v1, ai r5]) (rest := []) d_Co_greatestNumber_24 mk_JM_max ll_Co_43 st_JM_max rfl rfl (nle rfl) (s_JM_max  hw (fun r7 h6 hw => ?_))
      show aW none m_Co_greatestNumber (d + 1) 27 [(0, ar v0), (1, ai v1), (2, ai v2)] [ai r7] h6 0 0 QQ
      refine r_istore_n (ls2 := [(1, ai r7), (0, ar v0), (2, ai v2)]) d_Co_greatestNumber_27 (nle rfl) rfl ?_
      refine r_iinc (j := 2) (ls2 := [(2, ai (v2 + (1 : Int32))), (1, ai r7), (0, ar v0)]) d_Co_greatestNumber_28 rfl (congrArg (HAdd.hAdd v2) kc_1) (nle rfl) rfl ?_
      refine r_goto d_Co_greatestNumber_31 ?_
      refine r_pick (ls2 := [(0, ar v0), (1, ai r7), (2, ai (v2 + (1 : Int32)))]) [2, 1, 0] rfl ?_
      exact ih _ _ _ hw
set_option maxRecDepth 100000 in
set_option maxHeartbeats 4000000 in
theorem s_Co_greatestNumber {d : Nat} (hd : 1 ≤ d) {v0 : Nat} {h : Hp} {Q : Int32 → Hp → Prop} {QQ : Option AV → Hp → Prop} (hw : w_Co_greatestNumber v0 h Q) (hQ : ∀ r9 h9, Q r9 h9 → QQ (some (ai r9)) h9) : aCall m_Co_greatestNumber d [ar v0] h 0 0 QQ := by
  obtain ⟨d, rfl⟩ : ∃ d9, d = d9 + 1 := ⟨d - 1, by omega⟩
  refine aCall_in pl_Co_greatestNumber (nle rfl) ?_
  show aW none m_Co_greatestNumber (d + 1) 0 [(0, ar v0)] [] h 0 0 QQ
  unfold w_Co_greatestNumber at hw
  refine r_iconst d_Co_greatestNumber_0 kc_0 ?_
  refine r_istore_n (ls2 := [(1, ai (0 : Int32)), (0, ar v0)]) d_Co_greatestNumber_1 (nle rfl) rfl ?_
  refine r_iconst d_Co_greatestNumber_2 kc_0 ?_
  refine r_istore_n (ls2 := [(2, ai (0 : Int32)), (1, ai (0 : Int32)), (0, ar v0)]) d_Co_greatestNumber_3 (nle rfl) rfl ?_
  obtain ⟨n8, hw⟩ := hw
  refine r_pick (ls2 := [(0, ar v0), (1, ai (0 : Int32)), (2, ai (0 : Int32))]) [2, 1, 0] rfl ?_
  exact s_Co_greatestNumber_L4 hd hQ  n8 _ _ _ hw
set_option maxRecDepth 100000 in
set_option maxHeartbeats 4000000 in
theorem s_Co_isNothing_L2 {d : Nat} (hd : 1 ≤ d + 1) {Q : Bool → Hp → Prop} {QQ : Option AV → Hp → Prop} (hQ : ∀ r9 h9, Q r9 h9 → QQ (some (ai (b2i r9))) h9) {v0 : Nat} {v1 : Int32} : ∀ (n : Nat) (v2 : Int32) (h : Hp), w_Co_isNothing_L2 Q  v0 v1 n v2 h → aW none m_Co_isNothing (d + 1) 2 [(0, ar v0), (1, ai v1), (2, ai v2)] [] h 0 0 QQ := by
  intro n
  induction n with
  | zero => intro v2 h hw; exact hw.elim
  | succ n ih =>
    intro v2 h hw
    unfold w_Co_isNothing_L2 at hw
    refine r_iload_n (j := 2) d_Co_isNothing_2 rfl ?_
    refine r_iconst d_Co_isNothing_3 kc_3 ?_
    refine r_icmp_ge d_Co_isNothing_4 (fun w9 => ?_) (fun w9 => ?_)
    · replace hw := hw.1 w9
      refine r_iconst d_Co_isNothing_24 kc_1 ?_
      exact r_zreturn d_Co_isNothing_25.1 rfl (Or.inr rfl) (hQ _ _ hw)
    · replace hw := hw.2 w9
      refine r_aload_n (j := 0) d_Co_isNothing_7 rfl ?_
      refine r_iload_n (j := 1) d_Co_isNothing_8 rfl ?_
      refine r_iload_n (j := 2) d_Co_isNothing_9 rfl ?_
      obtain ⟨q3, hw⟩ := hw
      refine r_callV (av := [ai v1, ai v2]) (rest := []) (ci := 1) d_Co_isNothing_10 mk_Co_numberOf ll_Co_47 im_Co_numberOf se_Co_numberOf rfl (nle rfl) rfl rfl (nle rfl) q3 (s_Co_numberOf  hw (fun r2 h1 hw => ?_))
      show aW none m_Co_isNothing (d + 1) 13 [(0, ar v0), (1, ai v1), (2, ai v2)] [ai r2] h1 0 0 QQ
      refine r_if_eq d_Co_isNothing_13 (fun w9 => ?_) (fun w9 => ?_)
      · replace hw := hw.1 w9
        refine r_iinc (j := 2) (ls2 := [(2, ai (v2 + (1 : Int32))), (0, ar v0), (1, ai v1)]) d_Co_isNothing_18 rfl (congrArg (HAdd.hAdd v2) kc_1) (nle rfl) rfl ?_
        refine r_goto d_Co_isNothing_21 ?_
        refine r_pick (ls2 := [(0, ar v0), (1, ai v1), (2, ai (v2 + (1 : Int32)))]) [1, 2, 0] rfl ?_
        exact ih _ _ hw
      · replace hw := hw.2 w9
        refine r_iconst d_Co_isNothing_16 kc_0 ?_
        exact r_zreturn d_Co_isNothing_17.1 rfl (Or.inl rfl) (hQ _ _ hw)
set_option maxRecDepth 100000 in
set_option maxHeartbeats 4000000 in
theorem s_Co_isNothing {d : Nat} (hd : 1 ≤ d) {v0 : Nat} {v1 : Int32} {h : Hp} {Q : Bool → Hp → Prop} {QQ : Option AV → Hp → Prop} (hw : w_Co_isNothing v0 v1 h Q) (hQ : ∀ r9 h9, Q r9 h9 → QQ (some (ai (b2i r9))) h9) : aCall m_Co_isNothing d [ar v0, ai v1] h 0 0 QQ := by
  obtain ⟨d, rfl⟩ : ∃ d9, d = d9 + 1 := ⟨d - 1, by omega⟩
  refine aCall_in pl_Co_isNothing (nle rfl) ?_
  show aW none m_Co_isNothing (d + 1) 0 [(0, ar v0), (1, ai v1)] [] h 0 0 QQ
  unfold w_Co_isNothing at hw
  refine r_iconst d_Co_isNothing_0 kc_0 ?_
  refine r_istore_n (ls2 := [(2, ai (0 : Int32)), (0, ar v0), (1, ai v1)]) d_Co_isNothing_1 (nle rfl) rfl ?_
  obtain ⟨n4, hw⟩ := hw
  refine r_pick (ls2 := [(0, ar v0), (1, ai v1), (2, ai (0 : Int32))]) [1, 2, 0] rfl ?_
  exact s_Co_isNothing_L2 hd hQ  n4 _ _ hw
set_option maxRecDepth 100000 in
set_option maxHeartbeats 4000000 in
theorem s_Co_addTo_L3 {d : Nat} (hd : 1 ≤ d + 1) {Q : Hp → Prop} {QQ : Option AV → Hp → Prop} (hQ : ∀ h9, Q h9 → QQ none h9) {v0 : Nat} {v1 : Nat} {v2 : Int32} {v3 : Int32} : ∀ (n : Nat) (v4 : Int32) (h : Hp), w_Co_addTo_L3 Q  v0 v1 v2 v3 n v4 h → aW none m_Co_addTo (d + 1) 3 [(0, ar v0), (1, ar v1), (2, ai v2), (3, ai v3), (4, ai v4)] [] h 0 0 QQ := by
  intro n
  induction n with
  | zero => intro v4 h hw; exact hw.elim
  | succ n ih =>
    intro v4 h hw
    unfold w_Co_addTo_L3 at hw
    refine r_iload (j := 4) d_Co_addTo_3 rfl ?_
    refine r_iconst d_Co_addTo_5 kc_3 ?_
    refine r_icmp_ge d_Co_addTo_6 (fun w9 => ?_) (fun w9 => ?_)
    · replace hw := hw.1 w9
      exact r_return d_Co_addTo_31.1 rfl (hQ _ hw)
    · replace hw := hw.2 w9
      refine r_aload_n (j := 1) d_Co_addTo_9 rfl ?_
      refine r_iload (j := 4) d_Co_addTo_10 rfl ?_
      refine r_dup2 d_Co_addTo_12 rfl rfl ?_
      obtain ⟨q1, hw⟩ := hw
      obtain ⟨q2, hw⟩ := hw
      refine r_iald d_Co_addTo_13 q1 q2 ?_
      refine r_iload_n (j := 3) d_Co_addTo_14 rfl ?_
      refine r_aload_n (j := 0) d_Co_addTo_15 rfl ?_
      refine r_iload_n (j := 2) d_Co_addTo_16 rfl ?_
      refine r_iload (j := 4) d_Co_addTo_17 rfl ?_
      obtain ⟨q5, hw⟩ := hw
      refine r_callV (av := [ai v2, ai v4]) (rest := [ai v3, ai (gI h v1 (ix v4)), ai v4, ar v1]) (ci := 1) d_Co_addTo_19 mk_Co_numberOf ll_Co_47 im_Co_numberOf se_Co_numberOf rfl (nle rfl) rfl rfl (nle rfl) q5 (s_Co_numberOf  hw (fun r4 h3 hw => ?_))
      show aW none m_Co_addTo (d + 1) 22 [(0, ar v0), (1, ar v1), (2, ai v2), (3, ai v3), (4, ai v4)] [ai r4, ai v3, ai (gI h v1 (ix v4)), ai v4, ar v1] h3 0 0 QQ
      refine r_imul d_Co_addTo_22 ?_
      refine r_iadd d_Co_addTo_23 ?_
      obtain ⟨q6, hw⟩ := hw
      obtain ⟨q7, hw⟩ := hw
      refine r_iast d_Co_addTo_24 q6 q7 ?_
      refine r_iinc (j := 4) (ls2 := [(4, ai (v4 + (1 : Int32))), (0, ar v0), (1, ar v1), (2, ai v2), (3, ai v3)]) d_Co_addTo_25 rfl (congrArg (HAdd.hAdd v4) kc_1) (nle rfl) rfl ?_
      refine r_goto d_Co_addTo_28 ?_
      refine r_pick (ls2 := [(0, ar v0), (1, ar v1), (2, ai v2), (3, ai v3), (4, ai (v4 + (1 : Int32)))]) [1, 2, 3, 4, 0] rfl ?_
      exact ih _ _ hw
set_option maxRecDepth 100000 in
set_option maxHeartbeats 4000000 in
theorem s_Co_addTo {d : Nat} (hd : 1 ≤ d) {v0 : Nat} {v1 : Nat} {v2 : Int32} {v3 : Int32} {h : Hp} {Q : Hp → Prop} {QQ : Option AV → Hp → Prop} (hw : w_Co_addTo v0 v1 v2 v3 h Q) (hQ : ∀ h9, Q h9 → QQ none h9) : aCall m_Co_addTo d [ar v0, ar v1, ai v2, ai v3] h 0 0 QQ := by
  obtain ⟨d, rfl⟩ : ∃ d9, d = d9 + 1 := ⟨d - 1, by omega⟩
  refine aCall_in pl_Co_addTo (nle rfl) ?_
  show aW none m_Co_addTo (d + 1) 0 [(0, ar v0), (1, ar v1), (2, ai v2), (3, ai v3)] [] h 0 0 QQ
  unfold w_Co_addTo at hw
  refine r_iconst d_Co_addTo_0 kc_0 ?_
  refine r_istore (ls2 := [(4, ai (0 : Int32)), (0, ar v0), (1, ar v1), (2, ai v2), (3, ai v3)]) d_Co_addTo_1 (nle rfl) rfl ?_
  obtain ⟨n8, hw⟩ := hw
  refine r_pick (ls2 := [(0, ar v0), (1, ar v1), (2, ai v2), (3, ai v3), (4, ai (0 : Int32))]) [1, 2, 3, 4, 0] rfl ?_
  exact s_Co_addTo_L3 hd hQ  n8 _ _ hw
set_option maxRecDepth 100000 in
set_option maxHeartbeats 4000000 in
theorem s_Co_strayAt_L6 {d : Nat} (hd : 1 ≤ d + 1) {Q : Int32 → Hp → Prop} {QQ : Option AV → Hp → Prop} (hQ : ∀ r9 h9, Q r9 h9 → QQ (some (ai r9)) h9) {v0 : Nat} {v1 : Nat} {v2 : Int32} {v3 : Int32} : ∀ (n : Nat) (v4 : Int32) (v5 : Int32) (h : Hp), w_Co_strayAt_L6 Q  v0 v1 v2 v3 n v4 v5 h → aW none m_Co_strayAt (d + 1) 6 [(0, ar v0), (1, ar v1), (2, ai v2), (3, ai v3), (4, ai v4), (5, ai v5)] [] h 0 0 QQ := by
  intro n
  induction n with
  | zero => intro v4 v5 h hw; exact hw.elim
  | succ n ih =>
    intro v4 v5 h hw
    unfold w_Co_strayAt_L6 at hw
    refine r_iload (j := 5) d_Co_strayAt_6 rfl ?_
    refine r_iconst d_Co_strayAt_8 kc_3 ?_
    refine r_icmp_ge d_Co_strayAt_9 (fun w9 => ?_) (fun w9 => ?_)
    · replace hw := hw.1 w9
      refine r_iload (j := 4) d_Co_strayAt_43 rfl ?_
      exact r_ireturn d_Co_strayAt_45.1 rfl (hQ _ _ hw)
    · replace hw := hw.2 w9
      refine r_iload (j := 4) d_Co_strayAt_12 rfl ?_
      refine r_iload_n (j := 2) d_Co_strayAt_14 rfl ?_
      refine r_aload_n (j := 1) d_Co_strayAt_15 rfl ?_
      refine r_iload (j := 5) d_Co_strayAt_16 rfl ?_
      obtain ⟨q1, hw⟩ := hw
      obtain ⟨q2, hw⟩ := hw
      refine r_iald d_Co_strayAt_18 q1 q2 ?_
      refine r_imul d_Co_strayAt_19 ?_
      refine r_iload_n (j := 3) d_Co_strayAt_20 rfl ?_
      refine r_aload_n (j := 0) d_Co_strayAt_21 rfl ?_
      refine r_iload (j := 5) d_Co_strayAt_22 rfl ?_
      obtain ⟨q5, hw⟩ := hw
      refine r_callV (av := [ai v5]) (rest := [ai v3, ai (v2 * (gI h v1 (ix v5))), ai v4]) (ci := 1) d_Co_strayAt_24 mk_Co_needOf ll_Co_50 im_Co_needOf se_Co_needOf rfl (nle rfl) rfl rfl (nle rfl) q5 (s_Co_needOf  hw (fun r4 h3 hw => ?_))
      show aW none m_Co_strayAt (d + 1) 27 [(0, ar v0), (1, ar v1), (2, ai v2), (3, ai v3), (4, ai v4), (5, ai v5)] [ai r4, ai v3, ai (v2 * (gI h v1 (ix v5))), ai v4] h3 0 0 QQ
      refine r_imul d_Co_strayAt_27 ?_
      refine r_isub d_Co_strayAt_28 ?_
      refine r_callS (av := [ai ((v2 * (gI h v1 (ix v5))) - (v3 * r4))]) (rest := [ai v4]) d_Co_strayAt_29 mk_JM_abs ll_Co_37 st_JM_abs rfl rfl (nle rfl) (s_JM_abs  hw (fun r7 h6 hw => ?_))
      show aW none m_Co_strayAt (d + 1) 32 [(0, ar v0), (1, ar v1), (2, ai v2), (3, ai v3), (4, ai v4), (5, ai v5)] [ai r7, ai v4] h6 0 0 QQ
      refine r_callS (av := [ai v4, ai r7]) (rest := []) d_Co_strayAt_32 mk_JM_max ll_Co_43 st_JM_max rfl rfl (nle rfl) (s_JM_max  hw (fun r9 h8 hw => ?_))
      show aW none m_Co_strayAt (d + 1) 35 [(0, ar v0), (1, ar v1), (2, ai v2), (3, ai v3), (4, ai v4), (5, ai v5)] [ai r9] h8 0 0 QQ
      refine r_istore (ls2 := [(4, ai r9), (0, ar v0), (1, ar v1), (2, ai v2), (3, ai v3), (5, ai v5)]) d_Co_strayAt_35 (nle rfl) rfl ?_
      refine r_iinc (j := 5) (ls2 := [(5, ai (v5 + (1 : Int32))), (4, ai r9), (0, ar v0), (1, ar v1), (2, ai v2), (3, ai v3)]) d_Co_strayAt_37 rfl (congrArg (HAdd.hAdd v5) kc_1) (nle rfl) rfl ?_
      refine r_goto d_Co_strayAt_40 ?_
      refine r_pick (ls2 := [(0, ar v0), (1, ar v1), (2, ai v2), (3, ai v3), (4, ai r9), (5, ai (v5 + (1 : Int32)))]) [2, 3, 4, 5, 1, 0] rfl ?_
      exact ih _ _ _ hw
set_option maxRecDepth 100000 in
set_option maxHeartbeats 4000000 in
theorem s_Co_strayAt {d : Nat} (hd : 1 ≤ d) {v0 : Nat} {v1 : Nat} {v2 : Int32} {v3 : Int32} {h : Hp} {Q : Int32 → Hp → Prop} {QQ : Option AV → Hp → Prop} (hw : w_Co_strayAt v0 v1 v2 v3 h Q) (hQ : ∀ r9 h9, Q r9 h9 → QQ (some (ai r9)) h9) : aCall m_Co_strayAt d [ar v0, ar v1, ai v2, ai v3] h 0 0 QQ := by
  obtain ⟨d, rfl⟩ : ∃ d9, d = d9 + 1 := ⟨d - 1, by omega⟩
  refine aCall_in pl_Co_strayAt (nle rfl) ?_
  show aW none m_Co_strayAt (d + 1) 0 [(0, ar v0), (1, ar v1), (2, ai v2), (3, ai v3)] [] h 0 0 QQ
  unfold w_Co_strayAt at hw
  refine r_iconst d_Co_strayAt_0 kc_0 ?_
  refine r_istore (ls2 := [(4, ai (0 : Int32)), (0, ar v0), (1, ar v1), (2, ai v2), (3, ai v3)]) d_Co_strayAt_1 (nle rfl) rfl ?_
  refine r_iconst d_Co_strayAt_3 kc_0 ?_
  refine r_istore (ls2 := [(5, ai (0 : Int32)), (4, ai (0 : Int32)), (0, ar v0), (1, ar v1), (2, ai v2), (3, ai v3)]) d_Co_strayAt_4 (nle rfl) rfl ?_
  obtain ⟨n10, hw⟩ := hw
  refine r_pick (ls2 := [(0, ar v0), (1, ar v1), (2, ai v2), (3, ai v3), (4, ai (0 : Int32)), (5, ai (0 : Int32))]) [2, 3, 4, 5, 1, 0] rfl ?_
  exact s_Co_strayAt_L6 hd hQ  n10 _ _ _ hw
set_option maxRecDepth 100000 in
set_option maxHeartbeats 4000000 in
theorem s_Co_farFromNeed_L4 {d : Nat} (hd : 1 ≤ d + 1) {Q : Int32 → Hp → Prop} {QQ : Option AV → Hp → Prop} (hQ : ∀ r9 h9, Q r9 h9 → QQ (some (ai r9)) h9) {v0 : Nat} {v1 : Nat} : ∀ (n : Nat) (v2 : Int32) (v3 : Int32) (h : Hp), w_Co_farFromNeed_L4 Q  v0 v1 n v2 v3 h → aW none m_Co_farFromNeed (d + 1) 4 [(0, ar v0), (1, ar v1), (2, ai v2), (3, ai v3)] [] h 0 0 QQ := by
  intro n
  induction n with
  | zero => intro v2 v3 h hw; exact hw.elim
  | succ n ih =>
    intro v2 v3 h hw
    unfold w_Co_farFromNeed_L4 at hw
    refine r_iload_n (j := 3) d_Co_farFromNeed_4 rfl ?_
    refine r_iconst d_Co_farFromNeed_5 kc_3 ?_
    refine r_icmp_ge d_Co_farFromNeed_6 (fun w9 => ?_) (fun w9 => ?_)
    · replace hw := hw.1 w9
      refine r_iload_n (j := 2) d_Co_farFromNeed_30 rfl ?_
      exact r_ireturn d_Co_farFromNeed_31.1 rfl (hQ _ _ hw)
    · replace hw := hw.2 w9
      refine r_iload_n (j := 2) d_Co_farFromNeed_9 rfl ?_
      refine r_aload_n (j := 1) d_Co_farFromNeed_10 rfl ?_
      refine r_iload_n (j := 3) d_Co_farFromNeed_11 rfl ?_
      obtain ⟨q1, hw⟩ := hw
      obtain ⟨q2, hw⟩ := hw
      refine r_iald d_Co_farFromNeed_12 q1 q2 ?_
      refine r_aload_n (j := 0) d_Co_farFromNeed_13 rfl ?_
      refine r_iload_n (j := 3) d_Co_farFromNeed_14 rfl ?_
      obtain ⟨q5, hw⟩ := hw
      refine r_callV (av := [ai v3]) (rest := [ai (gI h v1 (ix v3)), ai v2]) (ci := 1) d_Co_farFromNeed_15 mk_Co_needOf ll_Co_50 im_Co_needOf se_Co_needOf rfl (nle rfl) rfl rfl (nle rfl) q5 (s_Co_needOf  hw (fun r4 h3 hw => ?_))
      show aW none m_Co_farFromNeed (d + 1) 18 [(0, ar v0), (1, ar v1), (2, ai v2), (3, ai v3)] [ai r4, ai (gI h v1 (ix v3)), ai v2] h3 0 0 QQ
      refine r_isub d_Co_farFromNeed_18 ?_
      refine r_callS (av := [ai ((gI h v1 (ix v3)) - r4)]) (rest := [ai v2]) d_Co_farFromNeed_19 mk_JM_abs ll_Co_37 st_JM_abs rfl rfl (nle rfl) (s_JM_abs  hw (fun r7 h6 hw => ?_))
      show aW none m_Co_farFromNeed (d + 1) 22 [(0, ar v0), (1, ar v1), (2, ai v2), (3, ai v3)] [ai r7, ai v2] h6 0 0 QQ
      refine r_iadd d_Co_farFromNeed_22 ?_
      refine r_istore_n (ls2 := [(2, ai (v2 + r7)), (0, ar v0), (1, ar v1), (3, ai v3)]) d_Co_farFromNeed_23 (nle rfl) rfl ?_
      refine r_iinc (j := 3) (ls2 := [(3, ai (v3 + (1 : Int32))), (2, ai (v2 + r7)), (0, ar v0), (1, ar v1)]) d_Co_farFromNeed_24 rfl (congrArg (HAdd.hAdd v3) kc_1) (nle rfl) rfl ?_
      refine r_goto d_Co_farFromNeed_27 ?_
      refine r_pick (ls2 := [(0, ar v0), (1, ar v1), (2, ai (v2 + r7)), (3, ai (v3 + (1 : Int32)))]) [2, 3, 1, 0] rfl ?_
      exact ih _ _ _ hw
set_option maxRecDepth 100000 in
set_option maxHeartbeats 4000000 in
theorem s_Co_farFromNeed {d : Nat} (hd : 1 ≤ d) {v0 : Nat} {v1 : Nat} {h : Hp} {Q : Int32 → Hp → Prop} {QQ : Option AV → Hp → Prop} (hw : w_Co_farFromNeed v0 v1 h Q) (hQ : ∀ r9 h9, Q r9 h9 → QQ (some (ai r9)) h9) : aCall m_Co_farFromNeed d [ar v0, ar v1] h 0 0 QQ := by
  obtain ⟨d, rfl⟩ : ∃ d9, d = d9 + 1 := ⟨d - 1, by omega⟩
  refine aCall_in pl_Co_farFromNeed (nle rfl) ?_
  show aW none m_Co_farFromNeed (d + 1) 0 [(0, ar v0), (1, ar v1)] [] h 0 0 QQ
  unfold w_Co_farFromNeed at hw
  refine r_iconst d_Co_farFromNeed_0 kc_0 ?_
  refine r_istore_n (ls2 := [(2, ai (0 : Int32)), (0, ar v0), (1, ar v1)]) d_Co_farFromNeed_1 (nle rfl) rfl ?_
  refine r_iconst d_Co_farFromNeed_2 kc_0 ?_
  refine r_istore_n (ls2 := [(3, ai (0 : Int32)), (2, ai (0 : Int32)), (0, ar v0), (1, ar v1)]) d_Co_farFromNeed_3 (nle rfl) rfl ?_
  obtain ⟨n8, hw⟩ := hw
  refine r_pick (ls2 := [(0, ar v0), (1, ar v1), (2, ai (0 : Int32)), (3, ai (0 : Int32))]) [2, 3, 1, 0] rfl ?_
  exact s_Co_farFromNeed_L4 hd hQ  n8 _ _ _ hw
set_option maxRecDepth 100000 in
set_option maxHeartbeats 4000000 in
theorem s_Co_heldSums_L7 {d : Nat} (hd : 2 ≤ d + 1) {Q : Hp → Prop} {QQ : Option AV → Hp → Prop} (hQ : ∀ h9, Q h9 → QQ none h9) {v0 : Nat} {v1 : Nat} : ∀ (n : Nat) (v2 : Int32) (h : Hp), w_Co_heldSums_L7 Q  v0 v1 n v2 h → aW none m_Co_heldSums (d + 1) 7 [(0, ar v0), (1, ar v1), (2, ai v2)] [] h 0 0 QQ := by
  intro n
  induction n with
  | zero => intro v2 h hw; exact hw.elim
  | succ n ih =>
    intro v2 h hw
    unfold w_Co_heldSums_L7 at hw
    refine r_iload_n (j := 2) d_Co_heldSums_7 rfl ?_
    refine r_aload_n (j := 0) d_Co_heldSums_8 rfl ?_
    obtain ⟨q2, hw⟩ := hw
    refine r_getI d_Co_heldSums_9 ok_1 (nle rfl) (nle rfl) rfl lf_Co_25 q2 ?_
    refine r_icmp_ge d_Co_heldSums_12 (fun w9 => ?_) (fun w9 => ?_)
    · replace hw := hw.1 w9
      exact r_return d_Co_heldSums_32.1 rfl (hQ _ hw)
    · replace hw := hw.2 w9
      refine r_aload_n (j := 0) d_Co_heldSums_15 rfl ?_
      refine r_aload_n (j := 1) d_Co_heldSums_16 rfl ?_
      refine r_iload_n (j := 2) d_Co_heldSums_17 rfl ?_
      refine r_aload_n (j := 0) d_Co_heldSums_18 rfl ?_
      refine r_iload_n (j := 2) d_Co_heldSums_19 rfl ?_
      refine r_callV (av := [ai v2]) (rest := [ai v2, ar v1, ar v0]) (ci := 1) d_Co_heldSums_20 mk_Co_heldOf ll_Co_53 im_Co_heldOf se_Co_heldOf rfl (nle rfl) rfl rfl (nle rfl) q2 (s_Co_heldOf  hw (fun r4 h3 hw => ?_))
      show aW none m_Co_heldSums (d + 1) 23 [(0, ar v0), (1, ar v1), (2, ai v2)] [ai r4, ai v2, ar v1, ar v0] h3 0 0 QQ
      obtain ⟨q6, hw⟩ := hw
      refine r_callV (av := [ar v1, ai v2, ai r4]) (rest := []) (ci := 1) d_Co_heldSums_23 mk_Co_addTo ll_Co_56 im_Co_addTo se_Co_addTo rfl (nle rfl) rfl rfl (nle rfl) q6 (s_Co_addTo (by omega) hw (fun h5 hw => ?_))
      show aW none m_Co_heldSums (d + 1) 26 [(0, ar v0), (1, ar v1), (2, ai v2)] [] h5 0 0 QQ
      refine r_iinc (j := 2) (ls2 := [(2, ai (v2 + (1 : Int32))), (0, ar v0), (1, ar v1)]) d_Co_heldSums_26 rfl (congrArg (HAdd.hAdd v2) kc_1) (nle rfl) rfl ?_
      refine r_goto d_Co_heldSums_29 ?_
      refine r_pick (ls2 := [(0, ar v0), (1, ar v1), (2, ai (v2 + (1 : Int32)))]) [1, 2, 0] rfl ?_
      exact ih _ _ hw
set_option maxRecDepth 100000 in
set_option maxHeartbeats 4000000 in
theorem s_Co_heldSums {d : Nat} (hd : 2 ≤ d) {v0 : Nat} {v1 : Nat} {h : Hp} {Q : Hp → Prop} {QQ : Option AV → Hp → Prop} (hw : w_Co_heldSums v0 v1 h Q) (hQ : ∀ h9, Q h9 → QQ none h9) : aCall m_Co_heldSums d [ar v0, ar v1] h 0 0 QQ := by
  obtain ⟨d, rfl⟩ : ∃ d9, d = d9 + 1 := ⟨d - 1, by omega⟩
  refine aCall_in pl_Co_heldSums (nle rfl) ?_
  show aW none m_Co_heldSums (d + 1) 0 [(0, ar v0), (1, ar v1)] [] h 0 0 QQ
  unfold w_Co_heldSums at hw
  refine r_aload_n (j := 1) d_Co_heldSums_0 rfl ?_
  refine r_iconst d_Co_heldSums_1 kc_0 ?_
  refine r_callS (av := [ar v1, ai (0 : Int32)]) (rest := []) d_Co_heldSums_2 mk_JA_fill_IIV ll_Co_19 st_JA_fill_IIV rfl rfl (nle rfl) (s_JA_fill_IIV  hw (fun h1 hw => ?_))
  show aW none m_Co_heldSums (d + 1) 5 [(0, ar v0), (1, ar v1)] [] h1 0 0 QQ
  refine r_iconst d_Co_heldSums_5 kc_0 ?_
  refine r_istore_n (ls2 := [(2, ai (0 : Int32)), (0, ar v0), (1, ar v1)]) d_Co_heldSums_6 (nle rfl) rfl ?_
  obtain ⟨n7, hw⟩ := hw
  refine r_pick (ls2 := [(0, ar v0), (1, ar v1), (2, ai (0 : Int32))]) [1, 2, 0] rfl ?_
  exact s_Co_heldSums_L7 hd hQ  n7 _ _ hw
set_option maxRecDepth 100000 in
set_option maxHeartbeats 4000000 in
theorem s_Co_heldGain_L4 {d : Nat} (hd : 1 ≤ d + 1) {Q : Int32 → Hp → Prop} {QQ : Option AV → Hp → Prop} (hQ : ∀ r9 h9, Q r9 h9 → QQ (some (ai r9)) h9) {v0 : Nat} : ∀ (n : Nat) (v1 : Int32) (v2 : Int32) (h : Hp), w_Co_heldGain_L4 Q  v0 n v1 v2 h → aW none m_Co_heldGain (d + 1) 4 [(0, ar v0), (1, ai v1), (2, ai v2)] [] h 0 0 QQ := by
  intro n
  induction n with
  | zero => intro v1 v2 h hw; exact hw.elim
  | succ n ih =>
    intro v1 v2 h hw
    unfold w_Co_heldGain_L4 at hw
    refine r_iload_n (j := 2) d_Co_heldGain_4 rfl ?_
    refine r_aload_n (j := 0) d_Co_heldGain_5 rfl ?_
    obtain ⟨q1, hw⟩ := hw
    refine r_getI d_Co_heldGain_6 ok_1 (nle rfl) (nle rfl) rfl lf_Co_25 q1 ?_
    refine r_icmp_ge d_Co_heldGain_9 (fun w9 => ?_) (fun w9 => ?_)
    · replace hw := hw.1 w9
      refine r_iload_n (j := 1) d_Co_heldGain_32 rfl ?_
      exact r_ireturn d_Co_heldGain_33.1 rfl (hQ _ _ hw)
    · replace hw := hw.2 w9
      refine r_iload_n (j := 1) d_Co_heldGain_12 rfl ?_
      refine r_aload_n (j := 0) d_Co_heldGain_13 rfl ?_
      refine r_iload_n (j := 2) d_Co_heldGain_14 rfl ?_
      refine r_callV (av := [ai v2]) (rest := [ai v1]) (ci := 1) d_Co_heldGain_15 mk_Co_heldOf ll_Co_53 im_Co_heldOf se_Co_heldOf rfl (nle rfl) rfl rfl (nle rfl) q1 (s_Co_heldOf  hw (fun r3 h2 hw => ?_))
      show aW none m_Co_heldGain (d + 1) 18 [(0, ar v0), (1, ai v1), (2, ai v2)] [ai r3, ai v1] h2 0 0 QQ
      refine r_aload_n (j := 0) d_Co_heldGain_18 rfl ?_
      refine r_iload_n (j := 2) d_Co_heldGain_19 rfl ?_
      obtain ⟨q6, hw⟩ := hw
      refine r_callV (av := [ai v2]) (rest := [ai r3, ai v1]) (ci := 1) d_Co_heldGain_20 mk_Co_gainOf ll_Co_60 im_Co_gainOf se_Co_gainOf rfl (nle rfl) rfl rfl (nle rfl) q6 (s_Co_gainOf  hw (fun r5 h4 hw => ?_))
      show aW none m_Co_heldGain (d + 1) 23 [(0, ar v0), (1, ai v1), (2, ai v2)] [ai r5, ai r3, ai v1] h4 0 0 QQ
      refine r_imul d_Co_heldGain_23 ?_
      refine r_iadd d_Co_heldGain_24 ?_
      refine r_istore_n (ls2 := [(1, ai (v1 + (r3 * r5))), (0, ar v0), (2, ai v2)]) d_Co_heldGain_25 (nle rfl) rfl ?_
      refine r_iinc (j := 2) (ls2 := [(2, ai (v2 + (1 : Int32))), (1, ai (v1 + (r3 * r5))), (0, ar v0)]) d_Co_heldGain_26 rfl (congrArg (HAdd.hAdd v2) kc_1) (nle rfl) rfl ?_
      refine r_goto d_Co_heldGain_29 ?_
      refine r_pick (ls2 := [(0, ar v0), (1, ai (v1 + (r3 * r5))), (2, ai (v2 + (1 : Int32)))]) [2, 1, 0] rfl ?_
      exact ih _ _ _ hw
set_option maxRecDepth 100000 in
set_option maxHeartbeats 4000000 in
theorem s_Co_heldGain {d : Nat} (hd : 1 ≤ d) {v0 : Nat} {h : Hp} {Q : Int32 → Hp → Prop} {QQ : Option AV → Hp → Prop} (hw : w_Co_heldGain v0 h Q) (hQ : ∀ r9 h9, Q r9 h9 → QQ (some (ai r9)) h9) : aCall m_Co_heldGain d [ar v0] h 0 0 QQ := by
  obtain ⟨d, rfl⟩ : ∃ d9, d = d9 + 1 := ⟨d - 1, by omega⟩
  refine aCall_in pl_Co_heldGain (nle rfl) ?_
  show aW none m_Co_heldGain (d + 1) 0 [(0, ar v0)] [] h 0 0 QQ
  unfold w_Co_heldGain at hw
  refine r_iconst d_Co_heldGain_0 kc_0 ?_
  refine r_istore_n (ls2 := [(1, ai (0 : Int32)), (0, ar v0)]) d_Co_heldGain_1 (nle rfl) rfl ?_
  refine r_iconst d_Co_heldGain_2 kc_0 ?_
  refine r_istore_n (ls2 := [(2, ai (0 : Int32)), (1, ai (0 : Int32)), (0, ar v0)]) d_Co_heldGain_3 (nle rfl) rfl ?_
  obtain ⟨n7, hw⟩ := hw
  refine r_pick (ls2 := [(0, ar v0), (1, ai (0 : Int32)), (2, ai (0 : Int32))]) [2, 1, 0] rfl ?_
  exact s_Co_heldGain_L4 hd hQ  n7 _ _ _ hw
set_option maxRecDepth 100000 in
set_option maxHeartbeats 4000000 in
theorem s_Co_heldSteps_L4 {d : Nat} (hd : 1 ≤ d + 1) {Q : Int32 → Hp → Prop} {QQ : Option AV → Hp → Prop} (hQ : ∀ r9 h9, Q r9 h9 → QQ (some (ai r9)) h9) {v0 : Nat} : ∀ (n : Nat) (v1 : Int32) (v2 : Int32) (h : Hp), w_Co_heldSteps_L4 Q  v0 n v1 v2 h → aW none m_Co_heldSteps (d + 1) 4 [(0, ar v0), (1, ai v1), (2, ai v2)] [] h 0 0 QQ := by
  intro n
  induction n with
  | zero => intro v1 v2 h hw; exact hw.elim
  | succ n ih =>
    intro v1 v2 h hw
    unfold w_Co_heldSteps_L4 at hw
    refine r_iload_n (j := 2) d_Co_heldSteps_4 rfl ?_
    refine r_aload_n (j := 0) d_Co_heldSteps_5 rfl ?_
    obtain ⟨q1, hw⟩ := hw
    refine r_getI d_Co_heldSteps_6 ok_1 (nle rfl) (nle rfl) rfl lf_Co_25 q1 ?_
    refine r_icmp_ge d_Co_heldSteps_9 (fun w9 => ?_) (fun w9 => ?_)
    · replace hw := hw.1 w9
      refine r_iload_n (j := 1) d_Co_heldSteps_26 rfl ?_
      exact r_ireturn d_Co_heldSteps_27.1 rfl (hQ _ _ hw)
    · replace hw := hw.2 w9
      refine r_iload_n (j := 1) d_Co_heldSteps_12 rfl ?_
      refine r_aload_n (j := 0) d_Co_heldSteps_13 rfl ?_
      refine r_iload_n (j := 2) d_Co_heldSteps_14 rfl ?_
      refine r_callV (av := [ai v2]) (rest := [ai v1]) (ci := 1) d_Co_heldSteps_15 mk_Co_heldOf ll_Co_53 im_Co_heldOf se_Co_heldOf rfl (nle rfl) rfl rfl (nle rfl) q1 (s_Co_heldOf  hw (fun r3 h2 hw => ?_))
      show aW none m_Co_heldSteps (d + 1) 18 [(0, ar v0), (1, ai v1), (2, ai v2)] [ai r3, ai v1] h2 0 0 QQ
      refine r_iadd d_Co_heldSteps_18 ?_
      refine r_istore_n (ls2 := [(1, ai (v1 + r3)), (0, ar v0), (2, ai v2)]) d_Co_heldSteps_19 (nle rfl) rfl ?_
      refine r_iinc (j := 2) (ls2 := [(2, ai (v2 + (1 : Int32))), (1, ai (v1 + r3)), (0, ar v0)]) d_Co_heldSteps_20 rfl (congrArg (HAdd.hAdd v2) kc_1) (nle rfl) rfl ?_
      refine r_goto d_Co_heldSteps_23 ?_
      refine r_pick (ls2 := [(0, ar v0), (1, ai (v1 + r3)), (2, ai (v2 + (1 : Int32)))]) [2, 1, 0] rfl ?_
      exact ih _ _ _ hw
set_option maxRecDepth 100000 in
set_option maxHeartbeats 4000000 in
theorem s_Co_heldSteps {d : Nat} (hd : 1 ≤ d) {v0 : Nat} {h : Hp} {Q : Int32 → Hp → Prop} {QQ : Option AV → Hp → Prop} (hw : w_Co_heldSteps v0 h Q) (hQ : ∀ r9 h9, Q r9 h9 → QQ (some (ai r9)) h9) : aCall m_Co_heldSteps d [ar v0] h 0 0 QQ := by
  obtain ⟨d, rfl⟩ : ∃ d9, d = d9 + 1 := ⟨d - 1, by omega⟩
  refine aCall_in pl_Co_heldSteps (nle rfl) ?_
  show aW none m_Co_heldSteps (d + 1) 0 [(0, ar v0)] [] h 0 0 QQ
  unfold w_Co_heldSteps at hw
  refine r_iconst d_Co_heldSteps_0 kc_0 ?_
  refine r_istore_n (ls2 := [(1, ai (0 : Int32)), (0, ar v0)]) d_Co_heldSteps_1 (nle rfl) rfl ?_
  refine r_iconst d_Co_heldSteps_2 kc_0 ?_
  refine r_istore_n (ls2 := [(2, ai (0 : Int32)), (1, ai (0 : Int32)), (0, ar v0)]) d_Co_heldSteps_3 (nle rfl) rfl ?_
  obtain ⟨n4, hw⟩ := hw
  refine r_pick (ls2 := [(0, ar v0), (1, ai (0 : Int32)), (2, ai (0 : Int32))]) [2, 1, 0] rfl ?_
  exact s_Co_heldSteps_L4 hd hQ  n4 _ _ _ hw
set_option maxRecDepth 100000 in
set_option maxHeartbeats 4000000 in
theorem s_Cr_init {d : Nat} (hd : 1 ≤ d) {v0 : Nat} {v1 : Nat} {bc bs : Nat} {h : Hp} {Q : Hp → Prop} {QQ : Option AV → Hp → Prop} (hw : w_Cr_init bc bs v0 v1 h Q) (hQ : ∀ h9, Q h9 → QQ none h9) : aCall m_Cr_init d [ar v0, ar v1] h bc bs QQ := by
  obtain ⟨d, rfl⟩ : ∃ d9, d = d9 + 1 := ⟨d - 1, by omega⟩
  refine aCall_in pl_Cr_init (nle rfl) ?_
  show aW none m_Cr_init (d + 1) 0 [(0, ar v0), (1, ar v1)] [] h bc bs QQ
  unfold w_Cr_init at hw
  refine r_aload_n (j := 0) d_Cr_init_0 rfl ?_
  obtain ⟨q1, hw⟩ := hw
  refine r_objInit d_Cr_init_1 ll_Cr_5 oi_1 oi_2 (nle rfl) q1 ?_
  refine r_aload_n (j := 0) d_Cr_init_4 rfl ?_
  refine r_bipush d_Cr_init_5 kb_20 ?_
  obtain ⟨q2, hw⟩ := hw
  obtain ⟨q3, hw⟩ := hw
  obtain ⟨b4, t5, u8, u9, u6, u7, hw⟩ := hw
  subst u8 u9
  refine r_newL d_Cr_init_7 ac_J u6 rfl u7 (refB_r q2 refB_n) (refL_r q2 (refL_r q3 refL_n)) ?_
  generalize e8 : nw h 21 (ix (20 : Int32)) = h6 at hw ⊢
  generalize e7 : gX h = a7 at hw ⊢
  replace hw := hw a7 h6 e7.symm e8.symm
  obtain ⟨q8, hw⟩ := hw
  obtain ⟨q9, hw⟩ := hw
  refine r_putFR d_Cr_init_9 ok_2 (nle rfl) (nle rfl) rfl lf_Cr_11 rfl rfl rfl q8 q9 ?_
  refine r_aload_n (j := 0) d_Cr_init_12 rfl ?_
  refine r_iconst d_Cr_init_13 kc_4 ?_
  obtain ⟨q10, hw⟩ := hw
  obtain ⟨q11, hw⟩ := hw
  obtain ⟨b12, t13, u8, u9, u6, u7, hw⟩ := hw
  subst u8 u9
  refine r_newI d_Cr_init_14 ac_I u6 rfl u7 (refB_r q10 refB_n) (refL_r q10 (refL_r q11 refL_n)) ?_
  generalize e8 : nw (sR h6 v0 1 a7) 20 (ix (4 : Int32)) = h14 at hw ⊢
  generalize e7 : gX (sR h6 v0 1 a7) = a15 at hw ⊢
  replace hw := hw a15 h14 e7.symm e8.symm
  obtain ⟨q16, hw⟩ := hw
  obtain ⟨q17, hw⟩ := hw
  refine r_putFR d_Cr_init_16 ok_2 (nle rfl) (nle rfl) rfl lf_Cr_15 rfl rfl rfl q16 q17 ?_
  refine r_aload_n (j := 0) d_Cr_init_19 rfl ?_
  refine r_bipush d_Cr_init_20 kb_8 ?_
  obtain ⟨q18, hw⟩ := hw
  obtain ⟨q19, hw⟩ := hw
  obtain ⟨b20, t21, u8, u9, u6, u7, hw⟩ := hw
  subst u8 u9
  refine r_newL d_Cr_init_22 ac_J u6 rfl u7 (refB_r q18 refB_n) (refL_r q18 (refL_r q19 refL_n)) ?_
  generalize e8 : nw (sR h14 v0 2 a15) 21 (ix (8 : Int32)) = h22 at hw ⊢
  generalize e7 : gX (sR h14 v0 2 a15) = a23 at hw ⊢
  replace hw := hw a23 h22 e7.symm e8.symm
  obtain ⟨q24, hw⟩ := hw
  obtain ⟨q25, hw⟩ := hw
  refine r_putFR d_Cr_init_24 ok_2 (nle rfl) (nle rfl) rfl lf_Cr_19 rfl rfl rfl q24 q25 ?_
  refine r_aload_n (j := 0) d_Cr_init_27 rfl ?_
  refine r_lconst d_Cr_init_28 kl_1 ?_
  refine r_putL d_Cr_init_29 ok_2 (nle rfl) (nle rfl) rfl lf_Cr_22 rfl q24 ?_
  refine r_aload_n (j := 0) d_Cr_init_32 rfl ?_
  refine r_aload_n (j := 1) d_Cr_init_33 rfl ?_
  obtain ⟨q26, hw⟩ := hw
  refine r_putFR d_Cr_init_34 ok_2 (nle rfl) (nle rfl) rfl lf_Cr_26 rfl rfl rfl q24 q26 ?_
  exact r_return d_Cr_init_37.1 rfl (hQ _ hw)
set_option maxRecDepth 100000 in
set_option maxHeartbeats 4000000 in
theorem s_Cr_isThere {d : Nat} {v0 : Nat} {h : Hp} {Q : Bool → Hp → Prop} {QQ : Option AV → Hp → Prop} (hw : w_Cr_isThere v0 h Q) (hQ : ∀ r9 h9, Q r9 h9 → QQ (some (ai (b2i r9))) h9) : aCall m_Cr_isThere d [ar v0] h 0 0 QQ := by
  refine aCall_in pl_Cr_isThere (nle rfl) ?_
  show aW none m_Cr_isThere d 0 [(0, ar v0)] [] h 0 0 QQ
  unfold w_Cr_isThere at hw
  refine r_aload_n (j := 0) d_Cr_isThere_0 rfl ?_
  obtain ⟨q1, hw⟩ := hw
  refine r_getI d_Cr_isThere_1 ok_2 (nle rfl) (nle rfl) rfl lf_Cr_30 q1 ?_
  refine r_if_le d_Cr_isThere_4 (fun w9 => ?_) (fun w9 => ?_)
  · replace hw := hw.1 w9
    refine r_iconst d_Cr_isThere_18 kc_0 ?_
    exact r_zreturn d_Cr_isThere_19.1 rfl (Or.inl rfl) (hQ _ _ hw)
  · replace hw := hw.2 w9
    refine r_aload_n (j := 0) d_Cr_isThere_7 rfl ?_
    refine r_getI d_Cr_isThere_8 ok_2 (nle rfl) (nle rfl) rfl lf_Cr_34 q1 ?_
    refine r_if_ne d_Cr_isThere_11 (fun w9 => ?_) (fun w9 => ?_)
    · replace hw := hw.2 w9
      refine r_iconst d_Cr_isThere_18 kc_0 ?_
      exact r_zreturn d_Cr_isThere_19.1 rfl (Or.inl rfl) (hQ _ _ hw)
    · replace hw := hw.1 w9
      refine r_iconst d_Cr_isThere_14 kc_1 ?_
      refine r_goto d_Cr_isThere_15 ?_
      exact r_zreturn d_Cr_isThere_19.1 rfl (Or.inr rfl) (hQ _ _ hw)
set_option maxRecDepth 100000 in
set_option maxHeartbeats 4000000 in
theorem s_Cr_upperOf {d : Nat} {v0 : Nat} {v1 : Int32} {h : Hp} {Q : Int64 → Hp → Prop} {QQ : Option AV → Hp → Prop} (hw : w_Cr_upperOf v0 v1 h Q) (hQ : ∀ r9 h9, Q r9 h9 → QQ (some (al r9)) h9) : aCall m_Cr_upperOf d [ar v0, ai v1] h 0 0 QQ := by
  refine aCall_in pl_Cr_upperOf (nle rfl) ?_
  show aW none m_Cr_upperOf d 0 [(0, ar v0), (1, ai v1)] [] h 0 0 QQ
  unfold w_Cr_upperOf at hw
  refine r_aload_n (j := 0) d_Cr_upperOf_0 rfl ?_
  obtain ⟨q1, hw⟩ := hw
  refine r_getR d_Cr_upperOf_1 ok_2 (nle rfl) (nle rfl) rfl lf_Cr_19 q1 ?_
  refine r_iload_n (j := 1) d_Cr_upperOf_4 rfl ?_
  obtain ⟨q2, hw⟩ := hw
  obtain ⟨q3, hw⟩ := hw
  refine r_lald d_Cr_upperOf_5 q2 q3 ?_
  exact r_lreturn d_Cr_upperOf_6.1 rfl (hQ _ _ hw)
set_option maxRecDepth 100000 in
set_option maxHeartbeats 4000000 in
theorem s_Cr_eliminate_L147 {d : Nat} {Q : Bool → Hp → Prop} {QQ : Option AV → Hp → Prop} (hQ : ∀ r9 h9, Q r9 h9 → QQ (some (ai (b2i r9))) h9) {k125 : Int32 → Hp → Prop} (hk125 : ∀ v6 h9, k125 v6 h9 → aW none m_Cr_eliminate d 125 [(0, ar v0), (1, ai v1), (2, ai v2), (4, al v4), (6, ai v6)] [] h9 0 0 QQ) {v0 : Nat} {v1 : Int32} {v2 : Int32} {v4 : Int64} {v6 : Int32} {v7 : Int64} : ∀ (n : Nat) (v9 : Int32) (h : Hp), w_Cr_eliminate_L147 Q k125 v0 v1 v2 v4 v6 v7 n v9 h → aW none m_Cr_eliminate d 147 [(0, ar v0), (1, ai v1), (2, ai v2), (4, al v4), (6, ai v6), (7, al v7), (9, ai v9)] [] h 0 0 QQ := by
  intro n
  induction n with
  | zero => intro v9 h hw; exact hw.elim
  | succ n ih =>
    intro v9 h hw
    unfold w_Cr_eliminate_L147 at hw
    refine r_iload (j := 6) d_Cr_eliminate_147 rfl ?_
    refine r_aload_n (j := 0) d_Cr_eliminate_149 rfl ?_
    obtain ⟨q9, hw⟩ := hw
    refine r_getI d_Cr_eliminate_150 ok_2 (nle rfl) (nle rfl) rfl lf_Cr_79 q9 ?_
    refine r_icmp_gt d_Cr_eliminate_153 (fun w9 => ?_) (fun w9 => ?_)
    · replace hw := hw.1 w9
      refine r_iinc (j := 4) (ls2 := [(6, ai (v6 + (1 : Int32))), (0, ar v0), (1, ai v1), (2, ai v2), (4, al v4), (7, al v7), (9, ai v9)]) d_Cr_eliminate_219 rfl (congrArg (HAdd.hAdd v6) kc_1) (nle rfl) rfl ?_
      refine r_goto d_Cr_eliminate_222 ?_
      refine r_pick (ls2 := [(0, ar v0), (1, ai v1), (2, ai v2), (4, al v4), (6, ai (v6 + (1 : Int32)))]) [1, 2, 3, 4, 0] rfl ?_
      exact hk125 _ _ hw
    · replace hw := hw.2 w9
      refine r_iload (j := 4) d_Cr_eliminate_156 rfl ?_
      refine r_iload_n (j := 1) d_Cr_eliminate_158 rfl ?_
      refine r_icmp_eq d_Cr_eliminate_159 (fun w9 => ?_) (fun w9 => ?_)
      · replace hw := hw.1 w9
        refine r_iinc (j := 4) (ls2 := [(6, ai (v6 + (1 : Int32))), (0, ar v0), (1, ai v1), (2, ai v2), (4, al v4), (7, al v7), (9, ai v9)]) d_Cr_eliminate_219 rfl (congrArg (HAdd.hAdd v6) kc_1) (nle rfl) rfl ?_
        refine r_goto d_Cr_eliminate_222 ?_
        refine r_pick (ls2 := [(0, ar v0), (1, ai v1), (2, ai v2), (4, al v4), (6, ai (v6 + (1 : Int32)))]) [1, 2, 3, 4, 0] rfl ?_
        exact hk125 _ _ hw
      · replace hw := hw.2 w9
        refine r_lload (j := 3) d_Cr_eliminate_162 rfl ?_
        refine r_aload_n (j := 0) d_Cr_eliminate_164 rfl ?_
        refine r_getR d_Cr_eliminate_165 ok_2 (nle rfl) (nle rfl) rfl lf_Cr_11 q9 ?_
        refine r_iload (j := 4) d_Cr_eliminate_168 rfl ?_
        refine r_iconst d_Cr_eliminate_170 kc_5 ?_
        refine r_imul d_Cr_eliminate_171 ?_
        refine r_iload (j := 6) d_Cr_eliminate_172 rfl ?_
        refine r_iadd d_Cr_eliminate_174 ?_
        obtain ⟨q10, hw⟩ := hw
        obtain ⟨q11, hw⟩ := hw
        refine r_lald d_Cr_eliminate_175 q10 q11 ?_
        refine r_lmul d_Cr_eliminate_176 ?_
        refine r_lload (j := 5) d_Cr_eliminate_177 rfl ?_
        refine r_aload_n (j := 0) d_Cr_eliminate_179 rfl ?_
        refine r_getR d_Cr_eliminate_180 ok_2 (nle rfl) (nle rfl) rfl lf_Cr_11 q9 ?_
        refine r_iload_n (j := 1) d_Cr_eliminate_183 rfl ?_
        refine r_iconst d_Cr_eliminate_184 kc_5 ?_
        refine r_imul d_Cr_eliminate_185 ?_
        refine r_iload (j := 6) d_Cr_eliminate_186 rfl ?_
        refine r_iadd d_Cr_eliminate_188 ?_
        obtain ⟨q12, hw⟩ := hw
        refine r_lald d_Cr_eliminate_189 q10 q12 ?_
        refine r_lmul d_Cr_eliminate_190 ?_
        refine r_lsub d_Cr_eliminate_191 ?_
        refine r_lstore (ls2 := [(10, al ((v4 * (gL h (gR h v0 1) (ix ((v6 * (5 : Int32)) + v9)))) - (v7 * (gL h (gR h v0 1) (ix ((v1 * (5 : Int32)) + v9)))))), (0, ar v0), (1, ai v1), (2, ai v2), (4, al v4), (6, ai v6), (7, al v7), (9, ai v9)]) d_Cr_eliminate_192 (nle rfl) rfl ?_
        refine r_aload_n (j := 1) d_Cr_eliminate_194 rfl ?_
        refine r_getR d_Cr_eliminate_195 ok_2 (nle rfl) (nle rfl) rfl lf_Cr_11 q9 ?_
        refine r_iload (j := 5) d_Cr_eliminate_198 rfl ?_
        refine r_iconst d_Cr_eliminate_200 kc_5 ?_
        refine r_imul d_Cr_eliminate_201 ?_
        refine r_iload (j := 7) d_Cr_eliminate_202 rfl ?_
        refine r_iadd d_Cr_eliminate_204 ?_
        refine r_lload (j := 0) d_Cr_eliminate_205 rfl ?_
        refine r_aload_n (j := 1) d_Cr_eliminate_207 rfl ?_
        refine r_getL d_Cr_eliminate_208 ok_2 (nle rfl) (nle rfl) rfl lf_Cr_67 q9 ?_
        obtain ⟨q13, hw⟩ := hw
        refine r_ldiv d_Cr_eliminate_211 q13 ?_
        refine r_last d_Cr_eliminate_212 q10 q11 ?_
        refine r_iinc (j := 7) (ls2 := [(9, ai (v9 + (1 : Int32))), (10, al ((v4 * (gL h (gR h v0 1) (ix ((v6 * (5 : Int32)) + v9)))) - (v7 * (gL h (gR h v0 1) (ix ((v1 * (5 : Int32)) + v9)))))), (0, ar v0), (1, ai v1), (2, ai v2), (4, al v4), (6, ai v6), (7, al v7)]) d_Cr_eliminate_213 rfl (congrArg (HAdd.hAdd v9) kc_1) (nle rfl) rfl ?_
        refine r_goto d_Cr_eliminate_216 ?_
        refine r_pick (ls2 := [(0, ar v0), (1, ai v1), (2, ai v2), (4, al v4), (6, ai v6), (7, al v7), (9, ai (v9 + (1 : Int32)))]) [2, 3, 4, 5, 6, 7, 0] rfl ?_
        exact ih _ _ hw
set_option maxRecDepth 100000 in
set_option maxHeartbeats 4000000 in
theorem s_Cr_eliminate_L125 {d : Nat} {Q : Bool → Hp → Prop} {QQ : Option AV → Hp → Prop} (hQ : ∀ r9 h9, Q r9 h9 → QQ (some (ai (b2i r9))) h9) {v0 : Nat} {v1 : Int32} {v2 : Int32} {v4 : Int64} : ∀ (n : Nat) (v6 : Int32) (h : Hp), w_Cr_eliminate_L125 Q  v0 v1 v2 v4 n v6 h → aW none m_Cr_eliminate d 125 [(0, ar v0), (1, ai v1), (2, ai v2), (4, al v4), (6, ai v6)] [] h 0 0 QQ := by
  intro n
  induction n with
  | zero => intro v6 h hw; exact hw.elim
  | succ n ih =>
    intro v6 h hw
    unfold w_Cr_eliminate_L125 at hw
    refine r_iload (j := 4) d_Cr_eliminate_125 rfl ?_
    refine r_iload_n (j := 2) d_Cr_eliminate_127 rfl ?_
    refine r_icmp_ge d_Cr_eliminate_128 (fun w9 => ?_) (fun w9 => ?_)
    · replace hw := hw.1 w9
      refine r_aload_n (j := 0) d_Cr_eliminate_225 rfl ?_
      refine r_lload (j := 3) d_Cr_eliminate_226 rfl ?_
      obtain ⟨q5, hw⟩ := hw
      refine r_putL d_Cr_eliminate_228 ok_2 (nle rfl) (nle rfl) rfl lf_Cr_67 rfl q5 ?_
      refine r_iconst d_Cr_eliminate_231 kc_1 ?_
      exact r_zreturn d_Cr_eliminate_232.1 rfl (Or.inr rfl) (hQ _ _ hw)
    · replace hw := hw.2 w9
      refine r_aload_n (j := 0) d_Cr_eliminate_131 rfl ?_
      obtain ⟨q6, hw⟩ := hw
      refine r_getR d_Cr_eliminate_132 ok_2 (nle rfl) (nle rfl) rfl lf_Cr_11 q6 ?_
      refine r_iload (j := 4) d_Cr_eliminate_135 rfl ?_
      refine r_iconst d_Cr_eliminate_137 kc_5 ?_
      refine r_imul d_Cr_eliminate_138 ?_
      refine r_iload_n (j := 1) d_Cr_eliminate_139 rfl ?_
      refine r_iadd d_Cr_eliminate_140 ?_
      obtain ⟨q7, hw⟩ := hw
      obtain ⟨q8, hw⟩ := hw
      refine r_lald d_Cr_eliminate_141 q7 q8 ?_
      refine r_lstore (ls2 := [(7, al (gL h (gR h v0 1) (ix ((v6 * (5 : Int32)) + v1)))), (0, ar v0), (1, ai v1), (2, ai v2), (4, al v4), (6, ai v6)]) d_Cr_eliminate_142 (nle rfl) rfl ?_
      refine r_iconst d_Cr_eliminate_144 kc_0 ?_
      refine r_istore (ls2 := [(9, ai (0 : Int32)), (7, al (gL h (gR h v0 1) (ix ((v6 * (5 : Int32)) + v1)))), (0, ar v0), (1, ai v1), (2, ai v2), (4, al v4), (6, ai v6)]) d_Cr_eliminate_145 (nle rfl) rfl ?_
      obtain ⟨n14, hw⟩ := hw
      refine r_pick (ls2 := [(0, ar v0), (1, ai v1), (2, ai v2), (4, al v4), (6, ai v6), (7, al (gL h (gR h v0 1) (ix ((v6 * (5 : Int32)) + v1)))), (9, ai (0 : Int32))]) [2, 3, 4, 5, 6, 1, 0] rfl ?_
      exact s_Cr_eliminate_L147 hQ ih n14 _ _ hw
set_option maxRecDepth 100000 in
set_option maxHeartbeats 4000000 in
theorem s_Cr_eliminate_L47 {d : Nat} {Q : Bool → Hp → Prop} {QQ : Option AV → Hp → Prop} (hQ : ∀ r9 h9, Q r9 h9 → QQ (some (ai (b2i r9))) h9) {v0 : Nat} {v1 : Int32} {v2 : Int32} {v3 : Int32} : ∀ (n : Nat) (v4 : Int32) (h : Hp), w_Cr_eliminate_L47 Q  v0 v1 v2 v3 n v4 h → aW none m_Cr_eliminate d 47 [(0, ar v0), (1, ai v1), (2, ai v2), (3, ai v3), (4, ai v4)] [] h 0 0 QQ := by
  intro n
  induction n with
  | zero => intro v4 h hw; exact hw.elim
  | succ n ih =>
    intro v4 h hw
    unfold w_Cr_eliminate_L47 at hw
    refine r_iload (j := 4) d_Cr_eliminate_47 rfl ?_
    refine r_aload_n (j := 0) d_Cr_eliminate_49 rfl ?_
    obtain ⟨q2, hw⟩ := hw
    refine r_getI d_Cr_eliminate_50 ok_2 (nle rfl) (nle rfl) rfl lf_Cr_79 q2 ?_
    refine r_icmp_gt d_Cr_eliminate_53 (fun w9 => ?_) (fun w9 => ?_)
    · replace hw := hw.1 w9
      refine r_aload_n (j := 0) d_Cr_eliminate_110 rfl ?_
      refine r_getR d_Cr_eliminate_111 ok_2 (nle rfl) (nle rfl) rfl lf_Cr_11 q2 ?_
      refine r_iload_n (j := 1) d_Cr_eliminate_114 rfl ?_
      refine r_iconst d_Cr_eliminate_115 kc_5 ?_
      refine r_imul d_Cr_eliminate_116 ?_
      refine r_iload_n (j := 1) d_Cr_eliminate_117 rfl ?_
      refine r_iadd d_Cr_eliminate_118 ?_
      obtain ⟨q3, hw⟩ := hw
      obtain ⟨q4, hw⟩ := hw
      refine r_lald d_Cr_eliminate_119 q3 q4 ?_
      refine r_lstore (ls2 := [(4, al (gL h (gR h v0 1) (ix ((v1 * (5 : Int32)) + v1)))), (0, ar v0), (1, ai v1), (2, ai v2), (3, ai v3)]) d_Cr_eliminate_120 (nle rfl) rfl ?_
      refine r_iconst d_Cr_eliminate_122 kc_0 ?_
      refine r_istore (ls2 := [(6, ai (0 : Int32)), (4, al (gL h (gR h v0 1) (ix ((v1 * (5 : Int32)) + v1)))), (0, ar v0), (1, ai v1), (2, ai v2), (3, ai v3)]) d_Cr_eliminate_123 (nle rfl) rfl ?_
      obtain ⟨n15, hw⟩ := hw
      refine r_pick (ls2 := [(0, ar v0), (1, ai v1), (2, ai v2), (4, al (gL h (gR h v0 1) (ix ((v1 * (5 : Int32)) + v1)))), (6, ai (0 : Int32))]) [2, 3, 4, 1, 0] rfl ?_
      exact s_Cr_eliminate_L125 hQ  n15 _ _ hw
    · replace hw := hw.2 w9
      refine r_aload_n (j := 0) d_Cr_eliminate_56 rfl ?_
      refine r_getR d_Cr_eliminate_57 ok_2 (nle rfl) (nle rfl) rfl lf_Cr_11 q2 ?_
      refine r_iload_n (j := 1) d_Cr_eliminate_60 rfl ?_
      refine r_iconst d_Cr_eliminate_61 kc_5 ?_
      refine r_imul d_Cr_eliminate_62 ?_
      refine r_iload (j := 4) d_Cr_eliminate_63 rfl ?_
      refine r_iadd d_Cr_eliminate_65 ?_
      obtain ⟨q16, hw⟩ := hw
      obtain ⟨q17, hw⟩ := hw
      refine r_lald d_Cr_eliminate_66 q16 q17 ?_
      refine r_lstore (ls2 := [(5, al (gL h (gR h v0 1) (ix ((v1 * (5 : Int32)) + v4)))), (0, ar v0), (1, ai v1), (2, ai v2), (3, ai v3), (4, ai v4)]) d_Cr_eliminate_67 (nle rfl) rfl ?_
      refine r_aload_n (j := 1) d_Cr_eliminate_69 rfl ?_
      refine r_getR d_Cr_eliminate_70 ok_2 (nle rfl) (nle rfl) rfl lf_Cr_11 q2 ?_
      refine r_iload_n (j := 2) d_Cr_eliminate_73 rfl ?_
      refine r_iconst d_Cr_eliminate_74 kc_5 ?_
      refine r_imul d_Cr_eliminate_75 ?_
      refine r_iload (j := 5) d_Cr_eliminate_76 rfl ?_
      refine r_iadd d_Cr_eliminate_78 ?_
      refine r_aload_n (j := 1) d_Cr_eliminate_79 rfl ?_
      refine r_getR d_Cr_eliminate_80 ok_2 (nle rfl) (nle rfl) rfl lf_Cr_11 q2 ?_
      refine r_iload_n (j := 4) d_Cr_eliminate_83 rfl ?_
      refine r_iconst d_Cr_eliminate_84 kc_5 ?_
      refine r_imul d_Cr_eliminate_85 ?_
      refine r_iload (j := 5) d_Cr_eliminate_86 rfl ?_
      refine r_iadd d_Cr_eliminate_88 ?_
      obtain ⟨q18, hw⟩ := hw
      refine r_lald d_Cr_eliminate_89 q16 q18 ?_
      refine r_last d_Cr_eliminate_90 q16 q17 ?_
      refine r_aload_n (j := 1) d_Cr_eliminate_91 rfl ?_
      refine r_getR d_Cr_eliminate_92 ok_2 (nle rfl) (nle rfl) rfl lf_Cr_11 q2 ?_
      refine r_iload_n (j := 4) d_Cr_eliminate_95 rfl ?_
      refine r_iconst d_Cr_eliminate_96 kc_5 ?_
      refine r_imul d_Cr_eliminate_97 ?_
      refine r_iload (j := 5) d_Cr_eliminate_98 rfl ?_
      refine r_iadd d_Cr_eliminate_100 ?_
      refine r_lload (j := 0) d_Cr_eliminate_101 rfl ?_
      refine r_last d_Cr_eliminate_103 q16 q18 ?_
      refine r_iinc (j := 5) (ls2 := [(4, ai (v4 + (1 : Int32))), (5, al (gL h (gR h v0 1) (ix ((v1 * (5 : Int32)) + v4)))), (0, ar v0), (1, ai v1), (2, ai v2), (3, ai v3)]) d_Cr_eliminate_104 rfl (congrArg (HAdd.hAdd v4) kc_1) (nle rfl) rfl ?_
      refine r_goto d_Cr_eliminate_107 ?_
      refine r_pick (ls2 := [(0, ar v0), (1, ai v1), (2, ai v2), (3, ai v3), (4, ai (v4 + (1 : Int32)))]) [2, 3, 4, 5, 0] rfl ?_
      exact ih _ _ hw
set_option maxRecDepth 100000 in
set_option maxHeartbeats 4000000 in
theorem s_Cr_eliminate_B28 {d : Nat} {Q : Bool → Hp → Prop} {QQ : Option AV → Hp → Prop} (hQ : ∀ r9 h9, Q r9 h9 → QQ (some (ai (b2i r9))) h9) {v0 : Nat} {v1 : Int32} {v2 : Int32} {v3 : Int32} {h : Hp} (hw : w_Cr_eliminate_B28 Q  v0 v1 v2 v3 h) : aW none m_Cr_eliminate d 28 [(0, ar v0), (1, ai v1), (2, ai v2), (3, ai v3)] [] h 0 0 QQ := by
  unfold w_Cr_eliminate_B28 at hw
  refine r_iload_n (j := 3) d_Cr_eliminate_28 rfl ?_
  refine r_iload_n (j := 2) d_Cr_eliminate_29 rfl ?_
  refine r_icmp_ge d_Cr_eliminate_30 (fun w9 => ?_) (fun w9 => ?_)
  · replace hw := hw.1 w9
    refine r_iconst d_Cr_eliminate_42 kc_0 ?_
    exact r_zreturn d_Cr_eliminate_43.1 rfl (Or.inl rfl) (hQ _ _ hw)
  · replace hw := hw.2 w9
    refine r_aload_n (j := 0) d_Cr_eliminate_33 rfl ?_
    obtain ⟨q1, hw⟩ := hw
    refine r_getL d_Cr_eliminate_34 ok_2 (nle rfl) (nle rfl) rfl lf_Cr_67 q1 ?_
    refine r_lconst d_Cr_eliminate_37 kl_0 ?_
    refine r_lcmp d_Cr_eliminate_38 ?_
    refine r_if_ne d_Cr_eliminate_39 (fun w9 => ?_) (fun w9 => ?_)
    · replace hw := hw.2 (fun g9 => w9 ((lg_cmp_eq _ _).mpr g9))
      refine r_iconst d_Cr_eliminate_44 kc_0 ?_
      refine r_istore (ls2 := [(4, ai (0 : Int32)), (0, ar v0), (1, ai v1), (2, ai v2), (3, ai v3)]) d_Cr_eliminate_45 (nle rfl) rfl ?_
      obtain ⟨n19, hw⟩ := hw
      refine r_pick (ls2 := [(0, ar v0), (1, ai v1), (2, ai v2), (3, ai v3), (4, ai (0 : Int32))]) [1, 2, 3, 4, 0] rfl ?_
      exact s_Cr_eliminate_L47 hQ  n19 _ _ hw
    · replace hw := hw.1 ((lg_cmp_eq _ _).mp w9)
      refine r_iconst d_Cr_eliminate_42 kc_0 ?_
      exact r_zreturn d_Cr_eliminate_43.1 rfl (Or.inl rfl) (hQ _ _ hw)
set_option maxRecDepth 100000 in
set_option maxHeartbeats 4000000 in
theorem s_Cr_eliminate_L2 {d : Nat} {Q : Bool → Hp → Prop} {QQ : Option AV → Hp → Prop} (hQ : ∀ r9 h9, Q r9 h9 → QQ (some (ai (b2i r9))) h9) {v0 : Nat} {v1 : Int32} {v2 : Int32} : ∀ (n : Nat) (v3 : Int32) (h : Hp), w_Cr_eliminate_L2 Q  v0 v1 v2 n v3 h → aW none m_Cr_eliminate d 2 [(0, ar v0), (1, ai v1), (2, ai v2), (3, ai v3)] [] h 0 0 QQ := by
  intro n
  induction n with
  | zero => intro v3 h hw; exact hw.elim
  | succ n ih =>
    intro v3 h hw
    unfold w_Cr_eliminate_L2 at hw
    refine r_iload_n (j := 3) d_Cr_eliminate_2 rfl ?_
    refine r_iload_n (j := 2) d_Cr_eliminate_3 rfl ?_
    refine r_icmp_ge d_Cr_eliminate_4 (fun w9 => ?_) (fun w9 => ?_)
    · replace hw := hw.1 w9
      exact s_Cr_eliminate_B28 hQ  hw
    · replace hw := hw.2 w9
      refine r_aload_n (j := 0) d_Cr_eliminate_7 rfl ?_
      obtain ⟨q20, hw⟩ := hw
      refine r_getR d_Cr_eliminate_8 ok_2 (nle rfl) (nle rfl) rfl lf_Cr_11 q20 ?_
      refine r_iload_n (j := 3) d_Cr_eliminate_11 rfl ?_
      refine r_iconst d_Cr_eliminate_12 kc_5 ?_
      refine r_imul d_Cr_eliminate_13 ?_
      refine r_iload_n (j := 1) d_Cr_eliminate_14 rfl ?_
      refine r_iadd d_Cr_eliminate_15 ?_
      obtain ⟨q21, hw⟩ := hw
      obtain ⟨q22, hw⟩ := hw
      refine r_lald d_Cr_eliminate_16 q21 q22 ?_
      refine r_lconst d_Cr_eliminate_17 kl_0 ?_
      refine r_lcmp d_Cr_eliminate_18 ?_
      refine r_if_ne d_Cr_eliminate_19 (fun w9 => ?_) (fun w9 => ?_)
      · replace hw := hw.2 (fun g9 => w9 ((lg_cmp_eq _ _).mpr g9))
        exact s_Cr_eliminate_B28 hQ  hw
      · replace hw := hw.1 ((lg_cmp_eq _ _).mp w9)
        refine r_iinc (j := 3) (ls2 := [(3, ai (v3 + (1 : Int32))), (0, ar v0), (1, ai v1), (2, ai v2)]) d_Cr_eliminate_22 rfl (congrArg (HAdd.hAdd v3) kc_1) (nle rfl) rfl ?_
        refine r_goto d_Cr_eliminate_25 ?_
        refine r_pick (ls2 := [(0, ar v0), (1, ai v1), (2, ai v2), (3, ai (v3 + (1 : Int32)))]) [1, 2, 3, 0] rfl ?_
        exact ih _ _ hw
set_option maxRecDepth 100000 in
set_option maxHeartbeats 4000000 in
theorem s_Cr_eliminate {d : Nat} {v0 : Nat} {v1 : Int32} {v2 : Int32} {h : Hp} {Q : Bool → Hp → Prop} {QQ : Option AV → Hp → Prop} (hw : w_Cr_eliminate v0 v1 v2 h Q) (hQ : ∀ r9 h9, Q r9 h9 → QQ (some (ai (b2i r9))) h9) : aCall m_Cr_eliminate d [ar v0, ai v1, ai v2] h 0 0 QQ := by
  refine aCall_in pl_Cr_eliminate (nle rfl) ?_
  show aW none m_Cr_eliminate d 0 [(0, ar v0), (1, ai v1), (2, ai v2)] [] h 0 0 QQ
  unfold w_Cr_eliminate at hw
  refine r_iload_n (j := 1) d_Cr_eliminate_0 rfl ?_
  refine r_istore_n (ls2 := [(3, ai v1), (0, ar v0), (1, ai v1), (2, ai v2)]) d_Cr_eliminate_1 (nle rfl) rfl ?_
  obtain ⟨n23, hw⟩ := hw
  refine r_pick (ls2 := [(0, ar v0), (1, ai v1), (2, ai v2), (3, ai v1)]) [1, 2, 3, 0] rfl ?_
  exact s_Cr_eliminate_L2 hQ  n23 _ _ hw
set_option maxRecDepth 100000 in
set_option maxHeartbeats 4000000 in
theorem s_Cr_fill_L107 {d : Nat} (hd : 1 ≤ d + 1) {Q : Hp → Prop} {QQ : Option AV → Hp → Prop} (hQ : ∀ h9, Q h9 → QQ none h9) {v0 : Nat} {v2 : Int32} : ∀ (n : Nat) (v3 : Int32) (h : Hp), w_Cr_fill_L107 Q  v0 v2 n v3 h → aW none m_Cr_fill (d + 1) 107 [(0, ar v0), (2, ai v2), (3, ai v3)] [] h 0 0 QQ := by
  intro n
  induction n with
  | zero => intro v3 h hw; exact hw.elim
  | succ n ih =>
    intro v3 h hw
    unfold w_Cr_fill_L107 at hw
    refine r_iload_n (j := 2) d_Cr_fill_107 rfl ?_
    refine r_iconst d_Cr_fill_108 kc_3 ?_
    refine r_icmp_ge d_Cr_fill_109 (fun w9 => ?_) (fun w9 => ?_)
    · replace hw := hw.1 w9
      refine r_aload_n (j := 0) d_Cr_fill_149 rfl ?_
      obtain ⟨q4, hw⟩ := hw
      refine r_getR d_Cr_fill_150 ok_2 (nle rfl) (nle rfl) rfl lf_Cr_11 q4 ?_
      refine r_bipush d_Cr_fill_153 kb_15 ?_
      refine r_aload_n (j := 0) d_Cr_fill_155 rfl ?_
      refine r_getI d_Cr_fill_156 ok_2 (nle rfl) (nle rfl) rfl lf_Cr_79 q4 ?_
      refine r_iadd d_Cr_fill_159 ?_
      refine r_lconst d_Cr_fill_160 kl_1 ?_
      obtain ⟨q5, hw⟩ := hw
      obtain ⟨q6, hw⟩ := hw
      refine r_last d_Cr_fill_161 q5 q6 ?_
      exact r_return d_Cr_fill_162.1 rfl (hQ _ hw)
    · replace hw := hw.2 w9
      refine r_aload_n (j := 0) d_Cr_fill_112 rfl ?_
      obtain ⟨q7, hw⟩ := hw
      refine r_getR d_Cr_fill_113 ok_2 (nle rfl) (nle rfl) rfl lf_Cr_11 q7 ?_
      refine r_iload_n (j := 2) d_Cr_fill_116 rfl ?_
      refine r_iconst d_Cr_fill_117 kc_5 ?_
      refine r_imul d_Cr_fill_118 ?_
      refine r_aload_n (j := 0) d_Cr_fill_119 rfl ?_
      refine r_getI d_Cr_fill_120 ok_2 (nle rfl) (nle rfl) rfl lf_Cr_79 q7 ?_
      refine r_iadd d_Cr_fill_123 ?_
      refine r_iload_n (j := 1) d_Cr_fill_124 rfl ?_
      refine r_iconst d_Cr_fill_125 kc_4 ?_
      refine r_icmp_ne d_Cr_fill_126 (fun w9 => ?_) (fun w9 => ?_)
      · replace hw := hw.2 w9
        refine r_aload_n (j := 0) d_Cr_fill_133 rfl ?_
        refine r_getR d_Cr_fill_134 ok_2 (nle rfl) (nle rfl) rfl lf_Cr_26 q7 ?_
        refine r_iload_n (j := 2) d_Cr_fill_137 rfl ?_
        obtain ⟨q10, hw⟩ := hw
        refine r_callV (av := [ai v3]) (rest := [ai ((v3 * (5 : Int32)) + (gI h v0 4)), ar (gR h v0 1)]) (ci := 1) d_Cr_fill_138 mk_Co_needOf ll_Cr_105 im_Co_needOf se_Co_needOf rfl (nle rfl) rfl rfl (nle rfl) q10 (s_Co_needOf  hw (fun r9 h8 hw => ?_))
        show aW none m_Cr_fill (d + 1) 141 [(0, ar v0), (2, ai v2), (3, ai v3)] [ai r9, ai ((v3 * (5 : Int32)) + (gI h v0 4)), ar (gR h v0 1)] h8 0 0 QQ
        refine r_i2l d_Cr_fill_141 ?_
        obtain ⟨q11, hw⟩ := hw
        obtain ⟨q12, hw⟩ := hw
        refine r_last d_Cr_fill_142 q11 q12 ?_
        refine r_iinc (j := 2) (ls2 := [(3, ai (v3 + (1 : Int32))), (0, ar v0), (2, ai v2)]) d_Cr_fill_143 rfl (congrArg (HAdd.hAdd v3) kc_1) (nle rfl) rfl ?_
        refine r_goto d_Cr_fill_146 ?_
        refine r_pick (ls2 := [(0, ar v0), (2, ai v2), (3, ai (v3 + (1 : Int32)))]) [1, 2, 0] rfl ?_
        exact ih _ _ hw
      · replace hw := hw.1 w9
        refine r_lconst d_Cr_fill_129 kl_0 ?_
        refine r_goto d_Cr_fill_130 ?_
        obtain ⟨q13, hw⟩ := hw
        obtain ⟨q14, hw⟩ := hw
        refine r_last d_Cr_fill_142 q13 q14 ?_
        refine r_iinc (j := 2) (ls2 := [(3, ai (v3 + (1 : Int32))), (0, ar v0), (2, ai v2)]) d_Cr_fill_143 rfl (congrArg (HAdd.hAdd v3) kc_1) (nle rfl) rfl ?_
        refine r_goto d_Cr_fill_146 ?_
        refine r_pick (ls2 := [(0, ar v0), (2, ai v2), (3, ai (v3 + (1 : Int32)))]) [1, 2, 0] rfl ?_
        exact ih _ _ hw
set_option maxRecDepth 100000 in
set_option maxHeartbeats 4000000 in
theorem s_Cr_fill_L39 {d : Nat} (hd : 1 ≤ d + 1) {Q : Hp → Prop} {QQ : Option AV → Hp → Prop} (hQ : ∀ h9, Q h9 → QQ none h9) {k7 : Int32 → Hp → Prop} (hk7 : ∀ v3 h9, k7 v3 h9 → aW none m_Cr_fill (d + 1) 7 [(0, ar v0), (1, ai v1), (2, ai v2), (3, ai v3)] [] h9 0 0 QQ) {v0 : Nat} {v1 : Int32} {v2 : Int32} {v3 : Int32} : ∀ (n : Nat) (v4 : Int32) (h : Hp), w_Cr_fill_L39 Q k7 v0 v1 v2 v3 n v4 h → aW none m_Cr_fill (d + 1) 39 [(0, ar v0), (1, ai v1), (2, ai v2), (3, ai v3), (4, ai v4)] [] h 0 0 QQ := by
  intro n
  induction n with
  | zero => intro v4 h hw; exact hw.elim
  | succ n ih =>
    intro v4 h hw
    unfold w_Cr_fill_L39 at hw
    refine r_iload (j := 4) d_Cr_fill_39 rfl ?_
    refine r_iconst d_Cr_fill_41 kc_3 ?_
    refine r_icmp_ge d_Cr_fill_42 (fun w9 => ?_) (fun w9 => ?_)
    · replace hw := hw.1 w9
      refine r_aload_n (j := 0) d_Cr_fill_76 rfl ?_
      obtain ⟨q18, hw⟩ := hw
      refine r_getR d_Cr_fill_77 ok_2 (nle rfl) (nle rfl) rfl lf_Cr_11 q18 ?_
      refine r_bipush d_Cr_fill_80 kb_15 ?_
      refine r_aload_n (j := 0) d_Cr_fill_82 rfl ?_
      refine r_getI d_Cr_fill_83 ok_2 (nle rfl) (nle rfl) rfl lf_Cr_79 q18 ?_
      refine r_iadd d_Cr_fill_86 ?_
      refine r_lconst d_Cr_fill_87 kl_1 ?_
      obtain ⟨q19, hw⟩ := hw
      obtain ⟨q20, hw⟩ := hw
      refine r_last d_Cr_fill_88 q19 q20 ?_
      refine r_aload_n (j := 0) d_Cr_fill_89 rfl ?_
      refine r_dup d_Cr_fill_90 rfl ?_
      refine r_getI d_Cr_fill_91 ok_2 (nle rfl) (nle rfl) rfl lf_Cr_79 q18 ?_
      refine r_iconst d_Cr_fill_94 kc_1 ?_
      refine r_iadd d_Cr_fill_95 ?_
      refine r_putI d_Cr_fill_96 ok_2 (nle rfl) (nle rfl) rfl lf_Cr_79 rfl q18 ?_
      refine r_iinc (j := 3) (ls2 := [(3, ai (v3 + (1 : Int32))), (0, ar v0), (1, ai v1), (2, ai v2), (4, ai v4)]) d_Cr_fill_99 rfl (congrArg (HAdd.hAdd v3) kc_1) (nle rfl) rfl ?_
      refine r_goto d_Cr_fill_102 ?_
      refine r_pick (ls2 := [(0, ar v0), (1, ai v1), (2, ai v2), (3, ai (v3 + (1 : Int32)))]) [1, 2, 3, 0] rfl ?_
      exact hk7 _ _ hw
    · replace hw := hw.2 w9
      refine r_aload_n (j := 0) d_Cr_fill_45 rfl ?_
      obtain ⟨q21, hw⟩ := hw
      refine r_getR d_Cr_fill_46 ok_2 (nle rfl) (nle rfl) rfl lf_Cr_11 q21 ?_
      refine r_iload (j := 4) d_Cr_fill_49 rfl ?_
      refine r_iconst d_Cr_fill_51 kc_5 ?_
      refine r_imul d_Cr_fill_52 ?_
      refine r_aload_n (j := 0) d_Cr_fill_53 rfl ?_
      refine r_getI d_Cr_fill_54 ok_2 (nle rfl) (nle rfl) rfl lf_Cr_79 q21 ?_
      refine r_iadd d_Cr_fill_57 ?_
      refine r_aload_n (j := 0) d_Cr_fill_58 rfl ?_
      refine r_getR d_Cr_fill_59 ok_2 (nle rfl) (nle rfl) rfl lf_Cr_26 q21 ?_
      refine r_iload_n (j := 3) d_Cr_fill_62 rfl ?_
      refine r_iload (j := 4) d_Cr_fill_63 rfl ?_
      obtain ⟨q24, hw⟩ := hw
      refine r_callV (av := [ai v3, ai v4]) (rest := [ai ((v4 * (5 : Int32)) + (gI h v0 4)), ar (gR h v0 1)]) (ci := 1) d_Cr_fill_65 mk_Co_numberOf ll_Cr_101 im_Co_numberOf se_Co_numberOf rfl (nle rfl) rfl rfl (nle rfl) q24 (s_Co_numberOf  hw (fun r23 h22 hw => ?_))
      show aW none m_Cr_fill (d + 1) 68 [(0, ar v0), (1, ai v1), (2, ai v2), (3, ai v3), (4, ai v4)] [ai r23, ai ((v4 * (5 : Int32)) + (gI h v0 4)), ar (gR h v0 1)] h22 0 0 QQ
      refine r_i2l d_Cr_fill_68 ?_
      obtain ⟨q25, hw⟩ := hw
      obtain ⟨q26, hw⟩ := hw
      refine r_last d_Cr_fill_69 q25 q26 ?_
      refine r_iinc (j := 4) (ls2 := [(4, ai (v4 + (1 : Int32))), (0, ar v0), (1, ai v1), (2, ai v2), (3, ai v3)]) d_Cr_fill_70 rfl (congrArg (HAdd.hAdd v4) kc_1) (nle rfl) rfl ?_
      refine r_goto d_Cr_fill_73 ?_
      refine r_pick (ls2 := [(0, ar v0), (1, ai v1), (2, ai v2), (3, ai v3), (4, ai (v4 + (1 : Int32)))]) [1, 2, 3, 4, 0] rfl ?_
      exact ih _ _ hw
set_option maxRecDepth 100000 in
set_option maxHeartbeats 4000000 in
theorem s_Cr_fill_L7 {d : Nat} (hd : 1 ≤ d + 1) {Q : Hp → Prop} {QQ : Option AV → Hp → Prop} (hQ : ∀ h9, Q h9 → QQ none h9) {v0 : Nat} {v1 : Int32} {v2 : Int32} : ∀ (n : Nat) (v3 : Int32) (h : Hp), w_Cr_fill_L7 Q  v0 v1 v2 n v3 h → aW none m_Cr_fill (d + 1) 7 [(0, ar v0), (1, ai v1), (2, ai v2), (3, ai v3)] [] h 0 0 QQ := by
  intro n
  induction n with
  | zero => intro v3 h hw; exact hw.elim
  | succ n ih =>
    intro v3 h hw
    unfold w_Cr_fill_L7 at hw
    refine r_iload_n (j := 3) d_Cr_fill_7 rfl ?_
    refine r_aload_n (j := 0) d_Cr_fill_8 rfl ?_
    obtain ⟨q2, hw⟩ := hw
    refine r_getR d_Cr_fill_9 ok_2 (nle rfl) (nle rfl) rfl lf_Cr_26 q2 ?_
    obtain ⟨q3, hw⟩ := hw
    refine r_getI d_Cr_fill_12 ok_1 (nle rfl) (nle rfl) rfl lf_Cr_49 q3 ?_
    refine r_icmp_ge d_Cr_fill_15 (fun w9 => ?_) (fun w9 => ?_)
    · replace hw := hw.1 w9
      refine r_iconst d_Cr_fill_105 kc_0 ?_
      refine r_istore_n (ls2 := [(3, ai (0 : Int32)), (0, ar v0), (1, ai v1), (2, ai v2)]) d_Cr_fill_106 (nle rfl) rfl ?_
      obtain ⟨n15, hw⟩ := hw
      refine r_pick (ls2 := [(0, ar v0), (2, ai v2), (3, ai (0 : Int32))]) [1, 3, 0] rfl ?_
      exact s_Cr_fill_L107 hd hQ  n15 _ _ hw
    · replace hw := hw.2 w9
      refine r_iload_n (j := 1) d_Cr_fill_18 rfl ?_
      refine r_iload_n (j := 3) d_Cr_fill_19 rfl ?_
      refine r_ishr d_Cr_fill_20 ?_
      refine r_iconst d_Cr_fill_21 kc_1 ?_
      refine r_iand d_Cr_fill_22 ?_
      refine r_if_eq d_Cr_fill_23 (fun w9 => ?_) (fun w9 => ?_)
      · replace hw := hw.1 w9
        refine r_iinc (j := 3) (ls2 := [(3, ai (v3 + (1 : Int32))), (0, ar v0), (1, ai v1), (2, ai v2)]) d_Cr_fill_99 rfl (congrArg (HAdd.hAdd v3) kc_1) (nle rfl) rfl ?_
        refine r_goto d_Cr_fill_102 ?_
        refine r_pick (ls2 := [(0, ar v0), (1, ai v1), (2, ai v2), (3, ai (v3 + (1 : Int32)))]) [1, 2, 3, 0] rfl ?_
        exact ih _ _ hw
      · replace hw := hw.2 w9
        refine r_aload_n (j := 0) d_Cr_fill_26 rfl ?_
        refine r_getR d_Cr_fill_27 ok_2 (nle rfl) (nle rfl) rfl lf_Cr_15 q2 ?_
        refine r_aload_n (j := 0) d_Cr_fill_30 rfl ?_
        refine r_getI d_Cr_fill_31 ok_2 (nle rfl) (nle rfl) rfl lf_Cr_79 q2 ?_
        refine r_iload_n (j := 3) d_Cr_fill_34 rfl ?_
        obtain ⟨q16, hw⟩ := hw
        obtain ⟨q17, hw⟩ := hw
        refine r_iast d_Cr_fill_35 q16 q17 ?_
        refine r_iconst d_Cr_fill_36 kc_0 ?_
        refine r_istore (ls2 := [(4, ai (0 : Int32)), (0, ar v0), (1, ai v1), (2, ai v2), (3, ai v3)]) d_Cr_fill_37 (nle rfl) rfl ?_
        obtain ⟨n27, hw⟩ := hw
        refine r_pick (ls2 := [(0, ar v0), (1, ai v1), (2, ai v2), (3, ai v3), (4, ai (0 : Int32))]) [1, 2, 3, 4, 0] rfl ?_
        exact s_Cr_fill_L39 hd hQ ih n27 _ _ hw
set_option maxRecDepth 100000 in
set_option maxHeartbeats 4000000 in
theorem s_Cr_fill {d : Nat} (hd : 1 ≤ d) {v0 : Nat} {v1 : Int32} {v2 : Int32} {h : Hp} {Q : Hp → Prop} {QQ : Option AV → Hp → Prop} (hw : w_Cr_fill v0 v1 v2 h Q) (hQ : ∀ h9, Q h9 → QQ none h9) : aCall m_Cr_fill d [ar v0, ai v1, ai v2] h 0 0 QQ := by
  obtain ⟨d, rfl⟩ : ∃ d9, d = d9 + 1 := ⟨d - 1, by omega⟩
  refine aCall_in pl_Cr_fill (nle rfl) ?_
  show aW none m_Cr_fill (d + 1) 0 [(0, ar v0), (1, ai v1), (2, ai v2)] [] h 0 0 QQ
  unfold w_Cr_fill at hw
  refine r_aload_n (j := 0) d_Cr_fill_0 rfl ?_
  refine r_iconst d_Cr_fill_1 kc_0 ?_
  obtain ⟨q1, hw⟩ := hw
  refine r_putI d_Cr_fill_2 ok_2 (nle rfl) (nle rfl) rfl lf_Cr_79 rfl q1 ?_
  refine r_iconst d_Cr_fill_5 kc_0 ?_
  refine r_istore_n (ls2 := [(3, ai (0 : Int32)), (0, ar v0), (1, ai v1), (2, ai v2)]) d_Cr_fill_6 (nle rfl) rfl ?_
  obtain ⟨n28, hw⟩ := hw
  refine r_pick (ls2 := [(0, ar v0), (1, ai v1), (2, ai v2), (3, ai (0 : Int32))]) [1, 2, 3, 0] rfl ?_
  exact s_Cr_fill_L7 hd hQ  n28 _ _ hw
set_option maxRecDepth 100000 in
set_option maxHeartbeats 4000000 in
theorem s_Cr_isAboveNothing_L29 {d : Nat} {Q : Bool → Hp → Prop} {QQ : Option AV → Hp → Prop} (hQ : ∀ r9 h9, Q r9 h9 → QQ (some (ai (b2i r9))) h9) {v0 : Nat} {v1 : Int64} : ∀ (n : Nat) (v3 : Int32) (h : Hp), w_Cr_isAboveNothing_L29 Q  v0 v1 n v3 h → aW none m_Cr_isAboveNothing d 29 [(0, ar v0), (1, al v1), (3, ai v3)] [] h 0 0 QQ := by
  intro n
  induction n with
  | zero => intro v3 h hw; exact hw.elim
  | succ n ih =>
    intro v3 h hw
    unfold w_Cr_isAboveNothing_L29 at hw
    refine r_iload_n (j := 2) d_Cr_isAboveNothing_29 rfl ?_
    refine r_aload_n (j := 0) d_Cr_isAboveNothing_30 rfl ?_
    obtain ⟨q3, hw⟩ := hw
    refine r_getI d_Cr_isAboveNothing_31 ok_2 (nle rfl) (nle rfl) rfl lf_Cr_79 q3 ?_
    refine r_icmp_ge d_Cr_isAboveNothing_34 (fun w9 => ?_) (fun w9 => ?_)
    · replace hw := hw.1 w9
      refine r_iconst d_Cr_isAboveNothing_80 kc_1 ?_
      exact r_zreturn d_Cr_isAboveNothing_81.1 rfl (Or.inr rfl) (hQ _ _ hw)
    · replace hw := hw.2 w9
      refine r_aload_n (j := 0) d_Cr_isAboveNothing_37 rfl ?_
      refine r_getR d_Cr_isAboveNothing_38 ok_2 (nle rfl) (nle rfl) rfl lf_Cr_11 q3 ?_
      refine r_iload_n (j := 2) d_Cr_isAboveNothing_41 rfl ?_
      refine r_iconst d_Cr_isAboveNothing_42 kc_5 ?_
      refine r_imul d_Cr_isAboveNothing_43 ?_
      refine r_aload_n (j := 0) d_Cr_isAboveNothing_44 rfl ?_
      refine r_getI d_Cr_isAboveNothing_45 ok_2 (nle rfl) (nle rfl) rfl lf_Cr_79 q3 ?_
      refine r_iadd d_Cr_isAboveNothing_48 ?_
      refine r_dup2 d_Cr_isAboveNothing_49 rfl rfl ?_
      obtain ⟨q4, hw⟩ := hw
      obtain ⟨q5, hw⟩ := hw
      refine r_lald d_Cr_isAboveNothing_50 q4 q5 ?_
      refine r_lload_n (j := 1) d_Cr_isAboveNothing_51 rfl ?_
      refine r_lmul d_Cr_isAboveNothing_52 ?_
      refine r_last d_Cr_isAboveNothing_53 q4 q5 ?_
      refine r_aload_n (j := 0) d_Cr_isAboveNothing_54 rfl ?_
      refine r_getR d_Cr_isAboveNothing_55 ok_2 (nle rfl) (nle rfl) rfl lf_Cr_11 q3 ?_
      refine r_iload_n (j := 2) d_Cr_isAboveNothing_58 rfl ?_
      refine r_iconst d_Cr_isAboveNothing_59 kc_5 ?_
      refine r_imul d_Cr_isAboveNothing_60 ?_
      refine r_aload_n (j := 0) d_Cr_isAboveNothing_61 rfl ?_
      refine r_getI d_Cr_isAboveNothing_62 ok_2 (nle rfl) (nle rfl) rfl lf_Cr_79 q3 ?_
      refine r_iadd d_Cr_isAboveNothing_65 ?_
      obtain ⟨q6, hw⟩ := hw
      refine r_lald d_Cr_isAboveNothing_66 q4 q6 ?_
      refine r_lconst d_Cr_isAboveNothing_67 kl_0 ?_
      refine r_lcmp d_Cr_isAboveNothing_68 ?_
      refine r_if_gt d_Cr_isAboveNothing_69 (fun w9 => ?_) (fun w9 => ?_)
      · replace hw := hw.1 ((lg_cmp_gt _ _).mp w9)
        refine r_iinc (j := 2) (ls2 := [(3, ai (v3 + (1 : Int32))), (0, ar v0), (1, al v1)]) d_Cr_isAboveNothing_74 rfl (congrArg (HAdd.hAdd v3) kc_1) (nle rfl) rfl ?_
        refine r_goto d_Cr_isAboveNothing_77 ?_
        refine r_pick (ls2 := [(0, ar v0), (1, al v1), (3, ai (v3 + (1 : Int32)))]) [1, 2, 0] rfl ?_
        exact ih _ _ hw
      · replace hw := hw.2 (fun g9 => w9 ((lg_cmp_gt _ _).mpr g9))
        refine r_iconst d_Cr_isAboveNothing_72 kc_0 ?_
        exact r_zreturn d_Cr_isAboveNothing_73.1 rfl (Or.inl rfl) (hQ _ _ hw)
set_option maxRecDepth 100000 in
set_option maxHeartbeats 4000000 in
theorem s_Cr_isAboveNothing_B16 {d : Nat} {Q : Bool → Hp → Prop} {QQ : Option AV → Hp → Prop} (hQ : ∀ r9 h9, Q r9 h9 → QQ (some (ai (b2i r9))) h9) {v0 : Nat} {s0 : Int64} {h : Hp} (hw : w_Cr_isAboveNothing_B16 Q  v0 s0 h) : aW none m_Cr_isAboveNothing d 16 [(0, ar v0)] [al s0] h 0 0 QQ := by
  unfold w_Cr_isAboveNothing_B16 at hw
  refine r_lstore_n (ls2 := [(1, al s0), (0, ar v0)]) d_Cr_isAboveNothing_16 (nle rfl) rfl ?_
  refine r_aload_n (j := 1) d_Cr_isAboveNothing_17 rfl ?_
  refine r_dup d_Cr_isAboveNothing_18 rfl ?_
  obtain ⟨q2, hw⟩ := hw
  refine r_getL d_Cr_isAboveNothing_19 ok_2 (nle rfl) (nle rfl) rfl lf_Cr_67 q2 ?_
  refine r_lload_n (j := 0) d_Cr_isAboveNothing_22 rfl ?_
  refine r_lmul d_Cr_isAboveNothing_23 ?_
  refine r_putL d_Cr_isAboveNothing_24 ok_2 (nle rfl) (nle rfl) rfl lf_Cr_67 rfl q2 ?_
  refine r_iconst d_Cr_isAboveNothing_27 kc_0 ?_
  refine r_istore_n (ls2 := [(3, ai (0 : Int32)), (1, al s0), (0, ar v0)]) d_Cr_isAboveNothing_28 (nle rfl) rfl ?_
  obtain ⟨n7, hw⟩ := hw
  refine r_pick (ls2 := [(0, ar v0), (1, al s0), (3, ai (0 : Int32))]) [2, 1, 0] rfl ?_
  exact s_Cr_isAboveNothing_L29 hQ  n7 _ _ hw
set_option maxRecDepth 100000 in
set_option maxHeartbeats 4000000 in
theorem s_Cr_isAboveNothing {d : Nat} {v0 : Nat} {h : Hp} {Q : Bool → Hp → Prop} {QQ : Option AV → Hp → Prop} (hw : w_Cr_isAboveNothing v0 h Q) (hQ : ∀ r9 h9, Q r9 h9 → QQ (some (ai (b2i r9))) h9) : aCall m_Cr_isAboveNothing d [ar v0] h 0 0 QQ := by
  refine aCall_in pl_Cr_isAboveNothing (nle rfl) ?_
  show aW none m_Cr_isAboveNothing d 0 [(0, ar v0)] [] h 0 0 QQ
  unfold w_Cr_isAboveNothing at hw
  refine r_aload_n (j := 0) d_Cr_isAboveNothing_0 rfl ?_
  obtain ⟨q1, hw⟩ := hw
  refine r_getL d_Cr_isAboveNothing_1 ok_2 (nle rfl) (nle rfl) rfl lf_Cr_67 q1 ?_
  refine r_lconst d_Cr_isAboveNothing_4 kl_0 ?_
  refine r_lcmp d_Cr_isAboveNothing_5 ?_
  refine r_if_ge d_Cr_isAboveNothing_6 (fun w9 => ?_) (fun w9 => ?_)
  · replace hw := hw.1 ((lg_cmp_ge _ _).mp w9)
    refine r_lconst d_Cr_isAboveNothing_15 kl_1 ?_
    exact s_Cr_isAboveNothing_B16 hQ  hw
  · replace hw := hw.2 (fun g9 => w9 ((lg_cmp_ge _ _).mpr g9))
    refine r_ldc2 d_Cr_isAboveNothing_9 lc_Cr_108 ?_
    refine r_goto d_Cr_isAboveNothing_12 ?_
    exact s_Cr_isAboveNothing_B16 hQ  hw
set_option maxRecDepth 100000 in
set_option maxHeartbeats 4000000 in
theorem s_JI_bitCount {d : Nat} {v0 : Int32} {h : Hp} {Q : Int32 → Hp → Prop} {QQ : Option AV → Hp → Prop} (hw : w_JI_bitCount v0 h Q) (hQ : ∀ r9 h9, Q r9 h9 → QQ (some (ai r9)) h9) : aCall m_JI_bitCount d [ai v0] h 0 0 QQ := by
  refine aCall_in pl_JI_bitCount (nle rfl) ?_
  show aW none m_JI_bitCount d 0 [(0, ai v0)] [] h 0 0 QQ
  unfold w_JI_bitCount at hw
  refine r_iload_n (j := 0) d_JI_bitCount_0 rfl ?_
  refine r_iload_n (j := 0) d_JI_bitCount_1 rfl ?_
  refine r_iconst d_JI_bitCount_2 kc_1 ?_
  refine r_iushr d_JI_bitCount_3 ?_
  refine r_ldcw d_JI_bitCount_4 lc_JI_265 ?_
  refine r_iand d_JI_bitCount_7 ?_
  refine r_isub d_JI_bitCount_8 ?_
  refine r_istore_n (ls2 := [(0, ai (v0 - ((jushr v0 (1 : Int32)) &&& (1431655765 : Int32))))]) d_JI_bitCount_9 (nle rfl) rfl ?_
  refine r_iload_n (j := 0) d_JI_bitCount_10 rfl ?_
  refine r_ldcw d_JI_bitCount_11 lc_JI_266 ?_
  refine r_iand d_JI_bitCount_14 ?_
  refine r_iload_n (j := 0) d_JI_bitCount_15 rfl ?_
  refine r_iconst d_JI_bitCount_16 kc_2 ?_
  refine r_iushr d_JI_bitCount_17 ?_
  refine r_ldcw d_JI_bitCount_18 lc_JI_266 ?_
  refine r_iand d_JI_bitCount_21 ?_
  refine r_iadd d_JI_bitCount_22 ?_
  refine r_istore_n (ls2 := [(0, ai (((v0 - ((jushr v0 (1 : Int32)) &&& (1431655765 : Int32))) &&& (858993459 : Int32)) + ((jushr (v0 - ((jushr v0 (1 : Int32)) &&& (1431655765 : Int32))) (2 : Int32)) &&& (858993459 : Int32))))]) d_JI_bitCount_23 (nle rfl) rfl ?_
  refine r_iload_n (j := 0) d_JI_bitCount_24 rfl ?_
  refine r_iload_n (j := 0) d_JI_bitCount_25 rfl ?_
  refine r_iconst d_JI_bitCount_26 kc_4 ?_
  refine r_iushr d_JI_bitCount_27 ?_
  refine r_iadd d_JI_bitCount_28 ?_
  refine r_ldcw d_JI_bitCount_29 lc_JI_267 ?_
  refine r_iand d_JI_bitCount_32 ?_
  refine r_istore_n (ls2 := [(0, ai (((((v0 - ((jushr v0 (1 : Int32)) &&& (1431655765 : Int32))) &&& (858993459 : Int32)) + ((jushr (v0 - ((jushr v0 (1 : Int32)) &&& (1431655765 : Int32))) (2 : Int32)) &&& (858993459 : Int32))) + (jushr (((v0 - ((jushr v0 (1 : Int32)) &&& (1431655765 : Int32))) &&& (858993459 : Int32)) + ((jushr (v0 - ((jushr v0 (1 : Int32)) &&& (1431655765 : Int32))) (2 : Int32)) &&& (858993459 : Int32))) (4 : Int32))) &&& (252645135 : Int32)))]) d_JI_bitCount_33 (nle rfl) rfl ?_
  refine r_iload_n (j := 0) d_JI_bitCount_34 rfl ?_
  refine r_iload_n (j := 0) d_JI_bitCount_35 rfl ?_
  refine r_bipush d_JI_bitCount_36 kb_8 ?_
  refine r_iushr d_JI_bitCount_38 ?_
  refine r_iadd d_JI_bitCount_39 ?_
  refine r_istore_n (ls2 := [(0, ai ((((((v0 - ((jushr v0 (1 : Int32)) &&& (1431655765 : Int32))) &&& (858993459 : Int32)) + ((jushr (v0 - ((jushr v0 (1 : Int32)) &&& (1431655765 : Int32))) (2 : Int32)) &&& (858993459 : Int32))) + (jushr (((v0 - ((jushr v0 (1 : Int32)) &&& (1431655765 : Int32))) &&& (858993459 : Int32)) + ((jushr (v0 - ((jushr v0 (1 : Int32)) &&& (1431655765 : Int32))) (2 : Int32)) &&& (858993459 : Int32))) (4 : Int32))) &&& (252645135 : Int32)) + (jushr (((((v0 - ((jushr v0 (1 : Int32)) &&& (1431655765 : Int32))) &&& (858993459 : Int32)) + ((jushr (v0 - ((jushr v0 (1 : Int32)) &&& (1431655765 : Int32))) (2 : Int32)) &&& (858993459 : Int32))) + (jushr (((v0 - ((jushr v0 (1 : Int32)) &&& (1431655765 : Int32))) &&& (858993459 : Int32)) + ((jushr (v0 - ((jushr v0 (1 : Int32)) &&& (1431655765 : Int32))) (2 : Int32)) &&& (858993459 : Int32))) (4 : Int32))) &&& (252645135 : Int32)) (8 : Int32))))]) d_JI_bitCount_40 (nle rfl) rfl ?_
  refine r_iload_n (j := 0) d_JI_bitCount_41 rfl ?_
  refine r_iload_n (j := 0) d_JI_bitCount_42 rfl ?_
  refine r_bipush d_JI_bitCount_43 kb_16 ?_
  refine r_iushr d_JI_bitCount_45 ?_
  refine r_iadd d_JI_bitCount_46 ?_
  refine r_istore_n (ls2 := [(0, ai (((((((v0 - ((jushr v0 (1 : Int32)) &&& (1431655765 : Int32))) &&& (858993459 : Int32)) + ((jushr (v0 - ((jushr v0 (1 : Int32)) &&& (1431655765 : Int32))) (2 : Int32)) &&& (858993459 : Int32))) + (jushr (((v0 - ((jushr v0 (1 : Int32)) &&& (1431655765 : Int32))) &&& (858993459 : Int32)) + ((jushr (v0 - ((jushr v0 (1 : Int32)) &&& (1431655765 : Int32))) (2 : Int32)) &&& (858993459 : Int32))) (4 : Int32))) &&& (252645135 : Int32)) + (jushr (((((v0 - ((jushr v0 (1 : Int32)) &&& (1431655765 : Int32))) &&& (858993459 : Int32)) + ((jushr (v0 - ((jushr v0 (1 : Int32)) &&& (1431655765 : Int32))) (2 : Int32)) &&& (858993459 : Int32))) + (jushr (((v0 - ((jushr v0 (1 : Int32)) &&& (1431655765 : Int32))) &&& (858993459 : Int32)) + ((jushr (v0 - ((jushr v0 (1 : Int32)) &&& (1431655765 : Int32))) (2 : Int32)) &&& (858993459 : Int32))) (4 : Int32))) &&& (252645135 : Int32)) (8 : Int32))) + (jushr ((((((v0 - ((jushr v0 (1 : Int32)) &&& (1431655765 : Int32))) &&& (858993459 : Int32)) + ((jushr (v0 - ((jushr v0 (1 : Int32)) &&& (1431655765 : Int32))) (2 : Int32)) &&& (858993459 : Int32))) + (jushr (((v0 - ((jushr v0 (1 : Int32)) &&& (1431655765 : Int32))) &&& (858993459 : Int32)) + ((jushr (v0 - ((jushr v0 (1 : Int32)) &&& (1431655765 : Int32))) (2 : Int32)) &&& (858993459 : Int32))) (4 : Int32))) &&& (252645135 : Int32)) + (jushr (((((v0 - ((jushr v0 (1 : Int32)) &&& (1431655765 : Int32))) &&& (858993459 : Int32)) + ((jushr (v0 - ((jushr v0 (1 : Int32)) &&& (1431655765 : Int32))) (2 : Int32)) &&& (858993459 : Int32))) + (jushr (((v0 - ((jushr v0 (1 : Int32)) &&& (1431655765 : Int32))) &&& (858993459 : Int32)) + ((jushr (v0 - ((jushr v0 (1 : Int32)) &&& (1431655765 : Int32))) (2 : Int32)) &&& (858993459 : Int32))) (4 : Int32))) &&& (252645135 : Int32)) (8 : Int32))) (16 : Int32))))]) d_JI_bitCount_47 (nle rfl) rfl ?_
  refine r_iload_n (j := 0) d_JI_bitCount_48 rfl ?_
  refine r_bipush d_JI_bitCount_49 kb_63 ?_
  refine r_iand d_JI_bitCount_51 ?_
  exact r_ireturn d_JI_bitCount_52.1 rfl (hQ _ _ hw)
set_option maxRecDepth 100000 in
set_option maxHeartbeats 4000000 in
theorem s_Cr_solve_L53 {d : Nat} (hd : 2 ≤ d + 1) {Q : Bool → Hp → Prop} {QQ : Option AV → Hp → Prop} (hQ : ∀ r9 h9, Q r9 h9 → QQ (some (ai (b2i r9))) h9) {v0 : Nat} {v2 : Int32} : ∀ (n : Nat) (v3 : Int32) (h : Hp), w_Cr_solve_L53 Q  v0 v2 n v3 h → aW none m_Cr_solve (d + 1) 53 [(0, ar v0), (2, ai v2), (3, ai v3)] [] h 0 0 QQ := by
  intro n
  induction n with
  | zero => intro v3 h hw; exact hw.elim
  | succ n ih =>
    intro v3 h hw
    unfold w_Cr_solve_L53 at hw
    refine r_iload_n (j := 2) d_Cr_solve_53 rfl ?_
    refine r_iload_n (j := 1) d_Cr_solve_54 rfl ?_
    refine r_icmp_ge d_Cr_solve_55 (fun w9 => ?_) (fun w9 => ?_)
    · replace hw := hw.1 w9
      refine r_aload_n (j := 0) d_Cr_solve_84 rfl ?_
      obtain ⟨q9, hw⟩ := hw
      refine r_callV (av := []) (rest := []) (ci := 2) d_Cr_solve_85 mk_Cr_isAboveNothing ll_Cr_97 im_Cr_isAboveNothing se_Cr_isAboveNothing rfl (nle rfl) rfl rfl (nle rfl) q9 (s_Cr_isAboveNothing  hw (fun r8 h7 hw => ?_))
      show aW none m_Cr_solve (d + 1) 88 [(0, ar v0), (2, ai v2), (3, ai v3)] [ai (b2i r8)] h7 0 0 QQ
      exact r_zreturn d_Cr_solve_88.1 rfl (b2i_B _) (hQ _ _ hw)
    · replace hw := hw.2 w9
      refine r_aload_n (j := 0) d_Cr_solve_58 rfl ?_
      obtain ⟨q10, hw⟩ := hw
      refine r_getR d_Cr_solve_59 ok_2 (nle rfl) (nle rfl) rfl lf_Cr_11 q10 ?_
      refine r_iload_n (j := 2) d_Cr_solve_62 rfl ?_
      refine r_iconst d_Cr_solve_63 kc_5 ?_
      refine r_imul d_Cr_solve_64 ?_
      refine r_aload_n (j := 0) d_Cr_solve_65 rfl ?_
      refine r_getI d_Cr_solve_66 ok_2 (nle rfl) (nle rfl) rfl lf_Cr_79 q10 ?_
      refine r_iadd d_Cr_solve_69 ?_
      obtain ⟨q11, hw⟩ := hw
      obtain ⟨q12, hw⟩ := hw
      refine r_lald d_Cr_solve_70 q11 q12 ?_
      refine r_lconst d_Cr_solve_71 kl_0 ?_
      refine r_lcmp d_Cr_solve_72 ?_
      refine r_if_eq d_Cr_solve_73 (fun w9 => ?_) (fun w9 => ?_)
      · replace hw := hw.1 ((lg_cmp_eq _ _).mp w9)
        refine r_iinc (j := 2) (ls2 := [(3, ai (v3 + (1 : Int32))), (0, ar v0), (2, ai v2)]) d_Cr_solve_78 rfl (congrArg (HAdd.hAdd v3) kc_1) (nle rfl) rfl ?_
        refine r_goto d_Cr_solve_81 ?_
        refine r_pick (ls2 := [(0, ar v0), (2, ai v2), (3, ai (v3 + (1 : Int32)))]) [1, 2, 0] rfl ?_
        exact ih _ _ hw
      · replace hw := hw.2 (fun g9 => w9 ((lg_cmp_eq _ _).mpr g9))
        refine r_iconst d_Cr_solve_76 kc_0 ?_
        exact r_zreturn d_Cr_solve_77.1 rfl (Or.inl rfl) (hQ _ _ hw)
set_option maxRecDepth 100000 in
set_option maxHeartbeats 4000000 in
theorem s_Cr_solve_L23 {d : Nat} (hd : 2 ≤ d + 1) {Q : Bool → Hp → Prop} {QQ : Option AV → Hp → Prop} (hQ : ∀ r9 h9, Q r9 h9 → QQ (some (ai (b2i r9))) h9) {v0 : Nat} {v2 : Int32} : ∀ (n : Nat) (v3 : Int32) (h : Hp), w_Cr_solve_L23 Q  v0 v2 n v3 h → aW none m_Cr_solve (d + 1) 23 [(0, ar v0), (2, ai v2), (3, ai v3)] [] h 0 0 QQ := by
  intro n
  induction n with
  | zero => intro v3 h hw; exact hw.elim
  | succ n ih =>
    intro v3 h hw
    unfold w_Cr_solve_L23 at hw
    refine r_iload_n (j := 2) d_Cr_solve_23 rfl ?_
    refine r_aload_n (j := 0) d_Cr_solve_24 rfl ?_
    obtain ⟨q6, hw⟩ := hw
    refine r_getI d_Cr_solve_25 ok_2 (nle rfl) (nle rfl) rfl lf_Cr_79 q6 ?_
    refine r_icmp_ge d_Cr_solve_28 (fun w9 => ?_) (fun w9 => ?_)
    · replace hw := hw.1 w9
      refine r_aload_n (j := 0) d_Cr_solve_48 rfl ?_
      refine r_getI d_Cr_solve_49 ok_2 (nle rfl) (nle rfl) rfl lf_Cr_79 q6 ?_
      refine r_istore_n (ls2 := [(3, ai (gI h v0 4)), (0, ar v0), (2, ai v2)]) d_Cr_solve_52 (nle rfl) rfl ?_
      obtain ⟨n13, hw⟩ := hw
      refine r_pick (ls2 := [(0, ar v0), (2, ai v2), (3, ai (gI h v0 4))]) [1, 2, 0] rfl ?_
      exact s_Cr_solve_L53 hd hQ  n13 _ _ hw
    · replace hw := hw.2 w9
      refine r_aload_n (j := 0) d_Cr_solve_31 rfl ?_
      refine r_iload_n (j := 2) d_Cr_solve_32 rfl ?_
      refine r_iload_n (j := 1) d_Cr_solve_33 rfl ?_
      refine r_callV (av := [ai v3, ai v2]) (rest := []) (ci := 2) d_Cr_solve_34 mk_Cr_eliminate ll_Cr_94 im_Cr_eliminate se_Cr_eliminate rfl (nle rfl) rfl rfl (nle rfl) q6 (s_Cr_eliminate  hw (fun r15 h14 hw => ?_))
      show aW none m_Cr_solve (d + 1) 37 [(0, ar v0), (2, ai v2), (3, ai v3)] [ai (b2i r15)] h14 0 0 QQ
      refine r_if_ne d_Cr_solve_37 (fun w9 => ?_) (fun w9 => ?_)
      · replace hw := hw.2 (fun g9 => w9 (b2i_0.mpr g9))
        refine r_iinc (j := 2) (ls2 := [(3, ai (v3 + (1 : Int32))), (0, ar v0), (2, ai v2)]) d_Cr_solve_42 rfl (congrArg (HAdd.hAdd v3) kc_1) (nle rfl) rfl ?_
        refine r_goto d_Cr_solve_45 ?_
        refine r_pick (ls2 := [(0, ar v0), (2, ai v2), (3, ai (v3 + (1 : Int32)))]) [1, 2, 0] rfl ?_
        exact ih _ _ hw
      · replace hw := hw.1 (b2i_0.mp w9)
        refine r_iconst d_Cr_solve_40 kc_0 ?_
        exact r_zreturn d_Cr_solve_41.1 rfl (Or.inl rfl) (hQ _ _ hw)
set_option maxRecDepth 100000 in
set_option maxHeartbeats 4000000 in
theorem s_Cr_solve {d : Nat} (hd : 2 ≤ d) {v0 : Nat} {v1 : Int32} {v2 : Int32} {h : Hp} {Q : Bool → Hp → Prop} {QQ : Option AV → Hp → Prop} (hw : w_Cr_solve v0 v1 v2 h Q) (hQ : ∀ r9 h9, Q r9 h9 → QQ (some (ai (b2i r9))) h9) : aCall m_Cr_solve d [ar v0, ai v1, ai v2] h 0 0 QQ := by
  obtain ⟨d, rfl⟩ : ∃ d9, d = d9 + 1 := ⟨d - 1, by omega⟩
  refine aCall_in pl_Cr_solve (nle rfl) ?_
  show aW none m_Cr_solve (d + 1) 0 [(0, ar v0), (1, ai v1), (2, ai v2)] [] h 0 0 QQ
  unfold w_Cr_solve at hw
  refine r_iload_n (j := 1) d_Cr_solve_0 rfl ?_
  refine r_callS (av := [ai v1]) (rest := []) d_Cr_solve_1 mk_JI_bitCount ll_Cr_86 st_JI_bitCount rfl rfl (nle rfl) (s_JI_bitCount  hw (fun r2 h1 hw => ?_))
  show aW none m_Cr_solve (d + 1) 4 [(0, ar v0), (1, ai v1), (2, ai v2)] [ai r2] h1 0 0 QQ
  refine r_iload_n (j := 2) d_Cr_solve_4 rfl ?_
  refine r_icmp_le d_Cr_solve_5 (fun w9 => ?_) (fun w9 => ?_)
  · replace hw := hw.1 w9
    refine r_aload_n (j := 0) d_Cr_solve_10 rfl ?_
    refine r_iload_n (j := 1) d_Cr_solve_11 rfl ?_
    refine r_iload_n (j := 2) d_Cr_solve_12 rfl ?_
    obtain ⟨q4, hw⟩ := hw
    refine r_callV (av := [ai v1, ai v2]) (rest := []) (ci := 2) d_Cr_solve_13 mk_Cr_fill ll_Cr_91 im_Cr_fill se_Cr_fill rfl (nle rfl) rfl rfl (nle rfl) q4 (s_Cr_fill (by omega) hw (fun h3 hw => ?_))
    show aW none m_Cr_solve (d + 1) 16 [(0, ar v0), (1, ai v1), (2, ai v2)] [] h3 0 0 QQ
    refine r_aload_n (j := 0) d_Cr_solve_16 rfl ?_
    refine r_lconst d_Cr_solve_17 kl_1 ?_
    obtain ⟨q5, hw⟩ := hw
    refine r_putL d_Cr_solve_18 ok_2 (nle rfl) (nle rfl) rfl lf_Cr_67 rfl q5 ?_
    refine r_iconst d_Cr_solve_21 kc_0 ?_
    refine r_istore_n (ls2 := [(3, ai (0 : Int32)), (0, ar v0), (1, ai v1), (2, ai v2)]) d_Cr_solve_22 (nle rfl) rfl ?_
    obtain ⟨n16, hw⟩ := hw
    refine r_pick (ls2 := [(0, ar v0), (2, ai v2), (3, ai (0 : Int32))]) [1, 3, 0] rfl ?_
    exact s_Cr_solve_L23 hd hQ  n16 _ _ hw
  · replace hw := hw.2 w9
    refine r_iconst d_Cr_solve_8 kc_0 ?_
    exact r_zreturn d_Cr_solve_9.1 rfl (Or.inl rfl) (hQ _ _ hw)
set_option maxRecDepth 100000 in
set_option maxHeartbeats 4000000 in
theorem s_Cr_solvedGain_L4 {d : Nat} (hd : 1 ≤ d + 1) {Q : Int64 → Hp → Prop} {QQ : Option AV → Hp → Prop} (hQ : ∀ r9 h9, Q r9 h9 → QQ (some (al r9)) h9) {v0 : Nat} : ∀ (n : Nat) (v1 : Int64) (v3 : Int32) (h : Hp), w_Cr_solvedGain_L4 Q  v0 n v1 v3 h → aW none m_Cr_solvedGain (d + 1) 4 [(0, ar v0), (1, al v1), (3, ai v3)] [] h 0 0 QQ := by
  intro n
  induction n with
  | zero => intro v1 v3 h hw; exact hw.elim
  | succ n ih =>
    intro v1 v3 h hw
    unfold w_Cr_solvedGain_L4 at hw
    refine r_iload_n (j := 2) d_Cr_solvedGain_4 rfl ?_
    refine r_aload_n (j := 0) d_Cr_solvedGain_5 rfl ?_
    obtain ⟨q1, hw⟩ := hw
    refine r_getI d_Cr_solvedGain_6 ok_2 (nle rfl) (nle rfl) rfl lf_Cr_79 q1 ?_
    refine r_icmp_ge d_Cr_solvedGain_9 (fun w9 => ?_) (fun w9 => ?_)
    · replace hw := hw.1 w9
      refine r_lload_n (j := 1) d_Cr_solvedGain_49 rfl ?_
      exact r_lreturn d_Cr_solvedGain_50.1 rfl (hQ _ _ hw)
    · replace hw := hw.2 w9
      refine r_lload_n (j := 1) d_Cr_solvedGain_12 rfl ?_
      refine r_aload_n (j := 0) d_Cr_solvedGain_13 rfl ?_
      refine r_getR d_Cr_solvedGain_14 ok_2 (nle rfl) (nle rfl) rfl lf_Cr_26 q1 ?_
      refine r_aload_n (j := 0) d_Cr_solvedGain_17 rfl ?_
      refine r_getR d_Cr_solvedGain_18 ok_2 (nle rfl) (nle rfl) rfl lf_Cr_15 q1 ?_
      refine r_iload_n (j := 2) d_Cr_solvedGain_21 rfl ?_
      obtain ⟨q2, hw⟩ := hw
      obtain ⟨q3, hw⟩ := hw
      refine r_iald d_Cr_solvedGain_22 q2 q3 ?_
      obtain ⟨q6, hw⟩ := hw
      refine r_callV (av := [ai (gI h (gR h v0 2) (ix v3))]) (rest := [al v1]) (ci := 1) d_Cr_solvedGain_23 mk_Co_gainOf ll_Cr_82 im_Co_gainOf se_Co_gainOf rfl (nle rfl) rfl rfl (nle rfl) q6 (s_Co_gainOf  hw (fun r5 h4 hw => ?_))
      show aW none m_Cr_solvedGain (d + 1) 26 [(0, ar v0), (1, al v1), (3, ai v3)] [ai r5, al v1] h4 0 0 QQ
      refine r_i2l d_Cr_solvedGain_26 ?_
      refine r_aload_n (j := 0) d_Cr_solvedGain_27 rfl ?_
      obtain ⟨q7, hw⟩ := hw
      refine r_getR d_Cr_solvedGain_28 ok_2 (nle rfl) (nle rfl) rfl lf_Cr_11 q7 ?_
      refine r_iload_n (j := 2) d_Cr_solvedGain_31 rfl ?_
      refine r_iconst d_Cr_solvedGain_32 kc_5 ?_
      refine r_imul d_Cr_solvedGain_33 ?_
      refine r_aload_n (j := 0) d_Cr_solvedGain_34 rfl ?_
      refine r_getI d_Cr_solvedGain_35 ok_2 (nle rfl) (nle rfl) rfl lf_Cr_79 q7 ?_
      refine r_iadd d_Cr_solvedGain_38 ?_
      obtain ⟨q8, hw⟩ := hw
      obtain ⟨q9, hw⟩ := hw
      refine r_lald d_Cr_solvedGain_39 q8 q9 ?_
      refine r_lmul d_Cr_solvedGain_40 ?_
      refine r_ladd d_Cr_solvedGain_41 ?_
      refine r_lstore_n (ls2 := [(1, al (v1 + ((r5.toInt64) * (gL h4 (gR h4 v0 1) (ix ((v3 * (5 : Int32)) + (gI h4 v0 4))))))), (0, ar v0), (3, ai v3)]) d_Cr_solvedGain_42 (nle rfl) rfl ?_
      refine r_iinc (j := 2) (ls2 := [(3, ai (v3 + (1 : Int32))), (1, al (v1 + ((r5.toInt64) * (gL h4 (gR h4 v0 1) (ix ((v3 * (5 : Int32)) + (gI h4 v0 4))))))), (0, ar v0)]) d_Cr_solvedGain_43 rfl (congrArg (HAdd.hAdd v3) kc_1) (nle rfl) rfl ?_
      refine r_goto d_Cr_solvedGain_46 ?_
      refine r_pick (ls2 := [(0, ar v0), (1, al (v1 + ((r5.toInt64) * (gL h4 (gR h4 v0 1) (ix ((v3 * (5 : Int32)) + (gI h4 v0 4))))))), (3, ai (v3 + (1 : Int32)))]) [2, 1, 0] rfl ?_
      exact ih _ _ _ hw
set_option maxRecDepth 100000 in
set_option maxHeartbeats 4000000 in
theorem s_Cr_solvedGain {d : Nat} (hd : 1 ≤ d) {v0 : Nat} {h : Hp} {Q : Int64 → Hp → Prop} {QQ : Option AV → Hp → Prop} (hw : w_Cr_solvedGain v0 h Q) (hQ : ∀ r9 h9, Q r9 h9 → QQ (some (al r9)) h9) : aCall m_Cr_solvedGain d [ar v0] h 0 0 QQ := by
  obtain ⟨d, rfl⟩ : ∃ d9, d = d9 + 1 := ⟨d - 1, by omega⟩
  refine aCall_in pl_Cr_solvedGain (nle rfl) ?_
  show aW none m_Cr_solvedGain (d + 1) 0 [(0, ar v0)] [] h 0 0 QQ
  unfold w_Cr_solvedGain at hw
  refine r_lconst d_Cr_solvedGain_0 kl_0 ?_
  refine r_lstore_n (ls2 := [(1, al (0 : Int64)), (0, ar v0)]) d_Cr_solvedGain_1 (nle rfl) rfl ?_
  refine r_iconst d_Cr_solvedGain_2 kc_0 ?_
  refine r_istore_n (ls2 := [(3, ai (0 : Int32)), (1, al (0 : Int64)), (0, ar v0)]) d_Cr_solvedGain_3 (nle rfl) rfl ?_
  obtain ⟨n10, hw⟩ := hw
  refine r_pick (ls2 := [(0, ar v0), (1, al (0 : Int64)), (3, ai (0 : Int32))]) [2, 1, 0] rfl ?_
  exact s_Cr_solvedGain_L4 hd hQ  n10 _ _ _ hw
set_option maxRecDepth 100000 in
set_option maxHeartbeats 4000000 in
theorem s_JA_fill_L6 {d : Nat} {Q : Hp → Prop} {QQ : Option AV → Hp → Prop} (hQ : ∀ h9, Q h9 → QQ none h9) {v0 : Nat} {v1 : Int64} {v4 : Int32} : ∀ (n : Nat) (v3 : Int32) (h : Hp), w_JA_fill_L6 Q  v0 v1 v4 n v3 h → aW none m_JA_fill d 6 [(0, ar v0), (1, al v1), (3, ai v3), (4, ai v4)] [] h 0 0 QQ := by
  intro n
  induction n with
  | zero => intro v3 h hw; exact hw.elim
  | succ n ih =>
    intro v3 h hw
    unfold w_JA_fill_L6 at hw
    refine r_iload_n (j := 2) d_JA_fill_6 rfl ?_
    refine r_iload (j := 3) d_JA_fill_7 rfl ?_
    refine r_icmp_ge d_JA_fill_9 (fun w9 => ?_) (fun w9 => ?_)
    · replace hw := hw.1 w9
      exact r_return d_JA_fill_22.1 rfl (hQ _ hw)
    · replace hw := hw.2 w9
      refine r_aload_n (j := 0) d_JA_fill_12 rfl ?_
      refine r_iload_n (j := 2) d_JA_fill_13 rfl ?_
      refine r_lload_n (j := 1) d_JA_fill_14 rfl ?_
      obtain ⟨q2, hw⟩ := hw
      obtain ⟨q3, hw⟩ := hw
      refine r_last d_JA_fill_15 q2 q3 ?_
      refine r_iinc (j := 2) (ls2 := [(3, ai (v3 + (1 : Int32))), (0, ar v0), (1, al v1), (4, ai v4)]) d_JA_fill_16 rfl (congrArg (HAdd.hAdd v3) kc_1) (nle rfl) rfl ?_
      refine r_goto d_JA_fill_19 ?_
      refine r_pick (ls2 := [(0, ar v0), (1, al v1), (3, ai (v3 + (1 : Int32))), (4, ai v4)]) [1, 2, 0, 3] rfl ?_
      exact ih _ _ hw
set_option maxRecDepth 100000 in
set_option maxHeartbeats 4000000 in
theorem s_JA_fill {d : Nat} {v0 : Nat} {v1 : Int64} {h : Hp} {Q : Hp → Prop} {QQ : Option AV → Hp → Prop} (hw : w_JA_fill v0 v1 h Q) (hQ : ∀ h9, Q h9 → QQ none h9) : aCall m_JA_fill d [ar v0, al v1] h 0 0 QQ := by
  refine aCall_in pl_JA_fill (nle rfl) ?_
  show aW none m_JA_fill d 0 [(0, ar v0), (1, al v1)] [] h 0 0 QQ
  unfold w_JA_fill at hw
  refine r_iconst d_JA_fill_0 kc_0 ?_
  refine r_istore_n (ls2 := [(3, ai (0 : Int32)), (0, ar v0), (1, al v1)]) d_JA_fill_1 (nle rfl) rfl ?_
  refine r_aload_n (j := 1) d_JA_fill_2 rfl ?_
  obtain ⟨q1, hw⟩ := hw
  refine r_alen d_JA_fill_3 q1 ?_
  refine r_istore (ls2 := [(4, ai (Int32.ofNat (gN h v0))), (3, ai (0 : Int32)), (0, ar v0), (1, al v1)]) d_JA_fill_4 (nle rfl) rfl ?_
  obtain ⟨n4, hw⟩ := hw
  refine r_pick (ls2 := [(0, ar v0), (1, al v1), (3, ai (0 : Int32)), (4, ai (Int32.ofNat (gN h v0)))]) [2, 3, 1, 0] rfl ?_
  exact s_JA_fill_L6 hQ  n4 _ _ hw
set_option maxRecDepth 100000 in
set_option maxHeartbeats 4000000 in
theorem s_Cr_takeIfBetter_L62 {d : Nat} (hd : 2 ≤ d + 1) {Q : Hp → Prop} {QQ : Option AV → Hp → Prop} (hQ : ∀ h9, Q h9 → QQ none h9) {v0 : Nat} : ∀ (n : Nat) (v4 : Int32) (h : Hp), w_Cr_takeIfBetter_L62 Q  v0 n v4 h → aW none m_Cr_takeIfBetter (d + 1) 62 [(0, ar v0), (4, ai v4)] [] h 0 0 QQ := by
  intro n
  induction n with
  | zero => intro v4 h hw; exact hw.elim
  | succ n ih =>
    intro v4 h hw
    unfold w_Cr_takeIfBetter_L62 at hw
    refine r_iload (j := 1) d_Cr_takeIfBetter_62 rfl ?_
    refine r_aload_n (j := 0) d_Cr_takeIfBetter_64 rfl ?_
    obtain ⟨q7, hw⟩ := hw
    refine r_getI d_Cr_takeIfBetter_65 ok_2 (nle rfl) (nle rfl) rfl lf_Cr_79 q7 ?_
    refine r_icmp_ge d_Cr_takeIfBetter_68 (fun w9 => ?_) (fun w9 => ?_)
    · replace hw := hw.1 w9
      exact r_return d_Cr_takeIfBetter_103.1 rfl (hQ _ hw)
    · replace hw := hw.2 w9
      refine r_aload_n (j := 0) d_Cr_takeIfBetter_71 rfl ?_
      refine r_getR d_Cr_takeIfBetter_72 ok_2 (nle rfl) (nle rfl) rfl lf_Cr_19 q7 ?_
      refine r_aload_n (j := 0) d_Cr_takeIfBetter_75 rfl ?_
      refine r_getR d_Cr_takeIfBetter_76 ok_2 (nle rfl) (nle rfl) rfl lf_Cr_15 q7 ?_
      refine r_iload (j := 1) d_Cr_takeIfBetter_79 rfl ?_
      obtain ⟨q8, hw⟩ := hw
      obtain ⟨q9, hw⟩ := hw
      refine r_iald d_Cr_takeIfBetter_81 q8 q9 ?_
      refine r_aload_n (j := 0) d_Cr_takeIfBetter_82 rfl ?_
      refine r_getR d_Cr_takeIfBetter_83 ok_2 (nle rfl) (nle rfl) rfl lf_Cr_11 q7 ?_
      refine r_iload (j := 1) d_Cr_takeIfBetter_86 rfl ?_
      refine r_iconst d_Cr_takeIfBetter_88 kc_5 ?_
      refine r_imul d_Cr_takeIfBetter_89 ?_
      refine r_aload_n (j := 0) d_Cr_takeIfBetter_90 rfl ?_
      refine r_getI d_Cr_takeIfBetter_91 ok_2 (nle rfl) (nle rfl) rfl lf_Cr_79 q7 ?_
      refine r_iadd d_Cr_takeIfBetter_94 ?_
      obtain ⟨q10, hw⟩ := hw
      obtain ⟨q11, hw⟩ := hw
      refine r_lald d_Cr_takeIfBetter_95 q10 q11 ?_
      obtain ⟨q12, hw⟩ := hw
      obtain ⟨q13, hw⟩ := hw
      refine r_last d_Cr_takeIfBetter_96 q12 q13 ?_
      refine r_iinc (j := 1) (ls2 := [(4, ai (v4 + (1 : Int32))), (0, ar v0)]) d_Cr_takeIfBetter_97 rfl (congrArg (HAdd.hAdd v4) kc_1) (nle rfl) rfl ?_
      refine r_goto d_Cr_takeIfBetter_100 ?_
      refine r_pick (ls2 := [(0, ar v0), (4, ai (v4 + (1 : Int32)))]) [1, 0] rfl ?_
      exact ih _ _ hw
set_option maxRecDepth 100000 in
set_option maxHeartbeats 4000000 in
theorem s_Cr_takeIfBetter_B33 {d : Nat} (hd : 2 ≤ d + 1) {Q : Hp → Prop} {QQ : Option AV → Hp → Prop} (hQ : ∀ h9, Q h9 → QQ none h9) {v0 : Nat} {v1 : Int32} {v2 : Int64} {h : Hp} (hw : w_Cr_takeIfBetter_B33 Q  v0 v1 v2 h) : aW none m_Cr_takeIfBetter (d + 1) 33 [(0, ar v0), (1, ai v1), (2, al v2)] [] h 0 0 QQ := by
  unfold w_Cr_takeIfBetter_B33 at hw
  refine r_aload_n (j := 0) d_Cr_takeIfBetter_33 rfl ?_
  refine r_iload_n (j := 1) d_Cr_takeIfBetter_34 rfl ?_
  obtain ⟨q5, hw⟩ := hw
  refine r_putI d_Cr_takeIfBetter_35 ok_2 (nle rfl) (nle rfl) rfl lf_Cr_70 rfl q5 ?_
  refine r_aload_n (j := 0) d_Cr_takeIfBetter_38 rfl ?_
  refine r_lload_n (j := 2) d_Cr_takeIfBetter_39 rfl ?_
  refine r_putL d_Cr_takeIfBetter_40 ok_2 (nle rfl) (nle rfl) rfl lf_Cr_64 rfl q5 ?_
  refine r_aload_n (j := 0) d_Cr_takeIfBetter_43 rfl ?_
  refine r_aload_n (j := 0) d_Cr_takeIfBetter_44 rfl ?_
  refine r_getL d_Cr_takeIfBetter_45 ok_2 (nle rfl) (nle rfl) rfl lf_Cr_67 q5 ?_
  refine r_putL d_Cr_takeIfBetter_48 ok_2 (nle rfl) (nle rfl) rfl lf_Cr_22 rfl q5 ?_
  refine r_aload_n (j := 0) d_Cr_takeIfBetter_51 rfl ?_
  refine r_getR d_Cr_takeIfBetter_52 ok_2 (nle rfl) (nle rfl) rfl lf_Cr_19 q5 ?_
  refine r_lconst d_Cr_takeIfBetter_55 kl_0 ?_
  refine r_callS (av := [ar (gR h v0 3), al (0 : Int64)]) (rest := []) d_Cr_takeIfBetter_56 mk_JA_fill ll_Cr_73 st_JA_fill rfl rfl (nle rfl) (s_JA_fill  hw (fun h6 hw => ?_))
  show aW none m_Cr_takeIfBetter (d + 1) 59 [(0, ar v0), (1, ai v1), (2, al v2)] [] h6 0 0 QQ
  refine r_iconst d_Cr_takeIfBetter_59 kc_0 ?_
  refine r_istore (ls2 := [(4, ai (0 : Int32)), (0, ar v0), (1, ai v1), (2, al v2)]) d_Cr_takeIfBetter_60 (nle rfl) rfl ?_
  obtain ⟨n14, hw⟩ := hw
  refine r_pick (ls2 := [(0, ar v0), (4, ai (0 : Int32))]) [1, 0] rfl ?_
  exact s_Cr_takeIfBetter_L62 hd hQ  n14 _ _ hw
set_option maxRecDepth 100000 in
set_option maxHeartbeats 4000000 in
theorem s_Cr_takeIfBetter {d : Nat} (hd : 2 ≤ d) {v0 : Nat} {v1 : Int32} {h : Hp} {Q : Hp → Prop} {QQ : Option AV → Hp → Prop} (hw : w_Cr_takeIfBetter v0 v1 h Q) (hQ : ∀ h9, Q h9 → QQ none h9) : aCall m_Cr_takeIfBetter d [ar v0, ai v1] h 0 0 QQ := by
  obtain ⟨d, rfl⟩ : ∃ d9, d = d9 + 1 := ⟨d - 1, by omega⟩
  refine aCall_in pl_Cr_takeIfBetter (nle rfl) ?_
  show aW none m_Cr_takeIfBetter (d + 1) 0 [(0, ar v0), (1, ai v1)] [] h 0 0 QQ
  unfold w_Cr_takeIfBetter at hw
  refine r_aload_n (j := 0) d_Cr_takeIfBetter_0 rfl ?_
  obtain ⟨q3, hw⟩ := hw
  refine r_callV (av := []) (rest := []) (ci := 2) d_Cr_takeIfBetter_1 mk_Cr_solvedGain ll_Cr_60 im_Cr_solvedGain se_Cr_solvedGain rfl (nle rfl) rfl rfl (nle rfl) q3 (s_Cr_solvedGain (by omega) hw (fun r2 h1 hw => ?_))
  show aW none m_Cr_takeIfBetter (d + 1) 4 [(0, ar v0), (1, ai v1)] [al r2] h1 0 0 QQ
  refine r_lstore_n (ls2 := [(2, al r2), (0, ar v0), (1, ai v1)]) d_Cr_takeIfBetter_4 (nle rfl) rfl ?_
  refine r_aload_n (j := 1) d_Cr_takeIfBetter_5 rfl ?_
  obtain ⟨q4, hw⟩ := hw
  refine r_getI d_Cr_takeIfBetter_6 ok_2 (nle rfl) (nle rfl) rfl lf_Cr_30 q4 ?_
  refine r_iconst d_Cr_takeIfBetter_9 kc_1 ?_
  refine r_icmp_le d_Cr_takeIfBetter_10 (fun w9 => ?_) (fun w9 => ?_)
  · replace hw := hw.1 w9
    refine r_pick (ls2 := [(0, ar v0), (1, ai v1), (2, al r2)]) [1, 2, 0] rfl ?_
    exact s_Cr_takeIfBetter_B33 hd hQ  hw
  · replace hw := hw.2 w9
    refine r_lload_n (j := 0) d_Cr_takeIfBetter_13 rfl ?_
    refine r_aload_n (j := 1) d_Cr_takeIfBetter_14 rfl ?_
    refine r_getL d_Cr_takeIfBetter_15 ok_2 (nle rfl) (nle rfl) rfl lf_Cr_22 q4 ?_
    refine r_lmul d_Cr_takeIfBetter_18 ?_
    refine r_aload_n (j := 1) d_Cr_takeIfBetter_19 rfl ?_
    refine r_getL d_Cr_takeIfBetter_20 ok_2 (nle rfl) (nle rfl) rfl lf_Cr_64 q4 ?_
    refine r_aload_n (j := 1) d_Cr_takeIfBetter_23 rfl ?_
    refine r_getL d_Cr_takeIfBetter_24 ok_2 (nle rfl) (nle rfl) rfl lf_Cr_67 q4 ?_
    refine r_lmul d_Cr_takeIfBetter_27 ?_
    refine r_lcmp d_Cr_takeIfBetter_28 ?_
    refine r_if_gt d_Cr_takeIfBetter_29 (fun w9 => ?_) (fun w9 => ?_)
    · replace hw := hw.1 ((lg_cmp_gt _ _).mp w9)
      refine r_pick (ls2 := [(0, ar v0), (1, ai v1), (2, al r2)]) [1, 2, 0] rfl ?_
      exact s_Cr_takeIfBetter_B33 hd hQ  hw
    · replace hw := hw.2 (fun g9 => w9 ((lg_cmp_gt _ _).mpr g9))
      exact r_return d_Cr_takeIfBetter_32.1 rfl (hQ _ hw)
set_option maxRecDepth 100000 in
set_option maxHeartbeats 4000000 in
theorem s_Cr_find_L95 {d : Nat} (hd : 3 ≤ d + 1) {Q : Hp → Prop} {QQ : Option AV → Hp → Prop} (hQ : ∀ h9, Q h9 → QQ none h9) {v0 : Nat} : ∀ (n : Nat) (v1 : Int32) (h : Hp), w_Cr_find_L95 Q  v0 n v1 h → aW none m_Cr_find (d + 1) 95 [(0, ar v0), (1, ai v1)] [] h 0 0 QQ := by
  intro n
  induction n with
  | zero => intro v1 h hw; exact hw.elim
  | succ n ih =>
    intro v1 h hw
    unfold w_Cr_find_L95 at hw
    refine r_iload_n (j := 1) d_Cr_find_95 rfl ?_
    refine r_iconst d_Cr_find_96 kc_1 ?_
    refine r_aload_n (j := 0) d_Cr_find_97 rfl ?_
    obtain ⟨q6, hw⟩ := hw
    refine r_getR d_Cr_find_98 ok_2 (nle rfl) (nle rfl) rfl lf_Cr_26 q6 ?_
    obtain ⟨q7, hw⟩ := hw
    refine r_getI d_Cr_find_101 ok_1 (nle rfl) (nle rfl) rfl lf_Cr_49 q7 ?_
    refine r_ishl d_Cr_find_104 ?_
    refine r_icmp_ge d_Cr_find_105 (fun w9 => ?_) (fun w9 => ?_)
    · replace hw := hw.1 w9
      exact r_return d_Cr_find_155.1 rfl (hQ _ hw)
    · replace hw := hw.2 w9
      refine r_aload_n (j := 0) d_Cr_find_108 rfl ?_
      refine r_getI d_Cr_find_109 ok_2 (nle rfl) (nle rfl) rfl lf_Cr_30 q6 ?_
      refine r_if_le d_Cr_find_112 (fun w9 => ?_) (fun w9 => ?_)
      · replace hw := hw.1 w9
        exact r_return d_Cr_find_155.1 rfl (hQ _ hw)
      · replace hw := hw.2 w9
        refine r_aload_n (j := 0) d_Cr_find_115 rfl ?_
        refine r_getI d_Cr_find_116 ok_2 (nle rfl) (nle rfl) rfl lf_Cr_34 q6 ?_
        refine r_if_ne d_Cr_find_119 (fun w9 => ?_) (fun w9 => ?_)
        · replace hw := hw.2 w9
          exact r_return d_Cr_find_155.1 rfl (hQ _ hw)
        · replace hw := hw.1 w9
          refine r_aload_n (j := 0) d_Cr_find_122 rfl ?_
          refine r_aload_n (j := 0) d_Cr_find_123 rfl ?_
          refine r_iload_n (j := 1) d_Cr_find_124 rfl ?_
          refine r_iconst d_Cr_find_125 kc_4 ?_
          refine r_callV (av := [ai v1, ai (4 : Int32)]) (rest := [ar v0]) (ci := 2) d_Cr_find_126 mk_Cr_solve ll_Cr_52 im_Cr_solve se_Cr_solve rfl (nle rfl) rfl rfl (nle rfl) q6 (s_Cr_solve (by omega) hw (fun r9 h8 hw => ?_))
          show aW none m_Cr_find (d + 1) 129 [(0, ar v0), (1, ai v1)] [ai (b2i r9), ar v0] h8 0 0 QQ
          refine r_if_eq d_Cr_find_129 (fun w9 => ?_) (fun w9 => ?_)
          · replace hw := hw.1 (b2i_0.mp w9)
            refine r_iconst d_Cr_find_145 kc_0 ?_
            obtain ⟨q10, hw⟩ := hw
            refine r_putZ d_Cr_find_146 ok_2 (nle rfl) (nle rfl) rfl lf_Cr_34 rfl q10 (Or.inl rfl) ?_
            refine r_iinc (j := 1) (ls2 := [(1, ai (v1 + (1 : Int32))), (0, ar v0)]) d_Cr_find_149 rfl (congrArg (HAdd.hAdd v1) kc_1) (nle rfl) rfl ?_
            refine r_goto d_Cr_find_152 ?_
            refine r_pick (ls2 := [(0, ar v0), (1, ai (v1 + (1 : Int32)))]) [1, 0] rfl ?_
            exact ih _ _ hw
          · replace hw := hw.2 (fun g9 => w9 (b2i_0.mpr g9))
            refine r_aload_n (j := 0) d_Cr_find_132 rfl ?_
            obtain ⟨q13, hw⟩ := hw
            refine r_callV (av := []) (rest := [ar v0]) (ci := 2) d_Cr_find_133 mk_Cr_solvedGain ll_Cr_60 im_Cr_solvedGain se_Cr_solvedGain rfl (nle rfl) rfl rfl (nle rfl) q13 (s_Cr_solvedGain (by omega) hw (fun r12 h11 hw => ?_))
            show aW none m_Cr_find (d + 1) 136 [(0, ar v0), (1, ai v1)] [al r12, ar v0] h11 0 0 QQ
            refine r_lconst d_Cr_find_136 kl_0 ?_
            refine r_lcmp d_Cr_find_137 ?_
            refine r_if_le d_Cr_find_138 (fun w9 => ?_) (fun w9 => ?_)
            · replace hw := hw.1 ((lg_cmp_le _ _).mp w9)
              refine r_iconst d_Cr_find_145 kc_0 ?_
              obtain ⟨q14, hw⟩ := hw
              refine r_putZ d_Cr_find_146 ok_2 (nle rfl) (nle rfl) rfl lf_Cr_34 rfl q14 (Or.inl rfl) ?_
              refine r_iinc (j := 1) (ls2 := [(1, ai (v1 + (1 : Int32))), (0, ar v0)]) d_Cr_find_149 rfl (congrArg (HAdd.hAdd v1) kc_1) (nle rfl) rfl ?_
              refine r_goto d_Cr_find_152 ?_
              refine r_pick (ls2 := [(0, ar v0), (1, ai (v1 + (1 : Int32)))]) [1, 0] rfl ?_
              exact ih _ _ hw
            · replace hw := hw.2 (fun g9 => w9 ((lg_cmp_le _ _).mpr g9))
              refine r_iconst d_Cr_find_141 kc_1 ?_
              refine r_goto d_Cr_find_142 ?_
              obtain ⟨q15, hw⟩ := hw
              refine r_putZ d_Cr_find_146 ok_2 (nle rfl) (nle rfl) rfl lf_Cr_34 rfl q15 (Or.inr rfl) ?_
              refine r_iinc (j := 1) (ls2 := [(1, ai (v1 + (1 : Int32))), (0, ar v0)]) d_Cr_find_149 rfl (congrArg (HAdd.hAdd v1) kc_1) (nle rfl) rfl ?_
              refine r_goto d_Cr_find_152 ?_
              refine r_pick (ls2 := [(0, ar v0), (1, ai (v1 + (1 : Int32)))]) [1, 0] rfl ?_
              exact ih _ _ hw
set_option maxRecDepth 100000 in
set_option maxHeartbeats 4000000 in
theorem s_Cr_find_L50 {d : Nat} (hd : 3 ≤ d + 1) {Q : Hp → Prop} {QQ : Option AV → Hp → Prop} (hQ : ∀ h9, Q h9 → QQ none h9) {v0 : Nat} : ∀ (n : Nat) (v1 : Int32) (h : Hp), w_Cr_find_L50 Q  v0 n v1 h → aW none m_Cr_find (d + 1) 50 [(0, ar v0), (1, ai v1)] [] h 0 0 QQ := by
  intro n
  induction n with
  | zero => intro v1 h hw; exact hw.elim
  | succ n ih =>
    intro v1 h hw
    unfold w_Cr_find_L50 at hw
    refine r_iload_n (j := 1) d_Cr_find_50 rfl ?_
    refine r_iconst d_Cr_find_51 kc_1 ?_
    refine r_aload_n (j := 0) d_Cr_find_52 rfl ?_
    obtain ⟨q4, hw⟩ := hw
    refine r_getR d_Cr_find_53 ok_2 (nle rfl) (nle rfl) rfl lf_Cr_26 q4 ?_
    obtain ⟨q5, hw⟩ := hw
    refine r_getI d_Cr_find_56 ok_1 (nle rfl) (nle rfl) rfl lf_Cr_49 q5 ?_
    refine r_ishl d_Cr_find_59 ?_
    refine r_icmp_ge d_Cr_find_60 (fun w9 => ?_) (fun w9 => ?_)
    · replace hw := hw.1 w9
      refine r_iconst d_Cr_find_93 kc_1 ?_
      refine r_istore_n (ls2 := [(1, ai (1 : Int32)), (0, ar v0)]) d_Cr_find_94 (nle rfl) rfl ?_
      obtain ⟨n16, hw⟩ := hw
      refine r_pick (ls2 := [(0, ar v0), (1, ai (1 : Int32))]) [1, 0] rfl ?_
      exact s_Cr_find_L95 hd hQ  n16 _ _ hw
    · replace hw := hw.2 w9
      refine r_aload_n (j := 0) d_Cr_find_63 rfl ?_
      refine r_iload_n (j := 1) d_Cr_find_64 rfl ?_
      refine r_iconst d_Cr_find_65 kc_3 ?_
      refine r_callV (av := [ai v1, ai (3 : Int32)]) (rest := []) (ci := 2) d_Cr_find_66 mk_Cr_solve ll_Cr_52 im_Cr_solve se_Cr_solve rfl (nle rfl) rfl rfl (nle rfl) q4 (s_Cr_solve (by omega) hw (fun r18 h17 hw => ?_))
      show aW none m_Cr_find (d + 1) 69 [(0, ar v0), (1, ai v1)] [ai (b2i r18)] h17 0 0 QQ
      refine r_if_eq d_Cr_find_69 (fun w9 => ?_) (fun w9 => ?_)
      · replace hw := hw.1 (b2i_0.mp w9)
        refine r_iinc (j := 1) (ls2 := [(1, ai (v1 + (1 : Int32))), (0, ar v0)]) d_Cr_find_87 rfl (congrArg (HAdd.hAdd v1) kc_1) (nle rfl) rfl ?_
        refine r_goto d_Cr_find_90 ?_
        refine r_pick (ls2 := [(0, ar v0), (1, ai (v1 + (1 : Int32)))]) [1, 0] rfl ?_
        exact ih _ _ hw
      · replace hw := hw.2 (fun g9 => w9 (b2i_0.mpr g9))
        refine r_aload_n (j := 0) d_Cr_find_72 rfl ?_
        refine r_dup d_Cr_find_73 rfl ?_
        obtain ⟨q19, hw⟩ := hw
        refine r_getI d_Cr_find_74 ok_2 (nle rfl) (nle rfl) rfl lf_Cr_30 q19 ?_
        refine r_iconst d_Cr_find_77 kc_1 ?_
        refine r_iadd d_Cr_find_78 ?_
        refine r_putI d_Cr_find_79 ok_2 (nle rfl) (nle rfl) rfl lf_Cr_30 rfl q19 ?_
        refine r_aload_n (j := 0) d_Cr_find_82 rfl ?_
        refine r_iload_n (j := 1) d_Cr_find_83 rfl ?_
        refine r_callV (av := [ai v1]) (rest := []) (ci := 2) d_Cr_find_84 mk_Cr_takeIfBetter ll_Cr_56 im_Cr_takeIfBetter se_Cr_takeIfBetter rfl (nle rfl) rfl rfl (nle rfl) q19 (s_Cr_takeIfBetter (by omega) hw (fun h20 hw => ?_))
        show aW none m_Cr_find (d + 1) 87 [(0, ar v0), (1, ai v1)] [] h20 0 0 QQ
        refine r_iinc (j := 1) (ls2 := [(1, ai (v1 + (1 : Int32))), (0, ar v0)]) d_Cr_find_87 rfl (congrArg (HAdd.hAdd v1) kc_1) (nle rfl) rfl ?_
        refine r_goto d_Cr_find_90 ?_
        refine r_pick (ls2 := [(0, ar v0), (1, ai (v1 + (1 : Int32)))]) [1, 0] rfl ?_
        exact ih _ _ hw
set_option maxRecDepth 100000 in
set_option maxHeartbeats 4000000 in
theorem s_Cr_find_B22 {d : Nat} (hd : 3 ≤ d + 1) {Q : Hp → Prop} {QQ : Option AV → Hp → Prop} (hQ : ∀ h9, Q h9 → QQ none h9) {v0 : Nat} {h : Hp} (hw : w_Cr_find_B22 Q  v0 h) : aW none m_Cr_find (d + 1) 22 [(0, ar v0)] [] h 0 0 QQ := by
  unfold w_Cr_find_B22 at hw
  refine r_aload_n (j := 0) d_Cr_find_22 rfl ?_
  refine r_iconst d_Cr_find_23 kc_1 ?_
  obtain ⟨q2, hw⟩ := hw
  refine r_putZ d_Cr_find_24 ok_2 (nle rfl) (nle rfl) rfl lf_Cr_38 rfl q2 (Or.inr rfl) ?_
  refine r_aload_n (j := 0) d_Cr_find_27 rfl ?_
  refine r_aload_n (j := 0) d_Cr_find_28 rfl ?_
  refine r_getR d_Cr_find_29 ok_2 (nle rfl) (nle rfl) rfl lf_Cr_26 q2 ?_
  obtain ⟨q3, hw⟩ := hw
  refine r_getI d_Cr_find_32 ok_1 (nle rfl) (nle rfl) rfl lf_Cr_44 q3 ?_
  refine r_putI d_Cr_find_35 ok_2 (nle rfl) (nle rfl) rfl lf_Cr_41 rfl q2 ?_
  refine r_aload_n (j := 0) d_Cr_find_38 rfl ?_
  refine r_iconst d_Cr_find_39 kc_0 ?_
  refine r_putI d_Cr_find_40 ok_2 (nle rfl) (nle rfl) rfl lf_Cr_30 rfl q2 ?_
  refine r_aload_n (j := 0) d_Cr_find_43 rfl ?_
  refine r_iconst d_Cr_find_44 kc_0 ?_
  refine r_putZ d_Cr_find_45 ok_2 (nle rfl) (nle rfl) rfl lf_Cr_34 rfl q2 (Or.inl rfl) ?_
  refine r_iconst d_Cr_find_48 kc_0 ?_
  refine r_istore_n (ls2 := [(1, ai (0 : Int32)), (0, ar v0)]) d_Cr_find_49 (nle rfl) rfl ?_
  obtain ⟨n21, hw⟩ := hw
  refine r_pick (ls2 := [(0, ar v0), (1, ai (0 : Int32))]) [1, 0] rfl ?_
  exact s_Cr_find_L50 hd hQ  n21 _ _ hw
set_option maxRecDepth 100000 in
set_option maxHeartbeats 4000000 in
theorem s_Cr_find {d : Nat} (hd : 3 ≤ d) {v0 : Nat} {h : Hp} {Q : Hp → Prop} {QQ : Option AV → Hp → Prop} (hw : w_Cr_find v0 h Q) (hQ : ∀ h9, Q h9 → QQ none h9) : aCall m_Cr_find d [ar v0] h 0 0 QQ := by
  obtain ⟨d, rfl⟩ : ∃ d9, d = d9 + 1 := ⟨d - 1, by omega⟩
  refine aCall_in pl_Cr_find (nle rfl) ?_
  show aW none m_Cr_find (d + 1) 0 [(0, ar v0)] [] h 0 0 QQ
  unfold w_Cr_find at hw
  refine r_aload_n (j := 0) d_Cr_find_0 rfl ?_
  obtain ⟨q1, hw⟩ := hw
  refine r_getI d_Cr_find_1 ok_2 (nle rfl) (nle rfl) rfl lf_Cr_38 q1 ?_
  refine r_if_eq d_Cr_find_4 (fun w9 => ?_) (fun w9 => ?_)
  · replace hw := hw.1 w9
    exact s_Cr_find_B22 hd hQ  hw
  · replace hw := hw.2 w9
    refine r_aload_n (j := 0) d_Cr_find_7 rfl ?_
    refine r_getI d_Cr_find_8 ok_2 (nle rfl) (nle rfl) rfl lf_Cr_41 q1 ?_
    refine r_aload_n (j := 0) d_Cr_find_11 rfl ?_
    refine r_getR d_Cr_find_12 ok_2 (nle rfl) (nle rfl) rfl lf_Cr_26 q1 ?_
    obtain ⟨q22, hw⟩ := hw
    refine r_getI d_Cr_find_15 ok_1 (nle rfl) (nle rfl) rfl lf_Cr_44 q22 ?_
    refine r_icmp_ne d_Cr_find_18 (fun w9 => ?_) (fun w9 => ?_)
    · replace hw := hw.2 w9
      exact s_Cr_find_B22 hd hQ  hw
    · replace hw := hw.1 w9
      exact r_return d_Cr_find_21.1 rfl (hQ _ hw)
set_option maxRecDepth 100000 in
set_option maxHeartbeats 4000000 in
theorem s_Db_init {d : Nat} (hd : 1 ≤ d) {v0 : Nat} {v1 : Nat} {bc bs : Nat} {h : Hp} {Q : Hp → Prop} {QQ : Option AV → Hp → Prop} (hw : w_Db_init bc bs v0 v1 h Q) (hQ : ∀ h9, Q h9 → QQ none h9) : aCall m_Db_init d [ar v0, ar v1] h bc bs QQ := by
  obtain ⟨d, rfl⟩ : ∃ d9, d = d9 + 1 := ⟨d - 1, by omega⟩
  refine aCall_in pl_Db_init (nle rfl) ?_
  show aW none m_Db_init (d + 1) 0 [(0, ar v0), (1, ar v1)] [] h bc bs QQ
  unfold w_Db_init at hw
  refine r_aload_n (j := 0) d_Db_init_0 rfl ?_
  obtain ⟨q1, hw⟩ := hw
  refine r_objInit d_Db_init_1 ll_Db_5 oi_1 oi_2 (nle rfl) q1 ?_
  refine r_aload_n (j := 0) d_Db_init_4 rfl ?_
  refine r_iconst d_Db_init_5 kc_5 ?_
  obtain ⟨q2, hw⟩ := hw
  obtain ⟨q3, hw⟩ := hw
  obtain ⟨b4, t5, u8, u9, u6, u7, hw⟩ := hw
  subst u8 u9
  refine r_newI d_Db_init_6 ac_I u6 rfl u7 (refB_r q2 refB_n) (refL_r q2 (refL_r q3 refL_n)) ?_
  generalize e8 : nw h 20 (ix (5 : Int32)) = h6 at hw ⊢
  generalize e7 : gX h = a7 at hw ⊢
  replace hw := hw a7 h6 e7.symm e8.symm
  obtain ⟨q8, hw⟩ := hw
  obtain ⟨q9, hw⟩ := hw
  refine r_putFR d_Db_init_8 ok_3 (nle rfl) (nle rfl) rfl lf_Db_11 rfl rfl rfl q8 q9 ?_
  refine r_aload_n (j := 0) d_Db_init_11 rfl ?_
  refine r_iconst d_Db_init_12 kc_3 ?_
  obtain ⟨q10, hw⟩ := hw
  obtain ⟨q11, hw⟩ := hw
  obtain ⟨b12, t13, u8, u9, u6, u7, hw⟩ := hw
  subst u8 u9
  refine r_newI d_Db_init_13 ac_I u6 rfl u7 (refB_r q10 refB_n) (refL_r q10 (refL_r q11 refL_n)) ?_
  generalize e8 : nw (sR h6 v0 1 a7) 20 (ix (3 : Int32)) = h14 at hw ⊢
  generalize e7 : gX (sR h6 v0 1 a7) = a15 at hw ⊢
  replace hw := hw a15 h14 e7.symm e8.symm
  obtain ⟨q16, hw⟩ := hw
  obtain ⟨q17, hw⟩ := hw
  refine r_putFR d_Db_init_15 ok_3 (nle rfl) (nle rfl) rfl lf_Db_15 rfl rfl rfl q16 q17 ?_
  refine r_aload_n (j := 0) d_Db_init_18 rfl ?_
  refine r_iconst d_Db_init_19 kc_3 ?_
  obtain ⟨q18, hw⟩ := hw
  obtain ⟨q19, hw⟩ := hw
  obtain ⟨b20, t21, u8, u9, u6, u7, hw⟩ := hw
  subst u8 u9
  refine r_newI d_Db_init_20 ac_I u6 rfl u7 (refB_r q18 refB_n) (refL_r q18 (refL_r q19 refL_n)) ?_
  generalize e8 : nw (sR h14 v0 2 a15) 20 (ix (3 : Int32)) = h22 at hw ⊢
  generalize e7 : gX (sR h14 v0 2 a15) = a23 at hw ⊢
  replace hw := hw a23 h22 e7.symm e8.symm
  obtain ⟨q24, hw⟩ := hw
  obtain ⟨q25, hw⟩ := hw
  refine r_putFR d_Db_init_22 ok_3 (nle rfl) (nle rfl) rfl lf_Db_18 rfl rfl rfl q24 q25 ?_
  refine r_aload_n (j := 0) d_Db_init_25 rfl ?_
  refine r_sipush d_Db_init_26 ks_343 ?_
  obtain ⟨q26, hw⟩ := hw
  obtain ⟨q27, hw⟩ := hw
  obtain ⟨b28, t29, u8, u9, u6, u7, hw⟩ := hw
  subst u8 u9
  refine r_newI d_Db_init_29 ac_I u6 rfl u7 (refB_r q26 refB_n) (refL_r q26 (refL_r q27 refL_n)) ?_
  generalize e8 : nw (sR h22 v0 3 a23) 20 (ix (343 : Int32)) = h30 at hw ⊢
  generalize e7 : gX (sR h22 v0 3 a23) = a31 at hw ⊢
  replace hw := hw a31 h30 e7.symm e8.symm
  obtain ⟨q32, hw⟩ := hw
  obtain ⟨q33, hw⟩ := hw
  refine r_putFR d_Db_init_31 ok_3 (nle rfl) (nle rfl) rfl lf_Db_21 rfl rfl rfl q32 q33 ?_
  refine r_aload_n (j := 0) d_Db_init_34 rfl ?_
  refine r_sipush d_Db_init_35 ks_2058 ?_
  obtain ⟨q34, hw⟩ := hw
  obtain ⟨q35, hw⟩ := hw
  obtain ⟨b36, t37, u8, u9, u6, u7, hw⟩ := hw
  subst u8 u9
  refine r_newI d_Db_init_38 ac_I u6 rfl u7 (refB_r q34 refB_n) (refL_r q34 (refL_r q35 refL_n)) ?_
  generalize e8 : nw (sR h30 v0 4 a31) 20 (ix (2058 : Int32)) = h38 at hw ⊢
  generalize e7 : gX (sR h30 v0 4 a31) = a39 at hw ⊢
  replace hw := hw a39 h38 e7.symm e8.symm
  obtain ⟨q40, hw⟩ := hw
  obtain ⟨q41, hw⟩ := hw
  refine r_putFR d_Db_init_40 ok_3 (nle rfl) (nle rfl) rfl lf_Db_24 rfl rfl rfl q40 q41 ?_
  refine r_aload_n (j := 0) d_Db_init_43 rfl ?_
  refine r_aload_n (j := 1) d_Db_init_44 rfl ?_
  obtain ⟨q42, hw⟩ := hw
  refine r_putFR d_Db_init_45 ok_3 (nle rfl) (nle rfl) rfl lf_Db_27 rfl rfl rfl q40 q42 ?_
  exact r_return d_Db_init_48.1 rfl (hQ _ hw)
set_option maxRecDepth 100000 in
set_option maxHeartbeats 4000000 in
theorem s_Db_sizeOf {d : Nat} {v0 : Nat} {v1 : Int32} {h : Hp} {Q : Int32 → Hp → Prop} {QQ : Option AV → Hp → Prop} (hw : w_Db_sizeOf v0 v1 h Q) (hQ : ∀ r9 h9, Q r9 h9 → QQ (some (ai r9)) h9) : aCall m_Db_sizeOf d [ar v0, ai v1] h 0 0 QQ := by
  refine aCall_in pl_Db_sizeOf (nle rfl) ?_
  show aW none m_Db_sizeOf d 0 [(0, ar v0), (1, ai v1)] [] h 0 0 QQ
  unfold w_Db_sizeOf at hw
  refine r_aload_n (j := 0) d_Db_sizeOf_0 rfl ?_
  obtain ⟨q1, hw⟩ := hw
  refine r_getR d_Db_sizeOf_1 ok_3 (nle rfl) (nle rfl) rfl lf_Db_11 q1 ?_
  refine r_iload_n (j := 1) d_Db_sizeOf_4 rfl ?_
  obtain ⟨q2, hw⟩ := hw
  obtain ⟨q3, hw⟩ := hw
  refine r_iald d_Db_sizeOf_5 q2 q3 ?_
  exact r_ireturn d_Db_sizeOf_6.1 rfl (hQ _ _ hw)
set_option maxRecDepth 100000 in
set_option maxHeartbeats 4000000 in
theorem s_Db_offsetOf {d : Nat} {v0 : Nat} {v1 : Int32} {v2 : Int32} {v3 : Int32} {h : Hp} {Q : Int32 → Hp → Prop} {QQ : Option AV → Hp → Prop} (hw : w_Db_offsetOf v0 v1 v2 v3 h Q) (hQ : ∀ r9 h9, Q r9 h9 → QQ (some (ai r9)) h9) : aCall m_Db_offsetOf d [ar v0, ai v1, ai v2, ai v3] h 0 0 QQ := by
  refine aCall_in pl_Db_offsetOf (nle rfl) ?_
  show aW none m_Db_offsetOf d 0 [(0, ar v0), (1, ai v1), (2, ai v2), (3, ai v3)] [] h 0 0 QQ
  unfold w_Db_offsetOf at hw
  refine r_iload_n (j := 1) d_Db_offsetOf_0 rfl ?_
  refine r_aload_n (j := 0) d_Db_offsetOf_1 rfl ?_
  obtain ⟨q1, hw⟩ := hw
  refine r_getR d_Db_offsetOf_2 ok_3 (nle rfl) (nle rfl) rfl lf_Db_15 q1 ?_
  refine r_iconst d_Db_offsetOf_5 kc_0 ?_
  obtain ⟨q2, hw⟩ := hw
  obtain ⟨q3, hw⟩ := hw
  refine r_iald d_Db_offsetOf_6 q2 q3 ?_
  refine r_icmp_lt d_Db_offsetOf_7 (fun w9 => ?_) (fun w9 => ?_)
  · replace hw := hw.1 w9
    refine r_iconst d_Db_offsetOf_60 kc_m1 ?_
    exact r_ireturn d_Db_offsetOf_61.1 rfl (hQ _ _ hw)
  · replace hw := hw.2 w9
    refine r_iload_n (j := 1) d_Db_offsetOf_10 rfl ?_
    refine r_aload_n (j := 0) d_Db_offsetOf_11 rfl ?_
    refine r_getR d_Db_offsetOf_12 ok_3 (nle rfl) (nle rfl) rfl lf_Db_18 q1 ?_
    refine r_iconst d_Db_offsetOf_15 kc_0 ?_
    obtain ⟨q4, hw⟩ := hw
    obtain ⟨q5, hw⟩ := hw
    refine r_iald d_Db_offsetOf_16 q4 q5 ?_
    refine r_icmp_gt d_Db_offsetOf_17 (fun w9 => ?_) (fun w9 => ?_)
    · replace hw := hw.1 w9
      refine r_iconst d_Db_offsetOf_60 kc_m1 ?_
      exact r_ireturn d_Db_offsetOf_61.1 rfl (hQ _ _ hw)
    · replace hw := hw.2 w9
      refine r_iload_n (j := 2) d_Db_offsetOf_20 rfl ?_
      refine r_aload_n (j := 0) d_Db_offsetOf_21 rfl ?_
      refine r_getR d_Db_offsetOf_22 ok_3 (nle rfl) (nle rfl) rfl lf_Db_15 q1 ?_
      refine r_iconst d_Db_offsetOf_25 kc_1 ?_
      obtain ⟨q6, hw⟩ := hw
      refine r_iald d_Db_offsetOf_26 q2 q6 ?_
      refine r_icmp_lt d_Db_offsetOf_27 (fun w9 => ?_) (fun w9 => ?_)
      · replace hw := hw.1 w9
        refine r_iconst d_Db_offsetOf_60 kc_m1 ?_
        exact r_ireturn d_Db_offsetOf_61.1 rfl (hQ _ _ hw)
      · replace hw := hw.2 w9
        refine r_iload_n (j := 2) d_Db_offsetOf_30 rfl ?_
        refine r_aload_n (j := 0) d_Db_offsetOf_31 rfl ?_
        refine r_getR d_Db_offsetOf_32 ok_3 (nle rfl) (nle rfl) rfl lf_Db_18 q1 ?_
        refine r_iconst d_Db_offsetOf_35 kc_1 ?_
        obtain ⟨q7, hw⟩ := hw
        refine r_iald d_Db_offsetOf_36 q4 q7 ?_
        refine r_icmp_gt d_Db_offsetOf_37 (fun w9 => ?_) (fun w9 => ?_)
        · replace hw := hw.1 w9
          refine r_iconst d_Db_offsetOf_60 kc_m1 ?_
          exact r_ireturn d_Db_offsetOf_61.1 rfl (hQ _ _ hw)
        · replace hw := hw.2 w9
          refine r_iload_n (j := 3) d_Db_offsetOf_40 rfl ?_
          refine r_aload_n (j := 0) d_Db_offsetOf_41 rfl ?_
          refine r_getR d_Db_offsetOf_42 ok_3 (nle rfl) (nle rfl) rfl lf_Db_15 q1 ?_
          refine r_iconst d_Db_offsetOf_45 kc_2 ?_
          obtain ⟨q8, hw⟩ := hw
          refine r_iald d_Db_offsetOf_46 q2 q8 ?_
          refine r_icmp_lt d_Db_offsetOf_47 (fun w9 => ?_) (fun w9 => ?_)
          · replace hw := hw.1 w9
            refine r_iconst d_Db_offsetOf_60 kc_m1 ?_
            exact r_ireturn d_Db_offsetOf_61.1 rfl (hQ _ _ hw)
          · replace hw := hw.2 w9
            refine r_iload_n (j := 3) d_Db_offsetOf_50 rfl ?_
            refine r_aload_n (j := 0) d_Db_offsetOf_51 rfl ?_
            refine r_getR d_Db_offsetOf_52 ok_3 (nle rfl) (nle rfl) rfl lf_Db_18 q1 ?_
            refine r_iconst d_Db_offsetOf_55 kc_2 ?_
            obtain ⟨q9, hw⟩ := hw
            refine r_iald d_Db_offsetOf_56 q4 q9 ?_
            refine r_icmp_le d_Db_offsetOf_57 (fun w9 => ?_) (fun w9 => ?_)
            · replace hw := hw.1 w9
              refine r_iload_n (j := 1) d_Db_offsetOf_62 rfl ?_
              refine r_aload_n (j := 0) d_Db_offsetOf_63 rfl ?_
              refine r_getR d_Db_offsetOf_64 ok_3 (nle rfl) (nle rfl) rfl lf_Db_15 q1 ?_
              refine r_iconst d_Db_offsetOf_67 kc_0 ?_
              refine r_iald d_Db_offsetOf_68 q2 q3 ?_
              refine r_isub d_Db_offsetOf_69 ?_
              refine r_bipush d_Db_offsetOf_70 kb_7 ?_
              refine r_imul d_Db_offsetOf_72 ?_
              refine r_iload_n (j := 2) d_Db_offsetOf_73 rfl ?_
              refine r_iadd d_Db_offsetOf_74 ?_
              refine r_aload_n (j := 0) d_Db_offsetOf_75 rfl ?_
              refine r_getR d_Db_offsetOf_76 ok_3 (nle rfl) (nle rfl) rfl lf_Db_15 q1 ?_
              refine r_iconst d_Db_offsetOf_79 kc_1 ?_
              refine r_iald d_Db_offsetOf_80 q2 q6 ?_
              refine r_isub d_Db_offsetOf_81 ?_
              refine r_bipush d_Db_offsetOf_82 kb_7 ?_
              refine r_imul d_Db_offsetOf_84 ?_
              refine r_iload_n (j := 3) d_Db_offsetOf_85 rfl ?_
              refine r_iadd d_Db_offsetOf_86 ?_
              refine r_aload_n (j := 0) d_Db_offsetOf_87 rfl ?_
              refine r_getR d_Db_offsetOf_88 ok_3 (nle rfl) (nle rfl) rfl lf_Db_15 q1 ?_
              refine r_iconst d_Db_offsetOf_91 kc_2 ?_
              refine r_iald d_Db_offsetOf_92 q2 q8 ?_
              refine r_isub d_Db_offsetOf_93 ?_
              exact r_ireturn d_Db_offsetOf_94.1 rfl (hQ _ _ hw)
            · replace hw := hw.2 w9
              refine r_iconst d_Db_offsetOf_60 kc_m1 ?_
              exact r_ireturn d_Db_offsetOf_61.1 rfl (hQ _ _ hw)
set_option maxRecDepth 100000 in
set_option maxHeartbeats 4000000 in
theorem s_Db_addSum {d : Nat} (hd : 1 ≤ d) {v0 : Nat} {v1 : Int32} {v2 : Int32} {v3 : Int32} {v4 : Int32} {h : Hp} {Q : Hp → Prop} {QQ : Option AV → Hp → Prop} (hw : w_Db_addSum v0 v1 v2 v3 v4 h Q) (hQ : ∀ h9, Q h9 → QQ none h9) : aCall m_Db_addSum d [ar v0, ai v1, ai v2, ai v3, ai v4] h 0 0 QQ := by
  obtain ⟨d, rfl⟩ : ∃ d9, d = d9 + 1 := ⟨d - 1, by omega⟩
  refine aCall_in pl_Db_addSum (nle rfl) ?_
  show aW none m_Db_addSum (d + 1) 0 [(0, ar v0), (1, ai v1), (2, ai v2), (3, ai v3), (4, ai v4)] [] h 0 0 QQ
  unfold w_Db_addSum at hw
  refine r_aload_n (j := 0) d_Db_addSum_0 rfl ?_
  refine r_iload_n (j := 2) d_Db_addSum_1 rfl ?_
  refine r_iload_n (j := 3) d_Db_addSum_2 rfl ?_
  refine r_iload (j := 4) d_Db_addSum_3 rfl ?_
  obtain ⟨q3, hw⟩ := hw
  refine r_callV (av := [ai v2, ai v3, ai v4]) (rest := []) (ci := 3) d_Db_addSum_5 mk_Db_offsetOf ll_Db_75 im_Db_offsetOf se_Db_offsetOf rfl (nle rfl) rfl rfl (nle rfl) q3 (s_Db_offsetOf  hw (fun r2 h1 hw => ?_))
  show aW none m_Db_addSum (d + 1) 8 [(0, ar v0), (1, ai v1), (2, ai v2), (3, ai v3), (4, ai v4)] [ai r2] h1 0 0 QQ
  refine r_istore (ls2 := [(5, ai r2), (0, ar v0), (1, ai v1), (2, ai v2), (3, ai v3), (4, ai v4)]) d_Db_addSum_8 (nle rfl) rfl ?_
  refine r_iload (j := 0) d_Db_addSum_10 rfl ?_
  refine r_if_lt d_Db_addSum_12 (fun w9 => ?_) (fun w9 => ?_)
  · replace hw := hw.1 w9
    exact r_return d_Db_addSum_36.1 rfl (hQ _ hw)
  · replace hw := hw.2 w9
    refine r_aload_n (j := 1) d_Db_addSum_15 rfl ?_
    obtain ⟨q4, hw⟩ := hw
    refine r_getR d_Db_addSum_16 ok_3 (nle rfl) (nle rfl) rfl lf_Db_21 q4 ?_
    refine r_iload (j := 0) d_Db_addSum_19 rfl ?_
    obtain ⟨q5, hw⟩ := hw
    obtain ⟨q6, hw⟩ := hw
    refine r_iald d_Db_addSum_21 q5 q6 ?_
    refine r_iconst d_Db_addSum_22 kc_1 ?_
    refine r_icmp_eq d_Db_addSum_23 (fun w9 => ?_) (fun w9 => ?_)
    · replace hw := hw.1 w9
      exact r_return d_Db_addSum_36.1 rfl (hQ _ hw)
    · replace hw := hw.2 w9
      refine r_aload_n (j := 1) d_Db_addSum_26 rfl ?_
      refine r_getI d_Db_addSum_27 ok_3 (nle rfl) (nle rfl) rfl lf_Db_65 q4 ?_
      refine r_sipush d_Db_addSum_30 ks_343 ?_
      refine r_icmp_lt d_Db_addSum_33 (fun w9 => ?_) (fun w9 => ?_)
      · replace hw := hw.1 w9
        refine r_aload_n (j := 1) d_Db_addSum_37 rfl ?_
        refine r_getR d_Db_addSum_38 ok_3 (nle rfl) (nle rfl) rfl lf_Db_21 q4 ?_
        refine r_iload (j := 0) d_Db_addSum_41 rfl ?_
        refine r_iconst d_Db_addSum_43 kc_1 ?_
        refine r_iast d_Db_addSum_44 q5 q6 ?_
        refine r_iload_n (j := 2) d_Db_addSum_45 rfl ?_
        refine r_iconst d_Db_addSum_46 kc_1 ?_
        refine r_iand d_Db_addSum_47 ?_
        refine r_sipush d_Db_addSum_48 ks_343 ?_
        refine r_imul d_Db_addSum_51 ?_
        refine r_iconst d_Db_addSum_52 kc_3 ?_
        refine r_imul d_Db_addSum_53 ?_
        refine r_aload_n (j := 1) d_Db_addSum_54 rfl ?_
        refine r_getI d_Db_addSum_55 ok_3 (nle rfl) (nle rfl) rfl lf_Db_65 q4 ?_
        refine r_iconst d_Db_addSum_58 kc_3 ?_
        refine r_imul d_Db_addSum_59 ?_
        refine r_iadd d_Db_addSum_60 ?_
        refine r_istore (ls2 := [(6, ai ((((v1 &&& (1 : Int32)) * (343 : Int32)) * (3 : Int32)) + ((gI (sI h1 (gR h1 v0 4) (ix r2) (1 : Int32)) v0 6) * (3 : Int32)))), (5, ai r2), (0, ar v0), (1, ai v1), (2, ai v2), (3, ai v3), (4, ai v4)]) d_Db_addSum_61 (nle rfl) rfl ?_
        refine r_aload_n (j := 2) d_Db_addSum_63 rfl ?_
        refine r_getR d_Db_addSum_64 ok_3 (nle rfl) (nle rfl) rfl lf_Db_24 q4 ?_
        refine r_iload (j := 0) d_Db_addSum_67 rfl ?_
        refine r_iload_n (j := 4) d_Db_addSum_69 rfl ?_
        obtain ⟨q7, hw⟩ := hw
        obtain ⟨q8, hw⟩ := hw
        refine r_iast d_Db_addSum_70 q7 q8 ?_
        refine r_aload_n (j := 2) d_Db_addSum_71 rfl ?_
        refine r_getR d_Db_addSum_72 ok_3 (nle rfl) (nle rfl) rfl lf_Db_24 q4 ?_
        refine r_iload (j := 0) d_Db_addSum_75 rfl ?_
        refine r_iconst d_Db_addSum_77 kc_1 ?_
        refine r_iadd d_Db_addSum_78 ?_
        refine r_iload_n (j := 5) d_Db_addSum_79 rfl ?_
        obtain ⟨q9, hw⟩ := hw
        refine r_iast d_Db_addSum_80 q7 q9 ?_
        refine r_aload_n (j := 2) d_Db_addSum_81 rfl ?_
        refine r_getR d_Db_addSum_82 ok_3 (nle rfl) (nle rfl) rfl lf_Db_24 q4 ?_
        refine r_iload (j := 0) d_Db_addSum_85 rfl ?_
        refine r_iconst d_Db_addSum_87 kc_2 ?_
        refine r_iadd d_Db_addSum_88 ?_
        refine r_iload (j := 6) d_Db_addSum_89 rfl ?_
        obtain ⟨q10, hw⟩ := hw
        refine r_iast d_Db_addSum_91 q7 q10 ?_
        refine r_aload_n (j := 2) d_Db_addSum_92 rfl ?_
        refine r_dup d_Db_addSum_93 rfl ?_
        refine r_getI d_Db_addSum_94 ok_3 (nle rfl) (nle rfl) rfl lf_Db_65 q4 ?_
        refine r_iconst d_Db_addSum_97 kc_1 ?_
        refine r_iadd d_Db_addSum_98 ?_
        refine r_putI d_Db_addSum_99 ok_3 (nle rfl) (nle rfl) rfl lf_Db_65 rfl q4 ?_
        exact r_return d_Db_addSum_102.1 rfl (hQ _ hw)
      · replace hw := hw.2 w9
        exact r_return d_Db_addSum_36.1 rfl (hQ _ hw)
set_option maxRecDepth 100000 in
set_option maxHeartbeats 4000000 in
theorem s_Db_addPairs_L33 {d : Nat} (hd : 2 ≤ d + 1) {Q : Hp → Prop} {QQ : Option AV → Hp → Prop} (hQ : ∀ h9, Q h9 → QQ none h9) {k15 : Int32 → Hp → Prop} (hk15 : ∀ v4 h9, k15 v4 h9 → aW none m_Db_addPairs (d + 1) 15 [(0, ar v0), (1, ai v1), (2, ai v2), (3, ai v3), (4, ai v4)] [] h9 0 0 QQ) {v0 : Nat} {v1 : Int32} {v2 : Int32} {v3 : Int32} {v4 : Int32} {v5 : Int32} : ∀ (n : Nat) (v6 : Int32) (h : Hp), w_Db_addPairs_L33 Q k15 v0 v1 v2 v3 v4 v5 n v6 h → aW none m_Db_addPairs (d + 1) 33 [(0, ar v0), (1, ai v1), (2, ai v2), (3, ai v3), (4, ai v4), (5, ai v5), (6, ai v6)] [] h 0 0 QQ := by
  intro n
  induction n with
  | zero => intro v6 h hw; exact hw.elim
  | succ n ih =>
    intro v6 h hw
    unfold w_Db_addPairs_L33 at hw
    refine r_iload (j := 6) d_Db_addPairs_33 rfl ?_
    refine r_iload_n (j := 2) d_Db_addPairs_35 rfl ?_
    refine r_icmp_ge d_Db_addPairs_36 (fun w9 => ?_) (fun w9 => ?_)
    · replace hw := hw.1 w9
      refine r_iinc (j := 4) (ls2 := [(4, ai (v4 + (1 : Int32))), (0, ar v0), (1, ai v1), (2, ai v2), (3, ai v3), (5, ai v5), (6, ai v6)]) d_Db_addPairs_111 rfl (congrArg (HAdd.hAdd v4) kc_1) (nle rfl) rfl ?_
      refine r_goto d_Db_addPairs_114 ?_
      refine r_pick (ls2 := [(0, ar v0), (1, ai v1), (2, ai v2), (3, ai v3), (4, ai (v4 + (1 : Int32)))]) [1, 2, 3, 4, 0] rfl ?_
      exact hk15 _ _ hw
    · replace hw := hw.2 w9
      refine r_iload_n (j := 3) d_Db_addPairs_39 rfl ?_
      refine r_iload (j := 6) d_Db_addPairs_40 rfl ?_
      refine r_iconst d_Db_addPairs_42 kc_3 ?_
      refine r_imul d_Db_addPairs_43 ?_
      refine r_iadd d_Db_addPairs_44 ?_
      refine r_istore (ls2 := [(7, ai (v3 + (v6 * (3 : Int32)))), (0, ar v0), (1, ai v1), (2, ai v2), (3, ai v3), (4, ai v4), (5, ai v5), (6, ai v6)]) d_Db_addPairs_45 (nle rfl) rfl ?_
      refine r_aload_n (j := 1) d_Db_addPairs_47 rfl ?_
      refine r_iload_n (j := 2) d_Db_addPairs_48 rfl ?_
      refine r_aload_n (j := 1) d_Db_addPairs_49 rfl ?_
      obtain ⟨q1, hw⟩ := hw
      refine r_getR d_Db_addPairs_50 ok_3 (nle rfl) (nle rfl) rfl lf_Db_24 q1 ?_
      refine r_iload (j := 6) d_Db_addPairs_53 rfl ?_
      obtain ⟨q2, hw⟩ := hw
      obtain ⟨q3, hw⟩ := hw
      refine r_iald d_Db_addPairs_55 q2 q3 ?_
      refine r_aload_n (j := 1) d_Db_addPairs_56 rfl ?_
      refine r_getR d_Db_addPairs_57 ok_3 (nle rfl) (nle rfl) rfl lf_Db_24 q1 ?_
      refine r_iload (j := 0) d_Db_addPairs_60 rfl ?_
      obtain ⟨q4, hw⟩ := hw
      refine r_iald d_Db_addPairs_62 q2 q4 ?_
      refine r_iadd d_Db_addPairs_63 ?_
      refine r_aload_n (j := 1) d_Db_addPairs_64 rfl ?_
      refine r_getR d_Db_addPairs_65 ok_3 (nle rfl) (nle rfl) rfl lf_Db_24 q1 ?_
      refine r_iload (j := 6) d_Db_addPairs_68 rfl ?_
      refine r_iconst d_Db_addPairs_70 kc_1 ?_
      refine r_iadd d_Db_addPairs_71 ?_
      obtain ⟨q5, hw⟩ := hw
      refine r_iald d_Db_addPairs_72 q2 q5 ?_
      refine r_aload_n (j := 1) d_Db_addPairs_73 rfl ?_
      refine r_getR d_Db_addPairs_74 ok_3 (nle rfl) (nle rfl) rfl lf_Db_24 q1 ?_
      refine r_iload (j := 0) d_Db_addPairs_77 rfl ?_
      refine r_iconst d_Db_addPairs_79 kc_1 ?_
      refine r_iadd d_Db_addPairs_80 ?_
      obtain ⟨q6, hw⟩ := hw
      refine r_iald d_Db_addPairs_81 q2 q6 ?_
      refine r_iadd d_Db_addPairs_82 ?_
      refine r_aload_n (j := 1) d_Db_addPairs_83 rfl ?_
      refine r_getR d_Db_addPairs_84 ok_3 (nle rfl) (nle rfl) rfl lf_Db_24 q1 ?_
      refine r_iload (j := 6) d_Db_addPairs_87 rfl ?_
      refine r_iconst d_Db_addPairs_89 kc_2 ?_
      refine r_iadd d_Db_addPairs_90 ?_
      obtain ⟨q7, hw⟩ := hw
      refine r_iald d_Db_addPairs_91 q2 q7 ?_
      refine r_aload_n (j := 1) d_Db_addPairs_92 rfl ?_
      refine r_getR d_Db_addPairs_93 ok_3 (nle rfl) (nle rfl) rfl lf_Db_24 q1 ?_
      refine r_iload (j := 0) d_Db_addPairs_96 rfl ?_
      refine r_iconst d_Db_addPairs_98 kc_2 ?_
      refine r_iadd d_Db_addPairs_99 ?_
      obtain ⟨q8, hw⟩ := hw
      refine r_iald d_Db_addPairs_100 q2 q8 ?_
      refine r_iadd d_Db_addPairs_101 ?_
      refine r_callV (av := [ai v1, ai ((gI h (gR h v0 5) (ix v5)) + (gI h (gR h v0 5) (ix (v3 + (v6 * (3 : Int32)))))), ai ((gI h (gR h v0 5) (ix (v5 + (1 : Int32)))) + (gI h (gR h v0 5) (ix ((v3 + (v6 * (3 : Int32))) + (1 : Int32))))), ai ((gI h (gR h v0 5) (ix (v5 + (2 : Int32)))) + (gI h (gR h v0 5) (ix ((v3 + (v6 * (3 : Int32))) + (2 : Int32)))))]) (rest := []) (ci := 3) d_Db_addPairs_102 mk_Db_addSum ll_Db_54 im_Db_addSum se_Db_addSum rfl (nle rfl) rfl rfl (nle rfl) q1 (s_Db_addSum (by omega) hw (fun h9 hw => ?_))
      show aW none m_Db_addPairs (d + 1) 105 [(7, ai (v3 + (v6 * (3 : Int32)))), (0, ar v0), (1, ai v1), (2, ai v2), (3, ai v3), (4, ai v4), (5, ai v5), (6, ai v6)] [] h9 0 0 QQ
      refine r_iinc (j := 7) (ls2 := [(6, ai (v6 + (1 : Int32))), (7, ai (v3 + (v6 * (3 : Int32)))), (0, ar v0), (1, ai v1), (2, ai v2), (3, ai v3), (4, ai v4), (5, ai v5)]) d_Db_addPairs_105 rfl (congrArg (HAdd.hAdd v6) kc_1) (nle rfl) rfl ?_
      refine r_goto d_Db_addPairs_108 ?_
      refine r_pick (ls2 := [(0, ar v0), (1, ai v1), (2, ai v2), (3, ai v3), (4, ai v4), (5, ai v5), (6, ai (v6 + (1 : Int32)))]) [2, 3, 4, 5, 6, 7, 0] rfl ?_
      exact ih _ _ hw
set_option maxRecDepth 100000 in
set_option maxHeartbeats 4000000 in
theorem s_Db_addPairs_L15 {d : Nat} (hd : 2 ≤ d + 1) {Q : Hp → Prop} {QQ : Option AV → Hp → Prop} (hQ : ∀ h9, Q h9 → QQ none h9) {v0 : Nat} {v1 : Int32} {v2 : Int32} {v3 : Int32} : ∀ (n : Nat) (v4 : Int32) (h : Hp), w_Db_addPairs_L15 Q  v0 v1 v2 v3 n v4 h → aW none m_Db_addPairs (d + 1) 15 [(0, ar v0), (1, ai v1), (2, ai v2), (3, ai v3), (4, ai v4)] [] h 0 0 QQ := by
  intro n
  induction n with
  | zero => intro v4 h hw; exact hw.elim
  | succ n ih =>
    intro v4 h hw
    unfold w_Db_addPairs_L15 at hw
    refine r_iload (j := 4) d_Db_addPairs_15 rfl ?_
    refine r_iload_n (j := 2) d_Db_addPairs_17 rfl ?_
    refine r_icmp_ge d_Db_addPairs_18 (fun w9 => ?_) (fun w9 => ?_)
    · replace hw := hw.1 w9
      exact r_return d_Db_addPairs_117.1 rfl (hQ _ hw)
    · replace hw := hw.2 w9
      refine r_iload_n (j := 3) d_Db_addPairs_21 rfl ?_
      refine r_iload (j := 4) d_Db_addPairs_22 rfl ?_
      refine r_iconst d_Db_addPairs_24 kc_3 ?_
      refine r_imul d_Db_addPairs_25 ?_
      refine r_iadd d_Db_addPairs_26 ?_
      refine r_istore (ls2 := [(5, ai (v3 + (v4 * (3 : Int32)))), (0, ar v0), (1, ai v1), (2, ai v2), (3, ai v3), (4, ai v4)]) d_Db_addPairs_27 (nle rfl) rfl ?_
      refine r_iload (j := 5) d_Db_addPairs_29 rfl ?_
      refine r_istore (ls2 := [(6, ai v4), (5, ai (v3 + (v4 * (3 : Int32)))), (0, ar v0), (1, ai v1), (2, ai v2), (3, ai v3), (4, ai v4)]) d_Db_addPairs_31 (nle rfl) rfl ?_
      obtain ⟨n10, hw⟩ := hw
      refine r_pick (ls2 := [(0, ar v0), (1, ai v1), (2, ai v2), (3, ai v3), (4, ai v4), (5, ai (v3 + (v4 * (3 : Int32)))), (6, ai v4)]) [2, 3, 4, 5, 6, 1, 0] rfl ?_
      exact s_Db_addPairs_L33 hd hQ ih n10 _ _ hw
set_option maxRecDepth 100000 in
set_option maxHeartbeats 4000000 in
theorem s_Db_addPairs {d : Nat} (hd : 2 ≤ d) {v0 : Nat} {v1 : Int32} {v2 : Int32} {h : Hp} {Q : Hp → Prop} {QQ : Option AV → Hp → Prop} (hw : w_Db_addPairs v0 v1 v2 h Q) (hQ : ∀ h9, Q h9 → QQ none h9) : aCall m_Db_addPairs d [ar v0, ai v1, ai v2] h 0 0 QQ := by
  obtain ⟨d, rfl⟩ : ∃ d9, d = d9 + 1 := ⟨d - 1, by omega⟩
  refine aCall_in pl_Db_addPairs (nle rfl) ?_
  show aW none m_Db_addPairs (d + 1) 0 [(0, ar v0), (1, ai v1), (2, ai v2)] [] h 0 0 QQ
  unfold w_Db_addPairs at hw
  refine r_iload_n (j := 1) d_Db_addPairs_0 rfl ?_
  refine r_iconst d_Db_addPairs_1 kc_1 ?_
  refine r_isub d_Db_addPairs_2 ?_
  refine r_iconst d_Db_addPairs_3 kc_1 ?_
  refine r_iand d_Db_addPairs_4 ?_
  refine r_sipush d_Db_addPairs_5 ks_343 ?_
  refine r_imul d_Db_addPairs_8 ?_
  refine r_iconst d_Db_addPairs_9 kc_3 ?_
  refine r_imul d_Db_addPairs_10 ?_
  refine r_istore_n (ls2 := [(3, ai ((((v1 - (1 : Int32)) &&& (1 : Int32)) * (343 : Int32)) * (3 : Int32))), (0, ar v0), (1, ai v1), (2, ai v2)]) d_Db_addPairs_11 (nle rfl) rfl ?_
  refine r_iconst d_Db_addPairs_12 kc_0 ?_
  refine r_istore (ls2 := [(4, ai (0 : Int32)), (3, ai ((((v1 - (1 : Int32)) &&& (1 : Int32)) * (343 : Int32)) * (3 : Int32))), (0, ar v0), (1, ai v1), (2, ai v2)]) d_Db_addPairs_13 (nle rfl) rfl ?_
  obtain ⟨n11, hw⟩ := hw
  refine r_pick (ls2 := [(0, ar v0), (1, ai v1), (2, ai v2), (3, ai ((((v1 - (1 : Int32)) &&& (1 : Int32)) * (343 : Int32)) * (3 : Int32))), (4, ai (0 : Int32))]) [2, 3, 4, 1, 0] rfl ?_
  exact s_Db_addPairs_L15 hd hQ  n11 _ _ hw
set_option maxRecDepth 100000 in
set_option maxHeartbeats 4000000 in
theorem s_JM_floorDiv {d : Nat} {v0 : Int32} {v1 : Int32} {h : Hp} {Q : Int32 → Hp → Prop} {QQ : Option AV → Hp → Prop} (hw : w_JM_floorDiv v0 v1 h Q) (hQ : ∀ r9 h9, Q r9 h9 → QQ (some (ai r9)) h9) : aCall m_JM_floorDiv d [ai v0, ai v1] h 0 0 QQ := by
  refine aCall_in pl_JM_floorDiv (nle rfl) ?_
  show aW none m_JM_floorDiv d 0 [(0, ai v0), (1, ai v1)] [] h 0 0 QQ
  unfold w_JM_floorDiv at hw
  refine r_iload_n (j := 0) d_JM_floorDiv_0 rfl ?_
  refine r_iload_n (j := 1) d_JM_floorDiv_1 rfl ?_
  obtain ⟨q1, hw⟩ := hw
  refine r_idiv d_JM_floorDiv_2 q1 ?_
  refine r_istore_n (ls2 := [(2, ai (v0 / v1)), (0, ai v0), (1, ai v1)]) d_JM_floorDiv_3 (nle rfl) rfl ?_
  refine r_iload_n (j := 1) d_JM_floorDiv_4 rfl ?_
  refine r_iload_n (j := 2) d_JM_floorDiv_5 rfl ?_
  refine r_ixor d_JM_floorDiv_6 ?_
  refine r_if_ge d_JM_floorDiv_7 (fun w9 => ?_) (fun w9 => ?_)
  · replace hw := hw.1 w9
    refine r_iload_n (j := 0) d_JM_floorDiv_21 rfl ?_
    exact r_ireturn d_JM_floorDiv_22.1 rfl (hQ _ _ hw)
  · replace hw := hw.2 w9
    refine r_iload_n (j := 0) d_JM_floorDiv_10 rfl ?_
    refine r_iload_n (j := 2) d_JM_floorDiv_11 rfl ?_
    refine r_imul d_JM_floorDiv_12 ?_
    refine r_iload_n (j := 1) d_JM_floorDiv_13 rfl ?_
    refine r_icmp_eq d_JM_floorDiv_14 (fun w9 => ?_) (fun w9 => ?_)
    · replace hw := hw.1 w9
      refine r_iload_n (j := 0) d_JM_floorDiv_21 rfl ?_
      exact r_ireturn d_JM_floorDiv_22.1 rfl (hQ _ _ hw)
    · replace hw := hw.2 w9
      refine r_iload_n (j := 0) d_JM_floorDiv_17 rfl ?_
      refine r_iconst d_JM_floorDiv_18 kc_1 ?_
      refine r_isub d_JM_floorDiv_19 ?_
      exact r_ireturn d_JM_floorDiv_20.1 rfl (hQ _ _ hw)
set_option maxRecDepth 100000 in
set_option maxHeartbeats 4000000 in
theorem s_Db_beginLevel_L20 {d : Nat} (hd : 1 ≤ d + 1) {Q : Hp → Prop} {QQ : Option AV → Hp → Prop} (hQ : ∀ h9, Q h9 → QQ none h9) {v0 : Nat} {v2 : Int32} {v3 : Int32} : ∀ (n : Nat) (v4 : Int32) (h : Hp), w_Db_beginLevel_L20 Q  v0 v2 v3 n v4 h → aW none m_Db_beginLevel (d + 1) 20 [(0, ar v0), (2, ai v2), (3, ai v3), (4, ai v4)] [] h 0 0 QQ := by
  intro n
  induction n with
  | zero => intro v4 h hw; exact hw.elim
  | succ n ih =>
    intro v4 h hw
    unfold w_Db_beginLevel_L20 at hw
    refine r_iload (j := 3) d_Db_beginLevel_20 rfl ?_
    refine r_iconst d_Db_beginLevel_22 kc_3 ?_
    refine r_icmp_ge d_Db_beginLevel_23 (fun w9 => ?_) (fun w9 => ?_)
    · replace hw := hw.1 w9
      exact r_return d_Db_beginLevel_75.1 rfl (hQ _ hw)
    · replace hw := hw.2 w9
      refine r_aload_n (j := 0) d_Db_beginLevel_26 rfl ?_
      obtain ⟨q3, hw⟩ := hw
      refine r_getR d_Db_beginLevel_27 ok_3 (nle rfl) (nle rfl) rfl lf_Db_27 q3 ?_
      refine r_iload (j := 3) d_Db_beginLevel_30 rfl ?_
      obtain ⟨q6, hw⟩ := hw
      refine r_callV (av := [ai v4]) (rest := []) (ci := 1) d_Db_beginLevel_32 mk_Co_needOf ll_Db_71 im_Co_needOf se_Co_needOf rfl (nle rfl) rfl rfl (nle rfl) q6 (s_Co_needOf  hw (fun r5 h4 hw => ?_))
      show aW none m_Db_beginLevel (d + 1) 35 [(0, ar v0), (2, ai v2), (3, ai v3), (4, ai v4)] [ai r5] h4 0 0 QQ
      refine r_istore (ls2 := [(5, ai r5), (0, ar v0), (2, ai v2), (3, ai v3), (4, ai v4)]) d_Db_beginLevel_35 (nle rfl) rfl ?_
      refine r_aload_n (j := 1) d_Db_beginLevel_37 rfl ?_
      obtain ⟨q7, hw⟩ := hw
      refine r_getR d_Db_beginLevel_38 ok_3 (nle rfl) (nle rfl) rfl lf_Db_15 q7 ?_
      refine r_iload (j := 4) d_Db_beginLevel_41 rfl ?_
      refine r_iload (j := 0) d_Db_beginLevel_43 rfl ?_
      refine r_ineg d_Db_beginLevel_45 ?_
      refine r_iload_n (j := 3) d_Db_beginLevel_46 rfl ?_
      refine r_callS (av := [ai (-r5), ai v3]) (rest := [ai v4, ar (gR h4 v0 2)]) d_Db_beginLevel_47 mk_JM_floorDiv ll_Db_88 st_JM_floorDiv rfl rfl (nle rfl) (s_JM_floorDiv  hw (fun r9 h8 hw => ?_))
      show aW none m_Db_beginLevel (d + 1) 50 [(5, ai r5), (0, ar v0), (2, ai v2), (3, ai v3), (4, ai v4)] [ai r9, ai v4, ar (gR h4 v0 2)] h8 0 0 QQ
      refine r_ineg d_Db_beginLevel_50 ?_
      refine r_iload_n (j := 2) d_Db_beginLevel_51 rfl ?_
      refine r_isub d_Db_beginLevel_52 ?_
      obtain ⟨q10, hw⟩ := hw
      obtain ⟨q11, hw⟩ := hw
      refine r_iast d_Db_beginLevel_53 q10 q11 ?_
      refine r_aload_n (j := 1) d_Db_beginLevel_54 rfl ?_
      obtain ⟨q12, hw⟩ := hw
      refine r_getR d_Db_beginLevel_55 ok_3 (nle rfl) (nle rfl) rfl lf_Db_18 q12 ?_
      refine r_iload (j := 4) d_Db_beginLevel_58 rfl ?_
      refine r_iload (j := 0) d_Db_beginLevel_60 rfl ?_
      refine r_iload_n (j := 3) d_Db_beginLevel_62 rfl ?_
      refine r_callS (av := [ai r5, ai v3]) (rest := [ai v4, ar (gR h8 v0 3)]) d_Db_beginLevel_63 mk_JM_floorDiv ll_Db_88 st_JM_floorDiv rfl rfl (nle rfl) (s_JM_floorDiv  hw (fun r14 h13 hw => ?_))
      show aW none m_Db_beginLevel (d + 1) 66 [(5, ai r5), (0, ar v0), (2, ai v2), (3, ai v3), (4, ai v4)] [ai r14, ai v4, ar (gR h8 v0 3)] h13 0 0 QQ
      refine r_iload_n (j := 2) d_Db_beginLevel_66 rfl ?_
      refine r_iadd d_Db_beginLevel_67 ?_
      obtain ⟨q15, hw⟩ := hw
      obtain ⟨q16, hw⟩ := hw
      refine r_iast d_Db_beginLevel_68 q15 q16 ?_
      refine r_iinc (j := 4) (ls2 := [(4, ai (v4 + (1 : Int32))), (5, ai r5), (0, ar v0), (2, ai v2), (3, ai v3)]) d_Db_beginLevel_69 rfl (congrArg (HAdd.hAdd v4) kc_1) (nle rfl) rfl ?_
      refine r_goto d_Db_beginLevel_72 ?_
      refine r_pick (ls2 := [(0, ar v0), (2, ai v2), (3, ai v3), (4, ai (v4 + (1 : Int32)))]) [2, 3, 4, 0] rfl ?_
      exact ih _ _ hw
set_option maxRecDepth 100000 in
set_option maxHeartbeats 4000000 in
theorem s_Db_beginLevel {d : Nat} (hd : 1 ≤ d) {v0 : Nat} {v1 : Int32} {v2 : Int32} {h : Hp} {Q : Hp → Prop} {QQ : Option AV → Hp → Prop} (hw : w_Db_beginLevel v0 v1 v2 h Q) (hQ : ∀ h9, Q h9 → QQ none h9) : aCall m_Db_beginLevel d [ar v0, ai v1, ai v2] h 0 0 QQ := by
  obtain ⟨d, rfl⟩ : ∃ d9, d = d9 + 1 := ⟨d - 1, by omega⟩
  refine aCall_in pl_Db_beginLevel (nle rfl) ?_
  show aW none m_Db_beginLevel (d + 1) 0 [(0, ar v0), (1, ai v1), (2, ai v2)] [] h 0 0 QQ
  unfold w_Db_beginLevel at hw
  refine r_aload_n (j := 0) d_Db_beginLevel_0 rfl ?_
  refine r_iconst d_Db_beginLevel_1 kc_0 ?_
  obtain ⟨q1, hw⟩ := hw
  refine r_putI d_Db_beginLevel_2 ok_3 (nle rfl) (nle rfl) rfl lf_Db_65 rfl q1 ?_
  refine r_aload_n (j := 0) d_Db_beginLevel_5 rfl ?_
  refine r_getR d_Db_beginLevel_6 ok_3 (nle rfl) (nle rfl) rfl lf_Db_21 q1 ?_
  refine r_iconst d_Db_beginLevel_9 kc_0 ?_
  refine r_callS (av := [ar (gR h v0 4), ai (0 : Int32)]) (rest := []) d_Db_beginLevel_10 mk_JA_fill_IIV ll_Db_82 st_JA_fill_IIV rfl rfl (nle rfl) (s_JA_fill_IIV  hw (fun h2 hw => ?_))
  show aW none m_Db_beginLevel (d + 1) 13 [(0, ar v0), (1, ai v1), (2, ai v2)] [] h2 0 0 QQ
  refine r_iconst d_Db_beginLevel_13 kc_1 ?_
  refine r_iload_n (j := 1) d_Db_beginLevel_14 rfl ?_
  refine r_ishl d_Db_beginLevel_15 ?_
  refine r_istore_n (ls2 := [(3, ai (jshl (1 : Int32) v1)), (0, ar v0), (1, ai v1), (2, ai v2)]) d_Db_beginLevel_16 (nle rfl) rfl ?_
  refine r_iconst d_Db_beginLevel_17 kc_0 ?_
  refine r_istore (ls2 := [(4, ai (0 : Int32)), (3, ai (jshl (1 : Int32) v1)), (0, ar v0), (1, ai v1), (2, ai v2)]) d_Db_beginLevel_18 (nle rfl) rfl ?_
  obtain ⟨n17, hw⟩ := hw
  refine r_pick (ls2 := [(0, ar v0), (2, ai v2), (3, ai (jshl (1 : Int32) v1)), (4, ai (0 : Int32))]) [2, 4, 1, 0] rfl ?_
  exact s_Db_beginLevel_L20 hd hQ  n17 _ _ hw
set_option maxRecDepth 100000 in
set_option maxHeartbeats 4000000 in
theorem s_Db_raise_L141 {d : Nat} (hd : 3 ≤ d + 1) {Q : Hp → Prop} {QQ : Option AV → Hp → Prop} (hQ : ∀ h9, Q h9 → QQ none h9) {v0 : Nat} {v1 : Int32} {v2 : Int32} : ∀ (n : Nat) (v3 : Int32) (h : Hp), w_Db_raise_L141 Q  v0 v1 v2 n v3 h → aW none m_Db_raise (d + 1) 141 [(0, ar v0), (1, ai v1), (2, ai v2), (3, ai v3)] [] h 0 0 QQ := by
  intro n
  induction n with
  | zero => intro v3 h hw; exact hw.elim
  | succ n ih =>
    intro v3 h hw
    unfold w_Db_raise_L141 at hw
    refine r_iload_n (j := 3) d_Db_raise_141 rfl ?_
    refine r_iload_n (j := 1) d_Db_raise_142 rfl ?_
    refine r_icmp_gt d_Db_raise_143 (fun w9 => ?_) (fun w9 => ?_)
    · replace hw := hw.1 w9
      refine r_aload_n (j := 0) d_Db_raise_183 rfl ?_
      refine r_aload_n (j := 0) d_Db_raise_184 rfl ?_
      obtain ⟨q11, hw⟩ := hw
      refine r_getR d_Db_raise_185 ok_3 (nle rfl) (nle rfl) rfl lf_Db_27 q11 ?_
      refine r_iconst d_Db_raise_188 kc_0 ?_
      obtain ⟨q14, hw⟩ := hw
      refine r_callV (av := [ai (0 : Int32)]) (rest := [ar v0]) (ci := 1) d_Db_raise_189 mk_Co_needOf ll_Db_71 im_Co_needOf se_Co_needOf rfl (nle rfl) rfl rfl (nle rfl) q14 (s_Co_needOf  hw (fun r13 h12 hw => ?_))
      show aW none m_Db_raise (d + 1) 192 [(0, ar v0), (1, ai v1), (2, ai v2), (3, ai v3)] [ai r13, ar v0] h12 0 0 QQ
      refine r_aload_n (j := 0) d_Db_raise_192 rfl ?_
      obtain ⟨q15, hw⟩ := hw
      refine r_getR d_Db_raise_193 ok_3 (nle rfl) (nle rfl) rfl lf_Db_27 q15 ?_
      refine r_iconst d_Db_raise_196 kc_1 ?_
      obtain ⟨q18, hw⟩ := hw
      refine r_callV (av := [ai (1 : Int32)]) (rest := [ai r13, ar v0]) (ci := 1) d_Db_raise_197 mk_Co_needOf ll_Db_71 im_Co_needOf se_Co_needOf rfl (nle rfl) rfl rfl (nle rfl) q18 (s_Co_needOf  hw (fun r17 h16 hw => ?_))
      show aW none m_Db_raise (d + 1) 200 [(0, ar v0), (1, ai v1), (2, ai v2), (3, ai v3)] [ai r17, ai r13, ar v0] h16 0 0 QQ
      refine r_aload_n (j := 0) d_Db_raise_200 rfl ?_
      obtain ⟨q19, hw⟩ := hw
      refine r_getR d_Db_raise_201 ok_3 (nle rfl) (nle rfl) rfl lf_Db_27 q19 ?_
      refine r_iconst d_Db_raise_204 kc_2 ?_
      obtain ⟨q22, hw⟩ := hw
      refine r_callV (av := [ai (2 : Int32)]) (rest := [ai r17, ai r13, ar v0]) (ci := 1) d_Db_raise_205 mk_Co_needOf ll_Db_71 im_Co_needOf se_Co_needOf rfl (nle rfl) rfl rfl (nle rfl) q22 (s_Co_needOf  hw (fun r21 h20 hw => ?_))
      show aW none m_Db_raise (d + 1) 208 [(0, ar v0), (1, ai v1), (2, ai v2), (3, ai v3)] [ai r21, ai r17, ai r13, ar v0] h20 0 0 QQ
      obtain ⟨q25, hw⟩ := hw
      refine r_callV (av := [ai r13, ai r17, ai r21]) (rest := []) (ci := 3) d_Db_raise_208 mk_Db_offsetOf ll_Db_75 im_Db_offsetOf se_Db_offsetOf rfl (nle rfl) rfl rfl (nle rfl) q25 (s_Db_offsetOf  hw (fun r24 h23 hw => ?_))
      show aW none m_Db_raise (d + 1) 211 [(0, ar v0), (1, ai v1), (2, ai v2), (3, ai v3)] [ai r24] h23 0 0 QQ
      refine r_istore_n (ls2 := [(3, ai r24), (0, ar v0), (1, ai v1), (2, ai v2)]) d_Db_raise_211 (nle rfl) rfl ?_
      refine r_aload_n (j := 1) d_Db_raise_212 rfl ?_
      refine r_iload_n (j := 0) d_Db_raise_213 rfl ?_
      refine r_if_lt d_Db_raise_214 (fun w9 => ?_) (fun w9 => ?_)
      · replace hw := hw.1 w9
        refine r_iconst d_Db_raise_231 kc_0 ?_
        obtain ⟨q26, hw⟩ := hw
        refine r_putZ d_Db_raise_232 ok_3 (nle rfl) (nle rfl) rfl lf_Db_79 rfl q26 (Or.inl rfl) ?_
        exact r_return d_Db_raise_235.1 rfl (hQ _ hw)
      · replace hw := hw.2 w9
        refine r_aload_n (j := 1) d_Db_raise_217 rfl ?_
        obtain ⟨q27, hw⟩ := hw
        refine r_getR d_Db_raise_218 ok_3 (nle rfl) (nle rfl) rfl lf_Db_21 q27 ?_
        refine r_iload_n (j := 0) d_Db_raise_221 rfl ?_
        obtain ⟨q28, hw⟩ := hw
        obtain ⟨q29, hw⟩ := hw
        refine r_iald d_Db_raise_222 q28 q29 ?_
        refine r_iconst d_Db_raise_223 kc_1 ?_
        refine r_icmp_ne d_Db_raise_224 (fun w9 => ?_) (fun w9 => ?_)
        · replace hw := hw.2 w9
          refine r_iconst d_Db_raise_231 kc_0 ?_
          refine r_putZ d_Db_raise_232 ok_3 (nle rfl) (nle rfl) rfl lf_Db_79 rfl q27 (Or.inl rfl) ?_
          exact r_return d_Db_raise_235.1 rfl (hQ _ hw)
        · replace hw := hw.1 w9
          refine r_iconst d_Db_raise_227 kc_1 ?_
          refine r_goto d_Db_raise_228 ?_
          refine r_putZ d_Db_raise_232 ok_3 (nle rfl) (nle rfl) rfl lf_Db_79 rfl q27 (Or.inr rfl) ?_
          exact r_return d_Db_raise_235.1 rfl (hQ _ hw)
    · replace hw := hw.2 w9
      refine r_aload_n (j := 0) d_Db_raise_146 rfl ?_
      obtain ⟨q30, hw⟩ := hw
      refine r_getI d_Db_raise_147 ok_3 (nle rfl) (nle rfl) rfl lf_Db_65 q30 ?_
      refine r_istore (ls2 := [(4, ai (gI h v0 6)), (0, ar v0), (1, ai v1), (2, ai v2), (3, ai v3)]) d_Db_raise_150 (nle rfl) rfl ?_
      refine r_aload_n (j := 1) d_Db_raise_152 rfl ?_
      refine r_iload_n (j := 2) d_Db_raise_153 rfl ?_
      refine r_iload_n (j := 4) d_Db_raise_154 rfl ?_
      refine r_isub d_Db_raise_155 ?_
      refine r_iload_n (j := 3) d_Db_raise_156 rfl ?_
      refine r_callV (av := [ai (v1 - v3), ai v2]) (rest := []) (ci := 3) d_Db_raise_157 mk_Db_beginLevel ll_Db_50 im_Db_beginLevel se_Db_beginLevel rfl (nle rfl) rfl rfl (nle rfl) q30 (s_Db_beginLevel (by omega) hw (fun h31 hw => ?_))
      show aW none m_Db_raise (d + 1) 160 [(4, ai (gI h v0 6)), (0, ar v0), (1, ai v1), (2, ai v2), (3, ai v3)] [] h31 0 0 QQ
      refine r_aload_n (j := 1) d_Db_raise_160 rfl ?_
      refine r_iload_n (j := 4) d_Db_raise_161 rfl ?_
      refine r_iload (j := 0) d_Db_raise_162 rfl ?_
      obtain ⟨q33, hw⟩ := hw
      refine r_callV (av := [ai v3, ai (gI h v0 6)]) (rest := []) (ci := 3) d_Db_raise_164 mk_Db_addPairs ll_Db_68 im_Db_addPairs se_Db_addPairs rfl (nle rfl) rfl rfl (nle rfl) q33 (s_Db_addPairs (by omega) hw (fun h32 hw => ?_))
      show aW none m_Db_raise (d + 1) 167 [(4, ai (gI h v0 6)), (0, ar v0), (1, ai v1), (2, ai v2), (3, ai v3)] [] h32 0 0 QQ
      refine r_aload_n (j := 1) d_Db_raise_167 rfl ?_
      obtain ⟨q34, hw⟩ := hw
      refine r_getR d_Db_raise_168 ok_3 (nle rfl) (nle rfl) rfl lf_Db_11 q34 ?_
      refine r_iload_n (j := 4) d_Db_raise_171 rfl ?_
      refine r_aload_n (j := 1) d_Db_raise_172 rfl ?_
      refine r_getI d_Db_raise_173 ok_3 (nle rfl) (nle rfl) rfl lf_Db_65 q34 ?_
      obtain ⟨q35, hw⟩ := hw
      obtain ⟨q36, hw⟩ := hw
      refine r_iast d_Db_raise_176 q35 q36 ?_
      refine r_iinc (j := 4) (ls2 := [(3, ai (v3 + (1 : Int32))), (4, ai (gI h v0 6)), (0, ar v0), (1, ai v1), (2, ai v2)]) d_Db_raise_177 rfl (congrArg (HAdd.hAdd v3) kc_1) (nle rfl) rfl ?_
      refine r_goto d_Db_raise_180 ?_
      refine r_pick (ls2 := [(0, ar v0), (1, ai v1), (2, ai v2), (3, ai (v3 + (1 : Int32)))]) [2, 3, 4, 0] rfl ?_
      exact ih _ _ hw
set_option maxRecDepth 100000 in
set_option maxHeartbeats 4000000 in
theorem s_Db_raise_L80 {d : Nat} (hd : 3 ≤ d + 1) {Q : Hp → Prop} {QQ : Option AV → Hp → Prop} (hQ : ∀ h9, Q h9 → QQ none h9) {v0 : Nat} {v1 : Int32} {v2 : Int32} : ∀ (n : Nat) (v3 : Int32) (h : Hp), w_Db_raise_L80 Q  v0 v1 v2 n v3 h → aW none m_Db_raise (d + 1) 80 [(0, ar v0), (1, ai v1), (2, ai v2), (3, ai v3)] [] h 0 0 QQ := by
  intro n
  induction n with
  | zero => intro v3 h hw; exact hw.elim
  | succ n ih =>
    intro v3 h hw
    unfold w_Db_raise_L80 at hw
    refine r_iload_n (j := 3) d_Db_raise_80 rfl ?_
    refine r_aload_n (j := 0) d_Db_raise_81 rfl ?_
    obtain ⟨q7, hw⟩ := hw
    refine r_getR d_Db_raise_82 ok_3 (nle rfl) (nle rfl) rfl lf_Db_27 q7 ?_
    obtain ⟨q8, hw⟩ := hw
    refine r_getI d_Db_raise_85 ok_1 (nle rfl) (nle rfl) rfl lf_Db_58 q8 ?_
    refine r_icmp_ge d_Db_raise_88 (fun w9 => ?_) (fun w9 => ?_)
    · replace hw := hw.1 w9
      refine r_aload_n (j := 0) d_Db_raise_129 rfl ?_
      refine r_getR d_Db_raise_130 ok_3 (nle rfl) (nle rfl) rfl lf_Db_11 q7 ?_
      refine r_iconst d_Db_raise_133 kc_0 ?_
      refine r_aload_n (j := 0) d_Db_raise_134 rfl ?_
      refine r_getI d_Db_raise_135 ok_3 (nle rfl) (nle rfl) rfl lf_Db_65 q7 ?_
      obtain ⟨q9, hw⟩ := hw
      obtain ⟨q10, hw⟩ := hw
      refine r_iast d_Db_raise_138 q9 q10 ?_
      refine r_iconst d_Db_raise_139 kc_1 ?_
      refine r_istore_n (ls2 := [(3, ai (1 : Int32)), (0, ar v0), (1, ai v1), (2, ai v2)]) d_Db_raise_140 (nle rfl) rfl ?_
      obtain ⟨n37, hw⟩ := hw
      refine r_pick (ls2 := [(0, ar v0), (1, ai v1), (2, ai v2), (3, ai (1 : Int32))]) [1, 2, 3, 0] rfl ?_
      exact s_Db_raise_L141 hd hQ  n37 _ _ hw
    · replace hw := hw.2 w9
      refine r_aload_n (j := 0) d_Db_raise_91 rfl ?_
      refine r_iconst d_Db_raise_92 kc_0 ?_
      refine r_aload_n (j := 0) d_Db_raise_93 rfl ?_
      refine r_getR d_Db_raise_94 ok_3 (nle rfl) (nle rfl) rfl lf_Db_27 q7 ?_
      refine r_iload_n (j := 3) d_Db_raise_97 rfl ?_
      refine r_iconst d_Db_raise_98 kc_0 ?_
      refine r_callV (av := [ai v3, ai (0 : Int32)]) (rest := [ai (0 : Int32), ar v0]) (ci := 1) d_Db_raise_99 mk_Co_numberOf ll_Db_61 im_Co_numberOf se_Co_numberOf rfl (nle rfl) rfl rfl (nle rfl) q8 (s_Co_numberOf  hw (fun r39 h38 hw => ?_))
      show aW none m_Db_raise (d + 1) 102 [(0, ar v0), (1, ai v1), (2, ai v2), (3, ai v3)] [ai r39, ai (0 : Int32), ar v0] h38 0 0 QQ
      refine r_aload_n (j := 0) d_Db_raise_102 rfl ?_
      obtain ⟨q40, hw⟩ := hw
      refine r_getR d_Db_raise_103 ok_3 (nle rfl) (nle rfl) rfl lf_Db_27 q40 ?_
      refine r_iload_n (j := 3) d_Db_raise_106 rfl ?_
      refine r_iconst d_Db_raise_107 kc_1 ?_
      obtain ⟨q43, hw⟩ := hw
      refine r_callV (av := [ai v3, ai (1 : Int32)]) (rest := [ai r39, ai (0 : Int32), ar v0]) (ci := 1) d_Db_raise_108 mk_Co_numberOf ll_Db_61 im_Co_numberOf se_Co_numberOf rfl (nle rfl) rfl rfl (nle rfl) q43 (s_Co_numberOf  hw (fun r42 h41 hw => ?_))
      show aW none m_Db_raise (d + 1) 111 [(0, ar v0), (1, ai v1), (2, ai v2), (3, ai v3)] [ai r42, ai r39, ai (0 : Int32), ar v0] h41 0 0 QQ
      refine r_aload_n (j := 0) d_Db_raise_111 rfl ?_
      obtain ⟨q44, hw⟩ := hw
      refine r_getR d_Db_raise_112 ok_3 (nle rfl) (nle rfl) rfl lf_Db_27 q44 ?_
      refine r_iload_n (j := 3) d_Db_raise_115 rfl ?_
      refine r_iconst d_Db_raise_116 kc_2 ?_
      obtain ⟨q47, hw⟩ := hw
      refine r_callV (av := [ai v3, ai (2 : Int32)]) (rest := [ai r42, ai r39, ai (0 : Int32), ar v0]) (ci := 1) d_Db_raise_117 mk_Co_numberOf ll_Db_61 im_Co_numberOf se_Co_numberOf rfl (nle rfl) rfl rfl (nle rfl) q47 (s_Co_numberOf  hw (fun r46 h45 hw => ?_))
      show aW none m_Db_raise (d + 1) 120 [(0, ar v0), (1, ai v1), (2, ai v2), (3, ai v3)] [ai r46, ai r42, ai r39, ai (0 : Int32), ar v0] h45 0 0 QQ
      obtain ⟨q49, hw⟩ := hw
      refine r_callV (av := [ai (0 : Int32), ai r39, ai r42, ai r46]) (rest := []) (ci := 3) d_Db_raise_120 mk_Db_addSum ll_Db_54 im_Db_addSum se_Db_addSum rfl (nle rfl) rfl rfl (nle rfl) q49 (s_Db_addSum (by omega) hw (fun h48 hw => ?_))
      show aW none m_Db_raise (d + 1) 123 [(0, ar v0), (1, ai v1), (2, ai v2), (3, ai v3)] [] h48 0 0 QQ
      refine r_iinc (j := 3) (ls2 := [(3, ai (v3 + (1 : Int32))), (0, ar v0), (1, ai v1), (2, ai v2)]) d_Db_raise_123 rfl (congrArg (HAdd.hAdd v3) kc_1) (nle rfl) rfl ?_
      refine r_goto d_Db_raise_126 ?_
      refine r_pick (ls2 := [(0, ar v0), (1, ai v1), (2, ai v2), (3, ai (v3 + (1 : Int32)))]) [1, 2, 3, 0] rfl ?_
      exact ih _ _ hw
set_option maxRecDepth 100000 in
set_option maxHeartbeats 4000000 in
theorem s_Db_raise_B38 {d : Nat} (hd : 3 ≤ d + 1) {Q : Hp → Prop} {QQ : Option AV → Hp → Prop} (hQ : ∀ h9, Q h9 → QQ none h9) {v0 : Nat} {v1 : Int32} {v2 : Int32} {h : Hp} (hw : w_Db_raise_B38 Q  v0 v1 v2 h) : aW none m_Db_raise (d + 1) 38 [(0, ar v0), (1, ai v1), (2, ai v2)] [] h 0 0 QQ := by
  unfold w_Db_raise_B38 at hw
  refine r_aload_n (j := 0) d_Db_raise_38 rfl ?_
  refine r_iconst d_Db_raise_39 kc_1 ?_
  obtain ⟨q2, hw⟩ := hw
  refine r_putZ d_Db_raise_40 ok_3 (nle rfl) (nle rfl) rfl lf_Db_31 rfl q2 (Or.inr rfl) ?_
  refine r_aload_n (j := 0) d_Db_raise_43 rfl ?_
  refine r_aload_n (j := 0) d_Db_raise_44 rfl ?_
  refine r_getR d_Db_raise_45 ok_3 (nle rfl) (nle rfl) rfl lf_Db_27 q2 ?_
  obtain ⟨q3, hw⟩ := hw
  refine r_getI d_Db_raise_48 ok_1 (nle rfl) (nle rfl) rfl lf_Db_39 q3 ?_
  refine r_putI d_Db_raise_51 ok_3 (nle rfl) (nle rfl) rfl lf_Db_35 rfl q2 ?_
  refine r_aload_n (j := 0) d_Db_raise_54 rfl ?_
  refine r_iload_n (j := 1) d_Db_raise_55 rfl ?_
  refine r_putI d_Db_raise_56 ok_3 (nle rfl) (nle rfl) rfl lf_Db_44 rfl q2 ?_
  refine r_aload_n (j := 0) d_Db_raise_59 rfl ?_
  refine r_iload_n (j := 2) d_Db_raise_60 rfl ?_
  refine r_putI d_Db_raise_61 ok_3 (nle rfl) (nle rfl) rfl lf_Db_47 rfl q2 ?_
  refine r_aload_n (j := 0) d_Db_raise_64 rfl ?_
  refine r_iload_n (j := 1) d_Db_raise_65 rfl ?_
  refine r_iload_n (j := 2) d_Db_raise_66 rfl ?_
  refine r_callV (av := [ai v1, ai v2]) (rest := []) (ci := 3) d_Db_raise_67 mk_Db_beginLevel ll_Db_50 im_Db_beginLevel se_Db_beginLevel rfl (nle rfl) rfl rfl (nle rfl) q2 (s_Db_beginLevel (by omega) hw (fun h4 hw => ?_))
  show aW none m_Db_raise (d + 1) 70 [(0, ar v0), (1, ai v1), (2, ai v2)] [] h4 0 0 QQ
  refine r_aload_n (j := 0) d_Db_raise_70 rfl ?_
  refine r_iconst d_Db_raise_71 kc_0 ?_
  refine r_iconst d_Db_raise_72 kc_0 ?_
  refine r_iconst d_Db_raise_73 kc_0 ?_
  refine r_iconst d_Db_raise_74 kc_0 ?_
  obtain ⟨q6, hw⟩ := hw
  refine r_callV (av := [ai (0 : Int32), ai (0 : Int32), ai (0 : Int32), ai (0 : Int32)]) (rest := []) (ci := 3) d_Db_raise_75 mk_Db_addSum ll_Db_54 im_Db_addSum se_Db_addSum rfl (nle rfl) rfl rfl (nle rfl) q6 (s_Db_addSum (by omega) hw (fun h5 hw => ?_))
  show aW none m_Db_raise (d + 1) 78 [(0, ar v0), (1, ai v1), (2, ai v2)] [] h5 0 0 QQ
  refine r_iconst d_Db_raise_78 kc_0 ?_
  refine r_istore_n (ls2 := [(3, ai (0 : Int32)), (0, ar v0), (1, ai v1), (2, ai v2)]) d_Db_raise_79 (nle rfl) rfl ?_
  obtain ⟨n50, hw⟩ := hw
  refine r_pick (ls2 := [(0, ar v0), (1, ai v1), (2, ai v2), (3, ai (0 : Int32))]) [1, 2, 3, 0] rfl ?_
  exact s_Db_raise_L80 hd hQ  n50 _ _ hw
set_option maxRecDepth 100000 in
set_option maxHeartbeats 4000000 in
theorem s_Db_raise {d : Nat} (hd : 3 ≤ d) {v0 : Nat} {v1 : Int32} {v2 : Int32} {h : Hp} {Q : Hp → Prop} {QQ : Option AV → Hp → Prop} (hw : w_Db_raise v0 v1 v2 h Q) (hQ : ∀ h9, Q h9 → QQ none h9) : aCall m_Db_raise d [ar v0, ai v1, ai v2] h 0 0 QQ := by
  obtain ⟨d, rfl⟩ : ∃ d9, d = d9 + 1 := ⟨d - 1, by omega⟩
  refine aCall_in pl_Db_raise (nle rfl) ?_
  show aW none m_Db_raise (d + 1) 0 [(0, ar v0), (1, ai v1), (2, ai v2)] [] h 0 0 QQ
  unfold w_Db_raise at hw
  refine r_aload_n (j := 0) d_Db_raise_0 rfl ?_
  obtain ⟨q1, hw⟩ := hw
  refine r_getI d_Db_raise_1 ok_3 (nle rfl) (nle rfl) rfl lf_Db_31 q1 ?_
  refine r_if_eq d_Db_raise_4 (fun w9 => ?_) (fun w9 => ?_)
  · replace hw := hw.1 w9
    exact s_Db_raise_B38 hd hQ  hw
  · replace hw := hw.2 w9
    refine r_aload_n (j := 0) d_Db_raise_7 rfl ?_
    refine r_getI d_Db_raise_8 ok_3 (nle rfl) (nle rfl) rfl lf_Db_35 q1 ?_
    refine r_aload_n (j := 0) d_Db_raise_11 rfl ?_
    refine r_getR d_Db_raise_12 ok_3 (nle rfl) (nle rfl) rfl lf_Db_27 q1 ?_
    obtain ⟨q51, hw⟩ := hw
    refine r_getI d_Db_raise_15 ok_1 (nle rfl) (nle rfl) rfl lf_Db_39 q51 ?_
    refine r_icmp_ne d_Db_raise_18 (fun w9 => ?_) (fun w9 => ?_)
    · replace hw := hw.2 w9
      exact s_Db_raise_B38 hd hQ  hw
    · replace hw := hw.1 w9
      refine r_aload_n (j := 0) d_Db_raise_21 rfl ?_
      refine r_getI d_Db_raise_22 ok_3 (nle rfl) (nle rfl) rfl lf_Db_44 q1 ?_
      refine r_iload_n (j := 1) d_Db_raise_25 rfl ?_
      refine r_icmp_ne d_Db_raise_26 (fun w9 => ?_) (fun w9 => ?_)
      · replace hw := hw.2 w9
        exact s_Db_raise_B38 hd hQ  hw
      · replace hw := hw.1 w9
        refine r_aload_n (j := 0) d_Db_raise_29 rfl ?_
        refine r_getI d_Db_raise_30 ok_3 (nle rfl) (nle rfl) rfl lf_Db_47 q1 ?_
        refine r_iload_n (j := 2) d_Db_raise_33 rfl ?_
        refine r_icmp_ne d_Db_raise_34 (fun w9 => ?_) (fun w9 => ?_)
        · replace hw := hw.2 w9
          exact s_Db_raise_B38 hd hQ  hw
        · replace hw := hw.1 w9
          exact r_return d_Db_raise_37.1 rfl (hQ _ hw)
set_option maxRecDepth 100000 in
set_option maxHeartbeats 4000000 in
theorem s_Ex_init {d : Nat} (hd : 1 ≤ d) {v0 : Nat} {v1 : Nat} {bc bs : Nat} {h : Hp} {Q : Hp → Prop} {QQ : Option AV → Hp → Prop} (hw : w_Ex_init bc bs v0 v1 h Q) (hQ : ∀ h9, Q h9 → QQ none h9) : aCall m_Ex_init d [ar v0, ar v1] h bc bs QQ := by
  obtain ⟨d, rfl⟩ : ∃ d9, d = d9 + 1 := ⟨d - 1, by omega⟩
  refine aCall_in pl_Ex_init (nle rfl) ?_
  show aW none m_Ex_init (d + 1) 0 [(0, ar v0), (1, ar v1)] [] h bc bs QQ
  unfold w_Ex_init at hw
  refine r_aload_n (j := 0) d_Ex_init_0 rfl ?_
  obtain ⟨q1, hw⟩ := hw
  refine r_objInit d_Ex_init_1 ll_Ex_3 oi_1 oi_2 (nle rfl) q1 ?_
  refine r_aload_n (j := 0) d_Ex_init_4 rfl ?_
  refine r_iconst d_Ex_init_5 kc_5 ?_
  obtain ⟨q2, hw⟩ := hw
  obtain ⟨q3, hw⟩ := hw
  obtain ⟨b4, t5, u8, u9, u6, u7, hw⟩ := hw
  subst u8 u9
  refine r_newI d_Ex_init_6 ac_I u6 rfl u7 (refB_r q2 refB_n) (refL_r q2 (refL_r q3 refL_n)) ?_
  generalize e8 : nw h 20 (ix (5 : Int32)) = h6 at hw ⊢
  generalize e7 : gX h = a7 at hw ⊢
  replace hw := hw a7 h6 e7.symm e8.symm
  obtain ⟨q8, hw⟩ := hw
  obtain ⟨q9, hw⟩ := hw
  refine r_putFR d_Ex_init_8 ok_4 (nle rfl) (nle rfl) rfl lf_Ex_11 rfl rfl rfl q8 q9 ?_
  refine r_aload_n (j := 0) d_Ex_init_11 rfl ?_
  refine r_sipush d_Ex_init_12 ks_165 ?_
  obtain ⟨q10, hw⟩ := hw
  obtain ⟨q11, hw⟩ := hw
  obtain ⟨b12, t13, u8, u9, u6, u7, hw⟩ := hw
  subst u8 u9
  refine r_newI d_Ex_init_15 ac_I u6 rfl u7 (refB_r q10 refB_n) (refL_r q10 (refL_r q11 refL_n)) ?_
  generalize e8 : nw (sR h6 v0 1 a7) 20 (ix (165 : Int32)) = h14 at hw ⊢
  generalize e7 : gX (sR h6 v0 1 a7) = a15 at hw ⊢
  replace hw := hw a15 h14 e7.symm e8.symm
  obtain ⟨q16, hw⟩ := hw
  obtain ⟨q17, hw⟩ := hw
  refine r_putFR d_Ex_init_17 ok_4 (nle rfl) (nle rfl) rfl lf_Ex_15 rfl rfl rfl q16 q17 ?_
  refine r_aload_n (j := 0) d_Ex_init_20 rfl ?_
  refine r_sipush d_Ex_init_21 ks_165 ?_
  obtain ⟨q18, hw⟩ := hw
  obtain ⟨q19, hw⟩ := hw
  obtain ⟨b20, t21, u8, u9, u6, u7, hw⟩ := hw
  subst u8 u9
  refine r_newI d_Ex_init_24 ac_I u6 rfl u7 (refB_r q18 refB_n) (refL_r q18 (refL_r q19 refL_n)) ?_
  generalize e8 : nw (sR h14 v0 2 a15) 20 (ix (165 : Int32)) = h22 at hw ⊢
  generalize e7 : gX (sR h14 v0 2 a15) = a23 at hw ⊢
  replace hw := hw a23 h22 e7.symm e8.symm
  obtain ⟨q24, hw⟩ := hw
  obtain ⟨q25, hw⟩ := hw
  refine r_putFR d_Ex_init_26 ok_4 (nle rfl) (nle rfl) rfl lf_Ex_18 rfl rfl rfl q24 q25 ?_
  refine r_aload_n (j := 0) d_Ex_init_29 rfl ?_
  refine r_sipush d_Ex_init_30 ks_165 ?_
  obtain ⟨q26, hw⟩ := hw
  obtain ⟨q27, hw⟩ := hw
  obtain ⟨b28, t29, u8, u9, u6, u7, hw⟩ := hw
  subst u8 u9
  refine r_newI d_Ex_init_33 ac_I u6 rfl u7 (refB_r q26 refB_n) (refL_r q26 (refL_r q27 refL_n)) ?_
  generalize e8 : nw (sR h22 v0 3 a23) 20 (ix (165 : Int32)) = h30 at hw ⊢
  generalize e7 : gX (sR h22 v0 3 a23) = a31 at hw ⊢
  replace hw := hw a31 h30 e7.symm e8.symm
  obtain ⟨q32, hw⟩ := hw
  obtain ⟨q33, hw⟩ := hw
  refine r_putFR d_Ex_init_35 ok_4 (nle rfl) (nle rfl) rfl lf_Ex_21 rfl rfl rfl q32 q33 ?_
  refine r_aload_n (j := 0) d_Ex_init_38 rfl ?_
  refine r_aload_n (j := 1) d_Ex_init_39 rfl ?_
  obtain ⟨q34, hw⟩ := hw
  refine r_putFR d_Ex_init_40 ok_4 (nle rfl) (nle rfl) rfl lf_Ex_24 rfl rfl rfl q32 q34 ?_
  exact r_return d_Ex_init_43.1 rfl (hQ _ hw)
set_option maxRecDepth 100000 in
set_option maxHeartbeats 4000000 in
theorem s_Ex_hasPlace_L7 {d : Nat} (hd : 1 ≤ d + 1) {Q : Bool → Hp → Prop} {QQ : Option AV → Hp → Prop} (hQ : ∀ r9 h9, Q r9 h9 → QQ (some (ai (b2i r9))) h9) {v0 : Nat} {v1 : Int32} {v2 : Int32} : ∀ (n : Nat) (v3 : Int32) (h : Hp), w_Ex_hasPlace_L7 Q  v0 v1 v2 n v3 h → aW none m_Ex_hasPlace (d + 1) 7 [(0, ar v0), (1, ai v1), (2, ai v2), (3, ai v3)] [] h 0 0 QQ := by
  intro n
  induction n with
  | zero => intro v3 h hw; exact hw.elim
  | succ n ih =>
    intro v3 h hw
    unfold w_Ex_hasPlace_L7 at hw
    refine r_iload_n (j := 3) d_Ex_hasPlace_7 rfl ?_
    refine r_if_le d_Ex_hasPlace_8 (fun w9 => ?_) (fun w9 => ?_)
    · replace hw := hw.1 w9
      refine r_iconst d_Ex_hasPlace_62 kc_1 ?_
      exact r_zreturn d_Ex_hasPlace_63.1 rfl (Or.inr rfl) (hQ _ _ hw)
    · replace hw := hw.2 w9
      refine r_iload_n (j := 3) d_Ex_hasPlace_11 rfl ?_
      refine r_bipush d_Ex_hasPlace_12 kb_15 ?_
      refine r_iand d_Ex_hasPlace_14 ?_
      refine r_iconst d_Ex_hasPlace_15 kc_1 ?_
      refine r_isub d_Ex_hasPlace_16 ?_
      refine r_istore (ls2 := [(4, ai ((v3 &&& (15 : Int32)) - (1 : Int32))), (0, ar v0), (1, ai v1), (2, ai v2), (3, ai v3)]) d_Ex_hasPlace_17 (nle rfl) rfl ?_
      refine r_aload_n (j := 1) d_Ex_hasPlace_19 rfl ?_
      refine r_iload_n (j := 3) d_Ex_hasPlace_20 rfl ?_
      refine r_iload (j := 0) d_Ex_hasPlace_21 rfl ?_
      obtain ⟨q6, hw⟩ := hw
      refine r_callV (av := [ai v2, ai ((v3 &&& (15 : Int32)) - (1 : Int32))]) (rest := []) (ci := 4) d_Ex_hasPlace_23 mk_Ex_times ll_Ex_57 im_Ex_times se_Ex_times rfl (nle rfl) rfl rfl (nle rfl) q6 (s_Ex_times  hw (fun r5 h4 hw => ?_))
      show aW none m_Ex_hasPlace (d + 1) 26 [(4, ai ((v3 &&& (15 : Int32)) - (1 : Int32))), (0, ar v0), (1, ai v1), (2, ai v2), (3, ai v3)] [ai r5] h4 0 0 QQ
      refine r_aload_n (j := 1) d_Ex_hasPlace_26 rfl ?_
      refine r_iload_n (j := 2) d_Ex_hasPlace_27 rfl ?_
      refine r_iload (j := 0) d_Ex_hasPlace_28 rfl ?_
      obtain ⟨q9, hw⟩ := hw
      refine r_callV (av := [ai v1, ai ((v3 &&& (15 : Int32)) - (1 : Int32))]) (rest := [ai r5]) (ci := 4) d_Ex_hasPlace_30 mk_Ex_times ll_Ex_57 im_Ex_times se_Ex_times rfl (nle rfl) rfl rfl (nle rfl) q9 (s_Ex_times  hw (fun r8 h7 hw => ?_))
      show aW none m_Ex_hasPlace (d + 1) 33 [(4, ai ((v3 &&& (15 : Int32)) - (1 : Int32))), (0, ar v0), (1, ai v1), (2, ai v2), (3, ai v3)] [ai r8, ai r5] h7 0 0 QQ
      refine r_isub d_Ex_hasPlace_33 ?_
      refine r_istore (ls2 := [(5, ai (r5 - r8)), (4, ai ((v3 &&& (15 : Int32)) - (1 : Int32))), (0, ar v0), (1, ai v1), (2, ai v2), (3, ai v3)]) d_Ex_hasPlace_34 (nle rfl) rfl ?_
      refine r_aload_n (j := 2) d_Ex_hasPlace_36 rfl ?_
      obtain ⟨q10, hw⟩ := hw
      refine r_getR d_Ex_hasPlace_37 ok_4 (nle rfl) (nle rfl) rfl lf_Ex_24 q10 ?_
      refine r_iload (j := 1) d_Ex_hasPlace_40 rfl ?_
      obtain ⟨q13, hw⟩ := hw
      refine r_callV (av := [ai ((v3 &&& (15 : Int32)) - (1 : Int32))]) (rest := []) (ci := 1) d_Ex_hasPlace_42 mk_Co_heldOf ll_Ex_103 im_Co_heldOf se_Co_heldOf rfl (nle rfl) rfl rfl (nle rfl) q13 (s_Co_heldOf  hw (fun r12 h11 hw => ?_))
      show aW none m_Ex_hasPlace (d + 1) 45 [(5, ai (r5 - r8)), (4, ai ((v3 &&& (15 : Int32)) - (1 : Int32))), (0, ar v0), (1, ai v1), (2, ai v2), (3, ai v3)] [ai r12] h11 0 0 QQ
      refine r_iload (j := 0) d_Ex_hasPlace_45 rfl ?_
      refine r_iadd d_Ex_hasPlace_47 ?_
      refine r_bipush d_Ex_hasPlace_48 kb_99 ?_
      refine r_icmp_le d_Ex_hasPlace_50 (fun w9 => ?_) (fun w9 => ?_)
      · replace hw := hw.1 w9
        refine r_iload_n (j := 5) d_Ex_hasPlace_55 rfl ?_
        refine r_iconst d_Ex_hasPlace_56 kc_4 ?_
        refine r_ishr d_Ex_hasPlace_57 ?_
        refine r_istore_n (ls2 := [(3, ai (jshr v3 (4 : Int32))), (5, ai (r5 - r8)), (4, ai ((v3 &&& (15 : Int32)) - (1 : Int32))), (0, ar v0), (1, ai v1), (2, ai v2)]) d_Ex_hasPlace_58 (nle rfl) rfl ?_
        refine r_goto d_Ex_hasPlace_59 ?_
        refine r_pick (ls2 := [(0, ar v0), (1, ai v1), (2, ai v2), (3, ai (jshr v3 (4 : Int32)))]) [3, 4, 5, 0] rfl ?_
        exact ih _ _ hw
      · replace hw := hw.2 w9
        refine r_iconst d_Ex_hasPlace_53 kc_0 ?_
        exact r_zreturn d_Ex_hasPlace_54.1 rfl (Or.inl rfl) (hQ _ _ hw)
set_option maxRecDepth 100000 in
set_option maxHeartbeats 4000000 in
theorem s_Ex_hasPlace {d : Nat} (hd : 1 ≤ d) {v0 : Nat} {v1 : Int32} {v2 : Int32} {h : Hp} {Q : Bool → Hp → Prop} {QQ : Option AV → Hp → Prop} (hw : w_Ex_hasPlace v0 v1 v2 h Q) (hQ : ∀ r9 h9, Q r9 h9 → QQ (some (ai (b2i r9))) h9) : aCall m_Ex_hasPlace d [ar v0, ai v1, ai v2] h 0 0 QQ := by
  obtain ⟨d, rfl⟩ : ∃ d9, d = d9 + 1 := ⟨d - 1, by omega⟩
  refine aCall_in pl_Ex_hasPlace (nle rfl) ?_
  show aW none m_Ex_hasPlace (d + 1) 0 [(0, ar v0), (1, ai v1), (2, ai v2)] [] h 0 0 QQ
  unfold w_Ex_hasPlace at hw
  refine r_aload_n (j := 0) d_Ex_hasPlace_0 rfl ?_
  obtain ⟨q1, hw⟩ := hw
  refine r_getR d_Ex_hasPlace_1 ok_4 (nle rfl) (nle rfl) rfl lf_Ex_15 q1 ?_
  refine r_iload_n (j := 2) d_Ex_hasPlace_4 rfl ?_
  obtain ⟨q2, hw⟩ := hw
  obtain ⟨q3, hw⟩ := hw
  refine r_iald d_Ex_hasPlace_5 q2 q3 ?_
  refine r_istore_n (ls2 := [(3, ai (gI h (gR h v0 2) (ix v2))), (0, ar v0), (1, ai v1), (2, ai v2)]) d_Ex_hasPlace_6 (nle rfl) rfl ?_
  obtain ⟨n14, hw⟩ := hw
  refine r_pick (ls2 := [(0, ar v0), (1, ai v1), (2, ai v2), (3, ai (gI h (gR h v0 2) (ix v2)))]) [1, 2, 3, 0] rfl ?_
  exact s_Ex_hasPlace_L7 hd hQ  n14 _ _ hw
set_option maxRecDepth 100000 in
set_option maxHeartbeats 4000000 in
theorem s_Ex_isHeld_L7 {d : Nat} (hd : 1 ≤ d + 1) {Q : Bool → Hp → Prop} {QQ : Option AV → Hp → Prop} (hQ : ∀ r9 h9, Q r9 h9 → QQ (some (ai (b2i r9))) h9) {v0 : Nat} {v1 : Int32} : ∀ (n : Nat) (v2 : Int32) (h : Hp), w_Ex_isHeld_L7 Q  v0 v1 n v2 h → aW none m_Ex_isHeld (d + 1) 7 [(0, ar v0), (1, ai v1), (2, ai v2)] [] h 0 0 QQ := by
  intro n
  induction n with
  | zero => intro v2 h hw; exact hw.elim
  | succ n ih =>
    intro v2 h hw
    unfold w_Ex_isHeld_L7 at hw
    refine r_iload_n (j := 2) d_Ex_isHeld_7 rfl ?_
    refine r_if_le d_Ex_isHeld_8 (fun w9 => ?_) (fun w9 => ?_)
    · replace hw := hw.1 w9
      refine r_iconst d_Ex_isHeld_44 kc_1 ?_
      exact r_zreturn d_Ex_isHeld_45.1 rfl (Or.inr rfl) (hQ _ _ hw)
    · replace hw := hw.2 w9
      refine r_iload_n (j := 2) d_Ex_isHeld_11 rfl ?_
      refine r_bipush d_Ex_isHeld_12 kb_15 ?_
      refine r_iand d_Ex_isHeld_14 ?_
      refine r_iconst d_Ex_isHeld_15 kc_1 ?_
      refine r_isub d_Ex_isHeld_16 ?_
      refine r_istore_n (ls2 := [(3, ai ((v2 &&& (15 : Int32)) - (1 : Int32))), (0, ar v0), (1, ai v1), (2, ai v2)]) d_Ex_isHeld_17 (nle rfl) rfl ?_
      refine r_aload_n (j := 1) d_Ex_isHeld_18 rfl ?_
      obtain ⟨q4, hw⟩ := hw
      refine r_getR d_Ex_isHeld_19 ok_4 (nle rfl) (nle rfl) rfl lf_Ex_24 q4 ?_
      refine r_iload_n (j := 0) d_Ex_isHeld_22 rfl ?_
      obtain ⟨q7, hw⟩ := hw
      refine r_callV (av := [ai ((v2 &&& (15 : Int32)) - (1 : Int32))]) (rest := []) (ci := 1) d_Ex_isHeld_23 mk_Co_heldOf ll_Ex_103 im_Co_heldOf se_Co_heldOf rfl (nle rfl) rfl rfl (nle rfl) q7 (s_Co_heldOf  hw (fun r6 h5 hw => ?_))
      show aW none m_Ex_isHeld (d + 1) 26 [(3, ai ((v2 &&& (15 : Int32)) - (1 : Int32))), (0, ar v0), (1, ai v1), (2, ai v2)] [ai r6] h5 0 0 QQ
      refine r_aload_n (j := 1) d_Ex_isHeld_26 rfl ?_
      refine r_iload_n (j := 2) d_Ex_isHeld_27 rfl ?_
      refine r_iload_n (j := 0) d_Ex_isHeld_28 rfl ?_
      obtain ⟨q10, hw⟩ := hw
      refine r_callV (av := [ai v1, ai ((v2 &&& (15 : Int32)) - (1 : Int32))]) (rest := [ai r6]) (ci := 4) d_Ex_isHeld_29 mk_Ex_times ll_Ex_57 im_Ex_times se_Ex_times rfl (nle rfl) rfl rfl (nle rfl) q10 (s_Ex_times  hw (fun r9 h8 hw => ?_))
      show aW none m_Ex_isHeld (d + 1) 32 [(3, ai ((v2 &&& (15 : Int32)) - (1 : Int32))), (0, ar v0), (1, ai v1), (2, ai v2)] [ai r9, ai r6] h8 0 0 QQ
      refine r_icmp_ge d_Ex_isHeld_32 (fun w9 => ?_) (fun w9 => ?_)
      · replace hw := hw.1 w9
        refine r_iload_n (j := 3) d_Ex_isHeld_37 rfl ?_
        refine r_iconst d_Ex_isHeld_38 kc_4 ?_
        refine r_ishr d_Ex_isHeld_39 ?_
        refine r_istore_n (ls2 := [(2, ai (jshr v2 (4 : Int32))), (3, ai ((v2 &&& (15 : Int32)) - (1 : Int32))), (0, ar v0), (1, ai v1)]) d_Ex_isHeld_40 (nle rfl) rfl ?_
        refine r_goto d_Ex_isHeld_41 ?_
        refine r_pick (ls2 := [(0, ar v0), (1, ai v1), (2, ai (jshr v2 (4 : Int32)))]) [2, 3, 0] rfl ?_
        exact ih _ _ hw
      · replace hw := hw.2 w9
        refine r_iconst d_Ex_isHeld_35 kc_0 ?_
        exact r_zreturn d_Ex_isHeld_36.1 rfl (Or.inl rfl) (hQ _ _ hw)
set_option maxRecDepth 100000 in
set_option maxHeartbeats 4000000 in
theorem s_Ex_isHeld {d : Nat} (hd : 1 ≤ d) {v0 : Nat} {v1 : Int32} {h : Hp} {Q : Bool → Hp → Prop} {QQ : Option AV → Hp → Prop} (hw : w_Ex_isHeld v0 v1 h Q) (hQ : ∀ r9 h9, Q r9 h9 → QQ (some (ai (b2i r9))) h9) : aCall m_Ex_isHeld d [ar v0, ai v1] h 0 0 QQ := by
  obtain ⟨d, rfl⟩ : ∃ d9, d = d9 + 1 := ⟨d - 1, by omega⟩
  refine aCall_in pl_Ex_isHeld (nle rfl) ?_
  show aW none m_Ex_isHeld (d + 1) 0 [(0, ar v0), (1, ai v1)] [] h 0 0 QQ
  unfold w_Ex_isHeld at hw
  refine r_aload_n (j := 0) d_Ex_isHeld_0 rfl ?_
  obtain ⟨q1, hw⟩ := hw
  refine r_getR d_Ex_isHeld_1 ok_4 (nle rfl) (nle rfl) rfl lf_Ex_15 q1 ?_
  refine r_iload_n (j := 1) d_Ex_isHeld_4 rfl ?_
  obtain ⟨q2, hw⟩ := hw
  obtain ⟨q3, hw⟩ := hw
  refine r_iald d_Ex_isHeld_5 q2 q3 ?_
  refine r_istore_n (ls2 := [(2, ai (gI h (gR h v0 2) (ix v1))), (0, ar v0), (1, ai v1)]) d_Ex_isHeld_6 (nle rfl) rfl ?_
  obtain ⟨n11, hw⟩ := hw
  refine r_pick (ls2 := [(0, ar v0), (1, ai v1), (2, ai (gI h (gR h v0 2) (ix v1)))]) [1, 2, 0] rfl ?_
  exact s_Ex_isHeld_L7 hd hQ  n11 _ _ hw
set_option maxRecDepth 100000 in
set_option maxHeartbeats 4000000 in
theorem s_Ex_compareSizes_L38 {d : Nat} (hd : 2 ≤ d + 1) {Q : Hp → Prop} {QQ : Option AV → Hp → Prop} (hQ : ∀ h9, Q h9 → QQ none h9) {k7 : Int32 → Hp → Prop} (hk7 : ∀ v3 h9, k7 v3 h9 → aW none m_Ex_compareSizes (d + 1) 7 [(0, ar v0), (1, ai v1), (2, ai v2), (3, ai v3)] [] h9 0 0 QQ) {v0 : Nat} {v1 : Int32} {v2 : Int32} {v3 : Int32} : ∀ (n : Nat) (v4 : Int32) (h : Hp), w_Ex_compareSizes_L38 Q k7 v0 v1 v2 v3 n v4 h → aW none m_Ex_compareSizes (d + 1) 38 [(0, ar v0), (1, ai v1), (2, ai v2), (3, ai v3), (4, ai v4)] [] h 0 0 QQ := by
  intro n
  induction n with
  | zero => intro v4 h hw; exact hw.elim
  | succ n ih =>
    intro v4 h hw
    unfold w_Ex_compareSizes_L38 at hw
    refine r_iload (j := 4) d_Ex_compareSizes_38 rfl ?_
    refine r_aload_n (j := 0) d_Ex_compareSizes_40 rfl ?_
    obtain ⟨q12, hw⟩ := hw
    refine r_getR d_Ex_compareSizes_41 ok_4 (nle rfl) (nle rfl) rfl lf_Ex_11 q12 ?_
    refine r_iload_n (j := 2) d_Ex_compareSizes_44 rfl ?_
    refine r_iconst d_Ex_compareSizes_45 kc_1 ?_
    refine r_iadd d_Ex_compareSizes_46 ?_
    obtain ⟨q13, hw⟩ := hw
    obtain ⟨q14, hw⟩ := hw
    refine r_iald d_Ex_compareSizes_47 q13 q14 ?_
    refine r_icmp_ge d_Ex_compareSizes_48 (fun w9 => ?_) (fun w9 => ?_)
    · replace hw := hw.1 w9
      refine r_iinc (j := 3) (ls2 := [(3, ai (v3 + (1 : Int32))), (0, ar v0), (1, ai v1), (2, ai v2), (4, ai v4)]) d_Ex_compareSizes_143 rfl (congrArg (HAdd.hAdd v3) kc_1) (nle rfl) rfl ?_
      refine r_goto d_Ex_compareSizes_146 ?_
      refine r_pick (ls2 := [(0, ar v0), (1, ai v1), (2, ai v2), (3, ai (v3 + (1 : Int32)))]) [1, 2, 3, 0] rfl ?_
      exact hk7 _ _ hw
    · replace hw := hw.2 w9
      refine r_aload_n (j := 0) d_Ex_compareSizes_51 rfl ?_
      refine r_getR d_Ex_compareSizes_52 ok_4 (nle rfl) (nle rfl) rfl lf_Ex_18 q12 ?_
      refine r_iload (j := 4) d_Ex_compareSizes_55 rfl ?_
      obtain ⟨q15, hw⟩ := hw
      obtain ⟨q16, hw⟩ := hw
      refine r_iald d_Ex_compareSizes_57 q15 q16 ?_
      refine r_aload_n (j := 0) d_Ex_compareSizes_58 rfl ?_
      refine r_getR d_Ex_compareSizes_59 ok_4 (nle rfl) (nle rfl) rfl lf_Ex_18 q12 ?_
      refine r_iload_n (j := 3) d_Ex_compareSizes_62 rfl ?_
      obtain ⟨q17, hw⟩ := hw
      refine r_iald d_Ex_compareSizes_63 q15 q17 ?_
      refine r_icmp_ne d_Ex_compareSizes_64 (fun w9 => ?_) (fun w9 => ?_)
      · replace hw := hw.2 w9
        refine r_iinc (j := 4) (ls2 := [(4, ai (v4 + (1 : Int32))), (0, ar v0), (1, ai v1), (2, ai v2), (3, ai v3)]) d_Ex_compareSizes_137 rfl (congrArg (HAdd.hAdd v4) kc_1) (nle rfl) rfl ?_
        refine r_goto d_Ex_compareSizes_140 ?_
        refine r_pick (ls2 := [(0, ar v0), (1, ai v1), (2, ai v2), (3, ai v3), (4, ai (v4 + (1 : Int32)))]) [1, 2, 3, 4, 0] rfl ?_
        exact ih _ _ hw
      · replace hw := hw.1 w9
        refine r_aload_n (j := 0) d_Ex_compareSizes_67 rfl ?_
        refine r_getR d_Ex_compareSizes_68 ok_4 (nle rfl) (nle rfl) rfl lf_Ex_21 q12 ?_
        refine r_iload (j := 4) d_Ex_compareSizes_71 rfl ?_
        obtain ⟨q18, hw⟩ := hw
        obtain ⟨q19, hw⟩ := hw
        refine r_iald d_Ex_compareSizes_73 q18 q19 ?_
        refine r_aload_n (j := 0) d_Ex_compareSizes_74 rfl ?_
        refine r_getR d_Ex_compareSizes_75 ok_4 (nle rfl) (nle rfl) rfl lf_Ex_21 q12 ?_
        refine r_iload_n (j := 3) d_Ex_compareSizes_78 rfl ?_
        obtain ⟨q20, hw⟩ := hw
        refine r_iald d_Ex_compareSizes_79 q18 q20 ?_
        refine r_isub d_Ex_compareSizes_80 ?_
        refine r_aload_n (j := 0) d_Ex_compareSizes_81 rfl ?_
        refine r_getI d_Ex_compareSizes_82 ok_4 (nle rfl) (nle rfl) rfl lf_Ex_51 q12 ?_
        refine r_icmp_le d_Ex_compareSizes_85 (fun w9 => ?_) (fun w9 => ?_)
        · replace hw := hw.1 w9
          refine r_iinc (j := 4) (ls2 := [(4, ai (v4 + (1 : Int32))), (0, ar v0), (1, ai v1), (2, ai v2), (3, ai v3)]) d_Ex_compareSizes_137 rfl (congrArg (HAdd.hAdd v4) kc_1) (nle rfl) rfl ?_
          refine r_goto d_Ex_compareSizes_140 ?_
          refine r_pick (ls2 := [(0, ar v0), (1, ai v1), (2, ai v2), (3, ai v3), (4, ai (v4 + (1 : Int32)))]) [1, 2, 3, 4, 0] rfl ?_
          exact ih _ _ hw
        · replace hw := hw.2 w9
          refine r_aload_n (j := 0) d_Ex_compareSizes_88 rfl ?_
          refine r_iload_n (j := 3) d_Ex_compareSizes_89 rfl ?_
          refine r_iload (j := 4) d_Ex_compareSizes_90 rfl ?_
          refine r_callV (av := [ai v3, ai v4]) (rest := []) (ci := 4) d_Ex_compareSizes_92 mk_Ex_hasPlace ll_Ex_93 im_Ex_hasPlace se_Ex_hasPlace rfl (nle rfl) rfl rfl (nle rfl) q12 (s_Ex_hasPlace (by omega) hw (fun r22 h21 hw => ?_))
          show aW none m_Ex_compareSizes (d + 1) 95 [(0, ar v0), (1, ai v1), (2, ai v2), (3, ai v3), (4, ai v4)] [ai (b2i r22)] h21 0 0 QQ
          refine r_if_eq d_Ex_compareSizes_95 (fun w9 => ?_) (fun w9 => ?_)
          · replace hw := hw.1 (b2i_0.mp w9)
            refine r_iinc (j := 4) (ls2 := [(4, ai (v4 + (1 : Int32))), (0, ar v0), (1, ai v1), (2, ai v2), (3, ai v3)]) d_Ex_compareSizes_137 rfl (congrArg (HAdd.hAdd v4) kc_1) (nle rfl) rfl ?_
            refine r_goto d_Ex_compareSizes_140 ?_
            refine r_pick (ls2 := [(0, ar v0), (1, ai v1), (2, ai v2), (3, ai v3), (4, ai (v4 + (1 : Int32)))]) [1, 2, 3, 4, 0] rfl ?_
            exact ih _ _ hw
          · replace hw := hw.2 (fun g9 => w9 (b2i_0.mpr g9))
            refine r_aload_n (j := 0) d_Ex_compareSizes_98 rfl ?_
            refine r_aload_n (j := 0) d_Ex_compareSizes_99 rfl ?_
            obtain ⟨q23, hw⟩ := hw
            refine r_getR d_Ex_compareSizes_100 ok_4 (nle rfl) (nle rfl) rfl lf_Ex_21 q23 ?_
            refine r_iload (j := 4) d_Ex_compareSizes_103 rfl ?_
            obtain ⟨q24, hw⟩ := hw
            obtain ⟨q25, hw⟩ := hw
            refine r_iald d_Ex_compareSizes_105 q24 q25 ?_
            refine r_aload_n (j := 0) d_Ex_compareSizes_106 rfl ?_
            refine r_getR d_Ex_compareSizes_107 ok_4 (nle rfl) (nle rfl) rfl lf_Ex_21 q23 ?_
            refine r_iload_n (j := 3) d_Ex_compareSizes_110 rfl ?_
            obtain ⟨q26, hw⟩ := hw
            refine r_iald d_Ex_compareSizes_111 q24 q26 ?_
            refine r_isub d_Ex_compareSizes_112 ?_
            refine r_putI d_Ex_compareSizes_113 ok_4 (nle rfl) (nle rfl) rfl lf_Ex_51 rfl q23 ?_
            refine r_aload_n (j := 0) d_Ex_compareSizes_116 rfl ?_
            refine r_iload_n (j := 1) d_Ex_compareSizes_117 rfl ?_
            refine r_putI d_Ex_compareSizes_118 ok_4 (nle rfl) (nle rfl) rfl lf_Ex_97 rfl q23 ?_
            refine r_aload_n (j := 0) d_Ex_compareSizes_121 rfl ?_
            refine r_iload_n (j := 2) d_Ex_compareSizes_122 rfl ?_
            refine r_putI d_Ex_compareSizes_123 ok_4 (nle rfl) (nle rfl) rfl lf_Ex_100 rfl q23 ?_
            refine r_aload_n (j := 0) d_Ex_compareSizes_126 rfl ?_
            refine r_iload_n (j := 3) d_Ex_compareSizes_127 rfl ?_
            refine r_putI d_Ex_compareSizes_128 ok_4 (nle rfl) (nle rfl) rfl lf_Ex_61 rfl q23 ?_
            refine r_aload_n (j := 0) d_Ex_compareSizes_131 rfl ?_
            refine r_iload (j := 4) d_Ex_compareSizes_132 rfl ?_
            refine r_putI d_Ex_compareSizes_134 ok_4 (nle rfl) (nle rfl) rfl lf_Ex_54 rfl q23 ?_
            refine r_iinc (j := 4) (ls2 := [(4, ai (v4 + (1 : Int32))), (0, ar v0), (1, ai v1), (2, ai v2), (3, ai v3)]) d_Ex_compareSizes_137 rfl (congrArg (HAdd.hAdd v4) kc_1) (nle rfl) rfl ?_
            refine r_goto d_Ex_compareSizes_140 ?_
            refine r_pick (ls2 := [(0, ar v0), (1, ai v1), (2, ai v2), (3, ai v3), (4, ai (v4 + (1 : Int32)))]) [1, 2, 3, 4, 0] rfl ?_
            exact ih _ _ hw
set_option maxRecDepth 100000 in
set_option maxHeartbeats 4000000 in
theorem s_Ex_compareSizes_L7 {d : Nat} (hd : 2 ≤ d + 1) {Q : Hp → Prop} {QQ : Option AV → Hp → Prop} (hQ : ∀ h9, Q h9 → QQ none h9) {v0 : Nat} {v1 : Int32} {v2 : Int32} : ∀ (n : Nat) (v3 : Int32) (h : Hp), w_Ex_compareSizes_L7 Q  v0 v1 v2 n v3 h → aW none m_Ex_compareSizes (d + 1) 7 [(0, ar v0), (1, ai v1), (2, ai v2), (3, ai v3)] [] h 0 0 QQ := by
  intro n
  induction n with
  | zero => intro v3 h hw; exact hw.elim
  | succ n ih =>
    intro v3 h hw
    unfold w_Ex_compareSizes_L7 at hw
    refine r_iload_n (j := 3) d_Ex_compareSizes_7 rfl ?_
    refine r_aload_n (j := 0) d_Ex_compareSizes_8 rfl ?_
    obtain ⟨q4, hw⟩ := hw
    refine r_getR d_Ex_compareSizes_9 ok_4 (nle rfl) (nle rfl) rfl lf_Ex_11 q4 ?_
    refine r_iload_n (j := 1) d_Ex_compareSizes_12 rfl ?_
    refine r_iconst d_Ex_compareSizes_13 kc_1 ?_
    refine r_iadd d_Ex_compareSizes_14 ?_
    obtain ⟨q5, hw⟩ := hw
    obtain ⟨q6, hw⟩ := hw
    refine r_iald d_Ex_compareSizes_15 q5 q6 ?_
    refine r_icmp_ge d_Ex_compareSizes_16 (fun w9 => ?_) (fun w9 => ?_)
    · replace hw := hw.1 w9
      exact r_return d_Ex_compareSizes_149.1 rfl (hQ _ hw)
    · replace hw := hw.2 w9
      refine r_aload_n (j := 0) d_Ex_compareSizes_19 rfl ?_
      refine r_iload_n (j := 3) d_Ex_compareSizes_20 rfl ?_
      refine r_callV (av := [ai v3]) (rest := []) (ci := 4) d_Ex_compareSizes_21 mk_Ex_isHeld ll_Ex_89 im_Ex_isHeld se_Ex_isHeld rfl (nle rfl) rfl rfl (nle rfl) q4 (s_Ex_isHeld (by omega) hw (fun r8 h7 hw => ?_))
      show aW none m_Ex_compareSizes (d + 1) 24 [(0, ar v0), (1, ai v1), (2, ai v2), (3, ai v3)] [ai (b2i r8)] h7 0 0 QQ
      refine r_if_ne d_Ex_compareSizes_24 (fun w9 => ?_) (fun w9 => ?_)
      · replace hw := hw.2 (fun g9 => w9 (b2i_0.mpr g9))
        refine r_aload_n (j := 0) d_Ex_compareSizes_30 rfl ?_
        obtain ⟨q9, hw⟩ := hw
        refine r_getR d_Ex_compareSizes_31 ok_4 (nle rfl) (nle rfl) rfl lf_Ex_11 q9 ?_
        refine r_iload_n (j := 2) d_Ex_compareSizes_34 rfl ?_
        obtain ⟨q10, hw⟩ := hw
        obtain ⟨q11, hw⟩ := hw
        refine r_iald d_Ex_compareSizes_35 q10 q11 ?_
        refine r_istore (ls2 := [(4, ai (gI h7 (gR h7 v0 1) (ix v2))), (0, ar v0), (1, ai v1), (2, ai v2), (3, ai v3)]) d_Ex_compareSizes_36 (nle rfl) rfl ?_
        obtain ⟨n27, hw⟩ := hw
        refine r_pick (ls2 := [(0, ar v0), (1, ai v1), (2, ai v2), (3, ai v3), (4, ai (gI h7 (gR h7 v0 1) (ix v2)))]) [1, 2, 3, 4, 0] rfl ?_
        exact s_Ex_compareSizes_L38 hd hQ ih n27 _ _ hw
      · replace hw := hw.1 (b2i_0.mp w9)
        refine r_goto d_Ex_compareSizes_27 ?_
        refine r_iinc (j := 3) (ls2 := [(3, ai (v3 + (1 : Int32))), (0, ar v0), (1, ai v1), (2, ai v2)]) d_Ex_compareSizes_143 rfl (congrArg (HAdd.hAdd v3) kc_1) (nle rfl) rfl ?_
        refine r_goto d_Ex_compareSizes_146 ?_
        refine r_pick (ls2 := [(0, ar v0), (1, ai v1), (2, ai v2), (3, ai (v3 + (1 : Int32)))]) [1, 2, 3, 0] rfl ?_
        exact ih _ _ hw
set_option maxRecDepth 100000 in
set_option maxHeartbeats 4000000 in
theorem s_Ex_compareSizes {d : Nat} (hd : 2 ≤ d) {v0 : Nat} {v1 : Int32} {v2 : Int32} {h : Hp} {Q : Hp → Prop} {QQ : Option AV → Hp → Prop} (hw : w_Ex_compareSizes v0 v1 v2 h Q) (hQ : ∀ h9, Q h9 → QQ none h9) : aCall m_Ex_compareSizes d [ar v0, ai v1, ai v2] h 0 0 QQ := by
  obtain ⟨d, rfl⟩ : ∃ d9, d = d9 + 1 := ⟨d - 1, by omega⟩
  refine aCall_in pl_Ex_compareSizes (nle rfl) ?_
  show aW none m_Ex_compareSizes (d + 1) 0 [(0, ar v0), (1, ai v1), (2, ai v2)] [] h 0 0 QQ
  unfold w_Ex_compareSizes at hw
  refine r_aload_n (j := 0) d_Ex_compareSizes_0 rfl ?_
  obtain ⟨q1, hw⟩ := hw
  refine r_getR d_Ex_compareSizes_1 ok_4 (nle rfl) (nle rfl) rfl lf_Ex_11 q1 ?_
  refine r_iload_n (j := 1) d_Ex_compareSizes_4 rfl ?_
  obtain ⟨q2, hw⟩ := hw
  obtain ⟨q3, hw⟩ := hw
  refine r_iald d_Ex_compareSizes_5 q2 q3 ?_
  refine r_istore_n (ls2 := [(3, ai (gI h (gR h v0 1) (ix v1))), (0, ar v0), (1, ai v1), (2, ai v2)]) d_Ex_compareSizes_6 (nle rfl) rfl ?_
  obtain ⟨n28, hw⟩ := hw
  refine r_pick (ls2 := [(0, ar v0), (1, ai v1), (2, ai v2), (3, ai (gI h (gR h v0 1) (ix v1)))]) [1, 2, 3, 0] rfl ?_
  exact s_Ex_compareSizes_L7 hd hQ  n28 _ _ hw
set_option maxRecDepth 100000 in
set_option maxHeartbeats 4000000 in
theorem s_Ex_findBest_L24 {d : Nat} (hd : 3 ≤ d + 1) {Q : Hp → Prop} {QQ : Option AV → Hp → Prop} (hQ : ∀ h9, Q h9 → QQ none h9) {k17 : Int32 → Hp → Prop} (hk17 : ∀ v2 h9, k17 v2 h9 → aW none m_Ex_findBest (d + 1) 17 [(0, ar v0), (1, ai v1), (2, ai v2)] [] h9 0 0 QQ) {v0 : Nat} {v1 : Int32} {v2 : Int32} : ∀ (n : Nat) (v3 : Int32) (h : Hp), w_Ex_findBest_L24 Q k17 v0 v1 v2 n v3 h → aW none m_Ex_findBest (d + 1) 24 [(0, ar v0), (1, ai v1), (2, ai v2), (3, ai v3)] [] h 0 0 QQ := by
  intro n
  induction n with
  | zero => intro v3 h hw; exact hw.elim
  | succ n ih =>
    intro v3 h hw
    unfold w_Ex_findBest_L24 at hw
    refine r_iload_n (j := 3) d_Ex_findBest_24 rfl ?_
    refine r_iload_n (j := 1) d_Ex_findBest_25 rfl ?_
    refine r_icmp_gt d_Ex_findBest_26 (fun w9 => ?_) (fun w9 => ?_)
    · replace hw := hw.1 w9
      refine r_iinc (j := 2) (ls2 := [(2, ai (v2 + (1 : Int32))), (0, ar v0), (1, ai v1), (3, ai v3)]) d_Ex_findBest_41 rfl (congrArg (HAdd.hAdd v2) kc_1) (nle rfl) rfl ?_
      refine r_goto d_Ex_findBest_44 ?_
      refine r_pick (ls2 := [(0, ar v0), (1, ai v1), (2, ai (v2 + (1 : Int32)))]) [1, 2, 0] rfl ?_
      exact hk17 _ _ hw
    · replace hw := hw.2 w9
      refine r_aload_n (j := 0) d_Ex_findBest_29 rfl ?_
      refine r_iload_n (j := 2) d_Ex_findBest_30 rfl ?_
      refine r_iload_n (j := 3) d_Ex_findBest_31 rfl ?_
      obtain ⟨q3, hw⟩ := hw
      refine r_callV (av := [ai v2, ai v3]) (rest := []) (ci := 4) d_Ex_findBest_32 mk_Ex_compareSizes ll_Ex_85 im_Ex_compareSizes se_Ex_compareSizes rfl (nle rfl) rfl rfl (nle rfl) q3 (s_Ex_compareSizes (by omega) hw (fun h2 hw => ?_))
      show aW none m_Ex_findBest (d + 1) 35 [(0, ar v0), (1, ai v1), (2, ai v2), (3, ai v3)] [] h2 0 0 QQ
      refine r_iinc (j := 3) (ls2 := [(3, ai (v3 + (1 : Int32))), (0, ar v0), (1, ai v1), (2, ai v2)]) d_Ex_findBest_35 rfl (congrArg (HAdd.hAdd v3) kc_1) (nle rfl) rfl ?_
      refine r_goto d_Ex_findBest_38 ?_
      refine r_pick (ls2 := [(0, ar v0), (1, ai v1), (2, ai v2), (3, ai (v3 + (1 : Int32)))]) [1, 2, 3, 0] rfl ?_
      exact ih _ _ hw
set_option maxRecDepth 100000 in
set_option maxHeartbeats 4000000 in
theorem s_Ex_findBest_L17 {d : Nat} (hd : 3 ≤ d + 1) {Q : Hp → Prop} {QQ : Option AV → Hp → Prop} (hQ : ∀ h9, Q h9 → QQ none h9) {v0 : Nat} {v1 : Int32} : ∀ (n : Nat) (v2 : Int32) (h : Hp), w_Ex_findBest_L17 Q  v0 v1 n v2 h → aW none m_Ex_findBest (d + 1) 17 [(0, ar v0), (1, ai v1), (2, ai v2)] [] h 0 0 QQ := by
  intro n
  induction n with
  | zero => intro v2 h hw; exact hw.elim
  | succ n ih =>
    intro v2 h hw
    unfold w_Ex_findBest_L17 at hw
    refine r_iload_n (j := 2) d_Ex_findBest_17 rfl ?_
    refine r_iload_n (j := 1) d_Ex_findBest_18 rfl ?_
    refine r_icmp_gt d_Ex_findBest_19 (fun w9 => ?_) (fun w9 => ?_)
    · replace hw := hw.1 w9
      exact r_return d_Ex_findBest_47.1 rfl (hQ _ hw)
    · replace hw := hw.2 w9
      refine r_iconst d_Ex_findBest_22 kc_0 ?_
      refine r_istore_n (ls2 := [(3, ai (0 : Int32)), (0, ar v0), (1, ai v1), (2, ai v2)]) d_Ex_findBest_23 (nle rfl) rfl ?_
      obtain ⟨n4, hw⟩ := hw
      refine r_pick (ls2 := [(0, ar v0), (1, ai v1), (2, ai v2), (3, ai (0 : Int32))]) [1, 2, 3, 0] rfl ?_
      exact s_Ex_findBest_L24 hd hQ ih n4 _ _ hw
set_option maxRecDepth 100000 in
set_option maxHeartbeats 4000000 in
theorem s_Ex_findBest {d : Nat} (hd : 3 ≤ d) {v0 : Nat} {v1 : Int32} {h : Hp} {Q : Hp → Prop} {QQ : Option AV → Hp → Prop} (hw : w_Ex_findBest v0 v1 h Q) (hQ : ∀ h9, Q h9 → QQ none h9) : aCall m_Ex_findBest d [ar v0, ai v1] h 0 0 QQ := by
  obtain ⟨d, rfl⟩ : ∃ d9, d = d9 + 1 := ⟨d - 1, by omega⟩
  refine aCall_in pl_Ex_findBest (nle rfl) ?_
  show aW none m_Ex_findBest (d + 1) 0 [(0, ar v0), (1, ai v1)] [] h 0 0 QQ
  unfold w_Ex_findBest at hw
  refine r_aload_n (j := 0) d_Ex_findBest_0 rfl ?_
  refine r_iconst d_Ex_findBest_1 kc_0 ?_
  obtain ⟨q1, hw⟩ := hw
  refine r_putI d_Ex_findBest_2 ok_4 (nle rfl) (nle rfl) rfl lf_Ex_51 rfl q1 ?_
  refine r_aload_n (j := 0) d_Ex_findBest_5 rfl ?_
  refine r_iconst d_Ex_findBest_6 kc_0 ?_
  refine r_putI d_Ex_findBest_7 ok_4 (nle rfl) (nle rfl) rfl lf_Ex_61 rfl q1 ?_
  refine r_aload_n (j := 0) d_Ex_findBest_10 rfl ?_
  refine r_iconst d_Ex_findBest_11 kc_0 ?_
  refine r_putI d_Ex_findBest_12 ok_4 (nle rfl) (nle rfl) rfl lf_Ex_54 rfl q1 ?_
  refine r_iconst d_Ex_findBest_15 kc_0 ?_
  refine r_istore_n (ls2 := [(2, ai (0 : Int32)), (0, ar v0), (1, ai v1)]) d_Ex_findBest_16 (nle rfl) rfl ?_
  obtain ⟨n5, hw⟩ := hw
  refine r_pick (ls2 := [(0, ar v0), (1, ai v1), (2, ai (0 : Int32))]) [1, 2, 0] rfl ?_
  exact s_Ex_findBest_L17 hd hQ  n5 _ _ hw
set_option maxRecDepth 100000 in
set_option maxHeartbeats 4000000 in
theorem s_Ex_keyOf {d : Nat} (hd : 1 ≤ d) {v0 : Nat} {v1 : Int32} {h : Hp} {Q : Int32 → Hp → Prop} {QQ : Option AV → Hp → Prop} (hw : w_Ex_keyOf v0 v1 h Q) (hQ : ∀ r9 h9, Q r9 h9 → QQ (some (ai r9)) h9) : aCall m_Ex_keyOf d [ar v0, ai v1] h 0 0 QQ := by
  obtain ⟨d, rfl⟩ : ∃ d9, d = d9 + 1 := ⟨d - 1, by omega⟩
  refine aCall_in pl_Ex_keyOf (nle rfl) ?_
  show aW none m_Ex_keyOf (d + 1) 0 [(0, ar v0), (1, ai v1)] [] h 0 0 QQ
  unfold w_Ex_keyOf at hw
  refine r_aload_n (j := 0) d_Ex_keyOf_0 rfl ?_
  obtain ⟨q1, hw⟩ := hw
  refine r_getR d_Ex_keyOf_1 ok_4 (nle rfl) (nle rfl) rfl lf_Ex_24 q1 ?_
  refine r_iload_n (j := 1) d_Ex_keyOf_4 rfl ?_
  refine r_iconst d_Ex_keyOf_5 kc_0 ?_
  obtain ⟨q4, hw⟩ := hw
  refine r_callV (av := [ai v1, ai (0 : Int32)]) (rest := []) (ci := 1) d_Ex_keyOf_6 mk_Co_numberOf ll_Ex_82 im_Co_numberOf se_Co_numberOf rfl (nle rfl) rfl rfl (nle rfl) q4 (s_Co_numberOf  hw (fun r3 h2 hw => ?_))
  show aW none m_Ex_keyOf (d + 1) 9 [(0, ar v0), (1, ai v1)] [ai r3] h2 0 0 QQ
  refine r_bipush d_Ex_keyOf_9 kb_64 ?_
  refine r_imul d_Ex_keyOf_11 ?_
  refine r_aload_n (j := 0) d_Ex_keyOf_12 rfl ?_
  obtain ⟨q5, hw⟩ := hw
  refine r_getR d_Ex_keyOf_13 ok_4 (nle rfl) (nle rfl) rfl lf_Ex_24 q5 ?_
  refine r_iload_n (j := 1) d_Ex_keyOf_16 rfl ?_
  refine r_iconst d_Ex_keyOf_17 kc_1 ?_
  obtain ⟨q8, hw⟩ := hw
  refine r_callV (av := [ai v1, ai (1 : Int32)]) (rest := [ai (r3 * (64 : Int32))]) (ci := 1) d_Ex_keyOf_18 mk_Co_numberOf ll_Ex_82 im_Co_numberOf se_Co_numberOf rfl (nle rfl) rfl rfl (nle rfl) q8 (s_Co_numberOf  hw (fun r7 h6 hw => ?_))
  show aW none m_Ex_keyOf (d + 1) 21 [(0, ar v0), (1, ai v1)] [ai r7, ai (r3 * (64 : Int32))] h6 0 0 QQ
  refine r_iadd d_Ex_keyOf_21 ?_
  refine r_bipush d_Ex_keyOf_22 kb_64 ?_
  refine r_imul d_Ex_keyOf_24 ?_
  refine r_aload_n (j := 0) d_Ex_keyOf_25 rfl ?_
  obtain ⟨q9, hw⟩ := hw
  refine r_getR d_Ex_keyOf_26 ok_4 (nle rfl) (nle rfl) rfl lf_Ex_24 q9 ?_
  refine r_iload_n (j := 1) d_Ex_keyOf_29 rfl ?_
  refine r_iconst d_Ex_keyOf_30 kc_2 ?_
  obtain ⟨q12, hw⟩ := hw
  refine r_callV (av := [ai v1, ai (2 : Int32)]) (rest := [ai (((r3 * (64 : Int32)) + r7) * (64 : Int32))]) (ci := 1) d_Ex_keyOf_31 mk_Co_numberOf ll_Ex_82 im_Co_numberOf se_Co_numberOf rfl (nle rfl) rfl rfl (nle rfl) q12 (s_Co_numberOf  hw (fun r11 h10 hw => ?_))
  show aW none m_Ex_keyOf (d + 1) 34 [(0, ar v0), (1, ai v1)] [ai r11, ai (((r3 * (64 : Int32)) + r7) * (64 : Int32))] h10 0 0 QQ
  refine r_iadd d_Ex_keyOf_34 ?_
  exact r_ireturn d_Ex_keyOf_35.1 rfl (hQ _ _ hw)
set_option maxRecDepth 100000 in
set_option maxHeartbeats 4000000 in
theorem s_Ex_extend_L19 {d : Nat} (hd : 2 ≤ d + 1) {Q : Int32 → Hp → Prop} {QQ : Option AV → Hp → Prop} (hQ : ∀ r9 h9, Q r9 h9 → QQ (some (ai r9)) h9) {v0 : Nat} {v1 : Int32} : ∀ (n : Nat) (v2 : Int32) (v4 : Int32) (h : Hp), w_Ex_extend_L19 Q  v0 v1 n v2 v4 h → aW none m_Ex_extend (d + 1) 19 [(0, ar v0), (1, ai v1), (2, ai v2), (4, ai v4)] [] h 0 0 QQ := by
  intro n
  induction n with
  | zero => intro v2 v4 h hw; exact hw.elim
  | succ n ih =>
    intro v2 v4 h hw
    unfold w_Ex_extend_L19 at hw
    refine r_iload (j := 3) d_Ex_extend_19 rfl ?_
    refine r_aload_n (j := 0) d_Ex_extend_21 rfl ?_
    obtain ⟨q6, hw⟩ := hw
    refine r_getR d_Ex_extend_22 ok_4 (nle rfl) (nle rfl) rfl lf_Ex_24 q6 ?_
    obtain ⟨q7, hw⟩ := hw
    refine r_getI d_Ex_extend_25 ok_1 (nle rfl) (nle rfl) rfl lf_Ex_72 q7 ?_
    refine r_icmp_ge d_Ex_extend_28 (fun w9 => ?_) (fun w9 => ?_)
    · replace hw := hw.1 w9
      refine r_iload_n (j := 2) d_Ex_extend_107 rfl ?_
      exact r_ireturn d_Ex_extend_108.1 rfl (hQ _ _ hw)
    · replace hw := hw.2 w9
      refine r_iload_n (j := 2) d_Ex_extend_31 rfl ?_
      refine r_sipush d_Ex_extend_32 ks_165 ?_
      refine r_icmp_ge d_Ex_extend_35 (fun w9 => ?_) (fun w9 => ?_)
      · replace hw := hw.1 w9
        refine r_iload_n (j := 2) d_Ex_extend_107 rfl ?_
        exact r_ireturn d_Ex_extend_108.1 rfl (hQ _ _ hw)
      · replace hw := hw.2 w9
        refine r_aload_n (j := 0) d_Ex_extend_38 rfl ?_
        refine r_getR d_Ex_extend_39 ok_4 (nle rfl) (nle rfl) rfl lf_Ex_15 q6 ?_
        refine r_iload_n (j := 2) d_Ex_extend_42 rfl ?_
        refine r_aload_n (j := 0) d_Ex_extend_43 rfl ?_
        refine r_getR d_Ex_extend_44 ok_4 (nle rfl) (nle rfl) rfl lf_Ex_15 q6 ?_
        refine r_iload_n (j := 1) d_Ex_extend_47 rfl ?_
        obtain ⟨q8, hw⟩ := hw
        obtain ⟨q9, hw⟩ := hw
        refine r_iald d_Ex_extend_48 q8 q9 ?_
        refine r_iconst d_Ex_extend_49 kc_4 ?_
        refine r_ishl d_Ex_extend_50 ?_
        refine r_iload (j := 3) d_Ex_extend_51 rfl ?_
        refine r_iconst d_Ex_extend_53 kc_1 ?_
        refine r_iadd d_Ex_extend_54 ?_
        refine r_ior d_Ex_extend_55 ?_
        obtain ⟨q10, hw⟩ := hw
        refine r_iast d_Ex_extend_56 q8 q10 ?_
        refine r_aload_n (j := 0) d_Ex_extend_57 rfl ?_
        refine r_getR d_Ex_extend_58 ok_4 (nle rfl) (nle rfl) rfl lf_Ex_18 q6 ?_
        refine r_iload_n (j := 2) d_Ex_extend_61 rfl ?_
        refine r_aload_n (j := 0) d_Ex_extend_62 rfl ?_
        refine r_getR d_Ex_extend_63 ok_4 (nle rfl) (nle rfl) rfl lf_Ex_18 q6 ?_
        refine r_iload_n (j := 1) d_Ex_extend_66 rfl ?_
        obtain ⟨q11, hw⟩ := hw
        obtain ⟨q12, hw⟩ := hw
        refine r_iald d_Ex_extend_67 q11 q12 ?_
        refine r_aload_n (j := 0) d_Ex_extend_68 rfl ?_
        refine r_iload (j := 3) d_Ex_extend_69 rfl ?_
        refine r_callV (av := [ai v4]) (rest := [ai (gI (sI h (gR h v0 2) (ix v2) ((jshl (gI h (gR h v0 2) (ix v1)) (4 : Int32)) ||| (v4 + (1 : Int32)))) (gR h v0 3) (ix v1)), ai v2, ar (gR h v0 3)]) (ci := 4) d_Ex_extend_71 mk_Ex_keyOf ll_Ex_75 im_Ex_keyOf se_Ex_keyOf rfl (nle rfl) rfl rfl (nle rfl) q6 (s_Ex_keyOf (by omega) hw (fun r14 h13 hw => ?_))
        show aW none m_Ex_extend (d + 1) 74 [(0, ar v0), (1, ai v1), (2, ai v2), (4, ai v4)] [ai r14, ai (gI (sI h (gR h v0 2) (ix v2) ((jshl (gI h (gR h v0 2) (ix v1)) (4 : Int32)) ||| (v4 + (1 : Int32)))) (gR h v0 3) (ix v1)), ai v2, ar (gR h v0 3)] h13 0 0 QQ
        refine r_iadd d_Ex_extend_74 ?_
        obtain ⟨q15, hw⟩ := hw
        obtain ⟨q16, hw⟩ := hw
        refine r_iast d_Ex_extend_75 q15 q16 ?_
        refine r_aload_n (j := 0) d_Ex_extend_76 rfl ?_
        obtain ⟨q17, hw⟩ := hw
        refine r_getR d_Ex_extend_77 ok_4 (nle rfl) (nle rfl) rfl lf_Ex_21 q17 ?_
        refine r_iload_n (j := 2) d_Ex_extend_80 rfl ?_
        refine r_aload_n (j := 0) d_Ex_extend_81 rfl ?_
        refine r_getR d_Ex_extend_82 ok_4 (nle rfl) (nle rfl) rfl lf_Ex_21 q17 ?_
        refine r_iload_n (j := 1) d_Ex_extend_85 rfl ?_
        obtain ⟨q18, hw⟩ := hw
        obtain ⟨q19, hw⟩ := hw
        refine r_iald d_Ex_extend_86 q18 q19 ?_
        refine r_aload_n (j := 0) d_Ex_extend_87 rfl ?_
        refine r_getR d_Ex_extend_88 ok_4 (nle rfl) (nle rfl) rfl lf_Ex_24 q17 ?_
        refine r_iload (j := 3) d_Ex_extend_91 rfl ?_
        obtain ⟨q22, hw⟩ := hw
        refine r_callV (av := [ai v4]) (rest := [ai (gI (sI h13 (gR h v0 3) (ix v2) ((gI (sI h (gR h v0 2) (ix v2) ((jshl (gI h (gR h v0 2) (ix v1)) (4 : Int32)) ||| (v4 + (1 : Int32)))) (gR h v0 3) (ix v1)) + r14)) (gR h13 v0 4) (ix v1)), ai v2, ar (gR h13 v0 4)]) (ci := 1) d_Ex_extend_93 mk_Co_gainOf ll_Ex_79 im_Co_gainOf se_Co_gainOf rfl (nle rfl) rfl rfl (nle rfl) q22 (s_Co_gainOf  hw (fun r21 h20 hw => ?_))
        show aW none m_Ex_extend (d + 1) 96 [(0, ar v0), (1, ai v1), (2, ai v2), (4, ai v4)] [ai r21, ai (gI (sI h13 (gR h v0 3) (ix v2) ((gI (sI h (gR h v0 2) (ix v2) ((jshl (gI h (gR h v0 2) (ix v1)) (4 : Int32)) ||| (v4 + (1 : Int32)))) (gR h v0 3) (ix v1)) + r14)) (gR h13 v0 4) (ix v1)), ai v2, ar (gR h13 v0 4)] h20 0 0 QQ
        refine r_iadd d_Ex_extend_96 ?_
        obtain ⟨q23, hw⟩ := hw
        obtain ⟨q24, hw⟩ := hw
        refine r_iast d_Ex_extend_97 q23 q24 ?_
        refine r_iinc (j := 2) (ls2 := [(2, ai (v2 + (1 : Int32))), (0, ar v0), (1, ai v1), (4, ai v4)]) d_Ex_extend_98 rfl (congrArg (HAdd.hAdd v2) kc_1) (nle rfl) rfl ?_
        refine r_iinc (j := 3) (ls2 := [(4, ai (v4 + (1 : Int32))), (2, ai (v2 + (1 : Int32))), (0, ar v0), (1, ai v1)]) d_Ex_extend_101 rfl (congrArg (HAdd.hAdd v4) kc_1) (nle rfl) rfl ?_
        refine r_goto d_Ex_extend_104 ?_
        refine r_pick (ls2 := [(0, ar v0), (1, ai v1), (2, ai (v2 + (1 : Int32))), (4, ai (v4 + (1 : Int32)))]) [2, 3, 1, 0] rfl ?_
        exact ih _ _ _ hw
set_option maxRecDepth 100000 in
set_option maxHeartbeats 4000000 in
theorem s_Ex_extend {d : Nat} (hd : 2 ≤ d) {v0 : Nat} {v1 : Int32} {v2 : Int32} {h : Hp} {Q : Int32 → Hp → Prop} {QQ : Option AV → Hp → Prop} (hw : w_Ex_extend v0 v1 v2 h Q) (hQ : ∀ r9 h9, Q r9 h9 → QQ (some (ai r9)) h9) : aCall m_Ex_extend d [ar v0, ai v1, ai v2] h 0 0 QQ := by
  obtain ⟨d, rfl⟩ : ∃ d9, d = d9 + 1 := ⟨d - 1, by omega⟩
  refine aCall_in pl_Ex_extend (nle rfl) ?_
  show aW none m_Ex_extend (d + 1) 0 [(0, ar v0), (1, ai v1), (2, ai v2)] [] h 0 0 QQ
  unfold w_Ex_extend at hw
  refine r_aload_n (j := 0) d_Ex_extend_0 rfl ?_
  obtain ⟨q1, hw⟩ := hw
  refine r_getR d_Ex_extend_1 ok_4 (nle rfl) (nle rfl) rfl lf_Ex_15 q1 ?_
  refine r_iload_n (j := 1) d_Ex_extend_4 rfl ?_
  obtain ⟨q2, hw⟩ := hw
  obtain ⟨q3, hw⟩ := hw
  refine r_iald d_Ex_extend_5 q2 q3 ?_
  refine r_bipush d_Ex_extend_6 kb_15 ?_
  refine r_iand d_Ex_extend_8 ?_
  refine r_iconst d_Ex_extend_9 kc_1 ?_
  refine r_isub d_Ex_extend_10 ?_
  refine r_iconst d_Ex_extend_11 kc_0 ?_
  refine r_callS (av := [ai (((gI h (gR h v0 2) (ix v1)) &&& (15 : Int32)) - (1 : Int32)), ai (0 : Int32)]) (rest := []) d_Ex_extend_12 mk_JM_max ll_Ex_67 st_JM_max rfl rfl (nle rfl) (s_JM_max  hw (fun r5 h4 hw => ?_))
  show aW none m_Ex_extend (d + 1) 15 [(0, ar v0), (1, ai v1), (2, ai v2)] [ai r5] h4 0 0 QQ
  refine r_istore_n (ls2 := [(3, ai r5), (0, ar v0), (1, ai v1), (2, ai v2)]) d_Ex_extend_15 (nle rfl) rfl ?_
  refine r_iload_n (j := 0) d_Ex_extend_16 rfl ?_
  refine r_istore (ls2 := [(4, ai r5), (3, ai r5), (0, ar v0), (1, ai v1), (2, ai v2)]) d_Ex_extend_17 (nle rfl) rfl ?_
  obtain ⟨n25, hw⟩ := hw
  refine r_pick (ls2 := [(0, ar v0), (1, ai v1), (2, ai v2), (4, ai r5)]) [2, 3, 4, 0] rfl ?_
  exact s_Ex_extend_L19 hd hQ  n25 _ _ _ hw
set_option maxRecDepth 100000 in
set_option maxHeartbeats 4000000 in
theorem s_Ex_listPlans_L53 {d : Nat} (hd : 3 ≤ d + 1) {Q : Hp → Prop} {QQ : Option AV → Hp → Prop} (hQ : ∀ h9, Q h9 → QQ none h9) {k39 : Int32 → Int32 → Hp → Prop} (hk39 : ∀ v1 v2 h9, k39 v1 v2 h9 → aW none m_Ex_listPlans (d + 1) 39 [(0, ar v0), (1, ai v1), (2, ai v2)] [] h9 0 0 QQ) {v0 : Nat} {v2 : Int32} : ∀ (n : Nat) (v1 : Int32) (v3 : Int32) (h : Hp), w_Ex_listPlans_L53 Q k39 v0 v2 n v1 v3 h → aW none m_Ex_listPlans (d + 1) 53 [(0, ar v0), (1, ai v1), (2, ai v2), (3, ai v3)] [] h 0 0 QQ := by
  intro n
  induction n with
  | zero => intro v1 v3 h hw; exact hw.elim
  | succ n ih =>
    intro v1 v3 h hw
    unfold w_Ex_listPlans_L53 at hw
    refine r_iload_n (j := 3) d_Ex_listPlans_53 rfl ?_
    refine r_aload_n (j := 0) d_Ex_listPlans_54 rfl ?_
    obtain ⟨q14, hw⟩ := hw
    refine r_getR d_Ex_listPlans_55 ok_4 (nle rfl) (nle rfl) rfl lf_Ex_11 q14 ?_
    refine r_iload_n (j := 2) d_Ex_listPlans_58 rfl ?_
    obtain ⟨q15, hw⟩ := hw
    obtain ⟨q16, hw⟩ := hw
    refine r_iald d_Ex_listPlans_59 q15 q16 ?_
    refine r_icmp_ge d_Ex_listPlans_60 (fun w9 => ?_) (fun w9 => ?_)
    · replace hw := hw.1 w9
      refine r_aload_n (j := 0) d_Ex_listPlans_76 rfl ?_
      refine r_getR d_Ex_listPlans_77 ok_4 (nle rfl) (nle rfl) rfl lf_Ex_11 q14 ?_
      refine r_iload_n (j := 2) d_Ex_listPlans_80 rfl ?_
      refine r_iconst d_Ex_listPlans_81 kc_1 ?_
      refine r_iadd d_Ex_listPlans_82 ?_
      refine r_iload_n (j := 1) d_Ex_listPlans_83 rfl ?_
      obtain ⟨q17, hw⟩ := hw
      refine r_iast d_Ex_listPlans_84 q15 q17 ?_
      refine r_iinc (j := 2) (ls2 := [(2, ai (v2 + (1 : Int32))), (0, ar v0), (1, ai v1), (3, ai v3)]) d_Ex_listPlans_85 rfl (congrArg (HAdd.hAdd v2) kc_1) (nle rfl) rfl ?_
      refine r_goto d_Ex_listPlans_88 ?_
      refine r_pick (ls2 := [(0, ar v0), (1, ai v1), (2, ai (v2 + (1 : Int32)))]) [1, 2, 0] rfl ?_
      exact hk39 _ _ _ hw
    · replace hw := hw.2 w9
      refine r_aload_n (j := 0) d_Ex_listPlans_63 rfl ?_
      refine r_iload_n (j := 3) d_Ex_listPlans_64 rfl ?_
      refine r_iload_n (j := 1) d_Ex_listPlans_65 rfl ?_
      refine r_callV (av := [ai v3, ai v1]) (rest := []) (ci := 4) d_Ex_listPlans_66 mk_Ex_extend ll_Ex_64 im_Ex_extend se_Ex_extend rfl (nle rfl) rfl rfl (nle rfl) q14 (s_Ex_extend (by omega) hw (fun r19 h18 hw => ?_))
      show aW none m_Ex_listPlans (d + 1) 69 [(0, ar v0), (1, ai v1), (2, ai v2), (3, ai v3)] [ai r19] h18 0 0 QQ
      refine r_istore_n (ls2 := [(1, ai r19), (0, ar v0), (2, ai v2), (3, ai v3)]) d_Ex_listPlans_69 (nle rfl) rfl ?_
      refine r_iinc (j := 3) (ls2 := [(3, ai (v3 + (1 : Int32))), (1, ai r19), (0, ar v0), (2, ai v2)]) d_Ex_listPlans_70 rfl (congrArg (HAdd.hAdd v3) kc_1) (nle rfl) rfl ?_
      refine r_goto d_Ex_listPlans_73 ?_
      refine r_pick (ls2 := [(0, ar v0), (1, ai r19), (2, ai v2), (3, ai (v3 + (1 : Int32)))]) [2, 1, 3, 0] rfl ?_
      exact ih _ _ _ hw
set_option maxRecDepth 100000 in
set_option maxHeartbeats 4000000 in
theorem s_Ex_listPlans_L39 {d : Nat} (hd : 3 ≤ d + 1) {Q : Hp → Prop} {QQ : Option AV → Hp → Prop} (hQ : ∀ h9, Q h9 → QQ none h9) {v0 : Nat} : ∀ (n : Nat) (v1 : Int32) (v2 : Int32) (h : Hp), w_Ex_listPlans_L39 Q  v0 n v1 v2 h → aW none m_Ex_listPlans (d + 1) 39 [(0, ar v0), (1, ai v1), (2, ai v2)] [] h 0 0 QQ := by
  intro n
  induction n with
  | zero => intro v1 v2 h hw; exact hw.elim
  | succ n ih =>
    intro v1 v2 h hw
    unfold w_Ex_listPlans_L39 at hw
    refine r_iload_n (j := 2) d_Ex_listPlans_39 rfl ?_
    refine r_iconst d_Ex_listPlans_40 kc_3 ?_
    refine r_icmp_gt d_Ex_listPlans_41 (fun w9 => ?_) (fun w9 => ?_)
    · replace hw := hw.1 w9
      exact r_return d_Ex_listPlans_91.1 rfl (hQ _ hw)
    · replace hw := hw.2 w9
      refine r_aload_n (j := 0) d_Ex_listPlans_44 rfl ?_
      obtain ⟨q11, hw⟩ := hw
      refine r_getR d_Ex_listPlans_45 ok_4 (nle rfl) (nle rfl) rfl lf_Ex_11 q11 ?_
      refine r_iload_n (j := 2) d_Ex_listPlans_48 rfl ?_
      refine r_iconst d_Ex_listPlans_49 kc_1 ?_
      refine r_isub d_Ex_listPlans_50 ?_
      obtain ⟨q12, hw⟩ := hw
      obtain ⟨q13, hw⟩ := hw
      refine r_iald d_Ex_listPlans_51 q12 q13 ?_
      refine r_istore_n (ls2 := [(3, ai (gI h (gR h v0 1) (ix (v2 - (1 : Int32))))), (0, ar v0), (1, ai v1), (2, ai v2)]) d_Ex_listPlans_52 (nle rfl) rfl ?_
      obtain ⟨n20, hw⟩ := hw
      refine r_pick (ls2 := [(0, ar v0), (1, ai v1), (2, ai v2), (3, ai (gI h (gR h v0 1) (ix (v2 - (1 : Int32)))))]) [1, 2, 3, 0] rfl ?_
      exact s_Ex_listPlans_L53 hd hQ ih n20 _ _ _ hw
set_option maxRecDepth 100000 in
set_option maxHeartbeats 4000000 in
theorem s_Ex_listPlans {d : Nat} (hd : 3 ≤ d) {v0 : Nat} {h : Hp} {Q : Hp → Prop} {QQ : Option AV → Hp → Prop} (hw : w_Ex_listPlans v0 h Q) (hQ : ∀ h9, Q h9 → QQ none h9) : aCall m_Ex_listPlans d [ar v0] h 0 0 QQ := by
  obtain ⟨d, rfl⟩ : ∃ d9, d = d9 + 1 := ⟨d - 1, by omega⟩
  refine aCall_in pl_Ex_listPlans (nle rfl) ?_
  show aW none m_Ex_listPlans (d + 1) 0 [(0, ar v0)] [] h 0 0 QQ
  unfold w_Ex_listPlans at hw
  refine r_aload_n (j := 0) d_Ex_listPlans_0 rfl ?_
  obtain ⟨q1, hw⟩ := hw
  refine r_getR d_Ex_listPlans_1 ok_4 (nle rfl) (nle rfl) rfl lf_Ex_15 q1 ?_
  refine r_iconst d_Ex_listPlans_4 kc_0 ?_
  refine r_iconst d_Ex_listPlans_5 kc_0 ?_
  obtain ⟨q2, hw⟩ := hw
  obtain ⟨q3, hw⟩ := hw
  refine r_iast d_Ex_listPlans_6 q2 q3 ?_
  refine r_aload_n (j := 0) d_Ex_listPlans_7 rfl ?_
  refine r_getR d_Ex_listPlans_8 ok_4 (nle rfl) (nle rfl) rfl lf_Ex_18 q1 ?_
  refine r_iconst d_Ex_listPlans_11 kc_0 ?_
  refine r_iconst d_Ex_listPlans_12 kc_0 ?_
  obtain ⟨q4, hw⟩ := hw
  obtain ⟨q5, hw⟩ := hw
  refine r_iast d_Ex_listPlans_13 q4 q5 ?_
  refine r_aload_n (j := 0) d_Ex_listPlans_14 rfl ?_
  refine r_getR d_Ex_listPlans_15 ok_4 (nle rfl) (nle rfl) rfl lf_Ex_21 q1 ?_
  refine r_iconst d_Ex_listPlans_18 kc_0 ?_
  refine r_iconst d_Ex_listPlans_19 kc_0 ?_
  obtain ⟨q6, hw⟩ := hw
  obtain ⟨q7, hw⟩ := hw
  refine r_iast d_Ex_listPlans_20 q6 q7 ?_
  refine r_aload_n (j := 0) d_Ex_listPlans_21 rfl ?_
  refine r_getR d_Ex_listPlans_22 ok_4 (nle rfl) (nle rfl) rfl lf_Ex_11 q1 ?_
  refine r_iconst d_Ex_listPlans_25 kc_0 ?_
  refine r_iconst d_Ex_listPlans_26 kc_0 ?_
  obtain ⟨q8, hw⟩ := hw
  obtain ⟨q9, hw⟩ := hw
  refine r_iast d_Ex_listPlans_27 q8 q9 ?_
  refine r_aload_n (j := 0) d_Ex_listPlans_28 rfl ?_
  refine r_getR d_Ex_listPlans_29 ok_4 (nle rfl) (nle rfl) rfl lf_Ex_11 q1 ?_
  refine r_iconst d_Ex_listPlans_32 kc_1 ?_
  refine r_iconst d_Ex_listPlans_33 kc_1 ?_
  obtain ⟨q10, hw⟩ := hw
  refine r_iast d_Ex_listPlans_34 q8 q10 ?_
  refine r_iconst d_Ex_listPlans_35 kc_1 ?_
  refine r_istore_n (ls2 := [(1, ai (1 : Int32)), (0, ar v0)]) d_Ex_listPlans_36 (nle rfl) rfl ?_
  refine r_iconst d_Ex_listPlans_37 kc_1 ?_
  refine r_istore_n (ls2 := [(2, ai (1 : Int32)), (1, ai (1 : Int32)), (0, ar v0)]) d_Ex_listPlans_38 (nle rfl) rfl ?_
  obtain ⟨n21, hw⟩ := hw
  refine r_pick (ls2 := [(0, ar v0), (1, ai (1 : Int32)), (2, ai (1 : Int32))]) [2, 1, 0] rfl ?_
  exact s_Ex_listPlans_L39 hd hQ  n21 _ _ _ hw
set_option maxRecDepth 100000 in
set_option maxHeartbeats 4000000 in
theorem s_Ex_find_B71 {d : Nat} (hd : 4 ≤ d + 1) {Q : Bool → Hp → Prop} {QQ : Option AV → Hp → Prop} (hQ : ∀ r9 h9, Q r9 h9 → QQ (some (ai (b2i r9))) h9) {v0 : Nat} {h : Hp} (hw : w_Ex_find_B71 Q  v0 h) : aW none m_Ex_find (d + 1) 71 [(0, ar v0)] [] h 0 0 QQ := by
  unfold w_Ex_find_B71 at hw
  refine r_aload_n (j := 0) d_Ex_find_71 rfl ?_
  obtain ⟨q7, hw⟩ := hw
  refine r_getI d_Ex_find_72 ok_4 (nle rfl) (nle rfl) rfl lf_Ex_51 q7 ?_
  refine r_if_le d_Ex_find_75 (fun w9 => ?_) (fun w9 => ?_)
  · replace hw := hw.1 w9
    refine r_iconst d_Ex_find_82 kc_0 ?_
    exact r_zreturn d_Ex_find_83.1 rfl (Or.inl rfl) (hQ _ _ hw)
  · replace hw := hw.2 w9
    refine r_iconst d_Ex_find_78 kc_1 ?_
    refine r_goto d_Ex_find_79 ?_
    exact r_zreturn d_Ex_find_83.1 rfl (Or.inr rfl) (hQ _ _ hw)
set_option maxRecDepth 100000 in
set_option maxHeartbeats 4000000 in
theorem s_Ex_find_B41 {d : Nat} (hd : 4 ≤ d + 1) {Q : Bool → Hp → Prop} {QQ : Option AV → Hp → Prop} (hQ : ∀ r9 h9, Q r9 h9 → QQ (some (ai (b2i r9))) h9) {v0 : Nat} {v1 : Int32} {h : Hp} (hw : w_Ex_find_B41 Q  v0 v1 h) : aW none m_Ex_find (d + 1) 41 [(0, ar v0), (1, ai v1)] [] h 0 0 QQ := by
  unfold w_Ex_find_B41 at hw
  refine r_aload_n (j := 0) d_Ex_find_41 rfl ?_
  refine r_iconst d_Ex_find_42 kc_1 ?_
  obtain ⟨q2, hw⟩ := hw
  refine r_putZ d_Ex_find_43 ok_4 (nle rfl) (nle rfl) rfl lf_Ex_28 rfl q2 (Or.inr rfl) ?_
  refine r_aload_n (j := 0) d_Ex_find_46 rfl ?_
  refine r_aload_n (j := 0) d_Ex_find_47 rfl ?_
  refine r_getR d_Ex_find_48 ok_4 (nle rfl) (nle rfl) rfl lf_Ex_24 q2 ?_
  obtain ⟨q3, hw⟩ := hw
  refine r_getI d_Ex_find_51 ok_1 (nle rfl) (nle rfl) rfl lf_Ex_36 q3 ?_
  refine r_putI d_Ex_find_54 ok_4 (nle rfl) (nle rfl) rfl lf_Ex_32 rfl q2 ?_
  refine r_aload_n (j := 0) d_Ex_find_57 rfl ?_
  refine r_iload_n (j := 1) d_Ex_find_58 rfl ?_
  refine r_putI d_Ex_find_59 ok_4 (nle rfl) (nle rfl) rfl lf_Ex_41 rfl q2 ?_
  refine r_aload_n (j := 0) d_Ex_find_62 rfl ?_
  refine r_callV (av := []) (rest := []) (ci := 4) d_Ex_find_63 mk_Ex_listPlans ll_Ex_44 im_Ex_listPlans se_Ex_listPlans rfl (nle rfl) rfl rfl (nle rfl) q2 (s_Ex_listPlans (by omega) hw (fun h4 hw => ?_))
  show aW none m_Ex_find (d + 1) 66 [(0, ar v0), (1, ai v1)] [] h4 0 0 QQ
  refine r_aload_n (j := 0) d_Ex_find_66 rfl ?_
  refine r_iload_n (j := 1) d_Ex_find_67 rfl ?_
  obtain ⟨q6, hw⟩ := hw
  refine r_callV (av := [ai v1]) (rest := []) (ci := 4) d_Ex_find_68 mk_Ex_findBest ll_Ex_47 im_Ex_findBest se_Ex_findBest rfl (nle rfl) rfl rfl (nle rfl) q6 (s_Ex_findBest (by omega) hw (fun h5 hw => ?_))
  show aW none m_Ex_find (d + 1) 71 [(0, ar v0), (1, ai v1)] [] h5 0 0 QQ
  refine r_pick (ls2 := [(0, ar v0)]) [0] rfl ?_
  exact s_Ex_find_B71 hd hQ  hw
set_option maxRecDepth 100000 in
set_option maxHeartbeats 4000000 in
theorem s_Ex_find {d : Nat} (hd : 4 ≤ d) {v0 : Nat} {v1 : Int32} {h : Hp} {Q : Bool → Hp → Prop} {QQ : Option AV → Hp → Prop} (hw : w_Ex_find v0 v1 h Q) (hQ : ∀ r9 h9, Q r9 h9 → QQ (some (ai (b2i r9))) h9) : aCall m_Ex_find d [ar v0, ai v1] h 0 0 QQ := by
  obtain ⟨d, rfl⟩ : ∃ d9, d = d9 + 1 := ⟨d - 1, by omega⟩
  refine aCall_in pl_Ex_find (nle rfl) ?_
  show aW none m_Ex_find (d + 1) 0 [(0, ar v0), (1, ai v1)] [] h 0 0 QQ
  unfold w_Ex_find at hw
  refine r_iload_n (j := 1) d_Ex_find_0 rfl ?_
  refine r_iconst d_Ex_find_1 kc_1 ?_
  refine r_icmp_lt d_Ex_find_2 (fun w9 => ?_) (fun w9 => ?_)
  · replace hw := hw.1 w9
    refine r_iconst d_Ex_find_10 kc_0 ?_
    exact r_zreturn d_Ex_find_11.1 rfl (Or.inl rfl) (hQ _ _ hw)
  · replace hw := hw.2 w9
    refine r_iload_n (j := 1) d_Ex_find_5 rfl ?_
    refine r_iconst d_Ex_find_6 kc_3 ?_
    refine r_icmp_le d_Ex_find_7 (fun w9 => ?_) (fun w9 => ?_)
    · replace hw := hw.1 w9
      refine r_aload_n (j := 0) d_Ex_find_12 rfl ?_
      obtain ⟨q1, hw⟩ := hw
      refine r_getI d_Ex_find_13 ok_4 (nle rfl) (nle rfl) rfl lf_Ex_28 q1 ?_
      refine r_if_eq d_Ex_find_16 (fun w9 => ?_) (fun w9 => ?_)
      · replace hw := hw.1 w9
        exact s_Ex_find_B41 hd hQ  hw
      · replace hw := hw.2 w9
        refine r_aload_n (j := 0) d_Ex_find_19 rfl ?_
        refine r_getI d_Ex_find_20 ok_4 (nle rfl) (nle rfl) rfl lf_Ex_32 q1 ?_
        refine r_aload_n (j := 0) d_Ex_find_23 rfl ?_
        refine r_getR d_Ex_find_24 ok_4 (nle rfl) (nle rfl) rfl lf_Ex_24 q1 ?_
        obtain ⟨q8, hw⟩ := hw
        refine r_getI d_Ex_find_27 ok_1 (nle rfl) (nle rfl) rfl lf_Ex_36 q8 ?_
        refine r_icmp_ne d_Ex_find_30 (fun w9 => ?_) (fun w9 => ?_)
        · replace hw := hw.2 w9
          exact s_Ex_find_B41 hd hQ  hw
        · replace hw := hw.1 w9
          refine r_aload_n (j := 0) d_Ex_find_33 rfl ?_
          refine r_getI d_Ex_find_34 ok_4 (nle rfl) (nle rfl) rfl lf_Ex_41 q1 ?_
          refine r_iload_n (j := 1) d_Ex_find_37 rfl ?_
          refine r_icmp_eq d_Ex_find_38 (fun w9 => ?_) (fun w9 => ?_)
          · replace hw := hw.1 w9
            refine r_pick (ls2 := [(0, ar v0)]) [0] rfl ?_
            exact s_Ex_find_B71 hd hQ  hw
          · replace hw := hw.2 w9
            exact s_Ex_find_B41 hd hQ  hw
    · replace hw := hw.2 w9
      refine r_iconst d_Ex_find_10 kc_0 ?_
      exact r_zreturn d_Ex_find_11.1 rfl (Or.inl rfl) (hQ _ _ hw)
set_option maxRecDepth 100000 in
set_option maxHeartbeats 4000000 in
theorem s_Kn_init {d : Nat} (hd : 1 ≤ d) {v0 : Nat} {v1 : Nat} {v2 : Nat} {bc bs : Nat} {h : Hp} {Q : Hp → Prop} {QQ : Option AV → Hp → Prop} (hw : w_Kn_init bc bs v0 v1 v2 h Q) (hQ : ∀ h9, Q h9 → QQ none h9) : aCall m_Kn_init d [ar v0, ar v1, ar v2] h bc bs QQ := by
  obtain ⟨d, rfl⟩ : ∃ d9, d = d9 + 1 := ⟨d - 1, by omega⟩
  refine aCall_in pl_Kn_init (nle rfl) ?_
  show aW none m_Kn_init (d + 1) 0 [(0, ar v0), (1, ar v1), (2, ar v2)] [] h bc bs QQ
  unfold w_Kn_init at hw
  refine r_aload_n (j := 0) d_Kn_init_0 rfl ?_
  obtain ⟨q1, hw⟩ := hw
  refine r_objInit d_Kn_init_1 ll_Kn_5 oi_1 oi_2 (nle rfl) q1 ?_
  refine r_aload_n (j := 0) d_Kn_init_4 rfl ?_
  refine r_bipush d_Kn_init_5 kb_20 ?_
  obtain ⟨q2, hw⟩ := hw
  obtain ⟨q3, hw⟩ := hw
  obtain ⟨q4, hw⟩ := hw
  obtain ⟨b5, t6, u8, u9, u6, u7, hw⟩ := hw
  subst u8 u9
  refine r_newI d_Kn_init_7 ac_I u6 rfl u7 (refB_r q2 refB_n) (refL_r q2 (refL_r q4 (refL_r q3 refL_n))) ?_
  generalize e8 : nw h 20 (ix (20 : Int32)) = h7 at hw ⊢
  generalize e7 : gX h = a8 at hw ⊢
  replace hw := hw a8 h7 e7.symm e8.symm
  obtain ⟨q9, hw⟩ := hw
  obtain ⟨q10, hw⟩ := hw
  refine r_putFR d_Kn_init_9 ok_5 (nle rfl) (nle rfl) rfl lf_Kn_11 rfl rfl rfl q9 q10 ?_
  refine r_aload_n (j := 0) d_Kn_init_12 rfl ?_
  refine r_bipush d_Kn_init_13 kb_20 ?_
  obtain ⟨q11, hw⟩ := hw
  obtain ⟨q12, hw⟩ := hw
  obtain ⟨q13, hw⟩ := hw
  obtain ⟨b14, t15, u8, u9, u6, u7, hw⟩ := hw
  subst u8 u9
  refine r_newI d_Kn_init_15 ac_I u6 rfl u7 (refB_r q11 refB_n) (refL_r q11 (refL_r q13 (refL_r q12 refL_n))) ?_
  generalize e8 : nw (sR h7 v0 2 a8) 20 (ix (20 : Int32)) = h16 at hw ⊢
  generalize e7 : gX (sR h7 v0 2 a8) = a17 at hw ⊢
  replace hw := hw a17 h16 e7.symm e8.symm
  obtain ⟨q18, hw⟩ := hw
  obtain ⟨q19, hw⟩ := hw
  refine r_putFR d_Kn_init_17 ok_5 (nle rfl) (nle rfl) rfl lf_Kn_15 rfl rfl rfl q18 q19 ?_
  refine r_aload_n (j := 0) d_Kn_init_20 rfl ?_
  refine r_bipush d_Kn_init_21 kb_20 ?_
  obtain ⟨q20, hw⟩ := hw
  obtain ⟨q21, hw⟩ := hw
  obtain ⟨q22, hw⟩ := hw
  obtain ⟨b23, t24, u8, u9, u6, u7, hw⟩ := hw
  subst u8 u9
  refine r_newI d_Kn_init_23 ac_I u6 rfl u7 (refB_r q20 refB_n) (refL_r q20 (refL_r q22 (refL_r q21 refL_n))) ?_
  generalize e8 : nw (sR h16 v0 3 a17) 20 (ix (20 : Int32)) = h25 at hw ⊢
  generalize e7 : gX (sR h16 v0 3 a17) = a26 at hw ⊢
  replace hw := hw a26 h25 e7.symm e8.symm
  obtain ⟨q27, hw⟩ := hw
  obtain ⟨q28, hw⟩ := hw
  refine r_putFR d_Kn_init_25 ok_5 (nle rfl) (nle rfl) rfl lf_Kn_18 rfl rfl rfl q27 q28 ?_
  refine r_aload_n (j := 0) d_Kn_init_28 rfl ?_
  refine r_sipush d_Kn_init_29 ks_162 ?_
  obtain ⟨q29, hw⟩ := hw
  obtain ⟨q30, hw⟩ := hw
  obtain ⟨q31, hw⟩ := hw
  obtain ⟨b32, t33, u8, u9, u6, u7, hw⟩ := hw
  subst u8 u9
  refine r_newI d_Kn_init_32 ac_I u6 rfl u7 (refB_r q29 refB_n) (refL_r q29 (refL_r q31 (refL_r q30 refL_n))) ?_
  generalize e8 : nw (sR h25 v0 4 a26) 20 (ix (162 : Int32)) = h34 at hw ⊢
  generalize e7 : gX (sR h25 v0 4 a26) = a35 at hw ⊢
  replace hw := hw a35 h34 e7.symm e8.symm
  obtain ⟨q36, hw⟩ := hw
  obtain ⟨q37, hw⟩ := hw
  refine r_putFR d_Kn_init_34 ok_5 (nle rfl) (nle rfl) rfl lf_Kn_21 rfl rfl rfl q36 q37 ?_
  refine r_aload_n (j := 0) d_Kn_init_37 rfl ?_
  refine r_aload_n (j := 1) d_Kn_init_38 rfl ?_
  obtain ⟨q38, hw⟩ := hw
  refine r_putFR d_Kn_init_39 ok_5 (nle rfl) (nle rfl) rfl lf_Kn_24 rfl rfl rfl q36 q38 ?_
  refine r_aload_n (j := 0) d_Kn_init_42 rfl ?_
  refine r_aload_n (j := 2) d_Kn_init_43 rfl ?_
  obtain ⟨q39, hw⟩ := hw
  refine r_putFR d_Kn_init_44 ok_5 (nle rfl) (nle rfl) rfl lf_Kn_28 rfl rfl rfl q36 q39 ?_
  exact r_return d_Kn_init_47.1 rfl (hQ _ hw)
set_option maxRecDepth 100000 in
set_option maxHeartbeats 4000000 in
theorem s_Kn_forget {d : Nat} {v0 : Nat} {h : Hp} {Q : Hp → Prop} {QQ : Option AV → Hp → Prop} (hw : w_Kn_forget v0 h Q) (hQ : ∀ h9, Q h9 → QQ none h9) : aCall m_Kn_forget d [ar v0] h 0 0 QQ := by
  refine aCall_in pl_Kn_forget (nle rfl) ?_
  show aW none m_Kn_forget d 0 [(0, ar v0)] [] h 0 0 QQ
  unfold w_Kn_forget at hw
  refine r_aload_n (j := 0) d_Kn_forget_0 rfl ?_
  refine r_iconst d_Kn_forget_1 kc_0 ?_
  obtain ⟨q1, hw⟩ := hw
  refine r_putI d_Kn_forget_2 ok_5 (nle rfl) (nle rfl) rfl lf_Kn_32 rfl q1 ?_
  exact r_return d_Kn_forget_5.1 rfl (hQ _ hw)
set_option maxRecDepth 100000 in
set_option maxHeartbeats 4000000 in
theorem s_Ps_isOutOfReach_L2 {d : Nat} {Q : Bool → Hp → Prop} {QQ : Option AV → Hp → Prop} (hQ : ∀ r9 h9, Q r9 h9 → QQ (some (ai (b2i r9))) h9) {v0 : Nat} {v1 : Int32} {v2 : Int32} : ∀ (n : Nat) (v3 : Int32) (h : Hp), w_Ps_isOutOfReach_L2 Q  v0 v1 v2 n v3 h → aW none m_Ps_isOutOfReach d 2 [(0, ar v0), (1, ai v1), (2, ai v2), (3, ai v3)] [] h 0 0 QQ := by
  intro n
  induction n with
  | zero => intro v3 h hw; exact hw.elim
  | succ n ih =>
    intro v3 h hw
    unfold w_Ps_isOutOfReach_L2 at hw
    refine r_iload_n (j := 3) d_Ps_isOutOfReach_2 rfl ?_
    refine r_iconst d_Ps_isOutOfReach_3 kc_3 ?_
    refine r_icmp_ge d_Ps_isOutOfReach_4 (fun w9 => ?_) (fun w9 => ?_)
    · replace hw := hw.1 w9
      refine r_iconst d_Ps_isOutOfReach_58 kc_0 ?_
      exact r_zreturn d_Ps_isOutOfReach_59.1 rfl (Or.inl rfl) (hQ _ _ hw)
    · replace hw := hw.2 w9
      refine r_iload_n (j := 1) d_Ps_isOutOfReach_7 rfl ?_
      refine r_iconst d_Ps_isOutOfReach_8 kc_3 ?_
      refine r_imul d_Ps_isOutOfReach_9 ?_
      refine r_iload_n (j := 3) d_Ps_isOutOfReach_10 rfl ?_
      refine r_iadd d_Ps_isOutOfReach_11 ?_
      refine r_istore (ls2 := [(4, ai ((v1 * (3 : Int32)) + v3)), (0, ar v0), (1, ai v1), (2, ai v2), (3, ai v3)]) d_Ps_isOutOfReach_12 (nle rfl) rfl ?_
      refine r_aload_n (j := 1) d_Ps_isOutOfReach_14 rfl ?_
      obtain ⟨q1, hw⟩ := hw
      refine r_getR d_Ps_isOutOfReach_15 ok_7 (nle rfl) (nle rfl) rfl lf_Ps_9 q1 ?_
      refine r_iload_n (j := 4) d_Ps_isOutOfReach_18 rfl ?_
      obtain ⟨q2, hw⟩ := hw
      obtain ⟨q3, hw⟩ := hw
      refine r_iald d_Ps_isOutOfReach_19 q2 q3 ?_
      refine r_iload_n (j := 3) d_Ps_isOutOfReach_20 rfl ?_
      refine r_aload_n (j := 1) d_Ps_isOutOfReach_21 rfl ?_
      refine r_getR d_Ps_isOutOfReach_22 ok_7 (nle rfl) (nle rfl) rfl lf_Ps_24 q1 ?_
      refine r_iload (j := 0) d_Ps_isOutOfReach_25 rfl ?_
      obtain ⟨q4, hw⟩ := hw
      obtain ⟨q5, hw⟩ := hw
      refine r_iald d_Ps_isOutOfReach_27 q4 q5 ?_
      refine r_imul d_Ps_isOutOfReach_28 ?_
      refine r_icmp_lt d_Ps_isOutOfReach_29 (fun w9 => ?_) (fun w9 => ?_)
      · replace hw := hw.1 w9
        refine r_iconst d_Ps_isOutOfReach_50 kc_1 ?_
        exact r_zreturn d_Ps_isOutOfReach_51.1 rfl (Or.inr rfl) (hQ _ _ hw)
      · replace hw := hw.2 w9
        refine r_aload_n (j := 1) d_Ps_isOutOfReach_32 rfl ?_
        refine r_getR d_Ps_isOutOfReach_33 ok_7 (nle rfl) (nle rfl) rfl lf_Ps_9 q1 ?_
        refine r_iload_n (j := 4) d_Ps_isOutOfReach_36 rfl ?_
        refine r_iald d_Ps_isOutOfReach_37 q2 q3 ?_
        refine r_iload_n (j := 3) d_Ps_isOutOfReach_38 rfl ?_
        refine r_aload_n (j := 1) d_Ps_isOutOfReach_39 rfl ?_
        refine r_getR d_Ps_isOutOfReach_40 ok_7 (nle rfl) (nle rfl) rfl lf_Ps_27 q1 ?_
        refine r_iload (j := 0) d_Ps_isOutOfReach_43 rfl ?_
        obtain ⟨q6, hw⟩ := hw
        obtain ⟨q7, hw⟩ := hw
        refine r_iald d_Ps_isOutOfReach_45 q6 q7 ?_
        refine r_imul d_Ps_isOutOfReach_46 ?_
        refine r_icmp_le d_Ps_isOutOfReach_47 (fun w9 => ?_) (fun w9 => ?_)
        · replace hw := hw.1 w9
          refine r_iinc (j := 4) (ls2 := [(3, ai (v3 + (1 : Int32))), (4, ai ((v1 * (3 : Int32)) + v3)), (0, ar v0), (1, ai v1), (2, ai v2)]) d_Ps_isOutOfReach_52 rfl (congrArg (HAdd.hAdd v3) kc_1) (nle rfl) rfl ?_
          refine r_goto d_Ps_isOutOfReach_55 ?_
          refine r_pick (ls2 := [(0, ar v0), (1, ai v1), (2, ai v2), (3, ai (v3 + (1 : Int32)))]) [2, 3, 4, 0] rfl ?_
          exact ih _ _ hw
        · replace hw := hw.2 w9
          refine r_iconst d_Ps_isOutOfReach_50 kc_1 ?_
          exact r_zreturn d_Ps_isOutOfReach_51.1 rfl (Or.inr rfl) (hQ _ _ hw)
