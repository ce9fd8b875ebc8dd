set_option maxRecDepth 100000 in
set_option maxHeartbeats 4000000 in
theorem s_M_holding {d : Nat} (hd : 3 ≤ d) {v0 : Nat} {v1 : Int32} {h : Hp} {Q : Int32 → Hp → Prop} {QQ : Option AV → Hp → Prop} (hw : w_M_holding v0 v1 h Q) (hQ : ∀ r9 h9, Q r9 h9 → QQ (some (ai r9)) h9) : aCall m_M_holding d [ar v0, ai v1] h 0 0 QQ := by
  obtain ⟨d, rfl⟩ : ∃ d9, d = d9 + 1 := ⟨d - 1, by omega⟩
  refine aCall_in pl_M_holding (nle rfl) ?_
  show aW none m_M_holding (d + 1) 0 [(0, ar v0), (1, ai v1)] [] h 0 0 QQ
  unfold w_M_holding at hw
  refine r_iload_n (j := 1) d_M_holding_0 rfl ?_
  refine r_iconst d_M_holding_1 kc_0 ?_
  refine r_iconst d_M_holding_2 kc_2 ?_
  refine r_callS (av := [ai v1, ai (0 : Int32), ai (2 : Int32)]) (rest := []) d_M_holding_3 mk_M_isIn ll_M_148 st_M_isIn rfl rfl (nle rfl) (s_M_isIn  hw (fun r2 h1 hw => ?_))
  show aW none m_M_holding (d + 1) 6 [(0, ar v0), (1, ai v1)] [ai (b2i r2)] h1 0 0 QQ
  refine r_if_eq d_M_holding_6 (fun w9 => ?_) (fun w9 => ?_)
  · replace hw := hw.1 (b2i_0.mp w9)
    refine r_iload_n (j := 1) d_M_holding_29 rfl ?_
    refine r_iconst d_M_holding_30 kc_3 ?_
    refine r_icmp_ne d_M_holding_31 (fun w9 => ?_) (fun w9 => ?_)
    · replace hw := hw.2 w9
      refine r_iload_n (j := 1) d_M_holding_41 rfl ?_
      refine r_iconst d_M_holding_42 kc_4 ?_
      refine r_icmp_ne d_M_holding_43 (fun w9 => ?_) (fun w9 => ?_)
      · replace hw := hw.2 w9
        refine r_iload_n (j := 1) d_M_holding_53 rfl ?_
        refine r_iconst d_M_holding_54 kc_5 ?_
        refine r_icmp_ne d_M_holding_55 (fun w9 => ?_) (fun w9 => ?_)
        · replace hw := hw.2 w9
          refine r_ldcw d_M_holding_65 lc_M_277 ?_
          exact r_ireturn d_M_holding_68.1 rfl (hQ _ _ hw)
        · replace hw := hw.1 w9
          refine r_aload_n (j := 0) d_M_holding_58 rfl ?_
          obtain ⟨q5, hw⟩ := hw
          refine r_callV (av := []) (rest := []) (ci := 12) d_M_holding_59 mk_M_heldOff ll_M_306 im_M_heldOff se_M_heldOff rfl (nle rfl) rfl rfl (nle rfl) q5 (s_M_heldOff (by omega) hw (fun r4 h3 hw => ?_))
          show aW none m_M_holding (d + 1) 62 [(0, ar v0), (1, ai v1)] [ai r4] h3 0 0 QQ
          refine r_goto d_M_holding_62 ?_
          exact r_ireturn d_M_holding_68.1 rfl (hQ _ _ hw)
      · replace hw := hw.1 w9
        refine r_aload_n (j := 0) d_M_holding_46 rfl ?_
        obtain ⟨q8, hw⟩ := hw
        refine r_callV (av := []) (rest := []) (ci := 12) d_M_holding_47 mk_M_heldSteps ll_M_303 im_M_heldSteps se_M_heldSteps rfl (nle rfl) rfl rfl (nle rfl) q8 (s_M_heldSteps  hw (fun r7 h6 hw => ?_))
        show aW none m_M_holding (d + 1) 50 [(0, ar v0), (1, ai v1)] [ai r7] h6 0 0 QQ
        refine r_goto d_M_holding_50 ?_
        exact r_ireturn d_M_holding_68.1 rfl (hQ _ _ hw)
    · replace hw := hw.1 w9
      refine r_aload_n (j := 0) d_M_holding_34 rfl ?_
      obtain ⟨q11, hw⟩ := hw
      refine r_callV (av := []) (rest := []) (ci := 12) d_M_holding_35 mk_M_heldGain ll_M_299 im_M_heldGain se_M_heldGain rfl (nle rfl) rfl rfl (nle rfl) q11 (s_M_heldGain (by omega) hw (fun r10 h9 hw => ?_))
      show aW none m_M_holding (d + 1) 38 [(0, ar v0), (1, ai v1)] [ai r10] h9 0 0 QQ
      refine r_goto d_M_holding_38 ?_
      exact r_ireturn d_M_holding_68.1 rfl (hQ _ _ hw)
  · replace hw := hw.2 (fun g9 => w9 (b2i_0.mpr g9))
    refine r_aload_n (j := 0) d_M_holding_9 rfl ?_
    refine r_iload_n (j := 1) d_M_holding_10 rfl ?_
    obtain ⟨q14, hw⟩ := hw
    refine r_callV (av := [ai v1]) (rest := []) (ci := 12) d_M_holding_11 mk_M_isRow ll_M_271 im_M_isRow se_M_isRow rfl (nle rfl) rfl rfl (nle rfl) q14 (s_M_isRow (by omega) hw (fun r13 h12 hw => ?_))
    show aW none m_M_holding (d + 1) 14 [(0, ar v0), (1, ai v1)] [ai (b2i r13)] h12 0 0 QQ
    refine r_if_eq d_M_holding_14 (fun w9 => ?_) (fun w9 => ?_)
    · replace hw := hw.1 (b2i_0.mp w9)
      refine r_ldcw d_M_holding_25 lc_M_277 ?_
      exact r_ireturn d_M_holding_28.1 rfl (hQ _ _ hw)
    · replace hw := hw.2 (fun g9 => w9 (b2i_0.mpr g9))
      refine r_aload_n (j := 0) d_M_holding_17 rfl ?_
      refine r_iload_n (j := 1) d_M_holding_18 rfl ?_
      obtain ⟨q17, hw⟩ := hw
      refine r_callV (av := [ai v1]) (rest := []) (ci := 12) d_M_holding_19 mk_M_heldSum ll_M_293 im_M_heldSum se_M_heldSum rfl (nle rfl) rfl rfl (nle rfl) q17 (s_M_heldSum (by omega) hw (fun r16 h15 hw => ?_))
      show aW none m_M_holding (d + 1) 22 [(0, ar v0), (1, ai v1)] [ai r16] h15 0 0 QQ
      refine r_goto d_M_holding_22 ?_
      exact r_ireturn d_M_holding_28.1 rfl (hQ _ _ hw)
set_option maxRecDepth 100000 in
set_option maxHeartbeats 4000000 in
theorem s_M_firstPlan_L2 {d : Nat} {Q : Bool → Hp → Prop} {QQ : Option AV → Hp → Prop} (hQ : ∀ r9 h9, Q r9 h9 → QQ (some (ai (b2i r9))) h9) {v0 : Nat} {v1 : Int32} : ∀ (n : Nat) (v2 : Int32) (h : Hp), w_M_firstPlan_L2 Q  v0 v1 n v2 h → aW none m_M_firstPlan d 2 [(0, ar v0), (1, ai v1), (2, ai v2)] [] h 0 0 QQ := by
  intro n
  induction n with
  | zero => intro v2 h hw; exact hw.elim
  | succ n ih =>
    intro v2 h hw
    unfold w_M_firstPlan_L2 at hw
    refine r_iload_n (j := 2) d_M_firstPlan_2 rfl ?_
    refine r_bipush d_M_firstPlan_3 kb_8 ?_
    refine r_icmp_ge d_M_firstPlan_5 (fun w9 => ?_) (fun w9 => ?_)
    · replace hw := hw.1 w9
      refine r_aload_n (j := 0) d_M_firstPlan_21 rfl ?_
      obtain ⟨q1, hw⟩ := hw
      refine r_getI d_M_firstPlan_22 ok_12 (nle rfl) (nle rfl) rfl lf_M_247 q1 ?_
      refine r_if_ne d_M_firstPlan_25 (fun w9 => ?_) (fun w9 => ?_)
      · replace hw := hw.2 w9
        refine r_aload_n (j := 0) d_M_firstPlan_38 rfl ?_
        refine r_getR d_M_firstPlan_39 ok_12 (nle rfl) (nle rfl) rfl lf_M_36 q1 ?_
        refine r_iconst d_M_firstPlan_42 kc_0 ?_
        refine r_iload_n (j := 1) d_M_firstPlan_43 rfl ?_
        obtain ⟨q2, hw⟩ := hw
        obtain ⟨q3, hw⟩ := hw
        refine r_iast d_M_firstPlan_44 q2 q3 ?_
        refine r_iconst d_M_firstPlan_45 kc_1 ?_
        exact r_zreturn d_M_firstPlan_46.1 rfl (Or.inr rfl) (hQ _ _ hw)
      · replace hw := hw.1 w9
        refine r_iload_n (j := 1) d_M_firstPlan_28 rfl ?_
        refine r_if_ne d_M_firstPlan_29 (fun w9 => ?_) (fun w9 => ?_)
        · replace hw := hw.2 w9
          refine r_iconst d_M_firstPlan_36 kc_0 ?_
          exact r_zreturn d_M_firstPlan_37.1 rfl (Or.inl rfl) (hQ _ _ hw)
        · replace hw := hw.1 w9
          refine r_iconst d_M_firstPlan_32 kc_1 ?_
          refine r_goto d_M_firstPlan_33 ?_
          exact r_zreturn d_M_firstPlan_37.1 rfl (Or.inr rfl) (hQ _ _ hw)
    · replace hw := hw.2 w9
      refine r_aload_n (j := 0) d_M_firstPlan_8 rfl ?_
      obtain ⟨q4, hw⟩ := hw
      refine r_getR d_M_firstPlan_9 ok_12 (nle rfl) (nle rfl) rfl lf_M_36 q4 ?_
      refine r_iload_n (j := 2) d_M_firstPlan_12 rfl ?_
      refine r_iconst d_M_firstPlan_13 kc_0 ?_
      obtain ⟨q5, hw⟩ := hw
      obtain ⟨q6, hw⟩ := hw
      refine r_iast d_M_firstPlan_14 q5 q6 ?_
      refine r_iinc (j := 2) (ls2 := [(2, ai (v2 + (1 : Int32))), (0, ar v0), (1, ai v1)]) d_M_firstPlan_15 rfl (congrArg (HAdd.hAdd v2) kc_1) (nle rfl) rfl ?_
      refine r_goto d_M_firstPlan_18 ?_
      refine r_pick (ls2 := [(0, ar v0), (1, ai v1), (2, ai (v2 + (1 : Int32)))]) [1, 2, 0] rfl ?_
      exact ih _ _ hw
set_option maxRecDepth 100000 in
set_option maxHeartbeats 4000000 in
theorem s_M_firstPlan {d : Nat} {v0 : Nat} {v1 : Int32} {h : Hp} {Q : Bool → Hp → Prop} {QQ : Option AV → Hp → Prop} (hw : w_M_firstPlan v0 v1 h Q) (hQ : ∀ r9 h9, Q r9 h9 → QQ (some (ai (b2i r9))) h9) : aCall m_M_firstPlan d [ar v0, ai v1] h 0 0 QQ := by
  refine aCall_in pl_M_firstPlan (nle rfl) ?_
  show aW none m_M_firstPlan d 0 [(0, ar v0), (1, ai v1)] [] h 0 0 QQ
  unfold w_M_firstPlan at hw
  refine r_iconst d_M_firstPlan_0 kc_0 ?_
  refine r_istore_n (ls2 := [(2, ai (0 : Int32)), (0, ar v0), (1, ai v1)]) d_M_firstPlan_1 (nle rfl) rfl ?_
  obtain ⟨n7, hw⟩ := hw
  refine r_pick (ls2 := [(0, ar v0), (1, ai v1), (2, ai (0 : Int32))]) [1, 2, 0] rfl ?_
  exact s_M_firstPlan_L2 hQ  n7 _ _ hw
set_option maxRecDepth 100000 in
set_option maxHeartbeats 4000000 in
theorem s_M_nextPlan_B51 {d : Nat} {Q : Bool → Hp → Prop} {QQ : Option AV → Hp → Prop} (hQ : ∀ r9 h9, Q r9 h9 → QQ (some (ai (b2i r9))) h9) {v0 : Nat} {v2 : Int32} {v3 : Int32} {h : Hp} (hw : w_M_nextPlan_B51 Q  v0 v2 v3 h) : aW none m_M_nextPlan d 51 [(0, ar v0), (2, ai v2), (3, ai v3)] [] h 0 0 QQ := by
  unfold w_M_nextPlan_B51 at hw
  refine r_iload_n (j := 2) d_M_nextPlan_51 rfl ?_
  refine r_if_ge d_M_nextPlan_52 (fun w9 => ?_) (fun w9 => ?_)
  · replace hw := hw.1 w9
    refine r_aload_n (j := 0) d_M_nextPlan_57 rfl ?_
    obtain ⟨q4, hw⟩ := hw
    refine r_getR d_M_nextPlan_58 ok_12 (nle rfl) (nle rfl) rfl lf_M_36 q4 ?_
    refine r_iload_n (j := 2) d_M_nextPlan_61 rfl ?_
    refine r_dup2 d_M_nextPlan_62 rfl rfl ?_
    obtain ⟨q5, hw⟩ := hw
    obtain ⟨q6, hw⟩ := hw
    refine r_iald d_M_nextPlan_63 q5 q6 ?_
    refine r_iconst d_M_nextPlan_64 kc_1 ?_
    refine r_isub d_M_nextPlan_65 ?_
    refine r_iast d_M_nextPlan_66 q5 q6 ?_
    refine r_aload_n (j := 0) d_M_nextPlan_67 rfl ?_
    refine r_getRb eRI d_M_nextPlan_68 ok_12 (nle rfl) (nle rfl) rfl lf_M_36 (kt eKI q4) ?_
    refine r_iload_n (j := 2) d_M_nextPlan_71 rfl ?_
    refine r_iconst d_M_nextPlan_72 kc_1 ?_
    refine r_iadd d_M_nextPlan_73 ?_
    refine r_iload_n (j := 1) d_M_nextPlan_74 rfl ?_
    refine r_iconst d_M_nextPlan_75 kc_1 ?_
    refine r_iadd d_M_nextPlan_76 ?_
    obtain ⟨q7, hw⟩ := hw
    refine r_iast d_M_nextPlan_77 (kt eKI q5) (nt eNI q7) ?_
    refine r_iconst d_M_nextPlan_78 kc_1 ?_
    exact r_zreturn d_M_nextPlan_79.1 rfl (Or.inr rfl) (hQ _ _ hw)
  · replace hw := hw.2 w9
    refine r_iconst d_M_nextPlan_55 kc_0 ?_
    exact r_zreturn d_M_nextPlan_56.1 rfl (Or.inl rfl) (hQ _ _ hw)
set_option maxRecDepth 100000 in
set_option maxHeartbeats 4000000 in
theorem s_M_nextPlan_L32 {d : Nat} {Q : Bool → Hp → Prop} {QQ : Option AV → Hp → Prop} (hQ : ∀ r9 h9, Q r9 h9 → QQ (some (ai (b2i r9))) h9) {v0 : Nat} {v2 : Int32} : ∀ (n : Nat) (v3 : Int32) (h : Hp), w_M_nextPlan_L32 Q  v0 v2 n v3 h → aW none m_M_nextPlan d 32 [(0, ar v0), (2, ai v2), (3, ai v3)] [] h 0 0 QQ := by
  intro n
  induction n with
  | zero => intro v3 h hw; exact hw.elim
  | succ n ih =>
    intro v3 h hw
    unfold w_M_nextPlan_L32 at hw
    refine r_iload_n (j := 2) d_M_nextPlan_32 rfl ?_
    refine r_if_lt d_M_nextPlan_33 (fun w9 => ?_) (fun w9 => ?_)
    · replace hw := hw.1 w9
      exact s_M_nextPlan_B51 hQ  hw
    · replace hw := hw.2 w9
      refine r_aload_n (j := 0) d_M_nextPlan_36 rfl ?_
      obtain ⟨q8, hw⟩ := hw
      refine r_getR d_M_nextPlan_37 ok_12 (nle rfl) (nle rfl) rfl lf_M_36 q8 ?_
      refine r_iload_n (j := 2) d_M_nextPlan_40 rfl ?_
      obtain ⟨q9, hw⟩ := hw
      obtain ⟨q10, hw⟩ := hw
      refine r_iald d_M_nextPlan_41 q9 q10 ?_
      refine r_if_ne d_M_nextPlan_42 (fun w9 => ?_) (fun w9 => ?_)
      · replace hw := hw.2 w9
        exact s_M_nextPlan_B51 hQ  hw
      · replace hw := hw.1 w9
        refine r_iinc (j := 2) (ls2 := [(3, ai (v3 + (-1 : Int32))), (0, ar v0), (2, ai v2)]) d_M_nextPlan_45 rfl (congrArg (HAdd.hAdd v3) kc_m1) (nle rfl) rfl ?_
        refine r_goto d_M_nextPlan_48 ?_
        refine r_pick (ls2 := [(0, ar v0), (2, ai v2), (3, ai (v3 + (-1 : Int32)))]) [1, 2, 0] rfl ?_
        exact ih _ _ hw
set_option maxRecDepth 100000 in
set_option maxHeartbeats 4000000 in
theorem s_M_nextPlan {d : Nat} {v0 : Nat} {h : Hp} {Q : Bool → Hp → Prop} {QQ : Option AV → Hp → Prop} (hw : w_M_nextPlan v0 h Q) (hQ : ∀ r9 h9, Q r9 h9 → QQ (some (ai (b2i r9))) h9) : aCall m_M_nextPlan d [ar v0] h 0 0 QQ := by
  refine aCall_in pl_M_nextPlan (nle rfl) ?_
  show aW none m_M_nextPlan d 0 [(0, ar v0)] [] h 0 0 QQ
  unfold w_M_nextPlan at hw
  refine r_aload_n (j := 0) d_M_nextPlan_0 rfl ?_
  obtain ⟨q1, hw⟩ := hw
  refine r_getI d_M_nextPlan_1 ok_12 (nle rfl) (nle rfl) rfl lf_M_247 q1 ?_
  refine r_iconst d_M_nextPlan_4 kc_1 ?_
  refine r_isub d_M_nextPlan_5 ?_
  refine r_istore_n (ls2 := [(1, ai ((gI h v0 18) - (1 : Int32))), (0, ar v0)]) d_M_nextPlan_6 (nle rfl) rfl ?_
  refine r_iload_n (j := 0) d_M_nextPlan_7 rfl ?_
  refine r_iconst d_M_nextPlan_8 kc_1 ?_
  refine r_icmp_ge d_M_nextPlan_9 (fun w9 => ?_) (fun w9 => ?_)
  · replace hw := hw.1 w9
    refine r_aload_n (j := 1) d_M_nextPlan_14 rfl ?_
    refine r_getR d_M_nextPlan_15 ok_12 (nle rfl) (nle rfl) rfl lf_M_36 q1 ?_
    refine r_iload_n (j := 0) d_M_nextPlan_18 rfl ?_
    obtain ⟨q2, hw⟩ := hw
    obtain ⟨q3, hw⟩ := hw
    refine r_iald d_M_nextPlan_19 q2 q3 ?_
    refine r_istore_n (ls2 := [(2, ai (gI h (gR h v0 26) (ix ((gI h v0 18) - (1 : Int32))))), (1, ai ((gI h v0 18) - (1 : Int32))), (0, ar v0)]) d_M_nextPlan_20 (nle rfl) rfl ?_
    refine r_aload_n (j := 2) d_M_nextPlan_21 rfl ?_
    refine r_getR d_M_nextPlan_22 ok_12 (nle rfl) (nle rfl) rfl lf_M_36 q1 ?_
    refine r_iload_n (j := 1) d_M_nextPlan_25 rfl ?_
    refine r_iconst d_M_nextPlan_26 kc_0 ?_
    refine r_iast d_M_nextPlan_27 q2 q3 ?_
    refine r_iload_n (j := 1) d_M_nextPlan_28 rfl ?_
    refine r_iconst d_M_nextPlan_29 kc_1 ?_
    refine r_isub d_M_nextPlan_30 ?_
    refine r_istore_n (ls2 := [(3, ai (((gI h v0 18) - (1 : Int32)) - (1 : Int32))), (2, ai (gI h (gR h v0 26) (ix ((gI h v0 18) - (1 : Int32))))), (1, ai ((gI h v0 18) - (1 : Int32))), (0, ar v0)]) d_M_nextPlan_31 (nle rfl) rfl ?_
    obtain ⟨n11, hw⟩ := hw
    refine r_pick (ls2 := [(0, ar v0), (2, ai (gI h (gR h v0 26) (ix ((gI h v0 18) - (1 : Int32))))), (3, ai (((gI h v0 18) - (1 : Int32)) - (1 : Int32)))]) [3, 1, 0] rfl ?_
    exact s_M_nextPlan_L32 hQ  n11 _ _ hw
  · replace hw := hw.2 w9
    refine r_iconst d_M_nextPlan_12 kc_0 ?_
    exact r_zreturn d_M_nextPlan_13.1 rfl (Or.inl rfl) (hQ _ _ hw)
set_option maxRecDepth 100000 in
set_option maxHeartbeats 4000000 in
theorem s_M_planSum_L4 {d : Nat} (hd : 1 ≤ d + 1) {Q : Int32 → Hp → Prop} {QQ : Option AV → Hp → Prop} (hQ : ∀ r9 h9, Q r9 h9 → QQ (some (ai r9)) h9) {v0 : Nat} {v1 : Int32} : ∀ (n : Nat) (v2 : Int32) (v3 : Int32) (h : Hp), w_M_planSum_L4 Q  v0 v1 n v2 v3 h → aW none m_M_planSum (d + 1) 4 [(0, ar v0), (1, ai v1), (2, ai v2), (3, ai v3)] [] h 0 0 QQ := by
  intro n
  induction n with
  | zero => intro v2 v3 h hw; exact hw.elim
  | succ n ih =>
    intro v2 v3 h hw
    unfold w_M_planSum_L4 at hw
    refine r_iload_n (j := 3) d_M_planSum_4 rfl ?_
    refine r_aload_n (j := 0) d_M_planSum_5 rfl ?_
    obtain ⟨q1, hw⟩ := hw
    refine r_getI d_M_planSum_6 ok_12 (nle rfl) (nle rfl) rfl lf_M_247 q1 ?_
    refine r_icmp_ge d_M_planSum_9 (fun w9 => ?_) (fun w9 => ?_)
    · replace hw := hw.1 w9
      refine r_iload_n (j := 2) d_M_planSum_34 rfl ?_
      exact r_ireturn d_M_planSum_35.1 rfl (hQ _ _ hw)
    · replace hw := hw.2 w9
      refine r_iload_n (j := 2) d_M_planSum_12 rfl ?_
      refine r_aload_n (j := 0) d_M_planSum_13 rfl ?_
      refine r_getR d_M_planSum_14 ok_12 (nle rfl) (nle rfl) rfl lf_M_36 q1 ?_
      refine r_iload_n (j := 3) d_M_planSum_17 rfl ?_
      obtain ⟨q2, hw⟩ := hw
      obtain ⟨q3, hw⟩ := hw
      refine r_iald d_M_planSum_18 q2 q3 ?_
      refine r_aload_n (j := 0) d_M_planSum_19 rfl ?_
      refine r_iload_n (j := 3) d_M_planSum_20 rfl ?_
      refine r_iload_n (j := 1) d_M_planSum_21 rfl ?_
      refine r_callV (av := [ai v3, ai v1]) (rest := [ai (gI h (gR h v0 26) (ix v3)), ai v2]) (ci := 12) d_M_planSum_22 mk_M_numberOf ll_M_274 im_M_numberOf se_M_numberOf rfl (nle rfl) rfl rfl (nle rfl) q1 (s_M_numberOf  hw (fun r5 h4 hw => ?_))
      show aW none m_M_planSum (d + 1) 25 [(0, ar v0), (1, ai v1), (2, ai v2), (3, ai v3)] [ai r5, ai (gI h (gR h v0 26) (ix v3)), ai v2] h4 0 0 QQ
      refine r_imul d_M_planSum_25 ?_
      refine r_iadd d_M_planSum_26 ?_
      refine r_istore_n (ls2 := [(2, ai (v2 + ((gI h (gR h v0 26) (ix v3)) * r5))), (0, ar v0), (1, ai v1), (3, ai v3)]) d_M_planSum_27 (nle rfl) rfl ?_
      refine r_iinc (j := 3) (ls2 := [(3, ai (v3 + (1 : Int32))), (2, ai (v2 + ((gI h (gR h v0 26) (ix v3)) * r5))), (0, ar v0), (1, ai v1)]) d_M_planSum_28 rfl (congrArg (HAdd.hAdd v3) kc_1) (nle rfl) rfl ?_
      refine r_goto d_M_planSum_31 ?_
      refine r_pick (ls2 := [(0, ar v0), (1, ai v1), (2, ai (v2 + ((gI h (gR h v0 26) (ix v3)) * r5))), (3, ai (v3 + (1 : Int32)))]) [2, 3, 1, 0] rfl ?_
      exact ih _ _ _ hw
set_option maxRecDepth 100000 in
set_option maxHeartbeats 4000000 in
theorem s_M_planSum {d : Nat} (hd : 1 ≤ d) {v0 : Nat} {v1 : Int32} {h : Hp} {Q : Int32 → Hp → Prop} {QQ : Option AV → Hp → Prop} (hw : w_M_planSum v0 v1 h Q) (hQ : ∀ r9 h9, Q r9 h9 → QQ (some (ai r9)) h9) : aCall m_M_planSum d [ar v0, ai v1] h 0 0 QQ := by
  obtain ⟨d, rfl⟩ : ∃ d9, d = d9 + 1 := ⟨d - 1, by omega⟩
  refine aCall_in pl_M_planSum (nle rfl) ?_
  show aW none m_M_planSum (d + 1) 0 [(0, ar v0), (1, ai v1)] [] h 0 0 QQ
  unfold w_M_planSum at hw
  refine r_iconst d_M_planSum_0 kc_0 ?_
  refine r_istore_n (ls2 := [(2, ai (0 : Int32)), (0, ar v0), (1, ai v1)]) d_M_planSum_1 (nle rfl) rfl ?_
  refine r_iconst d_M_planSum_2 kc_0 ?_
  refine r_istore_n (ls2 := [(3, ai (0 : Int32)), (2, ai (0 : Int32)), (0, ar v0), (1, ai v1)]) d_M_planSum_3 (nle rfl) rfl ?_
  obtain ⟨n6, hw⟩ := hw
  refine r_pick (ls2 := [(0, ar v0), (1, ai v1), (2, ai (0 : Int32)), (3, ai (0 : Int32))]) [2, 3, 1, 0] rfl ?_
  exact s_M_planSum_L4 hd hQ  n6 _ _ _ hw
set_option maxRecDepth 100000 in
set_option maxHeartbeats 4000000 in
theorem s_M_planGain_L4 {d : Nat} (hd : 1 ≤ d + 1) {Q : Int32 → Hp → Prop} {QQ : Option AV → Hp → Prop} (hQ : ∀ r9 h9, Q r9 h9 → QQ (some (ai r9)) h9) {v0 : Nat} : ∀ (n : Nat) (v1 : Int32) (v2 : Int32) (h : Hp), w_M_planGain_L4 Q  v0 n v1 v2 h → aW none m_M_planGain (d + 1) 4 [(0, ar v0), (1, ai v1), (2, ai v2)] [] h 0 0 QQ := by
  intro n
  induction n with
  | zero => intro v1 v2 h hw; exact hw.elim
  | succ n ih =>
    intro v1 v2 h hw
    unfold w_M_planGain_L4 at hw
    refine r_iload_n (j := 2) d_M_planGain_4 rfl ?_
    refine r_aload_n (j := 0) d_M_planGain_5 rfl ?_
    obtain ⟨q1, hw⟩ := hw
    refine r_getI d_M_planGain_6 ok_12 (nle rfl) (nle rfl) rfl lf_M_247 q1 ?_
    refine r_icmp_ge d_M_planGain_9 (fun w9 => ?_) (fun w9 => ?_)
    · replace hw := hw.1 w9
      refine r_iload_n (j := 1) d_M_planGain_33 rfl ?_
      exact r_ireturn d_M_planGain_34.1 rfl (hQ _ _ hw)
    · replace hw := hw.2 w9
      refine r_iload_n (j := 1) d_M_planGain_12 rfl ?_
      refine r_aload_n (j := 0) d_M_planGain_13 rfl ?_
      refine r_getR d_M_planGain_14 ok_12 (nle rfl) (nle rfl) rfl lf_M_36 q1 ?_
      refine r_iload_n (j := 2) d_M_planGain_17 rfl ?_
      obtain ⟨q2, hw⟩ := hw
      obtain ⟨q3, hw⟩ := hw
      refine r_iald d_M_planGain_18 q2 q3 ?_
      refine r_aload_n (j := 0) d_M_planGain_19 rfl ?_
      refine r_iload_n (j := 2) d_M_planGain_20 rfl ?_
      refine r_callV (av := [ai v2]) (rest := [ai (gI h (gR h v0 26) (ix v2)), ai v1]) (ci := 12) d_M_planGain_21 mk_M_gainOf ll_M_278 im_M_gainOf se_M_gainOf rfl (nle rfl) rfl rfl (nle rfl) q1 (s_M_gainOf  hw (fun r5 h4 hw => ?_))
      show aW none m_M_planGain (d + 1) 24 [(0, ar v0), (1, ai v1), (2, ai v2)] [ai r5, ai (gI h (gR h v0 26) (ix v2)), ai v1] h4 0 0 QQ
      refine r_imul d_M_planGain_24 ?_
      refine r_iadd d_M_planGain_25 ?_
      refine r_istore_n (ls2 := [(1, ai (v1 + ((gI h (gR h v0 26) (ix v2)) * r5))), (0, ar v0), (2, ai v2)]) d_M_planGain_26 (nle rfl) rfl ?_
      refine r_iinc (j := 2) (ls2 := [(2, ai (v2 + (1 : Int32))), (1, ai (v1 + ((gI h (gR h v0 26) (ix v2)) * r5))), (0, ar v0)]) d_M_planGain_27 rfl (congrArg (HAdd.hAdd v2) kc_1) (nle rfl) rfl ?_
      refine r_goto d_M_planGain_30 ?_
      refine r_pick (ls2 := [(0, ar v0), (1, ai (v1 + ((gI h (gR h v0 26) (ix v2)) * r5))), (2, ai (v2 + (1 : Int32)))]) [2, 1, 0] rfl ?_
      exact ih _ _ _ hw
set_option maxRecDepth 100000 in
set_option maxHeartbeats 4000000 in
theorem s_M_planGain {d : Nat} (hd : 1 ≤ d) {v0 : Nat} {h : Hp} {Q : Int32 → Hp → Prop} {QQ : Option AV → Hp → Prop} (hw : w_M_planGain v0 h Q) (hQ : ∀ r9 h9, Q r9 h9 → QQ (some (ai r9)) h9) : aCall m_M_planGain d [ar v0] h 0 0 QQ := by
  obtain ⟨d, rfl⟩ : ∃ d9, d = d9 + 1 := ⟨d - 1, by omega⟩
  refine aCall_in pl_M_planGain (nle rfl) ?_
  show aW none m_M_planGain (d + 1) 0 [(0, ar v0)] [] h 0 0 QQ
  unfold w_M_planGain at hw
  refine r_iconst d_M_planGain_0 kc_0 ?_
  refine r_istore_n (ls2 := [(1, ai (0 : Int32)), (0, ar v0)]) d_M_planGain_1 (nle rfl) rfl ?_
  refine r_iconst d_M_planGain_2 kc_0 ?_
  refine r_istore_n (ls2 := [(2, ai (0 : Int32)), (1, ai (0 : Int32)), (0, ar v0)]) d_M_planGain_3 (nle rfl) rfl ?_
  obtain ⟨n6, hw⟩ := hw
  refine r_pick (ls2 := [(0, ar v0), (1, ai (0 : Int32)), (2, ai (0 : Int32))]) [2, 1, 0] rfl ?_
  exact s_M_planGain_L4 hd hQ  n6 _ _ _ hw
set_option maxRecDepth 100000 in
set_option maxHeartbeats 4000000 in
theorem s_M_doesLead_L4 {d : Nat} (hd : 2 ≤ d + 1) {Q : Bool → Hp → Prop} {QQ : Option AV → Hp → Prop} (hQ : ∀ r9 h9, Q r9 h9 → QQ (some (ai (b2i r9))) h9) {v0 : Nat} : ∀ (n : Nat) (v1 : Int32) (v2 : Int32) (h : Hp), w_M_doesLead_L4 Q  v0 n v1 v2 h → aW none m_M_doesLead (d + 1) 4 [(0, ar v0), (1, ai v1), (2, ai v2)] [] h 0 0 QQ := by
  intro n
  induction n with
  | zero => intro v1 v2 h hw; exact hw.elim
  | succ n ih =>
    intro v1 v2 h hw
    unfold w_M_doesLead_L4 at hw
    refine r_iload_n (j := 2) d_M_doesLead_4 rfl ?_
    refine r_aload_n (j := 0) d_M_doesLead_5 rfl ?_
    obtain ⟨q1, hw⟩ := hw
    refine r_getI d_M_doesLead_6 ok_12 (nle rfl) (nle rfl) rfl lf_M_244 q1 ?_
    refine r_icmp_ge d_M_doesLead_9 (fun w9 => ?_) (fun w9 => ?_)
    · replace hw := hw.1 w9
      refine r_iload_n (j := 1) d_M_doesLead_41 rfl ?_
      obtain ⟨q2, hw⟩ := hw
      exact r_zreturn d_M_doesLead_42.1 rfl q2 (by have g9 := hQ _ _ hw; rwa [b2i_i q2] at g9)
    · replace hw := hw.2 w9
      refine r_iload_n (j := 1) d_M_doesLead_12 rfl ?_
      refine r_if_eq d_M_doesLead_13 (fun w9 => ?_) (fun w9 => ?_)
      · replace hw := hw.1 w9
        refine r_iconst d_M_doesLead_33 kc_0 ?_
        refine r_istore_n (ls2 := [(1, ai (0 : Int32)), (0, ar v0), (2, ai v2)]) d_M_doesLead_34 (nle rfl) rfl ?_
        refine r_iinc (j := 2) (ls2 := [(2, ai (v2 + (1 : Int32))), (1, ai (0 : Int32)), (0, ar v0)]) d_M_doesLead_35 rfl (congrArg (HAdd.hAdd v2) kc_1) (nle rfl) rfl ?_
        refine r_goto d_M_doesLead_38 ?_
        refine r_pick (ls2 := [(0, ar v0), (1, ai (0 : Int32)), (2, ai (v2 + (1 : Int32)))]) [2, 1, 0] rfl ?_
        exact ih _ _ _ hw
      · replace hw := hw.2 w9
        refine r_aload_n (j := 0) d_M_doesLead_16 rfl ?_
        refine r_iload_n (j := 2) d_M_doesLead_17 rfl ?_
        refine r_callV (av := [ai v2]) (rest := []) (ci := 12) d_M_doesLead_18 mk_M_planSum ll_M_309 im_M_planSum se_M_planSum rfl (nle rfl) rfl rfl (nle rfl) q1 (s_M_planSum (by omega) hw (fun r4 h3 hw => ?_))
        show aW none m_M_doesLead (d + 1) 21 [(0, ar v0), (1, ai v1), (2, ai v2)] [ai r4] h3 0 0 QQ
        refine r_aload_n (j := 0) d_M_doesLead_21 rfl ?_
        refine r_iload_n (j := 2) d_M_doesLead_22 rfl ?_
        obtain ⟨q7, hw⟩ := hw
        refine r_callV (av := [ai v2]) (rest := [ai r4]) (ci := 12) d_M_doesLead_23 mk_M_needOf ll_M_281 im_M_needOf se_M_needOf rfl (nle rfl) rfl rfl (nle rfl) q7 (s_M_needOf  hw (fun r6 h5 hw => ?_))
        show aW none m_M_doesLead (d + 1) 26 [(0, ar v0), (1, ai v1), (2, ai v2)] [ai r6, ai r4] h5 0 0 QQ
        refine r_icmp_ne d_M_doesLead_26 (fun w9 => ?_) (fun w9 => ?_)
        · replace hw := hw.2 w9
          refine r_iconst d_M_doesLead_33 kc_0 ?_
          refine r_istore_n (ls2 := [(1, ai (0 : Int32)), (0, ar v0), (2, ai v2)]) d_M_doesLead_34 (nle rfl) rfl ?_
          refine r_iinc (j := 2) (ls2 := [(2, ai (v2 + (1 : Int32))), (1, ai (0 : Int32)), (0, ar v0)]) d_M_doesLead_35 rfl (congrArg (HAdd.hAdd v2) kc_1) (nle rfl) rfl ?_
          refine r_goto d_M_doesLead_38 ?_
          refine r_pick (ls2 := [(0, ar v0), (1, ai (0 : Int32)), (2, ai (v2 + (1 : Int32)))]) [2, 1, 0] rfl ?_
          exact ih _ _ _ hw
        · replace hw := hw.1 w9
          refine r_iconst d_M_doesLead_29 kc_1 ?_
          refine r_goto d_M_doesLead_30 ?_
          refine r_istore_n (ls2 := [(1, ai (1 : Int32)), (0, ar v0), (2, ai v2)]) d_M_doesLead_34 (nle rfl) rfl ?_
          refine r_iinc (j := 2) (ls2 := [(2, ai (v2 + (1 : Int32))), (1, ai (1 : Int32)), (0, ar v0)]) d_M_doesLead_35 rfl (congrArg (HAdd.hAdd v2) kc_1) (nle rfl) rfl ?_
          refine r_goto d_M_doesLead_38 ?_
          refine r_pick (ls2 := [(0, ar v0), (1, ai (1 : Int32)), (2, ai (v2 + (1 : Int32)))]) [2, 1, 0] rfl ?_
          exact ih _ _ _ hw
set_option maxRecDepth 100000 in
set_option maxHeartbeats 4000000 in
theorem s_M_doesLead {d : Nat} (hd : 2 ≤ d) {v0 : Nat} {h : Hp} {Q : Bool → Hp → Prop} {QQ : Option AV → Hp → Prop} (hw : w_M_doesLead v0 h Q) (hQ : ∀ r9 h9, Q r9 h9 → QQ (some (ai (b2i r9))) h9) : aCall m_M_doesLead d [ar v0] h 0 0 QQ := by
  obtain ⟨d, rfl⟩ : ∃ d9, d = d9 + 1 := ⟨d - 1, by omega⟩
  refine aCall_in pl_M_doesLead (nle rfl) ?_
  show aW none m_M_doesLead (d + 1) 0 [(0, ar v0)] [] h 0 0 QQ
  unfold w_M_doesLead at hw
  refine r_iconst d_M_doesLead_0 kc_1 ?_
  refine r_istore_n (ls2 := [(1, ai (1 : Int32)), (0, ar v0)]) d_M_doesLead_1 (nle rfl) rfl ?_
  refine r_iconst d_M_doesLead_2 kc_0 ?_
  refine r_istore_n (ls2 := [(2, ai (0 : Int32)), (1, ai (1 : Int32)), (0, ar v0)]) d_M_doesLead_3 (nle rfl) rfl ?_
  obtain ⟨n8, hw⟩ := hw
  refine r_pick (ls2 := [(0, ar v0), (1, ai (1 : Int32)), (2, ai (0 : Int32))]) [2, 1, 0] rfl ?_
  exact s_M_doesLead_L4 hd hQ  n8 _ _ _ hw
set_option maxRecDepth 100000 in
set_option maxHeartbeats 4000000 in
theorem s_M_plansOf_L8 {d : Nat} (hd : 3 ≤ d + 1) {Q : Int32 → Hp → Prop} {QQ : Option AV → Hp → Prop} (hQ : ∀ r9 h9, Q r9 h9 → QQ (some (ai r9)) h9) {v0 : Nat} : ∀ (n : Nat) (v2 : Int32) (v3 : Int32) (h : Hp), w_M_plansOf_L8 Q  v0 n v2 v3 h → aW none m_M_plansOf (d + 1) 8 [(0, ar v0), (2, ai v2), (3, ai v3)] [] h 0 0 QQ := by
  intro n
  induction n with
  | zero => intro v2 v3 h hw; exact hw.elim
  | succ n ih =>
    intro v2 v3 h hw
    unfold w_M_plansOf_L8 at hw
    refine r_iload_n (j := 2) d_M_plansOf_8 rfl ?_
    refine r_if_eq d_M_plansOf_9 (fun w9 => ?_) (fun w9 => ?_)
    · replace hw := hw.1 w9
      refine r_iload_n (j := 1) d_M_plansOf_30 rfl ?_
      exact r_ireturn d_M_plansOf_31.1 rfl (hQ _ _ hw)
    · replace hw := hw.2 w9
      refine r_iload_n (j := 1) d_M_plansOf_12 rfl ?_
      refine r_aload_n (j := 0) d_M_plansOf_13 rfl ?_
      obtain ⟨q6, hw⟩ := hw
      refine r_callV (av := []) (rest := [ai v2]) (ci := 12) d_M_plansOf_14 mk_M_doesLead ll_M_315 im_M_doesLead se_M_doesLead rfl (nle rfl) rfl rfl (nle rfl) q6 (s_M_doesLead (by omega) hw (fun r5 h4 hw => ?_))
      show aW none m_M_plansOf (d + 1) 17 [(0, ar v0), (2, ai v2), (3, ai v3)] [ai (b2i r5), ai v2] h4 0 0 QQ
      refine r_callS (av := [ai (b2i r5)]) (rest := [ai v2]) d_M_plansOf_17 mk_M_truth ll_M_318 st_M_truth rfl rfl (nle rfl) (s_M_truth  hw (fun r8 h7 hw => ?_))
      show aW none m_M_plansOf (d + 1) 20 [(0, ar v0), (2, ai v2), (3, ai v3)] [ai r8, ai v2] h7 0 0 QQ
      refine r_iadd d_M_plansOf_20 ?_
      refine r_istore_n (ls2 := [(2, ai (v2 + r8)), (0, ar v0), (3, ai v3)]) d_M_plansOf_21 (nle rfl) rfl ?_
      refine r_aload_n (j := 1) d_M_plansOf_22 rfl ?_
      obtain ⟨q11, hw⟩ := hw
      refine r_callV (av := []) (rest := []) (ci := 12) d_M_plansOf_23 mk_M_nextPlan ll_M_322 im_M_nextPlan se_M_nextPlan rfl (nle rfl) rfl rfl (nle rfl) q11 (s_M_nextPlan  hw (fun r10 h9 hw => ?_))
      show aW none m_M_plansOf (d + 1) 26 [(2, ai (v2 + r8)), (0, ar v0), (3, ai v3)] [ai (b2i r10)] h9 0 0 QQ
      refine r_istore_n (ls2 := [(3, ai (b2i r10)), (2, ai (v2 + r8)), (0, ar v0)]) d_M_plansOf_26 (nle rfl) rfl ?_
      refine r_goto d_M_plansOf_27 ?_
      refine r_pick (ls2 := [(0, ar v0), (2, ai (v2 + r8)), (3, ai (b2i r10))]) [2, 1, 0] rfl ?_
      exact ih _ _ _ hw
set_option maxRecDepth 100000 in
set_option maxHeartbeats 4000000 in
theorem s_M_plansOf {d : Nat} (hd : 3 ≤ d) {v0 : Nat} {v1 : Int32} {h : Hp} {Q : Int32 → Hp → Prop} {QQ : Option AV → Hp → Prop} (hw : w_M_plansOf v0 v1 h Q) (hQ : ∀ r9 h9, Q r9 h9 → QQ (some (ai r9)) h9) : aCall m_M_plansOf d [ar v0, ai v1] h 0 0 QQ := by
  obtain ⟨d, rfl⟩ : ∃ d9, d = d9 + 1 := ⟨d - 1, by omega⟩
  refine aCall_in pl_M_plansOf (nle rfl) ?_
  show aW none m_M_plansOf (d + 1) 0 [(0, ar v0), (1, ai v1)] [] h 0 0 QQ
  unfold w_M_plansOf at hw
  refine r_iconst d_M_plansOf_0 kc_0 ?_
  refine r_istore_n (ls2 := [(2, ai (0 : Int32)), (0, ar v0), (1, ai v1)]) d_M_plansOf_1 (nle rfl) rfl ?_
  refine r_aload_n (j := 1) d_M_plansOf_2 rfl ?_
  refine r_iload_n (j := 2) d_M_plansOf_3 rfl ?_
  obtain ⟨q3, hw⟩ := hw
  refine r_callV (av := [ai v1]) (rest := []) (ci := 12) d_M_plansOf_4 mk_M_firstPlan ll_M_312 im_M_firstPlan se_M_firstPlan rfl (nle rfl) rfl rfl (nle rfl) q3 (s_M_firstPlan  hw (fun r2 h1 hw => ?_))
  show aW none m_M_plansOf (d + 1) 7 [(2, ai (0 : Int32)), (0, ar v0), (1, ai v1)] [ai (b2i r2)] h1 0 0 QQ
  refine r_istore_n (ls2 := [(3, ai (b2i r2)), (2, ai (0 : Int32)), (0, ar v0), (1, ai v1)]) d_M_plansOf_7 (nle rfl) rfl ?_
  obtain ⟨n12, hw⟩ := hw
  refine r_pick (ls2 := [(0, ar v0), (2, ai (0 : Int32)), (3, ai (b2i r2))]) [2, 1, 0] rfl ?_
  exact s_M_plansOf_L8 hd hQ  n12 _ _ _ hw
set_option maxRecDepth 100000 in
set_option maxHeartbeats 4000000 in
theorem s_M_plans {d : Nat} (hd : 4 ≤ d) {v0 : Nat} {v1 : Int32} {h : Hp} {Q : Int32 → Hp → Prop} {QQ : Option AV → Hp → Prop} (hw : w_M_plans v0 v1 h Q) (hQ : ∀ r9 h9, Q r9 h9 → QQ (some (ai r9)) h9) : aCall m_M_plans d [ar v0, ai v1] h 0 0 QQ := by
  obtain ⟨d, rfl⟩ : ∃ d9, d = d9 + 1 := ⟨d - 1, by omega⟩
  refine aCall_in pl_M_plans (nle rfl) ?_
  show aW none m_M_plans (d + 1) 0 [(0, ar v0), (1, ai v1)] [] h 0 0 QQ
  unfold w_M_plans at hw
  refine r_iload_n (j := 1) d_M_plans_0 rfl ?_
  refine r_iconst d_M_plans_1 kc_0 ?_
  refine r_bipush d_M_plans_2 kb_12 ?_
  refine r_callS (av := [ai v1, ai (0 : Int32), ai (12 : Int32)]) (rest := []) d_M_plans_4 mk_M_isIn ll_M_148 st_M_isIn rfl rfl (nle rfl) (s_M_isIn  hw (fun r2 h1 hw => ?_))
  show aW none m_M_plans (d + 1) 7 [(0, ar v0), (1, ai v1)] [ai (b2i r2)] h1 0 0 QQ
  refine r_if_eq d_M_plans_7 (fun w9 => ?_) (fun w9 => ?_)
  · replace hw := hw.1 (b2i_0.mp w9)
    refine r_iconst d_M_plans_18 kc_m1 ?_
    exact r_ireturn d_M_plans_19.1 rfl (hQ _ _ hw)
  · replace hw := hw.2 (fun g9 => w9 (b2i_0.mpr g9))
    refine r_aload_n (j := 0) d_M_plans_10 rfl ?_
    refine r_iload_n (j := 1) d_M_plans_11 rfl ?_
    obtain ⟨q5, hw⟩ := hw
    refine r_callV (av := [ai v1]) (rest := []) (ci := 12) d_M_plans_12 mk_M_plansOf ll_M_325 im_M_plansOf se_M_plansOf rfl (nle rfl) rfl rfl (nle rfl) q5 (s_M_plansOf (by omega) hw (fun r4 h3 hw => ?_))
    show aW none m_M_plans (d + 1) 15 [(0, ar v0), (1, ai v1)] [ai r4] h3 0 0 QQ
    refine r_goto d_M_plans_15 ?_
    exact r_ireturn d_M_plans_19.1 rfl (hQ _ _ hw)
set_option maxRecDepth 100000 in
set_option maxHeartbeats 4000000 in
theorem s_M_fewest_L2 {d : Nat} (hd : 4 ≤ d + 1) {Q : Int32 → Hp → Prop} {QQ : Option AV → Hp → Prop} (hQ : ∀ r9 h9, Q r9 h9 → QQ (some (ai r9)) h9) {v0 : Nat} : ∀ (n : Nat) (v1 : Int32) (h : Hp), w_M_fewest_L2 Q  v0 n v1 h → aW none m_M_fewest (d + 1) 2 [(0, ar v0), (1, ai v1)] [] h 0 0 QQ := by
  intro n
  induction n with
  | zero => intro v1 h hw; exact hw.elim
  | succ n ih =>
    intro v1 h hw
    unfold w_M_fewest_L2 at hw
    refine r_iload_n (j := 1) d_M_fewest_2 rfl ?_
    refine r_bipush d_M_fewest_3 kb_12 ?_
    refine r_icmp_gt d_M_fewest_5 (fun w9 => ?_) (fun w9 => ?_)
    · replace hw := hw.1 w9
      refine r_iconst d_M_fewest_24 kc_m1 ?_
      exact r_ireturn d_M_fewest_25.1 rfl (hQ _ _ hw)
    · replace hw := hw.2 w9
      refine r_aload_n (j := 0) d_M_fewest_8 rfl ?_
      refine r_iload_n (j := 1) d_M_fewest_9 rfl ?_
      obtain ⟨q3, hw⟩ := hw
      refine r_callV (av := [ai v1]) (rest := []) (ci := 12) d_M_fewest_10 mk_M_plansOf ll_M_325 im_M_plansOf se_M_plansOf rfl (nle rfl) rfl rfl (nle rfl) q3 (s_M_plansOf (by omega) hw (fun r2 h1 hw => ?_))
      show aW none m_M_fewest (d + 1) 13 [(0, ar v0), (1, ai v1)] [ai r2] h1 0 0 QQ
      refine r_if_le d_M_fewest_13 (fun w9 => ?_) (fun w9 => ?_)
      · replace hw := hw.1 w9
        refine r_iinc (j := 1) (ls2 := [(1, ai (v1 + (1 : Int32))), (0, ar v0)]) d_M_fewest_18 rfl (congrArg (HAdd.hAdd v1) kc_1) (nle rfl) rfl ?_
        refine r_goto d_M_fewest_21 ?_
        refine r_pick (ls2 := [(0, ar v0), (1, ai (v1 + (1 : Int32)))]) [1, 0] rfl ?_
        exact ih _ _ hw
      · replace hw := hw.2 w9
        refine r_iload_n (j := 1) d_M_fewest_16 rfl ?_
        exact r_ireturn d_M_fewest_17.1 rfl (hQ _ _ hw)
set_option maxRecDepth 100000 in
set_option maxHeartbeats 4000000 in
theorem s_M_fewest {d : Nat} (hd : 4 ≤ d) {v0 : Nat} {h : Hp} {Q : Int32 → Hp → Prop} {QQ : Option AV → Hp → Prop} (hw : w_M_fewest v0 h Q) (hQ : ∀ r9 h9, Q r9 h9 → QQ (some (ai r9)) h9) : aCall m_M_fewest d [ar v0] h 0 0 QQ := by
  obtain ⟨d, rfl⟩ : ∃ d9, d = d9 + 1 := ⟨d - 1, by omega⟩
  refine aCall_in pl_M_fewest (nle rfl) ?_
  show aW none m_M_fewest (d + 1) 0 [(0, ar v0)] [] h 0 0 QQ
  unfold w_M_fewest at hw
  refine r_iconst d_M_fewest_0 kc_0 ?_
  refine r_istore_n (ls2 := [(1, ai (0 : Int32)), (0, ar v0)]) d_M_fewest_1 (nle rfl) rfl ?_
  obtain ⟨n4, hw⟩ := hw
  refine r_pick (ls2 := [(0, ar v0), (1, ai (0 : Int32))]) [1, 0] rfl ?_
  exact s_M_fewest_L2 hd hQ  n4 _ _ hw
set_option maxRecDepth 100000 in
set_option maxHeartbeats 4000000 in
theorem s_M_laysOptimum_B96 {d : Nat} (hd : 3 ≤ d + 1) {Q : Bool → Hp → Prop} {QQ : Option AV → Hp → Prop} (hQ : ∀ r9 h9, Q r9 h9 → QQ (some (ai (b2i r9))) h9) {v0 : Nat} {v1 : Int32} {h : Hp} {k7 : Int32 → Hp → Prop} {k24 : Int32 → Hp → Prop} (hk7 : ∀ v1 h9, k7 v1 h9 → aW none m_M_laysOptimum (d + 1) 7 [(0, ar v0), (1, ai v1)] [] h9 0 0 QQ) (hk24 : ∀ v2 h9, k24 v2 h9 → aW none m_M_laysOptimum (d + 1) 24 [(0, ar v0), (1, ai v1), (2, ai v2)] [] h9 0 0 QQ) (hw : w_M_laysOptimum_B96 Q k7 k24 v0 v1 h) : aW none m_M_laysOptimum (d + 1) 96 [(0, ar v0), (1, ai v1)] [] h 0 0 QQ := by
  unfold w_M_laysOptimum_B96 at hw
  refine r_aload_n (j := 0) d_M_laysOptimum_96 rfl ?_
  obtain ⟨q15, hw⟩ := hw
  refine r_callV (av := []) (rest := []) (ci := 12) d_M_laysOptimum_97 mk_M_nextPlan ll_M_322 im_M_nextPlan se_M_nextPlan rfl (nle rfl) rfl rfl (nle rfl) q15 (s_M_nextPlan  hw (fun r14 h13 hw => ?_))
  show aW none m_M_laysOptimum (d + 1) 100 [(0, ar v0), (1, ai v1)] [ai (b2i r14)] h13 0 0 QQ
  refine r_istore_n (ls2 := [(2, ai (b2i r14)), (0, ar v0), (1, ai v1)]) d_M_laysOptimum_100 (nle rfl) rfl ?_
  refine r_goto d_M_laysOptimum_101 ?_
  refine r_pick (ls2 := [(0, ar v0), (1, ai v1), (2, ai (b2i r14))]) [1, 2, 0] rfl ?_
  exact hk24 _ _ hw
set_option maxRecDepth 100000 in
set_option maxHeartbeats 4000000 in
theorem s_M_laysOptimum_L69 {d : Nat} (hd : 3 ≤ d + 1) {Q : Bool → Hp → Prop} {QQ : Option AV → Hp → Prop} (hQ : ∀ r9 h9, Q r9 h9 → QQ (some (ai (b2i r9))) h9) {v0 : Nat} {v1 : Int32} {k7 : Int32 → Hp → Prop} {k24 : Int32 → Hp → Prop} (hk7 : ∀ v1 h9, k7 v1 h9 → aW none m_M_laysOptimum (d + 1) 7 [(0, ar v0), (1, ai v1)] [] h9 0 0 QQ) (hk24 : ∀ v2 h9, k24 v2 h9 → aW none m_M_laysOptimum (d + 1) 24 [(0, ar v0), (1, ai v1), (2, ai v2)] [] h9 0 0 QQ) : ∀ (n : Nat) (v4 : Int32) (h : Hp), w_M_laysOptimum_L69 Q k7 k24 v0 v1 n v4 h → aW none m_M_laysOptimum (d + 1) 69 [(0, ar v0), (1, ai v1), (4, ai v4)] [] h 0 0 QQ := by
  intro n
  induction n with
  | zero => intro v4 h hw; exact hw.elim
  | succ n ih =>
    intro v4 h hw
    unfold w_M_laysOptimum_L69 at hw
    refine r_iload (j := 2) d_M_laysOptimum_69 rfl ?_
    refine r_bipush d_M_laysOptimum_71 kb_8 ?_
    refine r_icmp_ge d_M_laysOptimum_73 (fun w9 => ?_) (fun w9 => ?_)
    · replace hw := hw.1 w9
      refine r_pick (ls2 := [(0, ar v0), (1, ai v1)]) [0, 1] rfl ?_
      exact s_M_laysOptimum_B96 hd hQ hk7 hk24 hw
    · replace hw := hw.2 w9
      refine r_aload_n (j := 0) d_M_laysOptimum_76 rfl ?_
      obtain ⟨q18, hw⟩ := hw
      refine r_getR d_M_laysOptimum_77 ok_12 (nle rfl) (nle rfl) rfl lf_M_39 q18 ?_
      refine r_iload (j := 2) d_M_laysOptimum_80 rfl ?_
      refine r_aload_n (j := 0) d_M_laysOptimum_82 rfl ?_
      refine r_getR d_M_laysOptimum_83 ok_12 (nle rfl) (nle rfl) rfl lf_M_36 q18 ?_
      refine r_iload (j := 2) d_M_laysOptimum_86 rfl ?_
      obtain ⟨q19, hw⟩ := hw
      obtain ⟨q20, hw⟩ := hw
      refine r_iald d_M_laysOptimum_88 q19 q20 ?_
      obtain ⟨q21, hw⟩ := hw
      obtain ⟨q22, hw⟩ := hw
      refine r_iast d_M_laysOptimum_89 q21 q22 ?_
      refine r_iinc (j := 2) (ls2 := [(4, ai (v4 + (1 : Int32))), (0, ar v0), (1, ai v1)]) d_M_laysOptimum_90 rfl (congrArg (HAdd.hAdd v4) kc_1) (nle rfl) rfl ?_
      refine r_goto d_M_laysOptimum_93 ?_
      refine r_pick (ls2 := [(0, ar v0), (1, ai v1), (4, ai (v4 + (1 : Int32)))]) [1, 2, 0] rfl ?_
      exact ih _ _ hw
set_option maxRecDepth 100000 in
set_option maxHeartbeats 4000000 in
theorem s_M_laysOptimum_B56 {d : Nat} (hd : 3 ≤ d + 1) {Q : Bool → Hp → Prop} {QQ : Option AV → Hp → Prop} (hQ : ∀ r9 h9, Q r9 h9 → QQ (some (ai (b2i r9))) h9) {v0 : Nat} {v1 : Int32} {v3 : Int32} {h : Hp} {k7 : Int32 → Hp → Prop} {k24 : Int32 → Hp → Prop} (hk7 : ∀ v1 h9, k7 v1 h9 → aW none m_M_laysOptimum (d + 1) 7 [(0, ar v0), (1, ai v1)] [] h9 0 0 QQ) (hk24 : ∀ v2 h9, k24 v2 h9 → aW none m_M_laysOptimum (d + 1) 24 [(0, ar v0), (1, ai v1), (2, ai v2)] [] h9 0 0 QQ) (hw : w_M_laysOptimum_B56 Q k7 k24 v0 v1 v3 h) : aW none m_M_laysOptimum (d + 1) 56 [(0, ar v0), (1, ai v1), (3, ai v3)] [] h 0 0 QQ := by
  unfold w_M_laysOptimum_B56 at hw
  refine r_aload_n (j := 0) d_M_laysOptimum_56 rfl ?_
  refine r_iload_n (j := 2) d_M_laysOptimum_57 rfl ?_
  obtain ⟨q17, hw⟩ := hw
  refine r_putI d_M_laysOptimum_58 ok_12 (nle rfl) (nle rfl) rfl lf_M_334 rfl q17 ?_
  refine r_aload_n (j := 0) d_M_laysOptimum_61 rfl ?_
  refine r_iload_n (j := 1) d_M_laysOptimum_62 rfl ?_
  refine r_putI d_M_laysOptimum_63 ok_12 (nle rfl) (nle rfl) rfl lf_M_328 rfl (kt eKI q17) ?_
  refine r_iconst d_M_laysOptimum_66 kc_0 ?_
  refine r_istore (ls2 := [(4, ai (0 : Int32)), (0, ar v0), (1, ai v1), (3, ai v3)]) d_M_laysOptimum_67 (nle rfl) rfl ?_
  obtain ⟨n23, hw⟩ := hw
  refine r_pick (ls2 := [(0, ar v0), (1, ai v1), (4, ai (0 : Int32))]) [1, 2, 0] rfl ?_
  exact s_M_laysOptimum_L69 hd hQ hk7 hk24 n23 _ _ hw
set_option maxRecDepth 100000 in
set_option maxHeartbeats 4000000 in
theorem s_M_laysOptimum_L24 {d : Nat} (hd : 3 ≤ d + 1) {Q : Bool → Hp → Prop} {QQ : Option AV → Hp → Prop} (hQ : ∀ r9 h9, Q r9 h9 → QQ (some (ai (b2i r9))) h9) {v0 : Nat} {v1 : Int32} {k7 : Int32 → Hp → Prop} (hk7 : ∀ v1 h9, k7 v1 h9 → aW none m_M_laysOptimum (d + 1) 7 [(0, ar v0), (1, ai v1)] [] h9 0 0 QQ) : ∀ (n : Nat) (v2 : Int32) (h : Hp), w_M_laysOptimum_L24 Q k7 v0 v1 n v2 h → aW none m_M_laysOptimum (d + 1) 24 [(0, ar v0), (1, ai v1), (2, ai v2)] [] h 0 0 QQ := by
  intro n
  induction n with
  | zero => intro v2 h hw; exact hw.elim
  | succ n ih =>
    intro v2 h hw
    unfold w_M_laysOptimum_L24 at hw
    refine r_iload_n (j := 2) d_M_laysOptimum_24 rfl ?_
    refine r_if_eq d_M_laysOptimum_25 (fun w9 => ?_) (fun w9 => ?_)
    · replace hw := hw.1 w9
      refine r_iinc (j := 1) (ls2 := [(1, ai (v1 + (1 : Int32))), (0, ar v0), (2, ai v2)]) d_M_laysOptimum_104 rfl (congrArg (HAdd.hAdd v1) kc_1) (nle rfl) rfl ?_
      refine r_goto d_M_laysOptimum_107 ?_
      refine r_pick (ls2 := [(0, ar v0), (1, ai (v1 + (1 : Int32)))]) [1, 0] rfl ?_
      exact hk7 _ _ hw
    · replace hw := hw.2 w9
      refine r_aload_n (j := 0) d_M_laysOptimum_28 rfl ?_
      obtain ⟨q9, hw⟩ := hw
      refine r_callV (av := []) (rest := []) (ci := 12) d_M_laysOptimum_29 mk_M_planGain ll_M_331 im_M_planGain se_M_planGain rfl (nle rfl) rfl rfl (nle rfl) q9 (s_M_planGain (by omega) hw (fun r8 h7 hw => ?_))
      show aW none m_M_laysOptimum (d + 1) 32 [(0, ar v0), (1, ai v1), (2, ai v2)] [ai r8] h7 0 0 QQ
      refine r_istore_n (ls2 := [(3, ai r8), (0, ar v0), (1, ai v1), (2, ai v2)]) d_M_laysOptimum_32 (nle rfl) rfl ?_
      refine r_aload_n (j := 1) d_M_laysOptimum_33 rfl ?_
      obtain ⟨q12, hw⟩ := hw
      refine r_callV (av := []) (rest := []) (ci := 12) d_M_laysOptimum_34 mk_M_doesLead ll_M_315 im_M_doesLead se_M_doesLead rfl (nle rfl) rfl rfl (nle rfl) q12 (s_M_doesLead (by omega) hw (fun r11 h10 hw => ?_))
      show aW none m_M_laysOptimum (d + 1) 37 [(3, ai r8), (0, ar v0), (1, ai v1), (2, ai v2)] [ai (b2i r11)] h10 0 0 QQ
      refine r_if_eq d_M_laysOptimum_37 (fun w9 => ?_) (fun w9 => ?_)
      · replace hw := hw.1 (b2i_0.mp w9)
        refine r_pick (ls2 := [(0, ar v0), (1, ai v1)]) [1, 2] rfl ?_
        exact s_M_laysOptimum_B96 hd hQ hk7 ih hw
      · replace hw := hw.2 (fun g9 => w9 (b2i_0.mpr g9))
        refine r_aload_n (j := 1) d_M_laysOptimum_40 rfl ?_
        obtain ⟨q16, hw⟩ := hw
        refine r_getI d_M_laysOptimum_41 ok_12 (nle rfl) (nle rfl) rfl lf_M_328 q16 ?_
        refine r_iconst d_M_laysOptimum_44 kc_m1 ?_
        refine r_icmp_eq d_M_laysOptimum_45 (fun w9 => ?_) (fun w9 => ?_)
        · replace hw := hw.1 w9
          refine r_pick (ls2 := [(0, ar v0), (1, ai v1), (3, ai r8)]) [1, 2, 0] rfl ?_
          exact s_M_laysOptimum_B56 hd hQ hk7 ih hw
        · replace hw := hw.2 w9
          refine r_iload_n (j := 0) d_M_laysOptimum_48 rfl ?_
          refine r_aload_n (j := 1) d_M_laysOptimum_49 rfl ?_
          refine r_getI d_M_laysOptimum_50 ok_12 (nle rfl) (nle rfl) rfl lf_M_334 q16 ?_
          refine r_icmp_le d_M_laysOptimum_53 (fun w9 => ?_) (fun w9 => ?_)
          · replace hw := hw.1 w9
            refine r_pick (ls2 := [(0, ar v0), (1, ai v1)]) [1, 2] rfl ?_
            exact s_M_laysOptimum_B96 hd hQ hk7 ih hw
          · replace hw := hw.2 w9
            refine r_pick (ls2 := [(0, ar v0), (1, ai v1), (3, ai r8)]) [1, 2, 0] rfl ?_
            exact s_M_laysOptimum_B56 hd hQ hk7 ih hw
set_option maxRecDepth 100000 in
set_option maxHeartbeats 4000000 in
theorem s_M_laysOptimum_L7 {d : Nat} (hd : 3 ≤ d + 1) {Q : Bool → Hp → Prop} {QQ : Option AV → Hp → Prop} (hQ : ∀ r9 h9, Q r9 h9 → QQ (some (ai (b2i r9))) h9) {v0 : Nat} : ∀ (n : Nat) (v1 : Int32) (h : Hp), w_M_laysOptimum_L7 Q  v0 n v1 h → aW none m_M_laysOptimum (d + 1) 7 [(0, ar v0), (1, ai v1)] [] h 0 0 QQ := by
  intro n
  induction n with
  | zero => intro v1 h hw; exact hw.elim
  | succ n ih =>
    intro v1 h hw
    unfold w_M_laysOptimum_L7 at hw
    refine r_iload_n (j := 1) d_M_laysOptimum_7 rfl ?_
    refine r_aload_n (j := 0) d_M_laysOptimum_8 rfl ?_
    obtain ⟨q2, hw⟩ := hw
    refine r_getR d_M_laysOptimum_9 ok_12 (nle rfl) (nle rfl) rfl lf_M_30 q2 ?_
    refine r_bipush d_M_laysOptimum_12 kb_35 ?_
    obtain ⟨q3, hw⟩ := hw
    obtain ⟨q4, hw⟩ := hw
    refine r_iald d_M_laysOptimum_14 q3 q4 ?_
    refine r_icmp_gt d_M_laysOptimum_15 (fun w9 => ?_) (fun w9 => ?_)
    · replace hw := hw.1 w9
      refine r_aload_n (j := 0) d_M_laysOptimum_110 rfl ?_
      refine r_getI d_M_laysOptimum_111 ok_12 (nle rfl) (nle rfl) rfl lf_M_328 q2 ?_
      refine r_iconst d_M_laysOptimum_114 kc_m1 ?_
      refine r_icmp_eq d_M_laysOptimum_115 (fun w9 => ?_) (fun w9 => ?_)
      · replace hw := hw.1 w9
        refine r_iconst d_M_laysOptimum_122 kc_0 ?_
        exact r_zreturn d_M_laysOptimum_123.1 rfl (Or.inl rfl) (hQ _ _ hw)
      · replace hw := hw.2 w9
        refine r_iconst d_M_laysOptimum_118 kc_1 ?_
        refine r_goto d_M_laysOptimum_119 ?_
        exact r_zreturn d_M_laysOptimum_123.1 rfl (Or.inr rfl) (hQ _ _ hw)
    · replace hw := hw.2 w9
      refine r_aload_n (j := 0) d_M_laysOptimum_18 rfl ?_
      refine r_iload_n (j := 1) d_M_laysOptimum_19 rfl ?_
      refine r_callV (av := [ai v1]) (rest := []) (ci := 12) d_M_laysOptimum_20 mk_M_firstPlan ll_M_312 im_M_firstPlan se_M_firstPlan rfl (nle rfl) rfl rfl (nle rfl) q2 (s_M_firstPlan  hw (fun r6 h5 hw => ?_))
      show aW none m_M_laysOptimum (d + 1) 23 [(0, ar v0), (1, ai v1)] [ai (b2i r6)] h5 0 0 QQ
      refine r_istore_n (ls2 := [(2, ai (b2i r6)), (0, ar v0), (1, ai v1)]) d_M_laysOptimum_23 (nle rfl) rfl ?_
      obtain ⟨n24, hw⟩ := hw
      refine r_pick (ls2 := [(0, ar v0), (1, ai v1), (2, ai (b2i r6))]) [1, 2, 0] rfl ?_
      exact s_M_laysOptimum_L24 hd hQ ih n24 _ _ hw
set_option maxRecDepth 100000 in
set_option maxHeartbeats 4000000 in
theorem s_M_laysOptimum {d : Nat} (hd : 3 ≤ d) {v0 : Nat} {h : Hp} {Q : Bool → Hp → Prop} {QQ : Option AV → Hp → Prop} (hw : w_M_laysOptimum v0 h Q) (hQ : ∀ r9 h9, Q r9 h9 → QQ (some (ai (b2i r9))) h9) : aCall m_M_laysOptimum d [ar v0] h 0 0 QQ := by
  obtain ⟨d, rfl⟩ : ∃ d9, d = d9 + 1 := ⟨d - 1, by omega⟩
  refine aCall_in pl_M_laysOptimum (nle rfl) ?_
  show aW none m_M_laysOptimum (d + 1) 0 [(0, ar v0)] [] h 0 0 QQ
  unfold w_M_laysOptimum at hw
  refine r_aload_n (j := 0) d_M_laysOptimum_0 rfl ?_
  refine r_iconst d_M_laysOptimum_1 kc_m1 ?_
  obtain ⟨q1, hw⟩ := hw
  refine r_putI d_M_laysOptimum_2 ok_12 (nle rfl) (nle rfl) rfl lf_M_328 rfl q1 ?_
  refine r_iconst d_M_laysOptimum_5 kc_0 ?_
  refine r_istore_n (ls2 := [(1, ai (0 : Int32)), (0, ar v0)]) d_M_laysOptimum_6 (nle rfl) rfl ?_
  obtain ⟨n25, hw⟩ := hw
  refine r_pick (ls2 := [(0, ar v0), (1, ai (0 : Int32))]) [1, 0] rfl ?_
  exact s_M_laysOptimum_L7 hd hQ  n25 _ _ hw
set_option maxRecDepth 100000 in
set_option maxHeartbeats 4000000 in
theorem s_M_optimum {d : Nat} (hd : 4 ≤ d) {v0 : Nat} {v1 : Int32} {h : Hp} {Q : Int32 → Hp → Prop} {QQ : Option AV → Hp → Prop} (hw : w_M_optimum v0 v1 h Q) (hQ : ∀ r9 h9, Q r9 h9 → QQ (some (ai r9)) h9) : aCall m_M_optimum d [ar v0, ai v1] h 0 0 QQ := by
  obtain ⟨d, rfl⟩ : ∃ d9, d = d9 + 1 := ⟨d - 1, by omega⟩
  refine aCall_in pl_M_optimum (nle rfl) ?_
  show aW none m_M_optimum (d + 1) 0 [(0, ar v0), (1, ai v1)] [] h 0 0 QQ
  unfold w_M_optimum at hw
  refine r_iload_n (j := 1) d_M_optimum_0 rfl ?_
  refine r_iconst d_M_optimum_1 kc_0 ?_
  refine r_iconst d_M_optimum_2 kc_1 ?_
  refine r_callS (av := [ai v1, ai (0 : Int32), ai (1 : Int32)]) (rest := []) d_M_optimum_3 mk_M_isIn ll_M_148 st_M_isIn rfl rfl (nle rfl) (s_M_isIn  hw (fun r2 h1 hw => ?_))
  show aW none m_M_optimum (d + 1) 6 [(0, ar v0), (1, ai v1)] [ai (b2i r2)] h1 0 0 QQ
  refine r_if_eq d_M_optimum_6 (fun w9 => ?_) (fun w9 => ?_)
  · replace hw := hw.1 (b2i_0.mp w9)
    refine r_ldcw d_M_optimum_34 lc_M_277 ?_
    exact r_ireturn d_M_optimum_37.1 rfl (hQ _ _ hw)
  · replace hw := hw.2 (fun g9 => w9 (b2i_0.mpr g9))
    refine r_aload_n (j := 0) d_M_optimum_9 rfl ?_
    obtain ⟨q5, hw⟩ := hw
    refine r_callV (av := []) (rest := []) (ci := 12) d_M_optimum_10 mk_M_laysOptimum ll_M_337 im_M_laysOptimum se_M_laysOptimum rfl (nle rfl) rfl rfl (nle rfl) q5 (s_M_laysOptimum (by omega) hw (fun r4 h3 hw => ?_))
    show aW none m_M_optimum (d + 1) 13 [(0, ar v0), (1, ai v1)] [ai (b2i r4)] h3 0 0 QQ
    refine r_if_eq d_M_optimum_13 (fun w9 => ?_) (fun w9 => ?_)
    · replace hw := hw.1 (b2i_0.mp w9)
      refine r_ldcw d_M_optimum_34 lc_M_277 ?_
      exact r_ireturn d_M_optimum_37.1 rfl (hQ _ _ hw)
    · replace hw := hw.2 (fun g9 => w9 (b2i_0.mpr g9))
      refine r_iload_n (j := 1) d_M_optimum_16 rfl ?_
      refine r_if_ne d_M_optimum_17 (fun w9 => ?_) (fun w9 => ?_)
      · replace hw := hw.2 w9
        refine r_aload_n (j := 0) d_M_optimum_27 rfl ?_
        obtain ⟨q6, hw⟩ := hw
        refine r_getI d_M_optimum_28 ok_12 (nle rfl) (nle rfl) rfl lf_M_328 q6 ?_
        refine r_goto d_M_optimum_31 ?_
        exact r_ireturn d_M_optimum_37.1 rfl (hQ _ _ hw)
      · replace hw := hw.1 w9
        refine r_aload_n (j := 0) d_M_optimum_20 rfl ?_
        obtain ⟨q7, hw⟩ := hw
        refine r_getI d_M_optimum_21 ok_12 (nle rfl) (nle rfl) rfl lf_M_334 q7 ?_
        refine r_goto d_M_optimum_24 ?_
        exact r_ireturn d_M_optimum_37.1 rfl (hQ _ _ hw)
set_option maxRecDepth 100000 in
set_option maxHeartbeats 4000000 in
theorem s_M_plan {d : Nat} (hd : 4 ≤ d) {v0 : Nat} {v1 : Int32} {h : Hp} {Q : Int32 → Hp → Prop} {QQ : Option AV → Hp → Prop} (hw : w_M_plan v0 v1 h Q) (hQ : ∀ r9 h9, Q r9 h9 → QQ (some (ai r9)) h9) : aCall m_M_plan d [ar v0, ai v1] h 0 0 QQ := by
  obtain ⟨d, rfl⟩ : ∃ d9, d = d9 + 1 := ⟨d - 1, by omega⟩
  refine aCall_in pl_M_plan (nle rfl) ?_
  show aW none m_M_plan (d + 1) 0 [(0, ar v0), (1, ai v1)] [] h 0 0 QQ
  unfold w_M_plan at hw
  refine r_aload_n (j := 0) d_M_plan_0 rfl ?_
  refine r_iload_n (j := 1) d_M_plan_1 rfl ?_
  obtain ⟨q3, hw⟩ := hw
  refine r_callV (av := [ai v1]) (rest := []) (ci := 12) d_M_plan_2 mk_M_isColumn ll_M_268 im_M_isColumn se_M_isColumn rfl (nle rfl) rfl rfl (nle rfl) q3 (s_M_isColumn (by omega) hw (fun r2 h1 hw => ?_))
  show aW none m_M_plan (d + 1) 5 [(0, ar v0), (1, ai v1)] [ai (b2i r2)] h1 0 0 QQ
  refine r_if_eq d_M_plan_5 (fun w9 => ?_) (fun w9 => ?_)
  · replace hw := hw.1 (b2i_0.mp w9)
    refine r_iconst d_M_plan_24 kc_m1 ?_
    exact r_ireturn d_M_plan_25.1 rfl (hQ _ _ hw)
  · replace hw := hw.2 (fun g9 => w9 (b2i_0.mpr g9))
    refine r_aload_n (j := 0) d_M_plan_8 rfl ?_
    obtain ⟨q6, hw⟩ := hw
    refine r_callV (av := []) (rest := []) (ci := 12) d_M_plan_9 mk_M_laysOptimum ll_M_337 im_M_laysOptimum se_M_laysOptimum rfl (nle rfl) rfl rfl (nle rfl) q6 (s_M_laysOptimum (by omega) hw (fun r5 h4 hw => ?_))
    show aW none m_M_plan (d + 1) 12 [(0, ar v0), (1, ai v1)] [ai (b2i r5)] h4 0 0 QQ
    refine r_if_eq d_M_plan_12 (fun w9 => ?_) (fun w9 => ?_)
    · replace hw := hw.1 (b2i_0.mp w9)
      refine r_iconst d_M_plan_24 kc_m1 ?_
      exact r_ireturn d_M_plan_25.1 rfl (hQ _ _ hw)
    · replace hw := hw.2 (fun g9 => w9 (b2i_0.mpr g9))
      refine r_aload_n (j := 0) d_M_plan_15 rfl ?_
      obtain ⟨q7, hw⟩ := hw
      refine r_getR d_M_plan_16 ok_12 (nle rfl) (nle rfl) rfl lf_M_39 q7 ?_
      refine r_iload_n (j := 1) d_M_plan_19 rfl ?_
      obtain ⟨q8, hw⟩ := hw
      obtain ⟨q9, hw⟩ := hw
      refine r_iald d_M_plan_20 q8 q9 ?_
      refine r_goto d_M_plan_21 ?_
      exact r_ireturn d_M_plan_25.1 rfl (hQ _ _ hw)
set_option maxRecDepth 100000 in
set_option maxHeartbeats 4000000 in
theorem s_M_partOf {d : Nat} {v0 : Nat} {v1 : Int32} {v2 : Int32} {h : Hp} {Q : Int32 → Hp → Prop} {QQ : Option AV → Hp → Prop} (hw : w_M_partOf v0 v1 v2 h Q) (hQ : ∀ r9 h9, Q r9 h9 → QQ (some (ai r9)) h9) : aCall m_M_partOf d [ar v0, ai v1, ai v2] h 0 0 QQ := by
  refine aCall_in pl_M_partOf (nle rfl) ?_
  show aW none m_M_partOf d 0 [(0, ar v0), (1, ai v1), (2, ai v2)] [] h 0 0 QQ
  unfold w_M_partOf at hw
  refine r_iload_n (j := 1) d_M_partOf_0 rfl ?_
  refine r_aload_n (j := 0) d_M_partOf_1 rfl ?_
  obtain ⟨q1, hw⟩ := hw
  refine r_getR d_M_partOf_2 ok_12 (nle rfl) (nle rfl) rfl lf_M_45 q1 ?_
  refine r_iload_n (j := 2) d_M_partOf_5 rfl ?_
  obtain ⟨q2, hw⟩ := hw
  obtain ⟨q3, hw⟩ := hw
  refine r_iald d_M_partOf_6 q2 q3 ?_
  obtain ⟨q4, hw⟩ := hw
  refine r_idiv d_M_partOf_7 q4 ?_
  refine r_aload_n (j := 0) d_M_partOf_8 rfl ?_
  refine r_getR d_M_partOf_9 ok_12 (nle rfl) (nle rfl) rfl lf_M_39 q1 ?_
  refine r_iload_n (j := 2) d_M_partOf_12 rfl ?_
  obtain ⟨q5, hw⟩ := hw
  obtain ⟨q6, hw⟩ := hw
  refine r_iald d_M_partOf_13 q5 q6 ?_
  refine r_iconst d_M_partOf_14 kc_1 ?_
  refine r_iadd d_M_partOf_15 ?_
  obtain ⟨q7, hw⟩ := hw
  refine r_irem d_M_partOf_16 q7 ?_
  exact r_ireturn d_M_partOf_17.1 rfl (hQ _ _ hw)
set_option maxRecDepth 100000 in
set_option maxHeartbeats 4000000 in
theorem s_M_strayOf_L21 {d : Nat} (hd : 1 ≤ d + 1) {Q : Int32 → Hp → Prop} {QQ : Option AV → Hp → Prop} (hQ : ∀ r9 h9, Q r9 h9 → QQ (some (ai r9)) h9) {v0 : Nat} {v1 : Int32} {v2 : Int32} {v3 : Int32} {v4 : Int32} {v5 : Int32} {k6 : Int32 → Int32 → Hp → Prop} (hk6 : ∀ v4 v5 h9, k6 v4 v5 h9 → aW none m_M_strayOf (d + 1) 6 [(0, ar v0), (1, ai v1), (2, ai v2), (3, ai v3), (4, ai v4), (5, ai v5)] [] h9 0 0 QQ) : ∀ (n : Nat) (v6 : Int32) (v7 : Int32) (h : Hp), w_M_strayOf_L21 Q k6 v0 v1 v2 v3 v4 v5 n v6 v7 h → aW none m_M_strayOf (d + 1) 21 [(0, ar v0), (1, ai v1), (2, ai v2), (3, ai v3), (4, ai v4), (5, ai v5), (6, ai v6), (7, ai v7)] [] h 0 0 QQ := by
  intro n
  induction n with
  | zero => intro v6 v7 h hw; exact hw.elim
  | succ n ih =>
    intro v6 v7 h hw
    unfold w_M_strayOf_L21 at hw
    refine r_iload (j := 7) d_M_strayOf_21 rfl ?_
    refine r_aload_n (j := 0) d_M_strayOf_23 rfl ?_
    obtain ⟨q2, hw⟩ := hw
    refine r_getI d_M_strayOf_24 ok_12 (nle rfl) (nle rfl) rfl lf_M_247 q2 ?_
    refine r_icmp_ge d_M_strayOf_27 (fun w9 => ?_) (fun w9 => ?_)
    · replace hw := hw.1 w9
      refine r_iload (j := 4) d_M_strayOf_57 rfl ?_
      refine r_iload_n (j := 3) d_M_strayOf_59 rfl ?_
      refine r_iload (j := 6) d_M_strayOf_60 rfl ?_
      refine r_imul d_M_strayOf_62 ?_
      refine r_iload_n (j := 2) d_M_strayOf_63 rfl ?_
      refine r_aload_n (j := 0) d_M_strayOf_64 rfl ?_
      refine r_iload (j := 5) d_M_strayOf_65 rfl ?_
      refine r_callV (av := [ai v5]) (rest := [ai v2, ai (v3 * v6), ai v4]) (ci := 12) d_M_strayOf_67 mk_M_needOf ll_M_281 im_M_needOf se_M_needOf rfl (nle rfl) rfl rfl (nle rfl) q2 (s_M_needOf  hw (fun r4 h3 hw => ?_))
      show aW none m_M_strayOf (d + 1) 70 [(0, ar v0), (1, ai v1), (2, ai v2), (3, ai v3), (4, ai v4), (5, ai v5), (6, ai v6), (7, ai v7)] [ai r4, ai v2, ai (v3 * v6), ai v4] h3 0 0 QQ
      refine r_imul d_M_strayOf_70 ?_
      refine r_isub d_M_strayOf_71 ?_
      refine r_callS (av := [ai ((v3 * v6) - (v2 * r4))]) (rest := [ai v4]) d_M_strayOf_72 mk_M_plus ll_M_296 st_M_plus rfl rfl (nle rfl) (s_M_plus  hw (fun r6 h5 hw => ?_))
      show aW none m_M_strayOf (d + 1) 75 [(0, ar v0), (1, ai v1), (2, ai v2), (3, ai v3), (4, ai v4), (5, ai v5), (6, ai v6), (7, ai v7)] [ai r6, ai v4] h5 0 0 QQ
      refine r_callS (av := [ai v4, ai r6]) (rest := []) d_M_strayOf_75 mk_M_greater ll_M_343 st_M_greater rfl rfl (nle rfl) (s_M_greater  hw (fun r8 h7 hw => ?_))
      show aW none m_M_strayOf (d + 1) 78 [(0, ar v0), (1, ai v1), (2, ai v2), (3, ai v3), (4, ai v4), (5, ai v5), (6, ai v6), (7, ai v7)] [ai r8] h7 0 0 QQ
      refine r_istore (ls2 := [(4, ai r8), (0, ar v0), (1, ai v1), (2, ai v2), (3, ai v3), (5, ai v5), (6, ai v6), (7, ai v7)]) d_M_strayOf_78 (nle rfl) rfl ?_
      refine r_iinc (j := 5) (ls2 := [(5, ai (v5 + (1 : Int32))), (4, ai r8), (0, ar v0), (1, ai v1), (2, ai v2), (3, ai v3), (6, ai v6), (7, ai v7)]) d_M_strayOf_80 rfl (congrArg (HAdd.hAdd v5) kc_1) (nle rfl) rfl ?_
      refine r_goto d_M_strayOf_83 ?_
      refine r_pick (ls2 := [(0, ar v0), (1, ai v1), (2, ai v2), (3, ai v3), (4, ai r8), (5, ai (v5 + (1 : Int32)))]) [2, 3, 4, 5, 1, 0] rfl ?_
      exact hk6 _ _ _ hw
    · replace hw := hw.2 w9
      refine r_iload (j := 6) d_M_strayOf_30 rfl ?_
      refine r_aload_n (j := 0) d_M_strayOf_32 rfl ?_
      refine r_iload_n (j := 1) d_M_strayOf_33 rfl ?_
      refine r_iload (j := 7) d_M_strayOf_34 rfl ?_
      refine r_callV (av := [ai v1, ai v7]) (rest := [ai v6]) (ci := 12) d_M_strayOf_36 mk_M_partOf ll_M_340 im_M_partOf se_M_partOf rfl (nle rfl) rfl rfl (nle rfl) q2 (s_M_partOf  hw (fun r10 h9 hw => ?_))
      show aW none m_M_strayOf (d + 1) 39 [(0, ar v0), (1, ai v1), (2, ai v2), (3, ai v3), (4, ai v4), (5, ai v5), (6, ai v6), (7, ai v7)] [ai r10, ai v6] h9 0 0 QQ
      refine r_aload_n (j := 0) d_M_strayOf_39 rfl ?_
      refine r_iload (j := 7) d_M_strayOf_40 rfl ?_
      refine r_iload (j := 5) d_M_strayOf_42 rfl ?_
      obtain ⟨q13, hw⟩ := hw
      refine r_callV (av := [ai v7, ai v5]) (rest := [ai r10, ai v6]) (ci := 12) d_M_strayOf_44 mk_M_numberOf ll_M_274 im_M_numberOf se_M_numberOf rfl (nle rfl) rfl rfl (nle rfl) q13 (s_M_numberOf  hw (fun r12 h11 hw => ?_))
      show aW none m_M_strayOf (d + 1) 47 [(0, ar v0), (1, ai v1), (2, ai v2), (3, ai v3), (4, ai v4), (5, ai v5), (6, ai v6), (7, ai v7)] [ai r12, ai r10, ai v6] h11 0 0 QQ
      refine r_imul d_M_strayOf_47 ?_
      refine r_iadd d_M_strayOf_48 ?_
      refine r_istore (ls2 := [(6, ai (v6 + (r10 * r12))), (0, ar v0), (1, ai v1), (2, ai v2), (3, ai v3), (4, ai v4), (5, ai v5), (7, ai v7)]) d_M_strayOf_49 (nle rfl) rfl ?_
      refine r_iinc (j := 7) (ls2 := [(7, ai (v7 + (1 : Int32))), (6, ai (v6 + (r10 * r12))), (0, ar v0), (1, ai v1), (2, ai v2), (3, ai v3), (4, ai v4), (5, ai v5)]) d_M_strayOf_51 rfl (congrArg (HAdd.hAdd v7) kc_1) (nle rfl) rfl ?_
      refine r_goto d_M_strayOf_54 ?_
      refine r_pick (ls2 := [(0, ar v0), (1, ai v1), (2, ai v2), (3, ai v3), (4, ai v4), (5, ai v5), (6, ai (v6 + (r10 * r12))), (7, ai (v7 + (1 : Int32)))]) [2, 3, 4, 5, 6, 7, 1, 0] rfl ?_
      exact ih _ _ _ hw
set_option maxRecDepth 100000 in
set_option maxHeartbeats 4000000 in
theorem s_M_strayOf_L6 {d : Nat} (hd : 1 ≤ d + 1) {Q : Int32 → Hp → Prop} {QQ : Option AV → Hp → Prop} (hQ : ∀ r9 h9, Q r9 h9 → QQ (some (ai r9)) h9) {v0 : Nat} {v1 : Int32} {v2 : Int32} {v3 : Int32} : ∀ (n : Nat) (v4 : Int32) (v5 : Int32) (h : Hp), w_M_strayOf_L6 Q  v0 v1 v2 v3 n v4 v5 h → aW none m_M_strayOf (d + 1) 6 [(0, ar v0), (1, ai v1), (2, ai v2), (3, ai v3), (4, ai v4), (5, ai v5)] [] h 0 0 QQ := by
  intro n
  induction n with
  | zero => intro v4 v5 h hw; exact hw.elim
  | succ n ih =>
    intro v4 v5 h hw
    unfold w_M_strayOf_L6 at hw
    refine r_iload (j := 5) d_M_strayOf_6 rfl ?_
    refine r_aload_n (j := 0) d_M_strayOf_8 rfl ?_
    obtain ⟨q1, hw⟩ := hw
    refine r_getI d_M_strayOf_9 ok_12 (nle rfl) (nle rfl) rfl lf_M_244 q1 ?_
    refine r_icmp_ge d_M_strayOf_12 (fun w9 => ?_) (fun w9 => ?_)
    · replace hw := hw.1 w9
      refine r_iload (j := 4) d_M_strayOf_86 rfl ?_
      exact r_ireturn d_M_strayOf_88.1 rfl (hQ _ _ hw)
    · replace hw := hw.2 w9
      refine r_iconst d_M_strayOf_15 kc_0 ?_
      refine r_istore (ls2 := [(6, ai (0 : Int32)), (0, ar v0), (1, ai v1), (2, ai v2), (3, ai v3), (4, ai v4), (5, ai v5)]) d_M_strayOf_16 (nle rfl) rfl ?_
      refine r_iconst d_M_strayOf_18 kc_0 ?_
      refine r_istore (ls2 := [(7, ai (0 : Int32)), (6, ai (0 : Int32)), (0, ar v0), (1, ai v1), (2, ai v2), (3, ai v3), (4, ai v4), (5, ai v5)]) d_M_strayOf_19 (nle rfl) rfl ?_
      obtain ⟨n14, hw⟩ := hw
      refine r_pick (ls2 := [(0, ar v0), (1, ai v1), (2, ai v2), (3, ai v3), (4, ai v4), (5, ai v5), (6, ai (0 : Int32)), (7, ai (0 : Int32))]) [2, 3, 4, 5, 6, 7, 1, 0] rfl ?_
      exact s_M_strayOf_L21 hd hQ ih n14 _ _ _ hw
set_option maxRecDepth 100000 in
set_option maxHeartbeats 4000000 in
theorem s_M_strayOf {d : Nat} (hd : 1 ≤ d) {v0 : Nat} {v1 : Int32} {v2 : Int32} {v3 : Int32} {h : Hp} {Q : Int32 → Hp → Prop} {QQ : Option AV → Hp → Prop} (hw : w_M_strayOf v0 v1 v2 v3 h Q) (hQ : ∀ r9 h9, Q r9 h9 → QQ (some (ai r9)) h9) : aCall m_M_strayOf d [ar v0, ai v1, ai v2, ai v3] h 0 0 QQ := by
  obtain ⟨d, rfl⟩ : ∃ d9, d = d9 + 1 := ⟨d - 1, by omega⟩
  refine aCall_in pl_M_strayOf (nle rfl) ?_
  show aW none m_M_strayOf (d + 1) 0 [(0, ar v0), (1, ai v1), (2, ai v2), (3, ai v3)] [] h 0 0 QQ
  unfold w_M_strayOf at hw
  refine r_iconst d_M_strayOf_0 kc_0 ?_
  refine r_istore (ls2 := [(4, ai (0 : Int32)), (0, ar v0), (1, ai v1), (2, ai v2), (3, ai v3)]) d_M_strayOf_1 (nle rfl) rfl ?_
  refine r_iconst d_M_strayOf_3 kc_0 ?_
  refine r_istore (ls2 := [(5, ai (0 : Int32)), (4, ai (0 : Int32)), (0, ar v0), (1, ai v1), (2, ai v2), (3, ai v3)]) d_M_strayOf_4 (nle rfl) rfl ?_
  obtain ⟨n15, hw⟩ := hw
  refine r_pick (ls2 := [(0, ar v0), (1, ai v1), (2, ai v2), (3, ai v3), (4, ai (0 : Int32)), (5, ai (0 : Int32))]) [2, 3, 4, 5, 1, 0] rfl ?_
  exact s_M_strayOf_L6 hd hQ  n15 _ _ _ hw
set_option maxRecDepth 100000 in
set_option maxHeartbeats 4000000 in
theorem s_M_stepsIn_L4 {d : Nat} (hd : 1 ≤ d + 1) {Q : Int32 → Hp → Prop} {QQ : Option AV → Hp → Prop} (hQ : ∀ r9 h9, Q r9 h9 → QQ (some (ai r9)) h9) {v0 : Nat} {v1 : Int32} : ∀ (n : Nat) (v2 : Int32) (v3 : Int32) (h : Hp), w_M_stepsIn_L4 Q  v0 v1 n v2 v3 h → aW none m_M_stepsIn (d + 1) 4 [(0, ar v0), (1, ai v1), (2, ai v2), (3, ai v3)] [] h 0 0 QQ := by
  intro n
  induction n with
  | zero => intro v2 v3 h hw; exact hw.elim
  | succ n ih =>
    intro v2 v3 h hw
    unfold w_M_stepsIn_L4 at hw
    refine r_iload_n (j := 3) d_M_stepsIn_4 rfl ?_
    refine r_aload_n (j := 0) d_M_stepsIn_5 rfl ?_
    obtain ⟨q1, hw⟩ := hw
    refine r_getI d_M_stepsIn_6 ok_12 (nle rfl) (nle rfl) rfl lf_M_247 q1 ?_
    refine r_icmp_ge d_M_stepsIn_9 (fun w9 => ?_) (fun w9 => ?_)
    · replace hw := hw.1 w9
      refine r_iload_n (j := 2) d_M_stepsIn_27 rfl ?_
      exact r_ireturn d_M_stepsIn_28.1 rfl (hQ _ _ hw)
    · replace hw := hw.2 w9
      refine r_iload_n (j := 2) d_M_stepsIn_12 rfl ?_
      refine r_aload_n (j := 0) d_M_stepsIn_13 rfl ?_
      refine r_iload_n (j := 1) d_M_stepsIn_14 rfl ?_
      refine r_iload_n (j := 3) d_M_stepsIn_15 rfl ?_
      refine r_callV (av := [ai v1, ai v3]) (rest := [ai v2]) (ci := 12) d_M_stepsIn_16 mk_M_partOf ll_M_340 im_M_partOf se_M_partOf rfl (nle rfl) rfl rfl (nle rfl) q1 (s_M_partOf  hw (fun r3 h2 hw => ?_))
      show aW none m_M_stepsIn (d + 1) 19 [(0, ar v0), (1, ai v1), (2, ai v2), (3, ai v3)] [ai r3, ai v2] h2 0 0 QQ
      refine r_iadd d_M_stepsIn_19 ?_
      refine r_istore_n (ls2 := [(2, ai (v2 + r3)), (0, ar v0), (1, ai v1), (3, ai v3)]) d_M_stepsIn_20 (nle rfl) rfl ?_
      refine r_iinc (j := 3) (ls2 := [(3, ai (v3 + (1 : Int32))), (2, ai (v2 + r3)), (0, ar v0), (1, ai v1)]) d_M_stepsIn_21 rfl (congrArg (HAdd.hAdd v3) kc_1) (nle rfl) rfl ?_
      refine r_goto d_M_stepsIn_24 ?_
      refine r_pick (ls2 := [(0, ar v0), (1, ai v1), (2, ai (v2 + r3)), (3, ai (v3 + (1 : Int32)))]) [2, 3, 1, 0] rfl ?_
      exact ih _ _ _ hw
set_option maxRecDepth 100000 in
set_option maxHeartbeats 4000000 in
theorem s_M_stepsIn {d : Nat} (hd : 1 ≤ d) {v0 : Nat} {v1 : Int32} {h : Hp} {Q : Int32 → Hp → Prop} {QQ : Option AV → Hp → Prop} (hw : w_M_stepsIn v0 v1 h Q) (hQ : ∀ r9 h9, Q r9 h9 → QQ (some (ai r9)) h9) : aCall m_M_stepsIn d [ar v0, ai v1] h 0 0 QQ := by
  obtain ⟨d, rfl⟩ : ∃ d9, d = d9 + 1 := ⟨d - 1, by omega⟩
  refine aCall_in pl_M_stepsIn (nle rfl) ?_
  show aW none m_M_stepsIn (d + 1) 0 [(0, ar v0), (1, ai v1)] [] h 0 0 QQ
  unfold w_M_stepsIn at hw
  refine r_iconst d_M_stepsIn_0 kc_0 ?_
  refine r_istore_n (ls2 := [(2, ai (0 : Int32)), (0, ar v0), (1, ai v1)]) d_M_stepsIn_1 (nle rfl) rfl ?_
  refine r_iconst d_M_stepsIn_2 kc_0 ?_
  refine r_istore_n (ls2 := [(3, ai (0 : Int32)), (2, ai (0 : Int32)), (0, ar v0), (1, ai v1)]) d_M_stepsIn_3 (nle rfl) rfl ?_
  obtain ⟨n4, hw⟩ := hw
  refine r_pick (ls2 := [(0, ar v0), (1, ai v1), (2, ai (0 : Int32)), (3, ai (0 : Int32))]) [2, 3, 1, 0] rfl ?_
  exact s_M_stepsIn_L4 hd hQ  n4 _ _ _ hw
set_option maxRecDepth 100000 in
set_option maxHeartbeats 4000000 in
theorem s_M_laysOrder_L80 {d : Nat} (hd : 2 ≤ d + 1) {Q : Hp → Prop} {QQ : Option AV → Hp → Prop} (hQ : ∀ h9, Q h9 → QQ none h9) {v0 : Nat} {v1 : Int32} {v2 : Int32} {k60 : Int32 → Hp → Prop} (hk60 : ∀ v2 h9, k60 v2 h9 → aW none m_M_laysOrder (d + 1) 60 [(0, ar v0), (1, ai v1), (2, ai v2)] [] h9 0 0 QQ) : ∀ (n : Nat) (v3 : Int32) (v4 : Int32) (h : Hp), w_M_laysOrder_L80 Q k60 v0 v1 v2 n v3 v4 h → aW none m_M_laysOrder (d + 1) 80 [(0, ar v0), (1, ai v1), (2, ai v2), (3, ai v3), (4, ai v4)] [] h 0 0 QQ := by
  intro n
  induction n with
  | zero => intro v3 v4 h hw; exact hw.elim
  | succ n ih =>
    intro v3 v4 h hw
    unfold w_M_laysOrder_L80 at hw
    refine r_iload (j := 4) d_M_laysOrder_80 rfl ?_
    refine r_aload_n (j := 0) d_M_laysOrder_82 rfl ?_
    obtain ⟨q7, hw⟩ := hw
    refine r_getI d_M_laysOrder_83 ok_12 (nle rfl) (nle rfl) rfl lf_M_247 q7 ?_
    refine r_icmp_ge d_M_laysOrder_86 (fun w9 => ?_) (fun w9 => ?_)
    · replace hw := hw.1 w9
      refine r_aload_n (j := 0) d_M_laysOrder_131 rfl ?_
      refine r_getR d_M_laysOrder_132 ok_12 (nle rfl) (nle rfl) rfl lf_M_42 q7 ?_
      refine r_iload_n (j := 2) d_M_laysOrder_135 rfl ?_
      refine r_iload_n (j := 3) d_M_laysOrder_136 rfl ?_
      refine r_aload_n (j := 0) d_M_laysOrder_137 rfl ?_
      refine r_iload_n (j := 2) d_M_laysOrder_138 rfl ?_
      refine r_aload_n (j := 0) d_M_laysOrder_139 rfl ?_
      refine r_iload_n (j := 2) d_M_laysOrder_140 rfl ?_
      refine r_callV (av := [ai v2]) (rest := [ai v2, ar v0, ai v3, ai v2, ar (gR h v0 30)]) (ci := 12) d_M_laysOrder_141 mk_M_stepsIn ll_M_350 im_M_stepsIn se_M_stepsIn rfl (nle rfl) rfl rfl (nle rfl) q7 (s_M_stepsIn (by omega) hw (fun r9 h8 hw => ?_))
      show aW none m_M_laysOrder (d + 1) 144 [(0, ar v0), (1, ai v1), (2, ai v2), (3, ai v3), (4, ai v4)] [ai r9, ai v2, ar v0, ai v3, ai v2, ar (gR h v0 30)] h8 0 0 QQ
      refine r_aload_n (j := 0) d_M_laysOrder_144 rfl ?_
      obtain ⟨q10, hw⟩ := hw
      refine r_getI d_M_laysOrder_145 ok_12 (nle rfl) (nle rfl) rfl lf_M_328 q10 ?_
      refine r_callV (av := [ai v2, ai r9, ai (gI h8 v0 29)]) (rest := [ai v3, ai v2, ar (gR h v0 30)]) (ci := 12) d_M_laysOrder_148 mk_M_strayOf ll_M_353 im_M_strayOf se_M_strayOf rfl (nle rfl) rfl rfl (nle rfl) q10 (s_M_strayOf (by omega) hw (fun r12 h11 hw => ?_))
      show aW none m_M_laysOrder (d + 1) 151 [(0, ar v0), (1, ai v1), (2, ai v2), (3, ai v3), (4, ai v4)] [ai r12, ai v3, ai v2, ar (gR h v0 30)] h11 0 0 QQ
      refine r_callS (av := [ai v3, ai r12]) (rest := [ai v2, ar (gR h v0 30)]) d_M_laysOrder_151 mk_M_greater ll_M_343 st_M_greater rfl rfl (nle rfl) (s_M_greater  hw (fun r14 h13 hw => ?_))
      show aW none m_M_laysOrder (d + 1) 154 [(0, ar v0), (1, ai v1), (2, ai v2), (3, ai v3), (4, ai v4)] [ai r14, ai v2, ar (gR h v0 30)] h13 0 0 QQ
      obtain ⟨q15, hw⟩ := hw
      obtain ⟨q16, hw⟩ := hw
      refine r_iast d_M_laysOrder_154 q15 q16 ?_
      refine r_iinc (j := 2) (ls2 := [(2, ai (v2 + (-1 : Int32))), (0, ar v0), (1, ai v1), (3, ai v3), (4, ai v4)]) d_M_laysOrder_155 rfl (congrArg (HAdd.hAdd v2) kc_m1) (nle rfl) rfl ?_
      refine r_goto d_M_laysOrder_158 ?_
      refine r_pick (ls2 := [(0, ar v0), (1, ai v1), (2, ai (v2 + (-1 : Int32)))]) [1, 2, 0] rfl ?_
      exact hk60 _ _ hw
    · replace hw := hw.2 w9
      refine r_aload_n (j := 0) d_M_laysOrder_89 rfl ?_
      refine r_iload_n (j := 2) d_M_laysOrder_90 rfl ?_
      refine r_iload (j := 4) d_M_laysOrder_91 rfl ?_
      refine r_callV (av := [ai v2, ai v4]) (rest := []) (ci := 12) d_M_laysOrder_93 mk_M_partOf ll_M_340 im_M_partOf se_M_partOf rfl (nle rfl) rfl rfl (nle rfl) q7 (s_M_partOf  hw (fun r18 h17 hw => ?_))
      show aW none m_M_laysOrder (d + 1) 96 [(0, ar v0), (1, ai v1), (2, ai v2), (3, ai v3), (4, ai v4)] [ai r18] h17 0 0 QQ
      refine r_aload_n (j := 0) d_M_laysOrder_96 rfl ?_
      obtain ⟨q19, hw⟩ := hw
      refine r_getR d_M_laysOrder_97 ok_12 (nle rfl) (nle rfl) rfl lf_M_39 q19 ?_
      refine r_iload (j := 4) d_M_laysOrder_100 rfl ?_
      obtain ⟨q20, hw⟩ := hw
      obtain ⟨q21, hw⟩ := hw
      refine r_iald d_M_laysOrder_102 q20 q21 ?_
      refine r_icmp_ge d_M_laysOrder_103 (fun w9 => ?_) (fun w9 => ?_)
      · replace hw := hw.1 w9
        refine r_iinc (j := 4) (ls2 := [(4, ai (v4 + (1 : Int32))), (0, ar v0), (1, ai v1), (2, ai v2), (3, ai v3)]) d_M_laysOrder_125 rfl (congrArg (HAdd.hAdd v4) kc_1) (nle rfl) rfl ?_
        refine r_goto d_M_laysOrder_128 ?_
        refine r_pick (ls2 := [(0, ar v0), (1, ai v1), (2, ai v2), (3, ai v3), (4, ai (v4 + (1 : Int32)))]) [1, 2, 3, 4, 0] rfl ?_
        exact ih _ _ _ hw
      · replace hw := hw.2 w9
        refine r_iload_n (j := 3) d_M_laysOrder_106 rfl ?_
        refine r_aload_n (j := 0) d_M_laysOrder_107 rfl ?_
        refine r_getR d_M_laysOrder_108 ok_12 (nle rfl) (nle rfl) rfl lf_M_42 q19 ?_
        refine r_iload_n (j := 2) d_M_laysOrder_111 rfl ?_
        refine r_aload_n (j := 0) d_M_laysOrder_112 rfl ?_
        refine r_getR d_M_laysOrder_113 ok_12 (nle rfl) (nle rfl) rfl lf_M_45 q19 ?_
        refine r_iload (j := 4) d_M_laysOrder_116 rfl ?_
        obtain ⟨q22, hw⟩ := hw
        obtain ⟨q23, hw⟩ := hw
        refine r_iald d_M_laysOrder_118 q22 q23 ?_
        refine r_iadd d_M_laysOrder_119 ?_
        obtain ⟨q24, hw⟩ := hw
        obtain ⟨q25, hw⟩ := hw
        refine r_iald d_M_laysOrder_120 q24 q25 ?_
        refine r_callS (av := [ai v3, ai (gI h17 (gR h17 v0 30) (ix (v2 + (gI h17 (gR h17 v0 31) (ix v4)))))]) (rest := []) d_M_laysOrder_121 mk_M_lesser ll_M_347 st_M_lesser rfl rfl (nle rfl) (s_M_lesser  hw (fun r27 h26 hw => ?_))
        show aW none m_M_laysOrder (d + 1) 124 [(0, ar v0), (1, ai v1), (2, ai v2), (3, ai v3), (4, ai v4)] [ai r27] h26 0 0 QQ
        refine r_istore_n (ls2 := [(3, ai r27), (0, ar v0), (1, ai v1), (2, ai v2), (4, ai v4)]) d_M_laysOrder_124 (nle rfl) rfl ?_
        refine r_iinc (j := 4) (ls2 := [(4, ai (v4 + (1 : Int32))), (3, ai r27), (0, ar v0), (1, ai v1), (2, ai v2)]) d_M_laysOrder_125 rfl (congrArg (HAdd.hAdd v4) kc_1) (nle rfl) rfl ?_
        refine r_goto d_M_laysOrder_128 ?_
        refine r_pick (ls2 := [(0, ar v0), (1, ai v1), (2, ai v2), (3, ai r27), (4, ai (v4 + (1 : Int32)))]) [2, 3, 4, 1, 0] rfl ?_
        exact ih _ _ _ hw
