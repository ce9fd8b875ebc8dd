set_option maxRecDepth 100000 in
set_option maxHeartbeats 4000000 in
theorem s_Co_heldSums {d : Nat} (hd : 2 ≤ d) {v0 : Nat} {v1 : Nat} {h : Hp} {Q : Hp → Prop} {QQ : Option AV → Hp → Prop} (hw : w_Co_heldSums v0 v1 h Q) (hQ : ∀ h9, Q h9 → QQ none h9) : aCall m_Co_heldSums d [ar v0, ar v1] h 0 0 QQ := by
  obtain ⟨d, rfl⟩ : ∃ d9, d = d9 + 1 := ⟨d - 1, by omega⟩
  refine aCall_in pl_Co_heldSums (nle rfl) ?_
  show aW none m_Co_heldSums (d + 1) 0 [(0, ar v0), (1, ar v1)] [] h 0 0 QQ
  unfold w_Co_heldSums at hw
  refine r_aload_n (j := 1) d_Co_heldSums_0 rfl ?_
  refine r_iconst d_Co_heldSums_1 kc_0 ?_
  refine r_callS (av := [ar v1, ai (0 : Int32)]) (rest := []) d_Co_heldSums_2 mk_JA_fill_IIV ll_Co_19 st_JA_fill_IIV rfl rfl (nle rfl) (s_JA_fill_IIV  hw (fun h1 hw => ?_))
  show aW none m_Co_heldSums (d + 1) 5 [(0, ar v0), (1, ar v1)] [] h1 0 0 QQ
  refine r_iconst d_Co_heldSums_5 kc_0 ?_
  refine r_istore_n (ls2 := [(2, ai (0 : Int32)), (0, ar v0), (1, ar v1)]) d_Co_heldSums_6 (nle rfl) rfl ?_
  obtain ⟨n7, hw⟩ := hw
  refine r_pick (ls2 := [(0, ar v0), (1, ar v1), (2, ai (0 : Int32))]) [1, 2, 0] rfl ?_
  exact s_Co_heldSums_L7 hd hQ  n7 _ _ hw
set_option maxRecDepth 100000 in
set_option maxHeartbeats 4000000 in
theorem s_Co_heldGain_L4 {d : Nat} (hd : 1 ≤ d + 1) {Q : Int32 → Hp → Prop} {QQ : Option AV → Hp → Prop} (hQ : ∀ r9 h9, Q r9 h9 → QQ (some (ai r9)) h9) {v0 : Nat} : ∀ (n : Nat) (v1 : Int32) (v2 : Int32) (h : Hp), w_Co_heldGain_L4 Q  v0 n v1 v2 h → aW none m_Co_heldGain (d + 1) 4 [(0, ar v0), (1, ai v1), (2, ai v2)] [] h 0 0 QQ := by
  intro n
  induction n with
  | zero => intro v1 v2 h hw; exact hw.elim
  | succ n ih =>
    intro v1 v2 h hw
    unfold w_Co_heldGain_L4 at hw
    refine r_iload_n (j := 2) d_Co_heldGain_4 rfl ?_
    refine r_aload_n (j := 0) d_Co_heldGain_5 rfl ?_
    obtain ⟨q1, hw⟩ := hw
    refine r_getI d_Co_heldGain_6 ok_1 (nle rfl) (nle rfl) rfl lf_Co_25 q1 ?_
    refine r_icmp_ge d_Co_heldGain_9 (fun w9 => ?_) (fun w9 => ?_)
    · replace hw := hw.1 w9
      refine r_iload_n (j := 1) d_Co_heldGain_32 rfl ?_
      exact r_ireturn d_Co_heldGain_33.1 rfl (hQ _ _ hw)
    · replace hw := hw.2 w9
      refine r_iload_n (j := 1) d_Co_heldGain_12 rfl ?_
      refine r_aload_n (j := 0) d_Co_heldGain_13 rfl ?_
      refine r_iload_n (j := 2) d_Co_heldGain_14 rfl ?_
      refine r_callV (av := [ai v2]) (rest := [ai v1]) (ci := 1) d_Co_heldGain_15 mk_Co_heldOf ll_Co_53 im_Co_heldOf se_Co_heldOf rfl (nle rfl) rfl rfl (nle rfl) q1 (s_Co_heldOf  hw (fun r3 h2 hw => ?_))
      show aW none m_Co_heldGain (d + 1) 18 [(0, ar v0), (1, ai v1), (2, ai v2)] [ai r3, ai v1] h2 0 0 QQ
      refine r_aload_n (j := 0) d_Co_heldGain_18 rfl ?_
      refine r_iload_n (j := 2) d_Co_heldGain_19 rfl ?_
      obtain ⟨q6, hw⟩ := hw
      refine r_callV (av := [ai v2]) (rest := [ai r3, ai v1]) (ci := 1) d_Co_heldGain_20 mk_Co_gainOf ll_Co_60 im_Co_gainOf se_Co_gainOf rfl (nle rfl) rfl rfl (nle rfl) q6 (s_Co_gainOf  hw (fun r5 h4 hw => ?_))
      show aW none m_Co_heldGain (d + 1) 23 [(0, ar v0), (1, ai v1), (2, ai v2)] [ai r5, ai r3, ai v1] h4 0 0 QQ
      refine r_imul d_Co_heldGain_23 ?_
      refine r_iadd d_Co_heldGain_24 ?_
      refine r_istore_n (ls2 := [(1, ai (v1 + (r3 * r5))), (0, ar v0), (2, ai v2)]) d_Co_heldGain_25 (nle rfl) rfl ?_
      refine r_iinc (j := 2) (ls2 := [(2, ai (v2 + (1 : Int32))), (1, ai (v1 + (r3 * r5))), (0, ar v0)]) d_Co_heldGain_26 rfl (congrArg (HAdd.hAdd v2) kc_1) (nle rfl) rfl ?_
      refine r_goto d_Co_heldGain_29 ?_
      refine r_pick (ls2 := [(0, ar v0), (1, ai (v1 + (r3 * r5))), (2, ai (v2 + (1 : Int32)))]) [2, 1, 0] rfl ?_
      exact ih _ _ _ hw
set_option maxRecDepth 100000 in
set_option maxHeartbeats 4000000 in
theorem s_Co_heldGain {d : Nat} (hd : 1 ≤ d) {v0 : Nat} {h : Hp} {Q : Int32 → Hp → Prop} {QQ : Option AV → Hp → Prop} (hw : w_Co_heldGain v0 h Q) (hQ : ∀ r9 h9, Q r9 h9 → QQ (some (ai r9)) h9) : aCall m_Co_heldGain d [ar v0] h 0 0 QQ := by
  obtain ⟨d, rfl⟩ : ∃ d9, d = d9 + 1 := ⟨d - 1, by omega⟩
  refine aCall_in pl_Co_heldGain (nle rfl) ?_
  show aW none m_Co_heldGain (d + 1) 0 [(0, ar v0)] [] h 0 0 QQ
  unfold w_Co_heldGain at hw
  refine r_iconst d_Co_heldGain_0 kc_0 ?_
  refine r_istore_n (ls2 := [(1, ai (0 : Int32)), (0, ar v0)]) d_Co_heldGain_1 (nle rfl) rfl ?_
  refine r_iconst d_Co_heldGain_2 kc_0 ?_
  refine r_istore_n (ls2 := [(2, ai (0 : Int32)), (1, ai (0 : Int32)), (0, ar v0)]) d_Co_heldGain_3 (nle rfl) rfl ?_
  obtain ⟨n7, hw⟩ := hw
  refine r_pick (ls2 := [(0, ar v0), (1, ai (0 : Int32)), (2, ai (0 : Int32))]) [2, 1, 0] rfl ?_
  exact s_Co_heldGain_L4 hd hQ  n7 _ _ _ hw
set_option maxRecDepth 100000 in
set_option maxHeartbeats 4000000 in
theorem s_Co_heldSteps_L4 {d : Nat} (hd : 1 ≤ d + 1) {Q : Int32 → Hp → Prop} {QQ : Option AV → Hp → Prop} (hQ : ∀ r9 h9, Q r9 h9 → QQ (some (ai r9)) h9) {v0 : Nat} : ∀ (n : Nat) (v1 : Int32) (v2 : Int32) (h : Hp), w_Co_heldSteps_L4 Q  v0 n v1 v2 h → aW none m_Co_heldSteps (d + 1) 4 [(0, ar v0), (1, ai v1), (2, ai v2)] [] h 0 0 QQ := by
  intro n
  induction n with
  | zero => intro v1 v2 h hw; exact hw.elim
  | succ n ih =>
    intro v1 v2 h hw
    unfold w_Co_heldSteps_L4 at hw
    refine r_iload_n (j := 2) d_Co_heldSteps_4 rfl ?_
    refine r_aload_n (j := 0) d_Co_heldSteps_5 rfl ?_
    obtain ⟨q1, hw⟩ := hw
    refine r_getI d_Co_heldSteps_6 ok_1 (nle rfl) (nle rfl) rfl lf_Co_25 q1 ?_
    refine r_icmp_ge d_Co_heldSteps_9 (fun w9 => ?_) (fun w9 => ?_)
    · replace hw := hw.1 w9
      refine r_iload_n (j := 1) d_Co_heldSteps_26 rfl ?_
      exact r_ireturn d_Co_heldSteps_27.1 rfl (hQ _ _ hw)
    · replace hw := hw.2 w9
      refine r_iload_n (j := 1) d_Co_heldSteps_12 rfl ?_
      refine r_aload_n (j := 0) d_Co_heldSteps_13 rfl ?_
      refine r_iload_n (j := 2) d_Co_heldSteps_14 rfl ?_
      refine r_callV (av := [ai v2]) (rest := [ai v1]) (ci := 1) d_Co_heldSteps_15 mk_Co_heldOf ll_Co_53 im_Co_heldOf se_Co_heldOf rfl (nle rfl) rfl rfl (nle rfl) q1 (s_Co_heldOf  hw (fun r3 h2 hw => ?_))
      show aW none m_Co_heldSteps (d + 1) 18 [(0, ar v0), (1, ai v1), (2, ai v2)] [ai r3, ai v1] h2 0 0 QQ
      refine r_iadd d_Co_heldSteps_18 ?_
      refine r_istore_n (ls2 := [(1, ai (v1 + r3)), (0, ar v0), (2, ai v2)]) d_Co_heldSteps_19 (nle rfl) rfl ?_
      refine r_iinc (j := 2) (ls2 := [(2, ai (v2 + (1 : Int32))), (1, ai (v1 + r3)), (0, ar v0)]) d_Co_heldSteps_20 rfl (congrArg (HAdd.hAdd v2) kc_1) (nle rfl) rfl ?_
      refine r_goto d_Co_heldSteps_23 ?_
      refine r_pick (ls2 := [(0, ar v0), (1, ai (v1 + r3)), (2, ai (v2 + (1 : Int32)))]) [2, 1, 0] rfl ?_
      exact ih _ _ _ hw
set_option maxRecDepth 100000 in
set_option maxHeartbeats 4000000 in
theorem s_Co_heldSteps {d : Nat} (hd : 1 ≤ d) {v0 : Nat} {h : Hp} {Q : Int32 → Hp → Prop} {QQ : Option AV → Hp → Prop} (hw : w_Co_heldSteps v0 h Q) (hQ : ∀ r9 h9, Q r9 h9 → QQ (some (ai r9)) h9) : aCall m_Co_heldSteps d [ar v0] h 0 0 QQ := by
  obtain ⟨d, rfl⟩ : ∃ d9, d = d9 + 1 := ⟨d - 1, by omega⟩
  refine aCall_in pl_Co_heldSteps (nle rfl) ?_
  show aW none m_Co_heldSteps (d + 1) 0 [(0, ar v0)] [] h 0 0 QQ
  unfold w_Co_heldSteps at hw
  refine r_iconst d_Co_heldSteps_0 kc_0 ?_
  refine r_istore_n (ls2 := [(1, ai (0 : Int32)), (0, ar v0)]) d_Co_heldSteps_1 (nle rfl) rfl ?_
  refine r_iconst d_Co_heldSteps_2 kc_0 ?_
  refine r_istore_n (ls2 := [(2, ai (0 : Int32)), (1, ai (0 : Int32)), (0, ar v0)]) d_Co_heldSteps_3 (nle rfl) rfl ?_
  obtain ⟨n4, hw⟩ := hw
  refine r_pick (ls2 := [(0, ar v0), (1, ai (0 : Int32)), (2, ai (0 : Int32))]) [2, 1, 0] rfl ?_
  exact s_Co_heldSteps_L4 hd hQ  n4 _ _ _ hw
set_option maxRecDepth 100000 in
set_option maxHeartbeats 4000000 in
theorem s_Cr_init {d : Nat} (hd : 1 ≤ d) {v0 : Nat} {v1 : Nat} {bc bs : Nat} {h : Hp} {Q : Hp → Prop} {QQ : Option AV → Hp → Prop} (hw : w_Cr_init bc bs v0 v1 h Q) (hQ : ∀ h9, Q h9 → QQ none h9) : aCall m_Cr_init d [ar v0, ar v1] h bc bs QQ := by
  obtain ⟨d, rfl⟩ : ∃ d9, d = d9 + 1 := ⟨d - 1, by omega⟩
  refine aCall_in pl_Cr_init (nle rfl) ?_
  show aW none m_Cr_init (d + 1) 0 [(0, ar v0), (1, ar v1)] [] h bc bs QQ
  unfold w_Cr_init at hw
  refine r_aload_n (j := 0) d_Cr_init_0 rfl ?_
  obtain ⟨q1, hw⟩ := hw
  refine r_objInit d_Cr_init_1 ll_Cr_5 oi_1 oi_2 (nle rfl) q1 ?_
  refine r_aload_n (j := 0) d_Cr_init_4 rfl ?_
  refine r_bipush d_Cr_init_5 kb_20 ?_
  obtain ⟨q2, hw⟩ := hw
  obtain ⟨q3, hw⟩ := hw
  obtain ⟨b4, t5, u8, u9, u6, u7, hw⟩ := hw
  subst u8 u9
  refine r_newL d_Cr_init_7 ac_J u6 rfl u7 (refB_r q2 refB_n) (refL_r q2 (refL_r q3 refL_n)) ?_
  generalize e8 : nw h 21 (ix (20 : Int32)) = h6
  generalize e7 : gX h = a7
  replace hw := hw a7 h6 e7.symm e8.symm
  obtain ⟨q8, hw⟩ := hw
  obtain ⟨q9, hw⟩ := hw
  refine r_putFR d_Cr_init_9 ok_2 (nle rfl) (nle rfl) rfl lf_Cr_11 rfl rfl rfl q8 q9 ?_
  refine r_aload_n (j := 0) d_Cr_init_12 rfl ?_
  refine r_iconst d_Cr_init_13 kc_4 ?_
  obtain ⟨q10, hw⟩ := hw
  obtain ⟨q11, hw⟩ := hw
  obtain ⟨b12, t13, u8, u9, u6, u7, hw⟩ := hw
  subst u8 u9
  refine r_newI d_Cr_init_14 ac_I u6 rfl u7 (refB_r (xt eXR q10) refB_n) (refL_r (xt eXR q10) (refL_r (xt eXR q11) refL_n)) ?_
  generalize e8 : nw (sR h6 v0 1 a7) 20 (ix (4 : Int32)) = h14
  generalize e7 : gX (sR h6 v0 1 a7) = a15
  replace hw := hw a15 h14 e7.symm e8.symm
  obtain ⟨q16, hw⟩ := hw
  obtain ⟨q17, hw⟩ := hw
  refine r_putFR d_Cr_init_16 ok_2 (nle rfl) (nle rfl) rfl lf_Cr_15 rfl rfl rfl q16 q17 ?_
  refine r_aload_n (j := 0) d_Cr_init_19 rfl ?_
  refine r_bipush d_Cr_init_20 kb_8 ?_
  obtain ⟨q18, hw⟩ := hw
  obtain ⟨q19, hw⟩ := hw
  obtain ⟨b20, t21, u8, u9, u6, u7, hw⟩ := hw
  subst u8 u9
  refine r_newL d_Cr_init_22 ac_J u6 rfl u7 (refB_r (xt eXR q18) refB_n) (refL_r (xt eXR q18) (refL_r (xt eXR q19) refL_n)) ?_
  generalize e8 : nw (sR h14 v0 2 a15) 21 (ix (8 : Int32)) = h22
  generalize e7 : gX (sR h14 v0 2 a15) = a23
  replace hw := hw a23 h22 e7.symm e8.symm
  obtain ⟨q24, hw⟩ := hw
  obtain ⟨q25, hw⟩ := hw
  refine r_putFR d_Cr_init_24 ok_2 (nle rfl) (nle rfl) rfl lf_Cr_19 rfl rfl rfl q24 q25 ?_
  refine r_aload_n (j := 0) d_Cr_init_27 rfl ?_
  refine r_lconst d_Cr_init_28 kl_1 ?_
  refine r_putL d_Cr_init_29 ok_2 (nle rfl) (nle rfl) rfl lf_Cr_22 rfl (kt eKR q24) ?_
  refine r_aload_n (j := 0) d_Cr_init_32 rfl ?_
  refine r_aload_n (j := 1) d_Cr_init_33 rfl ?_
  obtain ⟨q26, hw⟩ := hw
  refine r_putFR d_Cr_init_34 ok_2 (nle rfl) (nle rfl) rfl lf_Cr_26 rfl rfl rfl (kt (eKL.trans eKR) q24) (xt (eXL.trans eXR) q26) ?_
  exact r_return d_Cr_init_37.1 rfl (hQ _ hw)
set_option maxRecDepth 100000 in
set_option maxHeartbeats 4000000 in
theorem s_Cr_isThere {d : Nat} {v0 : Nat} {h : Hp} {Q : Bool → Hp → Prop} {QQ : Option AV → Hp → Prop} (hw : w_Cr_isThere v0 h Q) (hQ : ∀ r9 h9, Q r9 h9 → QQ (some (ai (b2i r9))) h9) : aCall m_Cr_isThere d [ar v0] h 0 0 QQ := by
  refine aCall_in pl_Cr_isThere (nle rfl) ?_
  show aW none m_Cr_isThere d 0 [(0, ar v0)] [] h 0 0 QQ
  unfold w_Cr_isThere at hw
  refine r_aload_n (j := 0) d_Cr_isThere_0 rfl ?_
  obtain ⟨q1, hw⟩ := hw
  refine r_getI d_Cr_isThere_1 ok_2 (nle rfl) (nle rfl) rfl lf_Cr_30 q1 ?_
  refine r_if_le d_Cr_isThere_4 (fun w9 => ?_) (fun w9 => ?_)
  · replace hw := hw.1 w9
    refine r_iconst d_Cr_isThere_18 kc_0 ?_
    exact r_zreturn d_Cr_isThere_19.1 rfl (Or.inl rfl) (hQ _ _ hw)
  · replace hw := hw.2 w9
    refine r_aload_n (j := 0) d_Cr_isThere_7 rfl ?_
    refine r_getI d_Cr_isThere_8 ok_2 (nle rfl) (nle rfl) rfl lf_Cr_34 q1 ?_
    refine r_if_ne d_Cr_isThere_11 (fun w9 => ?_) (fun w9 => ?_)
    · replace hw := hw.2 w9
      refine r_iconst d_Cr_isThere_18 kc_0 ?_
      exact r_zreturn d_Cr_isThere_19.1 rfl (Or.inl rfl) (hQ _ _ hw)
    · replace hw := hw.1 w9
      refine r_iconst d_Cr_isThere_14 kc_1 ?_
      refine r_goto d_Cr_isThere_15 ?_
      exact r_zreturn d_Cr_isThere_19.1 rfl (Or.inr rfl) (hQ _ _ hw)
set_option maxRecDepth 100000 in
set_option maxHeartbeats 4000000 in
theorem s_Cr_upperOf {d : Nat} {v0 : Nat} {v1 : Int32} {h : Hp} {Q : Int64 → Hp → Prop} {QQ : Option AV → Hp → Prop} (hw : w_Cr_upperOf v0 v1 h Q) (hQ : ∀ r9 h9, Q r9 h9 → QQ (some (al r9)) h9) : aCall m_Cr_upperOf d [ar v0, ai v1] h 0 0 QQ := by
  refine aCall_in pl_Cr_upperOf (nle rfl) ?_
  show aW none m_Cr_upperOf d 0 [(0, ar v0), (1, ai v1)] [] h 0 0 QQ
  unfold w_Cr_upperOf at hw
  refine r_aload_n (j := 0) d_Cr_upperOf_0 rfl ?_
  obtain ⟨q1, hw⟩ := hw
  refine r_getR d_Cr_upperOf_1 ok_2 (nle rfl) (nle rfl) rfl lf_Cr_19 q1 ?_
  refine r_iload_n (j := 1) d_Cr_upperOf_4 rfl ?_
  obtain ⟨q2, hw⟩ := hw
  obtain ⟨q3, hw⟩ := hw
  refine r_lald d_Cr_upperOf_5 q2 q3 ?_
  exact r_lreturn d_Cr_upperOf_6.1 rfl (hQ _ _ hw)
set_option maxRecDepth 100000 in
set_option maxHeartbeats 4000000 in
theorem s_Cr_eliminate_L147 {d : Nat} {Q : Bool → Hp → Prop} {QQ : Option AV → Hp → Prop} (hQ : ∀ r9 h9, Q r9 h9 → QQ (some (ai (b2i r9))) h9) {v0 : Nat} {v1 : Int32} {v2 : Int32} {v4 : Int64} {v6 : Int32} {v7 : Int64} {k125 : Int32 → Hp → Prop} (hk125 : ∀ v6 h9, k125 v6 h9 → aW none m_Cr_eliminate d 125 [(0, ar v0), (1, ai v1), (2, ai v2), (4, al v4), (6, ai v6)] [] h9 0 0 QQ) : ∀ (n : Nat) (v9 : Int32) (h : Hp), w_Cr_eliminate_L147 Q k125 v0 v1 v2 v4 v6 v7 n v9 h → aW none m_Cr_eliminate d 147 [(0, ar v0), (1, ai v1), (2, ai v2), (4, al v4), (6, ai v6), (7, al v7), (9, ai v9)] [] h 0 0 QQ := by
  intro n
  induction n with
  | zero => intro v9 h hw; exact hw.elim
  | succ n ih =>
    intro v9 h hw
    unfold w_Cr_eliminate_L147 at hw
    refine r_iload (j := 6) d_Cr_eliminate_147 rfl ?_
    refine r_aload_n (j := 0) d_Cr_eliminate_149 rfl ?_
    obtain ⟨q9, hw⟩ := hw
    refine r_getI d_Cr_eliminate_150 ok_2 (nle rfl) (nle rfl) rfl lf_Cr_79 q9 ?_
    refine r_icmp_gt d_Cr_eliminate_153 (fun w9 => ?_) (fun w9 => ?_)
    · replace hw := hw.1 w9
      refine r_iinc (j := 4) (ls2 := [(6, ai (v6 + (1 : Int32))), (0, ar v0), (1, ai v1), (2, ai v2), (4, al v4), (7, al v7), (9, ai v9)]) d_Cr_eliminate_219 rfl (congrArg (HAdd.hAdd v6) kc_1) (nle rfl) rfl ?_
      refine r_goto d_Cr_eliminate_222 ?_
      refine r_pick (ls2 := [(0, ar v0), (1, ai v1), (2, ai v2), (4, al v4), (6, ai (v6 + (1 : Int32)))]) [1, 2, 3, 4, 0] rfl ?_
      exact hk125 _ _ hw
    · replace hw := hw.2 w9
      refine r_iload (j := 4) d_Cr_eliminate_156 rfl ?_
      refine r_iload_n (j := 1) d_Cr_eliminate_158 rfl ?_
      refine r_icmp_eq d_Cr_eliminate_159 (fun w9 => ?_) (fun w9 => ?_)
      · replace hw := hw.1 w9
        refine r_iinc (j := 4) (ls2 := [(6, ai (v6 + (1 : Int32))), (0, ar v0), (1, ai v1), (2, ai v2), (4, al v4), (7, al v7), (9, ai v9)]) d_Cr_eliminate_219 rfl (congrArg (HAdd.hAdd v6) kc_1) (nle rfl) rfl ?_
        refine r_goto d_Cr_eliminate_222 ?_
        refine r_pick (ls2 := [(0, ar v0), (1, ai v1), (2, ai v2), (4, al v4), (6, ai (v6 + (1 : Int32)))]) [1, 2, 3, 4, 0] rfl ?_
        exact hk125 _ _ hw
      · replace hw := hw.2 w9
        refine r_lload (j := 3) d_Cr_eliminate_162 rfl ?_
        refine r_aload_n (j := 0) d_Cr_eliminate_164 rfl ?_
        refine r_getR d_Cr_eliminate_165 ok_2 (nle rfl) (nle rfl) rfl lf_Cr_11 q9 ?_
        refine r_iload (j := 4) d_Cr_eliminate_168 rfl ?_
        refine r_iconst d_Cr_eliminate_170 kc_5 ?_
        refine r_imul d_Cr_eliminate_171 ?_
        refine r_iload (j := 6) d_Cr_eliminate_172 rfl ?_
        refine r_iadd d_Cr_eliminate_174 ?_
        obtain ⟨q10, hw⟩ := hw
        obtain ⟨q11, hw⟩ := hw
        refine r_lald d_Cr_eliminate_175 q10 q11 ?_
        refine r_lmul d_Cr_eliminate_176 ?_
        refine r_lload (j := 5) d_Cr_eliminate_177 rfl ?_
        refine r_aload_n (j := 0) d_Cr_eliminate_179 rfl ?_
        refine r_getR d_Cr_eliminate_180 ok_2 (nle rfl) (nle rfl) rfl lf_Cr_11 q9 ?_
        refine r_iload_n (j := 1) d_Cr_eliminate_183 rfl ?_
        refine r_iconst d_Cr_eliminate_184 kc_5 ?_
        refine r_imul d_Cr_eliminate_185 ?_
        refine r_iload (j := 6) d_Cr_eliminate_186 rfl ?_
        refine r_iadd d_Cr_eliminate_188 ?_
        obtain ⟨q12, hw⟩ := hw
        refine r_lald d_Cr_eliminate_189 q10 q12 ?_
        refine r_lmul d_Cr_eliminate_190 ?_
        refine r_lsub d_Cr_eliminate_191 ?_
        refine r_lstore (ls2 := [(10, al ((v4 * (gL h (gR h v0 1) (ix ((v6 * (5 : Int32)) + v9)))) - (v7 * (gL h (gR h v0 1) (ix ((v1 * (5 : Int32)) + v9)))))), (0, ar v0), (1, ai v1), (2, ai v2), (4, al v4), (6, ai v6), (7, al v7), (9, ai v9)]) d_Cr_eliminate_192 (nle rfl) rfl ?_
        refine r_aload_n (j := 1) d_Cr_eliminate_194 rfl ?_
        refine r_getR d_Cr_eliminate_195 ok_2 (nle rfl) (nle rfl) rfl lf_Cr_11 q9 ?_
        refine r_iload (j := 5) d_Cr_eliminate_198 rfl ?_
        refine r_iconst d_Cr_eliminate_200 kc_5 ?_
        refine r_imul d_Cr_eliminate_201 ?_
        refine r_iload (j := 7) d_Cr_eliminate_202 rfl ?_
        refine r_iadd d_Cr_eliminate_204 ?_
        refine r_lload (j := 0) d_Cr_eliminate_205 rfl ?_
        refine r_aload_n (j := 1) d_Cr_eliminate_207 rfl ?_
        refine r_getL d_Cr_eliminate_208 ok_2 (nle rfl) (nle rfl) rfl lf_Cr_67 q9 ?_
        obtain ⟨q13, hw⟩ := hw
        refine r_ldiv d_Cr_eliminate_211 q13 ?_
        refine r_last d_Cr_eliminate_212 q10 q11 ?_
        refine r_iinc (j := 7) (ls2 := [(9, ai (v9 + (1 : Int32))), (10, al ((v4 * (gL h (gR h v0 1) (ix ((v6 * (5 : Int32)) + v9)))) - (v7 * (gL h (gR h v0 1) (ix ((v1 * (5 : Int32)) + v9)))))), (0, ar v0), (1, ai v1), (2, ai v2), (4, al v4), (6, ai v6), (7, al v7)]) d_Cr_eliminate_213 rfl (congrArg (HAdd.hAdd v9) kc_1) (nle rfl) rfl ?_
        refine r_goto d_Cr_eliminate_216 ?_
        refine r_pick (ls2 := [(0, ar v0), (1, ai v1), (2, ai v2), (4, al v4), (6, ai v6), (7, al v7), (9, ai (v9 + (1 : Int32)))]) [2, 3, 4, 5, 6, 7, 0] rfl ?_
        exact ih _ _ hw
set_option maxRecDepth 100000 in
set_option maxHeartbeats 4000000 in
theorem s_Cr_eliminate_L125 {d : Nat} {Q : Bool → Hp → Prop} {QQ : Option AV → Hp → Prop} (hQ : ∀ r9 h9, Q r9 h9 → QQ (some (ai (b2i r9))) h9) {v0 : Nat} {v1 : Int32} {v2 : Int32} {v4 : Int64} : ∀ (n : Nat) (v6 : Int32) (h : Hp), w_Cr_eliminate_L125 Q  v0 v1 v2 v4 n v6 h → aW none m_Cr_eliminate d 125 [(0, ar v0), (1, ai v1), (2, ai v2), (4, al v4), (6, ai v6)] [] h 0 0 QQ := by
  intro n
  induction n with
  | zero => intro v6 h hw; exact hw.elim
  | succ n ih =>
    intro v6 h hw
    unfold w_Cr_eliminate_L125 at hw
    refine r_iload (j := 4) d_Cr_eliminate_125 rfl ?_
    refine r_iload_n (j := 2) d_Cr_eliminate_127 rfl ?_
    refine r_icmp_ge d_Cr_eliminate_128 (fun w9 => ?_) (fun w9 => ?_)
    · replace hw := hw.1 w9
      refine r_aload_n (j := 0) d_Cr_eliminate_225 rfl ?_
      refine r_lload (j := 3) d_Cr_eliminate_226 rfl ?_
      obtain ⟨q5, hw⟩ := hw
      refine r_putL d_Cr_eliminate_228 ok_2 (nle rfl) (nle rfl) rfl lf_Cr_67 rfl q5 ?_
      refine r_iconst d_Cr_eliminate_231 kc_1 ?_
      exact r_zreturn d_Cr_eliminate_232.1 rfl (Or.inr rfl) (hQ _ _ hw)
    · replace hw := hw.2 w9
      refine r_aload_n (j := 0) d_Cr_eliminate_131 rfl ?_
      obtain ⟨q6, hw⟩ := hw
      refine r_getR d_Cr_eliminate_132 ok_2 (nle rfl) (nle rfl) rfl lf_Cr_11 q6 ?_
      refine r_iload (j := 4) d_Cr_eliminate_135 rfl ?_
      refine r_iconst d_Cr_eliminate_137 kc_5 ?_
      refine r_imul d_Cr_eliminate_138 ?_
      refine r_iload_n (j := 1) d_Cr_eliminate_139 rfl ?_
      refine r_iadd d_Cr_eliminate_140 ?_
      obtain ⟨q7, hw⟩ := hw
      obtain ⟨q8, hw⟩ := hw
      refine r_lald d_Cr_eliminate_141 q7 q8 ?_
      refine r_lstore (ls2 := [(7, al (gL h (gR h v0 1) (ix ((v6 * (5 : Int32)) + v1)))), (0, ar v0), (1, ai v1), (2, ai v2), (4, al v4), (6, ai v6)]) d_Cr_eliminate_142 (nle rfl) rfl ?_
      refine r_iconst d_Cr_eliminate_144 kc_0 ?_
      refine r_istore (ls2 := [(9, ai (0 : Int32)), (7, al (gL h (gR h v0 1) (ix ((v6 * (5 : Int32)) + v1)))), (0, ar v0), (1, ai v1), (2, ai v2), (4, al v4), (6, ai v6)]) d_Cr_eliminate_145 (nle rfl) rfl ?_
      obtain ⟨n14, hw⟩ := hw
      refine r_pick (ls2 := [(0, ar v0), (1, ai v1), (2, ai v2), (4, al v4), (6, ai v6), (7, al (gL h (gR h v0 1) (ix ((v6 * (5 : Int32)) + v1)))), (9, ai (0 : Int32))]) [2, 3, 4, 5, 6, 1, 0] rfl ?_
      exact s_Cr_eliminate_L147 hQ ih n14 _ _ hw
set_option maxRecDepth 100000 in
set_option maxHeartbeats 4000000 in
theorem s_Cr_eliminate_L47 {d : Nat} {Q : Bool → Hp → Prop} {QQ : Option AV → Hp → Prop} (hQ : ∀ r9 h9, Q r9 h9 → QQ (some (ai (b2i r9))) h9) {v0 : Nat} {v1 : Int32} {v2 : Int32} {v3 : Int32} : ∀ (n : Nat) (v4 : Int32) (h : Hp), w_Cr_eliminate_L47 Q  v0 v1 v2 v3 n v4 h → aW none m_Cr_eliminate d 47 [(0, ar v0), (1, ai v1), (2, ai v2), (3, ai v3), (4, ai v4)] [] h 0 0 QQ := by
  intro n
  induction n with
  | zero => intro v4 h hw; exact hw.elim
  | succ n ih =>
    intro v4 h hw
    unfold w_Cr_eliminate_L47 at hw
    refine r_iload (j := 4) d_Cr_eliminate_47 rfl ?_
    refine r_aload_n (j := 0) d_Cr_eliminate_49 rfl ?_
    obtain ⟨q2, hw⟩ := hw
    refine r_getI d_Cr_eliminate_50 ok_2 (nle rfl) (nle rfl) rfl lf_Cr_79 q2 ?_
    refine r_icmp_gt d_Cr_eliminate_53 (fun w9 => ?_) (fun w9 => ?_)
    · replace hw := hw.1 w9
      refine r_aload_n (j := 0) d_Cr_eliminate_110 rfl ?_
      refine r_getR d_Cr_eliminate_111 ok_2 (nle rfl) (nle rfl) rfl lf_Cr_11 q2 ?_
      refine r_iload_n (j := 1) d_Cr_eliminate_114 rfl ?_
      refine r_iconst d_Cr_eliminate_115 kc_5 ?_
      refine r_imul d_Cr_eliminate_116 ?_
      refine r_iload_n (j := 1) d_Cr_eliminate_117 rfl ?_
      refine r_iadd d_Cr_eliminate_118 ?_
      obtain ⟨q3, hw⟩ := hw
      obtain ⟨q4, hw⟩ := hw
      refine r_lald d_Cr_eliminate_119 q3 q4 ?_
      refine r_lstore (ls2 := [(4, al (gL h (gR h v0 1) (ix ((v1 * (5 : Int32)) + v1)))), (0, ar v0), (1, ai v1), (2, ai v2), (3, ai v3)]) d_Cr_eliminate_120 (nle rfl) rfl ?_
      refine r_iconst d_Cr_eliminate_122 kc_0 ?_
      refine r_istore (ls2 := [(6, ai (0 : Int32)), (4, al (gL h (gR h v0 1) (ix ((v1 * (5 : Int32)) + v1)))), (0, ar v0), (1, ai v1), (2, ai v2), (3, ai v3)]) d_Cr_eliminate_123 (nle rfl) rfl ?_
      obtain ⟨n15, hw⟩ := hw
      refine r_pick (ls2 := [(0, ar v0), (1, ai v1), (2, ai v2), (4, al (gL h (gR h v0 1) (ix ((v1 * (5 : Int32)) + v1)))), (6, ai (0 : Int32))]) [2, 3, 4, 1, 0] rfl ?_
      exact s_Cr_eliminate_L125 hQ  n15 _ _ hw
    · replace hw := hw.2 w9
      refine r_aload_n (j := 0) d_Cr_eliminate_56 rfl ?_
      refine r_getR d_Cr_eliminate_57 ok_2 (nle rfl) (nle rfl) rfl lf_Cr_11 q2 ?_
      refine r_iload_n (j := 1) d_Cr_eliminate_60 rfl ?_
      refine r_iconst d_Cr_eliminate_61 kc_5 ?_
      refine r_imul d_Cr_eliminate_62 ?_
      refine r_iload (j := 4) d_Cr_eliminate_63 rfl ?_
      refine r_iadd d_Cr_eliminate_65 ?_
      obtain ⟨q16, hw⟩ := hw
      obtain ⟨q17, hw⟩ := hw
      refine r_lald d_Cr_eliminate_66 q16 q17 ?_
      refine r_lstore (ls2 := [(5, al (gL h (gR h v0 1) (ix ((v1 * (5 : Int32)) + v4)))), (0, ar v0), (1, ai v1), (2, ai v2), (3, ai v3), (4, ai v4)]) d_Cr_eliminate_67 (nle rfl) rfl ?_
      refine r_aload_n (j := 1) d_Cr_eliminate_69 rfl ?_
      refine r_getR d_Cr_eliminate_70 ok_2 (nle rfl) (nle rfl) rfl lf_Cr_11 q2 ?_
      refine r_iload_n (j := 2) d_Cr_eliminate_73 rfl ?_
      refine r_iconst d_Cr_eliminate_74 kc_5 ?_
      refine r_imul d_Cr_eliminate_75 ?_
      refine r_iload (j := 5) d_Cr_eliminate_76 rfl ?_
      refine r_iadd d_Cr_eliminate_78 ?_
      refine r_aload_n (j := 1) d_Cr_eliminate_79 rfl ?_
      refine r_getR d_Cr_eliminate_80 ok_2 (nle rfl) (nle rfl) rfl lf_Cr_11 q2 ?_
      refine r_iload_n (j := 4) d_Cr_eliminate_83 rfl ?_
      refine r_iconst d_Cr_eliminate_84 kc_5 ?_
      refine r_imul d_Cr_eliminate_85 ?_
      refine r_iload (j := 5) d_Cr_eliminate_86 rfl ?_
      refine r_iadd d_Cr_eliminate_88 ?_
      obtain ⟨q18, hw⟩ := hw
      refine r_lald d_Cr_eliminate_89 q16 q18 ?_
      refine r_last d_Cr_eliminate_90 q16 q17 ?_
      refine r_aload_n (j := 1) d_Cr_eliminate_91 rfl ?_
      refine r_getRb eRL d_Cr_eliminate_92 ok_2 (nle rfl) (nle rfl) rfl lf_Cr_11 (kt eKL q2) ?_
      refine r_iload_n (j := 4) d_Cr_eliminate_95 rfl ?_
      refine r_iconst d_Cr_eliminate_96 kc_5 ?_
      refine r_imul d_Cr_eliminate_97 ?_
      refine r_iload (j := 5) d_Cr_eliminate_98 rfl ?_
      refine r_iadd d_Cr_eliminate_100 ?_
      refine r_lload (j := 0) d_Cr_eliminate_101 rfl ?_
      refine r_last d_Cr_eliminate_103 (kt eKL q16) (nt eNL q18) ?_
      refine r_iinc (j := 5) (ls2 := [(4, ai (v4 + (1 : Int32))), (5, al (gL h (gR h v0 1) (ix ((v1 * (5 : Int32)) + v4)))), (0, ar v0), (1, ai v1), (2, ai v2), (3, ai v3)]) d_Cr_eliminate_104 rfl (congrArg (HAdd.hAdd v4) kc_1) (nle rfl) rfl ?_
      refine r_goto d_Cr_eliminate_107 ?_
      refine r_pick (ls2 := [(0, ar v0), (1, ai v1), (2, ai v2), (3, ai v3), (4, ai (v4 + (1 : Int32)))]) [2, 3, 4, 5, 0] rfl ?_
      exact ih _ _ hw
set_option maxRecDepth 100000 in
set_option maxHeartbeats 4000000 in
theorem s_Cr_eliminate_B28 {d : Nat} {Q : Bool → Hp → Prop} {QQ : Option AV → Hp → Prop} (hQ : ∀ r9 h9, Q r9 h9 → QQ (some (ai (b2i r9))) h9) {v0 : Nat} {v1 : Int32} {v2 : Int32} {v3 : Int32} {h : Hp} (hw : w_Cr_eliminate_B28 Q  v0 v1 v2 v3 h) : aW none m_Cr_eliminate d 28 [(0, ar v0), (1, ai v1), (2, ai v2), (3, ai v3)] [] h 0 0 QQ := by
  unfold w_Cr_eliminate_B28 at hw
  refine r_iload_n (j := 3) d_Cr_eliminate_28 rfl ?_
  refine r_iload_n (j := 2) d_Cr_eliminate_29 rfl ?_
  refine r_icmp_ge d_Cr_eliminate_30 (fun w9 => ?_) (fun w9 => ?_)
  · replace hw := hw.1 w9
    refine r_iconst d_Cr_eliminate_42 kc_0 ?_
    exact r_zreturn d_Cr_eliminate_43.1 rfl (Or.inl rfl) (hQ _ _ hw)
  · replace hw := hw.2 w9
    refine r_aload_n (j := 0) d_Cr_eliminate_33 rfl ?_
    obtain ⟨q1, hw⟩ := hw
    refine r_getL d_Cr_eliminate_34 ok_2 (nle rfl) (nle rfl) rfl lf_Cr_67 q1 ?_
    refine r_lconst d_Cr_eliminate_37 kl_0 ?_
    refine r_lcmp d_Cr_eliminate_38 ?_
    refine r_if_ne d_Cr_eliminate_39 (fun w9 => ?_) (fun w9 => ?_)
    · replace hw := hw.2 (fun g9 => w9 ((lg_cmp_eq _ _).mpr g9))
      refine r_iconst d_Cr_eliminate_44 kc_0 ?_
      refine r_istore (ls2 := [(4, ai (0 : Int32)), (0, ar v0), (1, ai v1), (2, ai v2), (3, ai v3)]) d_Cr_eliminate_45 (nle rfl) rfl ?_
      obtain ⟨n19, hw⟩ := hw
      refine r_pick (ls2 := [(0, ar v0), (1, ai v1), (2, ai v2), (3, ai v3), (4, ai (0 : Int32))]) [1, 2, 3, 4, 0] rfl ?_
      exact s_Cr_eliminate_L47 hQ  n19 _ _ hw
    · replace hw := hw.1 ((lg_cmp_eq _ _).mp w9)
      refine r_iconst d_Cr_eliminate_42 kc_0 ?_
      exact r_zreturn d_Cr_eliminate_43.1 rfl (Or.inl rfl) (hQ _ _ hw)
set_option maxRecDepth 100000 in
set_option maxHeartbeats 4000000 in
theorem s_Cr_eliminate_L2 {d : Nat} {Q : Bool → Hp → Prop} {QQ : Option AV → Hp → Prop} (hQ : ∀ r9 h9, Q r9 h9 → QQ (some (ai (b2i r9))) h9) {v0 : Nat} {v1 : Int32} {v2 : Int32} : ∀ (n : Nat) (v3 : Int32) (h : Hp), w_Cr_eliminate_L2 Q  v0 v1 v2 n v3 h → aW none m_Cr_eliminate d 2 [(0, ar v0), (1, ai v1), (2, ai v2), (3, ai v3)] [] h 0 0 QQ := by
  intro n
  induction n with
  | zero => intro v3 h hw; exact hw.elim
  | succ n ih =>
    intro v3 h hw
    unfold w_Cr_eliminate_L2 at hw
    refine r_iload_n (j := 3) d_Cr_eliminate_2 rfl ?_
    refine r_iload_n (j := 2) d_Cr_eliminate_3 rfl ?_
    refine r_icmp_ge d_Cr_eliminate_4 (fun w9 => ?_) (fun w9 => ?_)
    · replace hw := hw.1 w9
      exact s_Cr_eliminate_B28 hQ  hw
    · replace hw := hw.2 w9
      refine r_aload_n (j := 0) d_Cr_eliminate_7 rfl ?_
      obtain ⟨q20, hw⟩ := hw
      refine r_getR d_Cr_eliminate_8 ok_2 (nle rfl) (nle rfl) rfl lf_Cr_11 q20 ?_
      refine r_iload_n (j := 3) d_Cr_eliminate_11 rfl ?_
      refine r_iconst d_Cr_eliminate_12 kc_5 ?_
      refine r_imul d_Cr_eliminate_13 ?_
      refine r_iload_n (j := 1) d_Cr_eliminate_14 rfl ?_
      refine r_iadd d_Cr_eliminate_15 ?_
      obtain ⟨q21, hw⟩ := hw
      obtain ⟨q22, hw⟩ := hw
      refine r_lald d_Cr_eliminate_16 q21 q22 ?_
      refine r_lconst d_Cr_eliminate_17 kl_0 ?_
      refine r_lcmp d_Cr_eliminate_18 ?_
      refine r_if_ne d_Cr_eliminate_19 (fun w9 => ?_) (fun w9 => ?_)
      · replace hw := hw.2 (fun g9 => w9 ((lg_cmp_eq _ _).mpr g9))
        exact s_Cr_eliminate_B28 hQ  hw
      · replace hw := hw.1 ((lg_cmp_eq _ _).mp w9)
        refine r_iinc (j := 3) (ls2 := [(3, ai (v3 + (1 : Int32))), (0, ar v0), (1, ai v1), (2, ai v2)]) d_Cr_eliminate_22 rfl (congrArg (HAdd.hAdd v3) kc_1) (nle rfl) rfl ?_
        refine r_goto d_Cr_eliminate_25 ?_
        refine r_pick (ls2 := [(0, ar v0), (1, ai v1), (2, ai v2), (3, ai (v3 + (1 : Int32)))]) [1, 2, 3, 0] rfl ?_
        exact ih _ _ hw
set_option maxRecDepth 100000 in
set_option maxHeartbeats 4000000 in
theorem s_Cr_eliminate {d : Nat} {v0 : Nat} {v1 : Int32} {v2 : Int32} {h : Hp} {Q : Bool → Hp → Prop} {QQ : Option AV → Hp → Prop} (hw : w_Cr_eliminate v0 v1 v2 h Q) (hQ : ∀ r9 h9, Q r9 h9 → QQ (some (ai (b2i r9))) h9) : aCall m_Cr_eliminate d [ar v0, ai v1, ai v2] h 0 0 QQ := by
  refine aCall_in pl_Cr_eliminate (nle rfl) ?_
  show aW none m_Cr_eliminate d 0 [(0, ar v0), (1, ai v1), (2, ai v2)] [] h 0 0 QQ
  unfold w_Cr_eliminate at hw
  refine r_iload_n (j := 1) d_Cr_eliminate_0 rfl ?_
  refine r_istore_n (ls2 := [(3, ai v1), (0, ar v0), (1, ai v1), (2, ai v2)]) d_Cr_eliminate_1 (nle rfl) rfl ?_
  obtain ⟨n23, hw⟩ := hw
  refine r_pick (ls2 := [(0, ar v0), (1, ai v1), (2, ai v2), (3, ai v1)]) [1, 2, 3, 0] rfl ?_
  exact s_Cr_eliminate_L2 hQ  n23 _ _ hw
set_option maxRecDepth 100000 in
set_option maxHeartbeats 4000000 in
theorem s_Cr_fill_L107 {d : Nat} (hd : 1 ≤ d + 1) {Q : Hp → Prop} {QQ : Option AV → Hp → Prop} (hQ : ∀ h9, Q h9 → QQ none h9) {v0 : Nat} {v2 : Int32} : ∀ (n : Nat) (v3 : Int32) (h : Hp), w_Cr_fill_L107 Q  v0 v2 n v3 h → aW none m_Cr_fill (d + 1) 107 [(0, ar v0), (2, ai v2), (3, ai v3)] [] h 0 0 QQ := by
  intro n
  induction n with
  | zero => intro v3 h hw; exact hw.elim
  | succ n ih =>
    intro v3 h hw
    unfold w_Cr_fill_L107 at hw
    refine r_iload_n (j := 2) d_Cr_fill_107 rfl ?_
    refine r_iconst d_Cr_fill_108 kc_3 ?_
    refine r_icmp_ge d_Cr_fill_109 (fun w9 => ?_) (fun w9 => ?_)
    · replace hw := hw.1 w9
      refine r_aload_n (j := 0) d_Cr_fill_149 rfl ?_
      obtain ⟨q4, hw⟩ := hw
      refine r_getR d_Cr_fill_150 ok_2 (nle rfl) (nle rfl) rfl lf_Cr_11 q4 ?_
      refine r_bipush d_Cr_fill_153 kb_15 ?_
      refine r_aload_n (j := 0) d_Cr_fill_155 rfl ?_
      refine r_getI d_Cr_fill_156 ok_2 (nle rfl) (nle rfl) rfl lf_Cr_79 q4 ?_
      refine r_iadd d_Cr_fill_159 ?_
      refine r_lconst d_Cr_fill_160 kl_1 ?_
      obtain ⟨q5, hw⟩ := hw
      obtain ⟨q6, hw⟩ := hw
      refine r_last d_Cr_fill_161 q5 q6 ?_
      exact r_return d_Cr_fill_162.1 rfl (hQ _ hw)
    · replace hw := hw.2 w9
      refine r_aload_n (j := 0) d_Cr_fill_112 rfl ?_
      obtain ⟨q7, hw⟩ := hw
      refine r_getR d_Cr_fill_113 ok_2 (nle rfl) (nle rfl) rfl lf_Cr_11 q7 ?_
      refine r_iload_n (j := 2) d_Cr_fill_116 rfl ?_
      refine r_iconst d_Cr_fill_117 kc_5 ?_
      refine r_imul d_Cr_fill_118 ?_
      refine r_aload_n (j := 0) d_Cr_fill_119 rfl ?_
      refine r_getI d_Cr_fill_120 ok_2 (nle rfl) (nle rfl) rfl lf_Cr_79 q7 ?_
      refine r_iadd d_Cr_fill_123 ?_
      refine r_iload_n (j := 1) d_Cr_fill_124 rfl ?_
      refine r_iconst d_Cr_fill_125 kc_4 ?_
      refine r_icmp_ne d_Cr_fill_126 (fun w9 => ?_) (fun w9 => ?_)
      · replace hw := hw.2 w9
        refine r_aload_n (j := 0) d_Cr_fill_133 rfl ?_
        refine r_getR d_Cr_fill_134 ok_2 (nle rfl) (nle rfl) rfl lf_Cr_26 q7 ?_
        refine r_iload_n (j := 2) d_Cr_fill_137 rfl ?_
        obtain ⟨q10, hw⟩ := hw
        refine r_callV (av := [ai v3]) (rest := [ai ((v3 * (5 : Int32)) + (gI h v0 4)), ar (gR h v0 1)]) (ci := 1) d_Cr_fill_138 mk_Co_needOf ll_Cr_105 im_Co_needOf se_Co_needOf rfl (nle rfl) rfl rfl (nle rfl) q10 (s_Co_needOf  hw (fun r9 h8 hw => ?_))
        show aW none m_Cr_fill (d + 1) 141 [(0, ar v0), (2, ai v2), (3, ai v3)] [ai r9, ai ((v3 * (5 : Int32)) + (gI h v0 4)), ar (gR h v0 1)] h8 0 0 QQ
        refine r_i2l d_Cr_fill_141 ?_
        obtain ⟨q11, hw⟩ := hw
        obtain ⟨q12, hw⟩ := hw
        refine r_last d_Cr_fill_142 q11 q12 ?_
        refine r_iinc (j := 2) (ls2 := [(3, ai (v3 + (1 : Int32))), (0, ar v0), (2, ai v2)]) d_Cr_fill_143 rfl (congrArg (HAdd.hAdd v3) kc_1) (nle rfl) rfl ?_
        refine r_goto d_Cr_fill_146 ?_
        refine r_pick (ls2 := [(0, ar v0), (2, ai v2), (3, ai (v3 + (1 : Int32)))]) [1, 2, 0] rfl ?_
        exact ih _ _ hw
      · replace hw := hw.1 w9
        refine r_lconst d_Cr_fill_129 kl_0 ?_
        refine r_goto d_Cr_fill_130 ?_
        obtain ⟨q13, hw⟩ := hw
        obtain ⟨q14, hw⟩ := hw
        refine r_last d_Cr_fill_142 q13 q14 ?_
        refine r_iinc (j := 2) (ls2 := [(3, ai (v3 + (1 : Int32))), (0, ar v0), (2, ai v2)]) d_Cr_fill_143 rfl (congrArg (HAdd.hAdd v3) kc_1) (nle rfl) rfl ?_
        refine r_goto d_Cr_fill_146 ?_
        refine r_pick (ls2 := [(0, ar v0), (2, ai v2), (3, ai (v3 + (1 : Int32)))]) [1, 2, 0] rfl ?_
        exact ih _ _ hw
set_option maxRecDepth 100000 in
set_option maxHeartbeats 4000000 in
theorem s_Cr_fill_L39 {d : Nat} (hd : 1 ≤ d + 1) {Q : Hp → Prop} {QQ : Option AV → Hp → Prop} (hQ : ∀ h9, Q h9 → QQ none h9) {v0 : Nat} {v1 : Int32} {v2 : Int32} {v3 : Int32} {k7 : Int32 → Hp → Prop} (hk7 : ∀ v3 h9, k7 v3 h9 → aW none m_Cr_fill (d + 1) 7 [(0, ar v0), (1, ai v1), (2, ai v2), (3, ai v3)] [] h9 0 0 QQ) : ∀ (n : Nat) (v4 : Int32) (h : Hp), w_Cr_fill_L39 Q k7 v0 v1 v2 v3 n v4 h → aW none m_Cr_fill (d + 1) 39 [(0, ar v0), (1, ai v1), (2, ai v2), (3, ai v3), (4, ai v4)] [] h 0 0 QQ := by
  intro n
  induction n with
  | zero => intro v4 h hw; exact hw.elim
  | succ n ih =>
    intro v4 h hw
    unfold w_Cr_fill_L39 at hw
    refine r_iload (j := 4) d_Cr_fill_39 rfl ?_
    refine r_iconst d_Cr_fill_41 kc_3 ?_
    refine r_icmp_ge d_Cr_fill_42 (fun w9 => ?_) (fun w9 => ?_)
    · replace hw := hw.1 w9
      refine r_aload_n (j := 0) d_Cr_fill_76 rfl ?_
      obtain ⟨q18, hw⟩ := hw
      refine r_getR d_Cr_fill_77 ok_2 (nle rfl) (nle rfl) rfl lf_Cr_11 q18 ?_
      refine r_bipush d_Cr_fill_80 kb_15 ?_
      refine r_aload_n (j := 0) d_Cr_fill_82 rfl ?_
      refine r_getI d_Cr_fill_83 ok_2 (nle rfl) (nle rfl) rfl lf_Cr_79 q18 ?_
      refine r_iadd d_Cr_fill_86 ?_
      refine r_lconst d_Cr_fill_87 kl_1 ?_
      obtain ⟨q19, hw⟩ := hw
      obtain ⟨q20, hw⟩ := hw
      refine r_last d_Cr_fill_88 q19 q20 ?_
      refine r_aload_n (j := 0) d_Cr_fill_89 rfl ?_
      refine r_dup d_Cr_fill_90 rfl ?_
      refine r_getI d_Cr_fill_91 ok_2 (nle rfl) (nle rfl) rfl lf_Cr_79 (kt eKL q18) ?_
      refine r_iconst d_Cr_fill_94 kc_1 ?_
      refine r_iadd d_Cr_fill_95 ?_
      refine r_putI d_Cr_fill_96 ok_2 (nle rfl) (nle rfl) rfl lf_Cr_79 rfl (kt eKL q18) ?_
      refine r_iinc (j := 3) (ls2 := [(3, ai (v3 + (1 : Int32))), (0, ar v0), (1, ai v1), (2, ai v2), (4, ai v4)]) d_Cr_fill_99 rfl (congrArg (HAdd.hAdd v3) kc_1) (nle rfl) rfl ?_
      refine r_goto d_Cr_fill_102 ?_
      refine r_pick (ls2 := [(0, ar v0), (1, ai v1), (2, ai v2), (3, ai (v3 + (1 : Int32)))]) [1, 2, 3, 0] rfl ?_
      exact hk7 _ _ hw
    · replace hw := hw.2 w9
      refine r_aload_n (j := 0) d_Cr_fill_45 rfl ?_
      obtain ⟨q21, hw⟩ := hw
      refine r_getR d_Cr_fill_46 ok_2 (nle rfl) (nle rfl) rfl lf_Cr_11 q21 ?_
      refine r_iload (j := 4) d_Cr_fill_49 rfl ?_
      refine r_iconst d_Cr_fill_51 kc_5 ?_
      refine r_imul d_Cr_fill_52 ?_
      refine r_aload_n (j := 0) d_Cr_fill_53 rfl ?_
      refine r_getI d_Cr_fill_54 ok_2 (nle rfl) (nle rfl) rfl lf_Cr_79 q21 ?_
      refine r_iadd d_Cr_fill_57 ?_
      refine r_aload_n (j := 0) d_Cr_fill_58 rfl ?_
      refine r_getR d_Cr_fill_59 ok_2 (nle rfl) (nle rfl) rfl lf_Cr_26 q21 ?_
      refine r_iload_n (j := 3) d_Cr_fill_62 rfl ?_
      refine r_iload (j := 4) d_Cr_fill_63 rfl ?_
      obtain ⟨q24, hw⟩ := hw
      refine r_callV (av := [ai v3, ai v4]) (rest := [ai ((v4 * (5 : Int32)) + (gI h v0 4)), ar (gR h v0 1)]) (ci := 1) d_Cr_fill_65 mk_Co_numberOf ll_Cr_101 im_Co_numberOf se_Co_numberOf rfl (nle rfl) rfl rfl (nle rfl) q24 (s_Co_numberOf  hw (fun r23 h22 hw => ?_))
      show aW none m_Cr_fill (d + 1) 68 [(0, ar v0), (1, ai v1), (2, ai v2), (3, ai v3), (4, ai v4)] [ai r23, ai ((v4 * (5 : Int32)) + (gI h v0 4)), ar (gR h v0 1)] h22 0 0 QQ
      refine r_i2l d_Cr_fill_68 ?_
      obtain ⟨q25, hw⟩ := hw
      obtain ⟨q26, hw⟩ := hw
      refine r_last d_Cr_fill_69 q25 q26 ?_
      refine r_iinc (j := 4) (ls2 := [(4, ai (v4 + (1 : Int32))), (0, ar v0), (1, ai v1), (2, ai v2), (3, ai v3)]) d_Cr_fill_70 rfl (congrArg (HAdd.hAdd v4) kc_1) (nle rfl) rfl ?_
      refine r_goto d_Cr_fill_73 ?_
      refine r_pick (ls2 := [(0, ar v0), (1, ai v1), (2, ai v2), (3, ai v3), (4, ai (v4 + (1 : Int32)))]) [1, 2, 3, 4, 0] rfl ?_
      exact ih _ _ hw
set_option maxRecDepth 100000 in
set_option maxHeartbeats 4000000 in
theorem s_Cr_fill_L7 {d : Nat} (hd : 1 ≤ d + 1) {Q : Hp → Prop} {QQ : Option AV → Hp → Prop} (hQ : ∀ h9, Q h9 → QQ none h9) {v0 : Nat} {v1 : Int32} {v2 : Int32} : ∀ (n : Nat) (v3 : Int32) (h : Hp), w_Cr_fill_L7 Q  v0 v1 v2 n v3 h → aW none m_Cr_fill (d + 1) 7 [(0, ar v0), (1, ai v1), (2, ai v2), (3, ai v3)] [] h 0 0 QQ := by
  intro n
  induction n with
  | zero => intro v3 h hw; exact hw.elim
  | succ n ih =>
    intro v3 h hw
    unfold w_Cr_fill_L7 at hw
    refine r_iload_n (j := 3) d_Cr_fill_7 rfl ?_
    refine r_aload_n (j := 0) d_Cr_fill_8 rfl ?_
    obtain ⟨q2, hw⟩ := hw
    refine r_getR d_Cr_fill_9 ok_2 (nle rfl) (nle rfl) rfl lf_Cr_26 q2 ?_
    obtain ⟨q3, hw⟩ := hw
    refine r_getI d_Cr_fill_12 ok_1 (nle rfl) (nle rfl) rfl lf_Cr_49 q3 ?_
    refine r_icmp_ge d_Cr_fill_15 (fun w9 => ?_) (fun w9 => ?_)
    · replace hw := hw.1 w9
      refine r_iconst d_Cr_fill_105 kc_0 ?_
      refine r_istore_n (ls2 := [(3, ai (0 : Int32)), (0, ar v0), (1, ai v1), (2, ai v2)]) d_Cr_fill_106 (nle rfl) rfl ?_
      obtain ⟨n15, hw⟩ := hw
      refine r_pick (ls2 := [(0, ar v0), (2, ai v2), (3, ai (0 : Int32))]) [1, 3, 0] rfl ?_
      exact s_Cr_fill_L107 hd hQ  n15 _ _ hw
    · replace hw := hw.2 w9
      refine r_iload_n (j := 1) d_Cr_fill_18 rfl ?_
      refine r_iload_n (j := 3) d_Cr_fill_19 rfl ?_
      refine r_ishr d_Cr_fill_20 ?_
      refine r_iconst d_Cr_fill_21 kc_1 ?_
      refine r_iand d_Cr_fill_22 ?_
      refine r_if_eq d_Cr_fill_23 (fun w9 => ?_) (fun w9 => ?_)
      · replace hw := hw.1 w9
        refine r_iinc (j := 3) (ls2 := [(3, ai (v3 + (1 : Int32))), (0, ar v0), (1, ai v1), (2, ai v2)]) d_Cr_fill_99 rfl (congrArg (HAdd.hAdd v3) kc_1) (nle rfl) rfl ?_
        refine r_goto d_Cr_fill_102 ?_
        refine r_pick (ls2 := [(0, ar v0), (1, ai v1), (2, ai v2), (3, ai (v3 + (1 : Int32)))]) [1, 2, 3, 0] rfl ?_
        exact ih _ _ hw
      · replace hw := hw.2 w9
        refine r_aload_n (j := 0) d_Cr_fill_26 rfl ?_
        refine r_getR d_Cr_fill_27 ok_2 (nle rfl) (nle rfl) rfl lf_Cr_15 q2 ?_
        refine r_aload_n (j := 0) d_Cr_fill_30 rfl ?_
        refine r_getI d_Cr_fill_31 ok_2 (nle rfl) (nle rfl) rfl lf_Cr_79 q2 ?_
        refine r_iload_n (j := 3) d_Cr_fill_34 rfl ?_
        obtain ⟨q16, hw⟩ := hw
        obtain ⟨q17, hw⟩ := hw
        refine r_iast d_Cr_fill_35 q16 q17 ?_
        refine r_iconst d_Cr_fill_36 kc_0 ?_
        refine r_istore (ls2 := [(4, ai (0 : Int32)), (0, ar v0), (1, ai v1), (2, ai v2), (3, ai v3)]) d_Cr_fill_37 (nle rfl) rfl ?_
        obtain ⟨n27, hw⟩ := hw
        refine r_pick (ls2 := [(0, ar v0), (1, ai v1), (2, ai v2), (3, ai v3), (4, ai (0 : Int32))]) [1, 2, 3, 4, 0] rfl ?_
        exact s_Cr_fill_L39 hd hQ ih n27 _ _ hw
set_option maxRecDepth 100000 in
set_option maxHeartbeats 4000000 in
theorem s_Cr_fill {d : Nat} (hd : 1 ≤ d) {v0 : Nat} {v1 : Int32} {v2 : Int32} {h : Hp} {Q : Hp → Prop} {QQ : Option AV → Hp → Prop} (hw : w_Cr_fill v0 v1 v2 h Q) (hQ : ∀ h9, Q h9 → QQ none h9) : aCall m_Cr_fill d [ar v0, ai v1, ai v2] h 0 0 QQ := by
  obtain ⟨d, rfl⟩ : ∃ d9, d = d9 + 1 := ⟨d - 1, by omega⟩
  refine aCall_in pl_Cr_fill (nle rfl) ?_
  show aW none m_Cr_fill (d + 1) 0 [(0, ar v0), (1, ai v1), (2, ai v2)] [] h 0 0 QQ
  unfold w_Cr_fill at hw
  refine r_aload_n (j := 0) d_Cr_fill_0 rfl ?_
  refine r_iconst d_Cr_fill_1 kc_0 ?_
  obtain ⟨q1, hw⟩ := hw
  refine r_putI d_Cr_fill_2 ok_2 (nle rfl) (nle rfl) rfl lf_Cr_79 rfl q1 ?_
  refine r_iconst d_Cr_fill_5 kc_0 ?_
  refine r_istore_n (ls2 := [(3, ai (0 : Int32)), (0, ar v0), (1, ai v1), (2, ai v2)]) d_Cr_fill_6 (nle rfl) rfl ?_
  obtain ⟨n28, hw⟩ := hw
  refine r_pick (ls2 := [(0, ar v0), (1, ai v1), (2, ai v2), (3, ai (0 : Int32))]) [1, 2, 3, 0] rfl ?_
  exact s_Cr_fill_L7 hd hQ  n28 _ _ hw
set_option maxRecDepth 100000 in
set_option maxHeartbeats 4000000 in
theorem s_Cr_isAboveNothing_L29 {d : Nat} {Q : Bool → Hp → Prop} {QQ : Option AV → Hp → Prop} (hQ : ∀ r9 h9, Q r9 h9 → QQ (some (ai (b2i r9))) h9) {v0 : Nat} {v1 : Int64} : ∀ (n : Nat) (v3 : Int32) (h : Hp), w_Cr_isAboveNothing_L29 Q  v0 v1 n v3 h → aW none m_Cr_isAboveNothing d 29 [(0, ar v0), (1, al v1), (3, ai v3)] [] h 0 0 QQ := by
  intro n
  induction n with
  | zero => intro v3 h hw; exact hw.elim
  | succ n ih =>
    intro v3 h hw
    unfold w_Cr_isAboveNothing_L29 at hw
    refine r_iload_n (j := 2) d_Cr_isAboveNothing_29 rfl ?_
    refine r_aload_n (j := 0) d_Cr_isAboveNothing_30 rfl ?_
    obtain ⟨q3, hw⟩ := hw
    refine r_getI d_Cr_isAboveNothing_31 ok_2 (nle rfl) (nle rfl) rfl lf_Cr_79 q3 ?_
    refine r_icmp_ge d_Cr_isAboveNothing_34 (fun w9 => ?_) (fun w9 => ?_)
    · replace hw := hw.1 w9
      refine r_iconst d_Cr_isAboveNothing_80 kc_1 ?_
      exact r_zreturn d_Cr_isAboveNothing_81.1 rfl (Or.inr rfl) (hQ _ _ hw)
    · replace hw := hw.2 w9
      refine r_aload_n (j := 0) d_Cr_isAboveNothing_37 rfl ?_
      refine r_getR d_Cr_isAboveNothing_38 ok_2 (nle rfl) (nle rfl) rfl lf_Cr_11 q3 ?_
      refine r_iload_n (j := 2) d_Cr_isAboveNothing_41 rfl ?_
      refine r_iconst d_Cr_isAboveNothing_42 kc_5 ?_
      refine r_imul d_Cr_isAboveNothing_43 ?_
      refine r_aload_n (j := 0) d_Cr_isAboveNothing_44 rfl ?_
      refine r_getI d_Cr_isAboveNothing_45 ok_2 (nle rfl) (nle rfl) rfl lf_Cr_79 q3 ?_
      refine r_iadd d_Cr_isAboveNothing_48 ?_
      refine r_dup2 d_Cr_isAboveNothing_49 rfl rfl ?_
      obtain ⟨q4, hw⟩ := hw
      obtain ⟨q5, hw⟩ := hw
      refine r_lald d_Cr_isAboveNothing_50 q4 q5 ?_
      refine r_lload_n (j := 1) d_Cr_isAboveNothing_51 rfl ?_
      refine r_lmul d_Cr_isAboveNothing_52 ?_
      refine r_last d_Cr_isAboveNothing_53 q4 q5 ?_
      refine r_aload_n (j := 0) d_Cr_isAboveNothing_54 rfl ?_
      refine r_getRb eRL d_Cr_isAboveNothing_55 ok_2 (nle rfl) (nle rfl) rfl lf_Cr_11 (kt eKL q3) ?_
      refine r_iload_n (j := 2) d_Cr_isAboveNothing_58 rfl ?_
      refine r_iconst d_Cr_isAboveNothing_59 kc_5 ?_
      refine r_imul d_Cr_isAboveNothing_60 ?_
      refine r_aload_n (j := 0) d_Cr_isAboveNothing_61 rfl ?_
      refine r_getI d_Cr_isAboveNothing_62 ok_2 (nle rfl) (nle rfl) rfl lf_Cr_79 (kt eKL q3) ?_
      refine r_iadd d_Cr_isAboveNothing_65 ?_
      obtain ⟨q6, hw⟩ := hw
      refine r_lald d_Cr_isAboveNothing_66 (kt eKL q4) (nt eNL q6) ?_
      refine r_lconst d_Cr_isAboveNothing_67 kl_0 ?_
      refine r_lcmp d_Cr_isAboveNothing_68 ?_
      refine r_if_gt d_Cr_isAboveNothing_69 (fun w9 => ?_) (fun w9 => ?_)
      · replace hw := hw.1 ((lg_cmp_gt _ _).mp w9)
        refine r_iinc (j := 2) (ls2 := [(3, ai (v3 + (1 : Int32))), (0, ar v0), (1, al v1)]) d_Cr_isAboveNothing_74 rfl (congrArg (HAdd.hAdd v3) kc_1) (nle rfl) rfl ?_
        refine r_goto d_Cr_isAboveNothing_77 ?_
        refine r_pick (ls2 := [(0, ar v0), (1, al v1), (3, ai (v3 + (1 : Int32)))]) [1, 2, 0] rfl ?_
        exact ih _ _ hw
      · replace hw := hw.2 (fun g9 => w9 ((lg_cmp_gt _ _).mpr g9))
        refine r_iconst d_Cr_isAboveNothing_72 kc_0 ?_
        exact r_zreturn d_Cr_isAboveNothing_73.1 rfl (Or.inl rfl) (hQ _ _ hw)
set_option maxRecDepth 100000 in
set_option maxHeartbeats 4000000 in
theorem s_Cr_isAboveNothing_B16 {d : Nat} {Q : Bool → Hp → Prop} {QQ : Option AV → Hp → Prop} (hQ : ∀ r9 h9, Q r9 h9 → QQ (some (ai (b2i r9))) h9) {v0 : Nat} {s0 : Int64} {h : Hp} (hw : w_Cr_isAboveNothing_B16 Q  v0 s0 h) : aW none m_Cr_isAboveNothing d 16 [(0, ar v0)] [al s0] h 0 0 QQ := by
  unfold w_Cr_isAboveNothing_B16 at hw
  refine r_lstore_n (ls2 := [(1, al s0), (0, ar v0)]) d_Cr_isAboveNothing_16 (nle rfl) rfl ?_
  refine r_aload_n (j := 1) d_Cr_isAboveNothing_17 rfl ?_
  refine r_dup d_Cr_isAboveNothing_18 rfl ?_
  obtain ⟨q2, hw⟩ := hw
  refine r_getL d_Cr_isAboveNothing_19 ok_2 (nle rfl) (nle rfl) rfl lf_Cr_67 q2 ?_
  refine r_lload_n (j := 0) d_Cr_isAboveNothing_22 rfl ?_
  refine r_lmul d_Cr_isAboveNothing_23 ?_
  refine r_putL d_Cr_isAboveNothing_24 ok_2 (nle rfl) (nle rfl) rfl lf_Cr_67 rfl q2 ?_
  refine r_iconst d_Cr_isAboveNothing_27 kc_0 ?_
  refine r_istore_n (ls2 := [(3, ai (0 : Int32)), (1, al s0), (0, ar v0)]) d_Cr_isAboveNothing_28 (nle rfl) rfl ?_
  obtain ⟨n7, hw⟩ := hw
  refine r_pick (ls2 := [(0, ar v0), (1, al s0), (3, ai (0 : Int32))]) [2, 1, 0] rfl ?_
  exact s_Cr_isAboveNothing_L29 hQ  n7 _ _ hw
set_option maxRecDepth 100000 in
set_option maxHeartbeats 4000000 in
theorem s_Cr_isAboveNothing {d : Nat} {v0 : Nat} {h : Hp} {Q : Bool → Hp → Prop} {QQ : Option AV → Hp → Prop} (hw : w_Cr_isAboveNothing v0 h Q) (hQ : ∀ r9 h9, Q r9 h9 → QQ (some (ai (b2i r9))) h9) : aCall m_Cr_isAboveNothing d [ar v0] h 0 0 QQ := by
  refine aCall_in pl_Cr_isAboveNothing (nle rfl) ?_
  show aW none m_Cr_isAboveNothing d 0 [(0, ar v0)] [] h 0 0 QQ
  unfold w_Cr_isAboveNothing at hw
  refine r_aload_n (j := 0) d_Cr_isAboveNothing_0 rfl ?_
  obtain ⟨q1, hw⟩ := hw
  refine r_getL d_Cr_isAboveNothing_1 ok_2 (nle rfl) (nle rfl) rfl lf_Cr_67 q1 ?_
  refine r_lconst d_Cr_isAboveNothing_4 kl_0 ?_
  refine r_lcmp d_Cr_isAboveNothing_5 ?_
  refine r_if_ge d_Cr_isAboveNothing_6 (fun w9 => ?_) (fun w9 => ?_)
  · replace hw := hw.1 ((lg_cmp_ge _ _).mp w9)
    refine r_lconst d_Cr_isAboveNothing_15 kl_1 ?_
    exact s_Cr_isAboveNothing_B16 hQ  hw
  · replace hw := hw.2 (fun g9 => w9 ((lg_cmp_ge _ _).mpr g9))
    refine r_ldc2 d_Cr_isAboveNothing_9 lc_Cr_108 ?_
    refine r_goto d_Cr_isAboveNothing_12 ?_
    exact s_Cr_isAboveNothing_B16 hQ  hw
set_option maxRecDepth 100000 in
set_option maxHeartbeats 4000000 in
theorem s_JI_bitCount {d : Nat} {v0 : Int32} {h : Hp} {Q : Int32 → Hp → Prop} {QQ : Option AV → Hp → Prop} (hw : w_JI_bitCount v0 h Q) (hQ : ∀ r9 h9, Q r9 h9 → QQ (some (ai r9)) h9) : aCall m_JI_bitCount d [ai v0] h 0 0 QQ := by
  refine aCall_in pl_JI_bitCount (nle rfl) ?_
  show aW none m_JI_bitCount d 0 [(0, ai v0)] [] h 0 0 QQ
  unfold w_JI_bitCount at hw
  refine r_iload_n (j := 0) d_JI_bitCount_0 rfl ?_
  refine r_iload_n (j := 0) d_JI_bitCount_1 rfl ?_
  refine r_iconst d_JI_bitCount_2 kc_1 ?_
  refine r_iushr d_JI_bitCount_3 ?_
  refine r_ldcw d_JI_bitCount_4 lc_JI_265 ?_
  refine r_iand d_JI_bitCount_7 ?_
  refine r_isub d_JI_bitCount_8 ?_
  refine r_istore_n (ls2 := [(0, ai (v0 - ((jushr v0 (1 : Int32)) &&& (1431655765 : Int32))))]) d_JI_bitCount_9 (nle rfl) rfl ?_
  refine r_iload_n (j := 0) d_JI_bitCount_10 rfl ?_
  refine r_ldcw d_JI_bitCount_11 lc_JI_266 ?_
  refine r_iand d_JI_bitCount_14 ?_
  refine r_iload_n (j := 0) d_JI_bitCount_15 rfl ?_
  refine r_iconst d_JI_bitCount_16 kc_2 ?_
  refine r_iushr d_JI_bitCount_17 ?_
  refine r_ldcw d_JI_bitCount_18 lc_JI_266 ?_
  refine r_iand d_JI_bitCount_21 ?_
  refine r_iadd d_JI_bitCount_22 ?_
  refine r_istore_n (ls2 := [(0, ai (((v0 - ((jushr v0 (1 : Int32)) &&& (1431655765 : Int32))) &&& (858993459 : Int32)) + ((jushr (v0 - ((jushr v0 (1 : Int32)) &&& (1431655765 : Int32))) (2 : Int32)) &&& (858993459 : Int32))))]) d_JI_bitCount_23 (nle rfl) rfl ?_
  refine r_iload_n (j := 0) d_JI_bitCount_24 rfl ?_
  refine r_iload_n (j := 0) d_JI_bitCount_25 rfl ?_
  refine r_iconst d_JI_bitCount_26 kc_4 ?_
  refine r_iushr d_JI_bitCount_27 ?_
  refine r_iadd d_JI_bitCount_28 ?_
  refine r_ldcw d_JI_bitCount_29 lc_JI_267 ?_
  refine r_iand d_JI_bitCount_32 ?_
  refine r_istore_n (ls2 := [(0, ai (((((v0 - ((jushr v0 (1 : Int32)) &&& (1431655765 : Int32))) &&& (858993459 : Int32)) + ((jushr (v0 - ((jushr v0 (1 : Int32)) &&& (1431655765 : Int32))) (2 : Int32)) &&& (858993459 : Int32))) + (jushr (((v0 - ((jushr v0 (1 : Int32)) &&& (1431655765 : Int32))) &&& (858993459 : Int32)) + ((jushr (v0 - ((jushr v0 (1 : Int32)) &&& (1431655765 : Int32))) (2 : Int32)) &&& (858993459 : Int32))) (4 : Int32))) &&& (252645135 : Int32)))]) d_JI_bitCount_33 (nle rfl) rfl ?_
  refine r_iload_n (j := 0) d_JI_bitCount_34 rfl ?_
  refine r_iload_n (j := 0) d_JI_bitCount_35 rfl ?_
  refine r_bipush d_JI_bitCount_36 kb_8 ?_
  refine r_iushr d_JI_bitCount_38 ?_
  refine r_iadd d_JI_bitCount_39 ?_
  refine r_istore_n (ls2 := [(0, ai ((((((v0 - ((jushr v0 (1 : Int32)) &&& (1431655765 : Int32))) &&& (858993459 : Int32)) + ((jushr (v0 - ((jushr v0 (1 : Int32)) &&& (1431655765 : Int32))) (2 : Int32)) &&& (858993459 : Int32))) + (jushr (((v0 - ((jushr v0 (1 : Int32)) &&& (1431655765 : Int32))) &&& (858993459 : Int32)) + ((jushr (v0 - ((jushr v0 (1 : Int32)) &&& (1431655765 : Int32))) (2 : Int32)) &&& (858993459 : Int32))) (4 : Int32))) &&& (252645135 : Int32)) + (jushr (((((v0 - ((jushr v0 (1 : Int32)) &&& (1431655765 : Int32))) &&& (858993459 : Int32)) + ((jushr (v0 - ((jushr v0 (1 : Int32)) &&& (1431655765 : Int32))) (2 : Int32)) &&& (858993459 : Int32))) + (jushr (((v0 - ((jushr v0 (1 : Int32)) &&& (1431655765 : Int32))) &&& (858993459 : Int32)) + ((jushr (v0 - ((jushr v0 (1 : Int32)) &&& (1431655765 : Int32))) (2 : Int32)) &&& (858993459 : Int32))) (4 : Int32))) &&& (252645135 : Int32)) (8 : Int32))))]) d_JI_bitCount_40 (nle rfl) rfl ?_
  refine r_iload_n (j := 0) d_JI_bitCount_41 rfl ?_
  refine r_iload_n (j := 0) d_JI_bitCount_42 rfl ?_
  refine r_bipush d_JI_bitCount_43 kb_16 ?_
  refine r_iushr d_JI_bitCount_45 ?_
  refine r_iadd d_JI_bitCount_46 ?_
  refine r_istore_n (ls2 := [(0, ai (((((((v0 - ((jushr v0 (1 : Int32)) &&& (1431655765 : Int32))) &&& (858993459 : Int32)) + ((jushr (v0 - ((jushr v0 (1 : Int32)) &&& (1431655765 : Int32))) (2 : Int32)) &&& (858993459 : Int32))) + (jushr (((v0 - ((jushr v0 (1 : Int32)) &&& (1431655765 : Int32))) &&& (858993459 : Int32)) + ((jushr (v0 - ((jushr v0 (1 : Int32)) &&& (1431655765 : Int32))) (2 : Int32)) &&& (858993459 : Int32))) (4 : Int32))) &&& (252645135 : Int32)) + (jushr (((((v0 - ((jushr v0 (1 : Int32)) &&& (1431655765 : Int32))) &&& (858993459 : Int32)) + ((jushr (v0 - ((jushr v0 (1 : Int32)) &&& (1431655765 : Int32))) (2 : Int32)) &&& (858993459 : Int32))) + (jushr (((v0 - ((jushr v0 (1 : Int32)) &&& (1431655765 : Int32))) &&& (858993459 : Int32)) + ((jushr (v0 - ((jushr v0 (1 : Int32)) &&& (1431655765 : Int32))) (2 : Int32)) &&& (858993459 : Int32))) (4 : Int32))) &&& (252645135 : Int32)) (8 : Int32))) + (jushr ((((((v0 - ((jushr v0 (1 : Int32)) &&& (1431655765 : Int32))) &&& (858993459 : Int32)) + ((jushr (v0 - ((jushr v0 (1 : Int32)) &&& (1431655765 : Int32))) (2 : Int32)) &&& (858993459 : Int32))) + (jushr (((v0 - ((jushr v0 (1 : Int32)) &&& (1431655765 : Int32))) &&& (858993459 : Int32)) + ((jushr (v0 - ((jushr v0 (1 : Int32)) &&& (1431655765 : Int32))) (2 : Int32)) &&& (858993459 : Int32))) (4 : Int32))) &&& (252645135 : Int32)) + (jushr (((((v0 - ((jushr v0 (1 : Int32)) &&& (1431655765 : Int32))) &&& (858993459 : Int32)) + ((jushr (v0 - ((jushr v0 (1 : Int32)) &&& (1431655765 : Int32))) (2 : Int32)) &&& (858993459 : Int32))) + (jushr (((v0 - ((jushr v0 (1 : Int32)) &&& (1431655765 : Int32))) &&& (858993459 : Int32)) + ((jushr (v0 - ((jushr v0 (1 : Int32)) &&& (1431655765 : Int32))) (2 : Int32)) &&& (858993459 : Int32))) (4 : Int32))) &&& (252645135 : Int32)) (8 : Int32))) (16 : Int32))))]) d_JI_bitCount_47 (nle rfl) rfl ?_
  refine r_iload_n (j := 0) d_JI_bitCount_48 rfl ?_
  refine r_bipush d_JI_bitCount_49 kb_63 ?_
  refine r_iand d_JI_bitCount_51 ?_
  exact r_ireturn d_JI_bitCount_52.1 rfl (hQ _ _ hw)
set_option maxRecDepth 100000 in
set_option maxHeartbeats 4000000 in
theorem s_Cr_solve_L53 {d : Nat} (hd : 2 ≤ d + 1) {Q : Bool → Hp → Prop} {QQ : Option AV → Hp → Prop} (hQ : ∀ r9 h9, Q r9 h9 → QQ (some (ai (b2i r9))) h9) {v0 : Nat} {v2 : Int32} : ∀ (n : Nat) (v3 : Int32) (h : Hp), w_Cr_solve_L53 Q  v0 v2 n v3 h → aW none m_Cr_solve (d + 1) 53 [(0, ar v0), (2, ai v2), (3, ai v3)] [] h 0 0 QQ := by
  intro n
  induction n with
  | zero => intro v3 h hw; exact hw.elim
  | succ n ih =>
    intro v3 h hw
    unfold w_Cr_solve_L53 at hw
    refine r_iload_n (j := 2) d_Cr_solve_53 rfl ?_
    refine r_iload_n (j := 1) d_Cr_solve_54 rfl ?_
    refine r_icmp_ge d_Cr_solve_55 (fun w9 => ?_) (fun w9 => ?_)
    · replace hw := hw.1 w9
      refine r_aload_n (j := 0) d_Cr_solve_84 rfl ?_
      obtain ⟨q9, hw⟩ := hw
      refine r_callV (av := []) (rest := []) (ci := 2) d_Cr_solve_85 mk_Cr_isAboveNothing ll_Cr_97 im_Cr_isAboveNothing se_Cr_isAboveNothing rfl (nle rfl) rfl rfl (nle rfl) q9 (s_Cr_isAboveNothing  hw (fun r8 h7 hw => ?_))
      show aW none m_Cr_solve (d + 1) 88 [(0, ar v0), (2, ai v2), (3, ai v3)] [ai (b2i r8)] h7 0 0 QQ
      exact r_zreturn d_Cr_solve_88.1 rfl (b2i_B _) (hQ _ _ hw)
    · replace hw := hw.2 w9
      refine r_aload_n (j := 0) d_Cr_solve_58 rfl ?_
      obtain ⟨q10, hw⟩ := hw
      refine r_getR d_Cr_solve_59 ok_2 (nle rfl) (nle rfl) rfl lf_Cr_11 q10 ?_
      refine r_iload_n (j := 2) d_Cr_solve_62 rfl ?_
      refine r_iconst d_Cr_solve_63 kc_5 ?_
      refine r_imul d_Cr_solve_64 ?_
      refine r_aload_n (j := 0) d_Cr_solve_65 rfl ?_
      refine r_getI d_Cr_solve_66 ok_2 (nle rfl) (nle rfl) rfl lf_Cr_79 q10 ?_
      refine r_iadd d_Cr_solve_69 ?_
      obtain ⟨q11, hw⟩ := hw
      obtain ⟨q12, hw⟩ := hw
      refine r_lald d_Cr_solve_70 q11 q12 ?_
      refine r_lconst d_Cr_solve_71 kl_0 ?_
      refine r_lcmp d_Cr_solve_72 ?_
      refine r_if_eq d_Cr_solve_73 (fun w9 => ?_) (fun w9 => ?_)
      · replace hw := hw.1 ((lg_cmp_eq _ _).mp w9)
        refine r_iinc (j := 2) (ls2 := [(3, ai (v3 + (1 : Int32))), (0, ar v0), (2, ai v2)]) d_Cr_solve_78 rfl (congrArg (HAdd.hAdd v3) kc_1) (nle rfl) rfl ?_
        refine r_goto d_Cr_solve_81 ?_
        refine r_pick (ls2 := [(0, ar v0), (2, ai v2), (3, ai (v3 + (1 : Int32)))]) [1, 2, 0] rfl ?_
        exact ih _ _ hw
      · replace hw := hw.2 (fun g9 => w9 ((lg_cmp_eq _ _).mpr g9))
        refine r_iconst d_Cr_solve_76 kc_0 ?_
        exact r_zreturn d_Cr_solve_77.1 rfl (Or.inl rfl) (hQ _ _ hw)
set_option maxRecDepth 100000 in
set_option maxHeartbeats 4000000 in
theorem s_Cr_solve_L23 {d : Nat} (hd : 2 ≤ d + 1) {Q : Bool → Hp → Prop} {QQ : Option AV → Hp → Prop} (hQ : ∀ r9 h9, Q r9 h9 → QQ (some (ai (b2i r9))) h9) {v0 : Nat} {v2 : Int32} : ∀ (n : Nat) (v3 : Int32) (h : Hp), w_Cr_solve_L23 Q  v0 v2 n v3 h → aW none m_Cr_solve (d + 1) 23 [(0, ar v0), (2, ai v2), (3, ai v3)] [] h 0 0 QQ := by
  intro n
  induction n with
  | zero => intro v3 h hw; exact hw.elim
  | succ n ih =>
    intro v3 h hw
    unfold w_Cr_solve_L23 at hw
    refine r_iload_n (j := 2) d_Cr_solve_23 rfl ?_
    refine r_aload_n (j := 0) d_Cr_solve_24 rfl ?_
    obtain ⟨q6, hw⟩ := hw
    refine r_getI d_Cr_solve_25 ok_2 (nle rfl) (nle rfl) rfl lf_Cr_79 q6 ?_
    refine r_icmp_ge d_Cr_solve_28 (fun w9 => ?_) (fun w9 => ?_)
    · replace hw := hw.1 w9
      refine r_aload_n (j := 0) d_Cr_solve_48 rfl ?_
      refine r_getI d_Cr_solve_49 ok_2 (nle rfl) (nle rfl) rfl lf_Cr_79 q6 ?_
      refine r_istore_n (ls2 := [(3, ai (gI h v0 4)), (0, ar v0), (2, ai v2)]) d_Cr_solve_52 (nle rfl) rfl ?_
      obtain ⟨n13, hw⟩ := hw
      refine r_pick (ls2 := [(0, ar v0), (2, ai v2), (3, ai (gI h v0 4))]) [1, 2, 0] rfl ?_
      exact s_Cr_solve_L53 hd hQ  n13 _ _ hw
    · replace hw := hw.2 w9
      refine r_aload_n (j := 0) d_Cr_solve_31 rfl ?_
      refine r_iload_n (j := 2) d_Cr_solve_32 rfl ?_
      refine r_iload_n (j := 1) d_Cr_solve_33 rfl ?_
      refine r_callV (av := [ai v3, ai v2]) (rest := []) (ci := 2) d_Cr_solve_34 mk_Cr_eliminate ll_Cr_94 im_Cr_eliminate se_Cr_eliminate rfl (nle rfl) rfl rfl (nle rfl) q6 (s_Cr_eliminate  hw (fun r15 h14 hw => ?_))
      show aW none m_Cr_solve (d + 1) 37 [(0, ar v0), (2, ai v2), (3, ai v3)] [ai (b2i r15)] h14 0 0 QQ
      refine r_if_ne d_Cr_solve_37 (fun w9 => ?_) (fun w9 => ?_)
      · replace hw := hw.2 (fun g9 => w9 (b2i_0.mpr g9))
        refine r_iinc (j := 2) (ls2 := [(3, ai (v3 + (1 : Int32))), (0, ar v0), (2, ai v2)]) d_Cr_solve_42 rfl (congrArg (HAdd.hAdd v3) kc_1) (nle rfl) rfl ?_
        refine r_goto d_Cr_solve_45 ?_
        refine r_pick (ls2 := [(0, ar v0), (2, ai v2), (3, ai (v3 + (1 : Int32)))]) [1, 2, 0] rfl ?_
        exact ih _ _ hw
      · replace hw := hw.1 (b2i_0.mp w9)
        refine r_iconst d_Cr_solve_40 kc_0 ?_
        exact r_zreturn d_Cr_solve_41.1 rfl (Or.inl rfl) (hQ _ _ hw)
set_option maxRecDepth 100000 in
set_option maxHeartbeats 4000000 in
theorem s_Cr_solve {d : Nat} (hd : 2 ≤ d) {v0 : Nat} {v1 : Int32} {v2 : Int32} {h : Hp} {Q : Bool → Hp → Prop} {QQ : Option AV → Hp → Prop} (hw : w_Cr_solve v0 v1 v2 h Q) (hQ : ∀ r9 h9, Q r9 h9 → QQ (some (ai (b2i r9))) h9) : aCall m_Cr_solve d [ar v0, ai v1, ai v2] h 0 0 QQ := by
  obtain ⟨d, rfl⟩ : ∃ d9, d = d9 + 1 := ⟨d - 1, by omega⟩
  refine aCall_in pl_Cr_solve (nle rfl) ?_
  show aW none m_Cr_solve (d + 1) 0 [(0, ar v0), (1, ai v1), (2, ai v2)] [] h 0 0 QQ
  unfold w_Cr_solve at hw
  refine r_iload_n (j := 1) d_Cr_solve_0 rfl ?_
  refine r_callS (av := [ai v1]) (rest := []) d_Cr_solve_1 mk_JI_bitCount ll_Cr_86 st_JI_bitCount rfl rfl (nle rfl) (s_JI_bitCount  hw (fun r2 h1 hw => ?_))
  show aW none m_Cr_solve (d + 1) 4 [(0, ar v0), (1, ai v1), (2, ai v2)] [ai r2] h1 0 0 QQ
  refine r_iload_n (j := 2) d_Cr_solve_4 rfl ?_
  refine r_icmp_le d_Cr_solve_5 (fun w9 => ?_) (fun w9 => ?_)
  · replace hw := hw.1 w9
    refine r_aload_n (j := 0) d_Cr_solve_10 rfl ?_
    refine r_iload_n (j := 1) d_Cr_solve_11 rfl ?_
    refine r_iload_n (j := 2) d_Cr_solve_12 rfl ?_
    obtain ⟨q4, hw⟩ := hw
    refine r_callV (av := [ai v1, ai v2]) (rest := []) (ci := 2) d_Cr_solve_13 mk_Cr_fill ll_Cr_91 im_Cr_fill se_Cr_fill rfl (nle rfl) rfl rfl (nle rfl) q4 (s_Cr_fill (by omega) hw (fun h3 hw => ?_))
    show aW none m_Cr_solve (d + 1) 16 [(0, ar v0), (1, ai v1), (2, ai v2)] [] h3 0 0 QQ
    refine r_aload_n (j := 0) d_Cr_solve_16 rfl ?_
    refine r_lconst d_Cr_solve_17 kl_1 ?_
    obtain ⟨q5, hw⟩ := hw
    refine r_putL d_Cr_solve_18 ok_2 (nle rfl) (nle rfl) rfl lf_Cr_67 rfl q5 ?_
    refine r_iconst d_Cr_solve_21 kc_0 ?_
    refine r_istore_n (ls2 := [(3, ai (0 : Int32)), (0, ar v0), (1, ai v1), (2, ai v2)]) d_Cr_solve_22 (nle rfl) rfl ?_
    obtain ⟨n16, hw⟩ := hw
    refine r_pick (ls2 := [(0, ar v0), (2, ai v2), (3, ai (0 : Int32))]) [1, 3, 0] rfl ?_
    exact s_Cr_solve_L23 hd hQ  n16 _ _ hw
  · replace hw := hw.2 w9
    refine r_iconst d_Cr_solve_8 kc_0 ?_
    exact r_zreturn d_Cr_solve_9.1 rfl (Or.inl rfl) (hQ _ _ hw)
set_option maxRecDepth 100000 in
set_option maxHeartbeats 4000000 in
theorem s_Cr_solvedGain_L4 {d : Nat} (hd : 1 ≤ d + 1) {Q : Int64 → Hp → Prop} {QQ : Option AV → Hp → Prop} (hQ : ∀ r9 h9, Q r9 h9 → QQ (some (al r9)) h9) {v0 : Nat} : ∀ (n : Nat) (v1 : Int64) (v3 : Int32) (h : Hp), w_Cr_solvedGain_L4 Q  v0 n v1 v3 h → aW none m_Cr_solvedGain (d + 1) 4 [(0, ar v0), (1, al v1), (3, ai v3)] [] h 0 0 QQ := by
  intro n
  induction n with
  | zero => intro v1 v3 h hw; exact hw.elim
  | succ n ih =>
    intro v1 v3 h hw
    unfold w_Cr_solvedGain_L4 at hw
    refine r_iload_n (j := 2) d_Cr_solvedGain_4 rfl ?_
    refine r_aload_n (j := 0) d_Cr_solvedGain_5 rfl ?_
    obtain ⟨q1, hw⟩ := hw
    refine r_getI d_Cr_solvedGain_6 ok_2 (nle rfl) (nle rfl) rfl lf_Cr_79 q1 ?_
    refine r_icmp_ge d_Cr_solvedGain_9 (fun w9 => ?_) (fun w9 => ?_)
    · replace hw := hw.1 w9
      refine r_lload_n (j := 1) d_Cr_solvedGain_49 rfl ?_
      exact r_lreturn d_Cr_solvedGain_50.1 rfl (hQ _ _ hw)
    · replace hw := hw.2 w9
      refine r_lload_n (j := 1) d_Cr_solvedGain_12 rfl ?_
      refine r_aload_n (j := 0) d_Cr_solvedGain_13 rfl ?_
      refine r_getR d_Cr_solvedGain_14 ok_2 (nle rfl) (nle rfl) rfl lf_Cr_26 q1 ?_
      refine r_aload_n (j := 0) d_Cr_solvedGain_17 rfl ?_
      refine r_getR d_Cr_solvedGain_18 ok_2 (nle rfl) (nle rfl) rfl lf_Cr_15 q1 ?_
      refine r_iload_n (j := 2) d_Cr_solvedGain_21 rfl ?_
      obtain ⟨q2, hw⟩ := hw
      obtain ⟨q3, hw⟩ := hw
      refine r_iald d_Cr_solvedGain_22 q2 q3 ?_
      obtain ⟨q6, hw⟩ := hw
      refine r_callV (av := [ai (gI h (gR h v0 2) (ix v3))]) (rest := [al v1]) (ci := 1) d_Cr_solvedGain_23 mk_Co_gainOf ll_Cr_82 im_Co_gainOf se_Co_gainOf rfl (nle rfl) rfl rfl (nle rfl) q6 (s_Co_gainOf  hw (fun r5 h4 hw => ?_))
      show aW none m_Cr_solvedGain (d + 1) 26 [(0, ar v0), (1, al v1), (3, ai v3)] [ai r5, al v1] h4 0 0 QQ
      refine r_i2l d_Cr_solvedGain_26 ?_
      refine r_aload_n (j := 0) d_Cr_solvedGain_27 rfl ?_
      obtain ⟨q7, hw⟩ := hw
      refine r_getR d_Cr_solvedGain_28 ok_2 (nle rfl) (nle rfl) rfl lf_Cr_11 q7 ?_
      refine r_iload_n (j := 2) d_Cr_solvedGain_31 rfl ?_
      refine r_iconst d_Cr_solvedGain_32 kc_5 ?_
      refine r_imul d_Cr_solvedGain_33 ?_
      refine r_aload_n (j := 0) d_Cr_solvedGain_34 rfl ?_
      refine r_getI d_Cr_solvedGain_35 ok_2 (nle rfl) (nle rfl) rfl lf_Cr_79 q7 ?_
      refine r_iadd d_Cr_solvedGain_38 ?_
      obtain ⟨q8, hw⟩ := hw
      obtain ⟨q9, hw⟩ := hw
      refine r_lald d_Cr_solvedGain_39 q8 q9 ?_
      refine r_lmul d_Cr_solvedGain_40 ?_
      refine r_ladd d_Cr_solvedGain_41 ?_
      refine r_lstore_n (ls2 := [(1, al (v1 + ((r5.toInt64) * (gL h4 (gR h4 v0 1) (ix ((v3 * (5 : Int32)) + (gI h4 v0 4))))))), (0, ar v0), (3, ai v3)]) d_Cr_solvedGain_42 (nle rfl) rfl ?_
      refine r_iinc (j := 2) (ls2 := [(3, ai (v3 + (1 : Int32))), (1, al (v1 + ((r5.toInt64) * (gL h4 (gR h4 v0 1) (ix ((v3 * (5 : Int32)) + (gI h4 v0 4))))))), (0, ar v0)]) d_Cr_solvedGain_43 rfl (congrArg (HAdd.hAdd v3) kc_1) (nle rfl) rfl ?_
      refine r_goto d_Cr_solvedGain_46 ?_
      refine r_pick (ls2 := [(0, ar v0), (1, al (v1 + ((r5.toInt64) * (gL h4 (gR h4 v0 1) (ix ((v3 * (5 : Int32)) + (gI h4 v0 4))))))), (3, ai (v3 + (1 : Int32)))]) [2, 1, 0] rfl ?_
      exact ih _ _ _ hw
set_option maxRecDepth 100000 in
set_option maxHeartbeats 4000000 in
theorem s_Cr_solvedGain {d : Nat} (hd : 1 ≤ d) {v0 : Nat} {h : Hp} {Q : Int64 → Hp → Prop} {QQ : Option AV → Hp → Prop} (hw : w_Cr_solvedGain v0 h Q) (hQ : ∀ r9 h9, Q r9 h9 → QQ (some (al r9)) h9) : aCall m_Cr_solvedGain d [ar v0] h 0 0 QQ := by
  obtain ⟨d, rfl⟩ : ∃ d9, d = d9 + 1 := ⟨d - 1, by omega⟩
  refine aCall_in pl_Cr_solvedGain (nle rfl) ?_
  show aW none m_Cr_solvedGain (d + 1) 0 [(0, ar v0)] [] h 0 0 QQ
  unfold w_Cr_solvedGain at hw
  refine r_lconst d_Cr_solvedGain_0 kl_0 ?_
  refine r_lstore_n (ls2 := [(1, al (0 : Int64)), (0, ar v0)]) d_Cr_solvedGain_1 (nle rfl) rfl ?_
  refine r_iconst d_Cr_solvedGain_2 kc_0 ?_
  refine r_istore_n (ls2 := [(3, ai (0 : Int32)), (1, al (0 : Int64)), (0, ar v0)]) d_Cr_solvedGain_3 (nle rfl) rfl ?_
  obtain ⟨n10, hw⟩ := hw
  refine r_pick (ls2 := [(0, ar v0), (1, al (0 : Int64)), (3, ai (0 : Int32))]) [2, 1, 0] rfl ?_
  exact s_Cr_solvedGain_L4 hd hQ  n10 _ _ _ hw
set_option maxRecDepth 100000 in
set_option maxHeartbeats 4000000 in
theorem s_JA_fill_L6 {d : Nat} {Q : Hp → Prop} {QQ : Option AV → Hp → Prop} (hQ : ∀ h9, Q h9 → QQ none h9) {v0 : Nat} {v1 : Int64} {v4 : Int32} : ∀ (n : Nat) (v3 : Int32) (h : Hp), w_JA_fill_L6 Q  v0 v1 v4 n v3 h → aW none m_JA_fill d 6 [(0, ar v0), (1, al v1), (3, ai v3), (4, ai v4)] [] h 0 0 QQ := by
  intro n
  induction n with
  | zero => intro v3 h hw; exact hw.elim
  | succ n ih =>
    intro v3 h hw
    unfold w_JA_fill_L6 at hw
    refine r_iload_n (j := 2) d_JA_fill_6 rfl ?_
    refine r_iload (j := 3) d_JA_fill_7 rfl ?_
    refine r_icmp_ge d_JA_fill_9 (fun w9 => ?_) (fun w9 => ?_)
    · replace hw := hw.1 w9
      exact r_return d_JA_fill_22.1 rfl (hQ _ hw)
    · replace hw := hw.2 w9
      refine r_aload_n (j := 0) d_JA_fill_12 rfl ?_
      refine r_iload_n (j := 2) d_JA_fill_13 rfl ?_
      refine r_lload_n (j := 1) d_JA_fill_14 rfl ?_
      obtain ⟨q2, hw⟩ := hw
      obtain ⟨q3, hw⟩ := hw
      refine r_last d_JA_fill_15 q2 q3 ?_
      refine r_iinc (j := 2) (ls2 := [(3, ai (v3 + (1 : Int32))), (0, ar v0), (1, al v1), (4, ai v4)]) d_JA_fill_16 rfl (congrArg (HAdd.hAdd v3) kc_1) (nle rfl) rfl ?_
      refine r_goto d_JA_fill_19 ?_
      refine r_pick (ls2 := [(0, ar v0), (1, al v1), (3, ai (v3 + (1 : Int32))), (4, ai v4)]) [1, 2, 0, 3] rfl ?_
      exact ih _ _ hw
set_option maxRecDepth 100000 in
set_option maxHeartbeats 4000000 in
theorem s_JA_fill {d : Nat} {v0 : Nat} {v1 : Int64} {h : Hp} {Q : Hp → Prop} {QQ : Option AV → Hp → Prop} (hw : w_JA_fill v0 v1 h Q) (hQ : ∀ h9, Q h9 → QQ none h9) : aCall m_JA_fill d [ar v0, al v1] h 0 0 QQ := by
  refine aCall_in pl_JA_fill (nle rfl) ?_
  show aW none m_JA_fill d 0 [(0, ar v0), (1, al v1)] [] h 0 0 QQ
  unfold w_JA_fill at hw
  refine r_iconst d_JA_fill_0 kc_0 ?_
  refine r_istore_n (ls2 := [(3, ai (0 : Int32)), (0, ar v0), (1, al v1)]) d_JA_fill_1 (nle rfl) rfl ?_
  refine r_aload_n (j := 1) d_JA_fill_2 rfl ?_
  obtain ⟨q1, hw⟩ := hw
  refine r_alen d_JA_fill_3 q1 ?_
  refine r_istore (ls2 := [(4, ai (Int32.ofNat (gN h v0))), (3, ai (0 : Int32)), (0, ar v0), (1, al v1)]) d_JA_fill_4 (nle rfl) rfl ?_
  obtain ⟨n4, hw⟩ := hw
  refine r_pick (ls2 := [(0, ar v0), (1, al v1), (3, ai (0 : Int32)), (4, ai (Int32.ofNat (gN h v0)))]) [2, 3, 1, 0] rfl ?_
  exact s_JA_fill_L6 hQ  n4 _ _ hw
set_option maxRecDepth 100000 in
set_option maxHeartbeats 4000000 in
theorem s_Cr_takeIfBetter_L62 {d : Nat} (hd : 2 ≤ d + 1) {Q : Hp → Prop} {QQ : Option AV → Hp → Prop} (hQ : ∀ h9, Q h9 → QQ none h9) {v0 : Nat} : ∀ (n : Nat) (v4 : Int32) (h : Hp), w_Cr_takeIfBetter_L62 Q  v0 n v4 h → aW none m_Cr_takeIfBetter (d + 1) 62 [(0, ar v0), (4, ai v4)] [] h 0 0 QQ := by
  intro n
  induction n with
  | zero => intro v4 h hw; exact hw.elim
  | succ n ih =>
    intro v4 h hw
    unfold w_Cr_takeIfBetter_L62 at hw
    refine r_iload (j := 1) d_Cr_takeIfBetter_62 rfl ?_
    refine r_aload_n (j := 0) d_Cr_takeIfBetter_64 rfl ?_
    obtain ⟨q7, hw⟩ := hw
    refine r_getI d_Cr_takeIfBetter_65 ok_2 (nle rfl) (nle rfl) rfl lf_Cr_79 q7 ?_
    refine r_icmp_ge d_Cr_takeIfBetter_68 (fun w9 => ?_) (fun w9 => ?_)
    · replace hw := hw.1 w9
      exact r_return d_Cr_takeIfBetter_103.1 rfl (hQ _ hw)
    · replace hw := hw.2 w9
      refine r_aload_n (j := 0) d_Cr_takeIfBetter_71 rfl ?_
      refine r_getR d_Cr_takeIfBetter_72 ok_2 (nle rfl) (nle rfl) rfl lf_Cr_19 q7 ?_
      refine r_aload_n (j := 0) d_Cr_takeIfBetter_75 rfl ?_
      refine r_getR d_Cr_takeIfBetter_76 ok_2 (nle rfl) (nle rfl) rfl lf_Cr_15 q7 ?_
      refine r_iload (j := 1) d_Cr_takeIfBetter_79 rfl ?_
      obtain ⟨q8, hw⟩ := hw
      obtain ⟨q9, hw⟩ := hw
      refine r_iald d_Cr_takeIfBetter_81 q8 q9 ?_
      refine r_aload_n (j := 0) d_Cr_takeIfBetter_82 rfl ?_
      refine r_getR d_Cr_takeIfBetter_83 ok_2 (nle rfl) (nle rfl) rfl lf_Cr_11 q7 ?_
      refine r_iload (j := 1) d_Cr_takeIfBetter_86 rfl ?_
      refine r_iconst d_Cr_takeIfBetter_88 kc_5 ?_
      refine r_imul d_Cr_takeIfBetter_89 ?_
      refine r_aload_n (j := 0) d_Cr_takeIfBetter_90 rfl ?_
      refine r_getI d_Cr_takeIfBetter_91 ok_2 (nle rfl) (nle rfl) rfl lf_Cr_79 q7 ?_
      refine r_iadd d_Cr_takeIfBetter_94 ?_
      obtain ⟨q10, hw⟩ := hw
      obtain ⟨q11, hw⟩ := hw
      refine r_lald d_Cr_takeIfBetter_95 q10 q11 ?_
      obtain ⟨q12, hw⟩ := hw
      obtain ⟨q13, hw⟩ := hw
      refine r_last d_Cr_takeIfBetter_96 q12 q13 ?_
      refine r_iinc (j := 1) (ls2 := [(4, ai (v4 + (1 : Int32))), (0, ar v0)]) d_Cr_takeIfBetter_97 rfl (congrArg (HAdd.hAdd v4) kc_1) (nle rfl) rfl ?_
      refine r_goto d_Cr_takeIfBetter_100 ?_
      refine r_pick (ls2 := [(0, ar v0), (4, ai (v4 + (1 : Int32)))]) [1, 0] rfl ?_
      exact ih _ _ hw
set_option maxRecDepth 100000 in
set_option maxHeartbeats 4000000 in
theorem s_Cr_takeIfBetter_B33 {d : Nat} (hd : 2 ≤ d + 1) {Q : Hp → Prop} {QQ : Option AV → Hp → Prop} (hQ : ∀ h9, Q h9 → QQ none h9) {v0 : Nat} {v1 : Int32} {v2 : Int64} {h : Hp} (hw : w_Cr_takeIfBetter_B33 Q  v0 v1 v2 h) : aW none m_Cr_takeIfBetter (d + 1) 33 [(0, ar v0), (1, ai v1), (2, al v2)] [] h 0 0 QQ := by
  unfold w_Cr_takeIfBetter_B33 at hw
  refine r_aload_n (j := 0) d_Cr_takeIfBetter_33 rfl ?_
  refine r_iload_n (j := 1) d_Cr_takeIfBetter_34 rfl ?_
  obtain ⟨q5, hw⟩ := hw
  refine r_putI d_Cr_takeIfBetter_35 ok_2 (nle rfl) (nle rfl) rfl lf_Cr_70 rfl q5 ?_
  refine r_aload_n (j := 0) d_Cr_takeIfBetter_38 rfl ?_
  refine r_lload_n (j := 2) d_Cr_takeIfBetter_39 rfl ?_
  refine r_putL d_Cr_takeIfBetter_40 ok_2 (nle rfl) (nle rfl) rfl lf_Cr_64 rfl (kt eKI q5) ?_
  refine r_aload_n (j := 0) d_Cr_takeIfBetter_43 rfl ?_
  refine r_aload_n (j := 0) d_Cr_takeIfBetter_44 rfl ?_
  refine r_getL d_Cr_takeIfBetter_45 ok_2 (nle rfl) (nle rfl) rfl lf_Cr_67 (kt (eKL.trans eKI) q5) ?_
  refine r_putL d_Cr_takeIfBetter_48 ok_2 (nle rfl) (nle rfl) rfl lf_Cr_22 rfl (kt (eKL.trans eKI) q5) ?_
  refine r_aload_n (j := 0) d_Cr_takeIfBetter_51 rfl ?_
  refine r_getRb (eRL.trans (eRL.trans eRI)) d_Cr_takeIfBetter_52 ok_2 (nle rfl) (nle rfl) rfl lf_Cr_19 (kt (eKL.trans (eKL.trans eKI)) q5) ?_
  refine r_lconst d_Cr_takeIfBetter_55 kl_0 ?_
  refine r_callS (av := [ar (gR h v0 3), al (0 : Int64)]) (rest := []) d_Cr_takeIfBetter_56 mk_JA_fill ll_Cr_73 st_JA_fill rfl rfl (nle rfl) (s_JA_fill  hw (fun h6 hw => ?_))
  show aW none m_Cr_takeIfBetter (d + 1) 59 [(0, ar v0), (1, ai v1), (2, al v2)] [] h6 0 0 QQ
  refine r_iconst d_Cr_takeIfBetter_59 kc_0 ?_
  refine r_istore (ls2 := [(4, ai (0 : Int32)), (0, ar v0), (1, ai v1), (2, al v2)]) d_Cr_takeIfBetter_60 (nle rfl) rfl ?_
  obtain ⟨n14, hw⟩ := hw
  refine r_pick (ls2 := [(0, ar v0), (4, ai (0 : Int32))]) [1, 0] rfl ?_
  exact s_Cr_takeIfBetter_L62 hd hQ  n14 _ _ hw
