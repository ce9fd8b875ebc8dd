set_option maxRecDepth 100000 in
set_option maxHeartbeats 4000000 in
theorem s_Op_init {d : Nat} (hd : 1 ≤ d) {v0 : Nat} {v1 : Nat} {v2 : Nat} {bc bs : Nat} {h : Hp} {Q : Hp → Prop} {QQ : Option AV → Hp → Prop} (hw : w_Op_init bc bs v0 v1 v2 h Q) (hQ : ∀ h9, Q h9 → QQ none h9) : aCall m_Op_init d [ar v0, ar v1, ar v2] h bc bs QQ := by
  obtain ⟨d, rfl⟩ : ∃ d9, d = d9 + 1 := ⟨d - 1, by omega⟩
  refine aCall_in pl_Op_init (nle rfl) ?_
  show aW none m_Op_init (d + 1) 0 [(0, ar v0), (1, ar v1), (2, ar v2)] [] h bc bs QQ
  unfold w_Op_init at hw
  refine r_aload_n (j := 0) d_Op_init_0 rfl ?_
  obtain ⟨q1, hw⟩ := hw
  refine r_objInit d_Op_init_1 ll_Op_3 oi_1 oi_2 (nle rfl) q1 ?_
  refine r_aload_n (j := 0) d_Op_init_4 rfl ?_
  refine r_bipush d_Op_init_5 kb_8 ?_
  obtain ⟨q2, hw⟩ := hw
  obtain ⟨q3, hw⟩ := hw
  obtain ⟨q4, hw⟩ := hw
  obtain ⟨b5, t6, u8, u9, u6, u7, hw⟩ := hw
  subst u8 u9
  refine r_newI d_Op_init_7 ac_I u6 rfl u7 (refB_r q2 refB_n) (refL_r q2 (refL_r q4 (refL_r q3 refL_n))) ?_
  generalize e8 : nw h 20 (ix (8 : Int32)) = h7
  generalize e7 : gX h = a8
  replace hw := hw a8 h7 e7.symm e8.symm
  obtain ⟨q9, hw⟩ := hw
  obtain ⟨q10, hw⟩ := hw
  refine r_putFR d_Op_init_9 ok_6 (nle rfl) (nle rfl) rfl lf_Op_9 rfl rfl rfl q9 q10 ?_
  refine r_aload_n (j := 0) d_Op_init_12 rfl ?_
  refine r_bipush d_Op_init_13 kb_8 ?_
  obtain ⟨q11, hw⟩ := hw
  obtain ⟨q12, hw⟩ := hw
  obtain ⟨q13, hw⟩ := hw
  obtain ⟨b14, t15, u8, u9, u6, u7, hw⟩ := hw
  subst u8 u9
  refine r_newI d_Op_init_15 ac_I u6 rfl u7 (refB_r (xt eXR q11) refB_n) (refL_r (xt eXR q11) (refL_r (xt eXR q13) (refL_r (xt eXR q12) refL_n))) ?_
  generalize e8 : nw (sR h7 v0 2 a8) 20 (ix (8 : Int32)) = h16
  generalize e7 : gX (sR h7 v0 2 a8) = a17
  replace hw := hw a17 h16 e7.symm e8.symm
  obtain ⟨q18, hw⟩ := hw
  obtain ⟨q19, hw⟩ := hw
  refine r_putFR d_Op_init_17 ok_6 (nle rfl) (nle rfl) rfl lf_Op_15 rfl rfl rfl q18 q19 ?_
  refine r_aload_n (j := 0) d_Op_init_20 rfl ?_
  refine r_bipush d_Op_init_21 kb_12 ?_
  obtain ⟨q20, hw⟩ := hw
  obtain ⟨q21, hw⟩ := hw
  obtain ⟨q22, hw⟩ := hw
  obtain ⟨b23, t24, u8, u9, u6, u7, hw⟩ := hw
  subst u8 u9
  refine r_newI d_Op_init_23 ac_I u6 rfl u7 (refB_r (xt eXR q20) refB_n) (refL_r (xt eXR q20) (refL_r (xt eXR q22) (refL_r (xt eXR q21) refL_n))) ?_
  generalize e8 : nw (sR h16 v0 3 a17) 20 (ix (12 : Int32)) = h25
  generalize e7 : gX (sR h16 v0 3 a17) = a26
  replace hw := hw a26 h25 e7.symm e8.symm
  obtain ⟨q27, hw⟩ := hw
  obtain ⟨q28, hw⟩ := hw
  refine r_putFR d_Op_init_25 ok_6 (nle rfl) (nle rfl) rfl lf_Op_18 rfl rfl rfl q27 q28 ?_
  refine r_aload_n (j := 0) d_Op_init_28 rfl ?_
  refine r_iconst d_Op_init_29 kc_3 ?_
  obtain ⟨q29, hw⟩ := hw
  obtain ⟨q30, hw⟩ := hw
  obtain ⟨q31, hw⟩ := hw
  obtain ⟨b32, t33, u8, u9, u6, u7, hw⟩ := hw
  subst u8 u9
  refine r_newI d_Op_init_30 ac_I u6 rfl u7 (refB_r (xt eXR q29) refB_n) (refL_r (xt eXR q29) (refL_r (xt eXR q31) (refL_r (xt eXR q30) refL_n))) ?_
  generalize e8 : nw (sR h25 v0 4 a26) 20 (ix (3 : Int32)) = h34
  generalize e7 : gX (sR h25 v0 4 a26) = a35
  replace hw := hw a35 h34 e7.symm e8.symm
  obtain ⟨q36, hw⟩ := hw
  obtain ⟨q37, hw⟩ := hw
  refine r_putFR d_Op_init_32 ok_6 (nle rfl) (nle rfl) rfl lf_Op_21 rfl rfl rfl q36 q37 ?_
  refine r_aload_n (j := 0) d_Op_init_35 rfl ?_
  refine r_sipush d_Op_init_36 ks_1296 ?_
  obtain ⟨q38, hw⟩ := hw
  obtain ⟨q39, hw⟩ := hw
  obtain ⟨q40, hw⟩ := hw
  obtain ⟨b41, t42, u8, u9, u6, u7, hw⟩ := hw
  subst u8 u9
  refine r_newI d_Op_init_39 ac_I u6 rfl u7 (refB_r (xt eXR q38) refB_n) (refL_r (xt eXR q38) (refL_r (xt eXR q40) (refL_r (xt eXR q39) refL_n))) ?_
  generalize e8 : nw (sR h34 v0 5 a35) 20 (ix (1296 : Int32)) = h43
  generalize e7 : gX (sR h34 v0 5 a35) = a44
  replace hw := hw a44 h43 e7.symm e8.symm
  obtain ⟨q45, hw⟩ := hw
  obtain ⟨q46, hw⟩ := hw
  refine r_putFR d_Op_init_41 ok_6 (nle rfl) (nle rfl) rfl lf_Op_24 rfl rfl rfl q45 q46 ?_
  refine r_aload_n (j := 0) d_Op_init_44 rfl ?_
  refine r_aload_n (j := 1) d_Op_init_45 rfl ?_
  obtain ⟨q47, hw⟩ := hw
  refine r_putFR d_Op_init_46 ok_6 (nle rfl) (nle rfl) rfl lf_Op_27 rfl rfl rfl (kt eKR q45) (xt eXR q47) ?_
  refine r_aload_n (j := 0) d_Op_init_49 rfl ?_
  refine r_aload_n (j := 2) d_Op_init_50 rfl ?_
  obtain ⟨q48, hw⟩ := hw
  refine r_putFR d_Op_init_51 ok_6 (nle rfl) (nle rfl) rfl lf_Op_31 rfl rfl rfl (kt (eKR.trans eKR) q45) (xt (eXR.trans eXR) q48) ?_
  exact r_return d_Op_init_54.1 rfl (hQ _ hw)
set_option maxRecDepth 100000 in
set_option maxHeartbeats 4000000 in
theorem s_Op_takenAt {d : Nat} {v0 : Nat} {v1 : Int32} {v2 : Int32} {h : Hp} {Q : Int32 → Hp → Prop} {QQ : Option AV → Hp → Prop} (hw : w_Op_takenAt v0 v1 v2 h Q) (hQ : ∀ r9 h9, Q r9 h9 → QQ (some (ai r9)) h9) : aCall m_Op_takenAt d [ar v0, ai v1, ai v2] h 0 0 QQ := by
  refine aCall_in pl_Op_takenAt (nle rfl) ?_
  show aW none m_Op_takenAt d 0 [(0, ar v0), (1, ai v1), (2, ai v2)] [] h 0 0 QQ
  unfold w_Op_takenAt at hw
  refine r_aload_n (j := 0) d_Op_takenAt_0 rfl ?_
  obtain ⟨q1, hw⟩ := hw
  refine r_getR d_Op_takenAt_1 ok_6 (nle rfl) (nle rfl) rfl lf_Op_9 q1 ?_
  refine r_iload_n (j := 2) d_Op_takenAt_4 rfl ?_
  obtain ⟨q2, hw⟩ := hw
  obtain ⟨q3, hw⟩ := hw
  refine r_iald d_Op_takenAt_5 q2 q3 ?_
  refine r_iconst d_Op_takenAt_6 kc_1 ?_
  refine r_iadd d_Op_takenAt_7 ?_
  refine r_istore_n (ls2 := [(3, ai ((gI h (gR h v0 2) (ix v2)) + (1 : Int32))), (0, ar v0), (1, ai v1), (2, ai v2)]) d_Op_takenAt_8 (nle rfl) rfl ?_
  refine r_aload_n (j := 1) d_Op_takenAt_9 rfl ?_
  refine r_getR d_Op_takenAt_10 ok_6 (nle rfl) (nle rfl) rfl lf_Op_15 q1 ?_
  refine r_iload_n (j := 3) d_Op_takenAt_13 rfl ?_
  obtain ⟨q4, hw⟩ := hw
  obtain ⟨q5, hw⟩ := hw
  refine r_iald d_Op_takenAt_14 q4 q5 ?_
  refine r_iconst d_Op_takenAt_15 kc_1 ?_
  refine r_icmp_lt d_Op_takenAt_16 (fun w9 => ?_) (fun w9 => ?_)
  · replace hw := hw.1 w9
    refine r_iconst d_Op_takenAt_24 kc_0 ?_
    refine r_goto d_Op_takenAt_25 ?_
    exact r_ireturn d_Op_takenAt_38.1 rfl (hQ _ _ hw)
  · replace hw := hw.2 w9
    refine r_iload_n (j := 0) d_Op_takenAt_19 rfl ?_
    refine r_iconst d_Op_takenAt_20 kc_1 ?_
    refine r_icmp_ge d_Op_takenAt_21 (fun w9 => ?_) (fun w9 => ?_)
    · replace hw := hw.1 w9
      refine r_iload_n (j := 2) d_Op_takenAt_28 rfl ?_
      refine r_aload_n (j := 1) d_Op_takenAt_29 rfl ?_
      refine r_getR d_Op_takenAt_30 ok_6 (nle rfl) (nle rfl) rfl lf_Op_15 q1 ?_
      refine r_iload_n (j := 3) d_Op_takenAt_33 rfl ?_
      refine r_iald d_Op_takenAt_34 q4 q5 ?_
      obtain ⟨q6, hw⟩ := hw
      refine r_idiv d_Op_takenAt_35 q6 ?_
      refine r_iload_n (j := 0) d_Op_takenAt_36 rfl ?_
      obtain ⟨q7, hw⟩ := hw
      refine r_irem d_Op_takenAt_37 q7 ?_
      exact r_ireturn d_Op_takenAt_38.1 rfl (hQ _ _ hw)
    · replace hw := hw.2 w9
      refine r_iconst d_Op_takenAt_24 kc_0 ?_
      refine r_goto d_Op_takenAt_25 ?_
      exact r_ireturn d_Op_takenAt_38.1 rfl (hQ _ _ hw)
set_option maxRecDepth 100000 in
set_option maxHeartbeats 4000000 in
theorem s_Op_firstWithin_L2 {d : Nat} (hd : 1 ≤ d + 1) {Q : Int32 → Hp → Prop} {QQ : Option AV → Hp → Prop} (hQ : ∀ r9 h9, Q r9 h9 → QQ (some (ai r9)) h9) {v0 : Nat} {v1 : Int32} : ∀ (n : Nat) (v2 : Int32) (h : Hp), w_Op_firstWithin_L2 Q  v0 v1 n v2 h → aW none m_Op_firstWithin (d + 1) 2 [(0, ar v0), (1, ai v1), (2, ai v2)] [] h 0 0 QQ := by
  intro n
  induction n with
  | zero => intro v2 h hw; exact hw.elim
  | succ n ih =>
    intro v2 h hw
    unfold w_Op_firstWithin_L2 at hw
    refine r_iload_n (j := 2) d_Op_firstWithin_2 rfl ?_
    refine r_aload_n (j := 0) d_Op_firstWithin_3 rfl ?_
    obtain ⟨q1, hw⟩ := hw
    refine r_getR d_Op_firstWithin_4 ok_6 (nle rfl) (nle rfl) rfl lf_Op_27 q1 ?_
    obtain ⟨q2, hw⟩ := hw
    refine r_getI d_Op_firstWithin_7 ok_1 (nle rfl) (nle rfl) rfl lf_Op_100 q2 ?_
    refine r_icmp_ge d_Op_firstWithin_10 (fun w9 => ?_) (fun w9 => ?_)
    · replace hw := hw.1 w9
      refine r_iconst d_Op_firstWithin_56 kc_0 ?_
      exact r_ireturn d_Op_firstWithin_57.1 rfl (hQ _ _ hw)
    · replace hw := hw.2 w9
      refine r_aload_n (j := 0) d_Op_firstWithin_13 rfl ?_
      refine r_iload_n (j := 1) d_Op_firstWithin_14 rfl ?_
      refine r_iload_n (j := 2) d_Op_firstWithin_15 rfl ?_
      refine r_callV (av := [ai v1, ai v2]) (rest := []) (ci := 6) d_Op_firstWithin_16 mk_Op_takenAt ll_Op_127 im_Op_takenAt se_Op_takenAt rfl (nle rfl) rfl rfl (nle rfl) q1 (s_Op_takenAt  hw (fun r4 h3 hw => ?_))
      show aW none m_Op_firstWithin (d + 1) 19 [(0, ar v0), (1, ai v1), (2, ai v2)] [ai r4] h3 0 0 QQ
      refine r_aload_n (j := 0) d_Op_firstWithin_19 rfl ?_
      obtain ⟨q5, hw⟩ := hw
      refine r_getR d_Op_firstWithin_20 ok_6 (nle rfl) (nle rfl) rfl lf_Op_9 q5 ?_
      refine r_iload_n (j := 2) d_Op_firstWithin_23 rfl ?_
      obtain ⟨q6, hw⟩ := hw
      obtain ⟨q7, hw⟩ := hw
      refine r_iald d_Op_firstWithin_24 q6 q7 ?_
      refine r_icmp_ge d_Op_firstWithin_25 (fun w9 => ?_) (fun w9 => ?_)
      · replace hw := hw.1 w9
        refine r_iinc (j := 2) (ls2 := [(2, ai (v2 + (1 : Int32))), (0, ar v0), (1, ai v1)]) d_Op_firstWithin_50 rfl (congrArg (HAdd.hAdd v2) kc_1) (nle rfl) rfl ?_
        refine r_goto d_Op_firstWithin_53 ?_
        refine r_pick (ls2 := [(0, ar v0), (1, ai v1), (2, ai (v2 + (1 : Int32)))]) [1, 2, 0] rfl ?_
        exact ih _ _ hw
      · replace hw := hw.2 w9
        refine r_aload_n (j := 0) d_Op_firstWithin_28 rfl ?_
        refine r_getR d_Op_firstWithin_29 ok_6 (nle rfl) (nle rfl) rfl lf_Op_24 q5 ?_
        refine r_iload_n (j := 1) d_Op_firstWithin_32 rfl ?_
        refine r_aload_n (j := 0) d_Op_firstWithin_33 rfl ?_
        refine r_getR d_Op_firstWithin_34 ok_6 (nle rfl) (nle rfl) rfl lf_Op_15 q5 ?_
        refine r_iload_n (j := 2) d_Op_firstWithin_37 rfl ?_
        obtain ⟨q8, hw⟩ := hw
        obtain ⟨q9, hw⟩ := hw
        refine r_iald d_Op_firstWithin_38 q8 q9 ?_
        refine r_iadd d_Op_firstWithin_39 ?_
        obtain ⟨q10, hw⟩ := hw
        obtain ⟨q11, hw⟩ := hw
        refine r_iald d_Op_firstWithin_40 q10 q11 ?_
        refine r_aload_n (j := 0) d_Op_firstWithin_41 rfl ?_
        refine r_getI d_Op_firstWithin_42 ok_6 (nle rfl) (nle rfl) rfl lf_Op_115 q5 ?_
        refine r_icmp_gt d_Op_firstWithin_45 (fun w9 => ?_) (fun w9 => ?_)
        · replace hw := hw.1 w9
          refine r_iinc (j := 2) (ls2 := [(2, ai (v2 + (1 : Int32))), (0, ar v0), (1, ai v1)]) d_Op_firstWithin_50 rfl (congrArg (HAdd.hAdd v2) kc_1) (nle rfl) rfl ?_
          refine r_goto d_Op_firstWithin_53 ?_
          refine r_pick (ls2 := [(0, ar v0), (1, ai v1), (2, ai (v2 + (1 : Int32)))]) [1, 2, 0] rfl ?_
          exact ih _ _ hw
        · replace hw := hw.2 w9
          refine r_iload_n (j := 2) d_Op_firstWithin_48 rfl ?_
          exact r_ireturn d_Op_firstWithin_49.1 rfl (hQ _ _ hw)
set_option maxRecDepth 100000 in
set_option maxHeartbeats 4000000 in
theorem s_Op_firstWithin {d : Nat} (hd : 1 ≤ d) {v0 : Nat} {v1 : Int32} {h : Hp} {Q : Int32 → Hp → Prop} {QQ : Option AV → Hp → Prop} (hw : w_Op_firstWithin v0 v1 h Q) (hQ : ∀ r9 h9, Q r9 h9 → QQ (some (ai r9)) h9) : aCall m_Op_firstWithin d [ar v0, ai v1] h 0 0 QQ := by
  obtain ⟨d, rfl⟩ : ∃ d9, d = d9 + 1 := ⟨d - 1, by omega⟩
  refine aCall_in pl_Op_firstWithin (nle rfl) ?_
  show aW none m_Op_firstWithin (d + 1) 0 [(0, ar v0), (1, ai v1)] [] h 0 0 QQ
  unfold w_Op_firstWithin at hw
  refine r_iconst d_Op_firstWithin_0 kc_0 ?_
  refine r_istore_n (ls2 := [(2, ai (0 : Int32)), (0, ar v0), (1, ai v1)]) d_Op_firstWithin_1 (nle rfl) rfl ?_
  obtain ⟨n12, hw⟩ := hw
  refine r_pick (ls2 := [(0, ar v0), (1, ai v1), (2, ai (0 : Int32))]) [1, 2, 0] rfl ?_
  exact s_Op_firstWithin_L2 hd hQ  n12 _ _ hw
set_option maxRecDepth 100000 in
set_option maxHeartbeats 4000000 in
theorem s_Op_leastBehind_L4 {d : Nat} (hd : 1 ≤ d + 1) {Q : Int32 → Hp → Prop} {QQ : Option AV → Hp → Prop} (hQ : ∀ r9 h9, Q r9 h9 → QQ (some (ai r9)) h9) {v0 : Nat} {v1 : Int32} : ∀ (n : Nat) (v2 : Int32) (v3 : Int32) (h : Hp), w_Op_leastBehind_L4 Q  v0 v1 n v2 v3 h → aW none m_Op_leastBehind (d + 1) 4 [(0, ar v0), (1, ai v1), (2, ai v2), (3, ai v3)] [] h 0 0 QQ := by
  intro n
  induction n with
  | zero => intro v2 v3 h hw; exact hw.elim
  | succ n ih =>
    intro v2 v3 h hw
    unfold w_Op_leastBehind_L4 at hw
    refine r_iload_n (j := 3) d_Op_leastBehind_4 rfl ?_
    refine r_aload_n (j := 0) d_Op_leastBehind_5 rfl ?_
    obtain ⟨q1, hw⟩ := hw
    refine r_getR d_Op_leastBehind_6 ok_6 (nle rfl) (nle rfl) rfl lf_Op_27 q1 ?_
    obtain ⟨q2, hw⟩ := hw
    refine r_getI d_Op_leastBehind_9 ok_1 (nle rfl) (nle rfl) rfl lf_Op_100 q2 ?_
    refine r_icmp_ge d_Op_leastBehind_12 (fun w9 => ?_) (fun w9 => ?_)
    · replace hw := hw.1 w9
      refine r_iload_n (j := 2) d_Op_leastBehind_68 rfl ?_
      exact r_ireturn d_Op_leastBehind_69.1 rfl (hQ _ _ hw)
    · replace hw := hw.2 w9
      refine r_aload_n (j := 0) d_Op_leastBehind_15 rfl ?_
      refine r_iload_n (j := 1) d_Op_leastBehind_16 rfl ?_
      refine r_iload_n (j := 3) d_Op_leastBehind_17 rfl ?_
      refine r_callV (av := [ai v1, ai v3]) (rest := []) (ci := 6) d_Op_leastBehind_18 mk_Op_takenAt ll_Op_127 im_Op_takenAt se_Op_takenAt rfl (nle rfl) rfl rfl (nle rfl) q1 (s_Op_takenAt  hw (fun r4 h3 hw => ?_))
      show aW none m_Op_leastBehind (d + 1) 21 [(0, ar v0), (1, ai v1), (2, ai v2), (3, ai v3)] [ai r4] h3 0 0 QQ
      refine r_aload_n (j := 0) d_Op_leastBehind_21 rfl ?_
      obtain ⟨q5, hw⟩ := hw
      refine r_getR d_Op_leastBehind_22 ok_6 (nle rfl) (nle rfl) rfl lf_Op_9 q5 ?_
      refine r_iload_n (j := 3) d_Op_leastBehind_25 rfl ?_
      obtain ⟨q6, hw⟩ := hw
      obtain ⟨q7, hw⟩ := hw
      refine r_iald d_Op_leastBehind_26 q6 q7 ?_
      refine r_icmp_ge d_Op_leastBehind_27 (fun w9 => ?_) (fun w9 => ?_)
      · replace hw := hw.1 w9
        refine r_iinc (j := 3) (ls2 := [(3, ai (v3 + (1 : Int32))), (0, ar v0), (1, ai v1), (2, ai v2)]) d_Op_leastBehind_62 rfl (congrArg (HAdd.hAdd v3) kc_1) (nle rfl) rfl ?_
        refine r_goto d_Op_leastBehind_65 ?_
        refine r_pick (ls2 := [(0, ar v0), (1, ai v1), (2, ai v2), (3, ai (v3 + (1 : Int32)))]) [1, 2, 3, 0] rfl ?_
        exact ih _ _ _ hw
      · replace hw := hw.2 w9
        refine r_aload_n (j := 0) d_Op_leastBehind_30 rfl ?_
        refine r_getR d_Op_leastBehind_31 ok_6 (nle rfl) (nle rfl) rfl lf_Op_24 q5 ?_
        refine r_iload_n (j := 1) d_Op_leastBehind_34 rfl ?_
        refine r_aload_n (j := 0) d_Op_leastBehind_35 rfl ?_
        refine r_getR d_Op_leastBehind_36 ok_6 (nle rfl) (nle rfl) rfl lf_Op_15 q5 ?_
        refine r_iload_n (j := 3) d_Op_leastBehind_39 rfl ?_
        obtain ⟨q8, hw⟩ := hw
        obtain ⟨q9, hw⟩ := hw
        refine r_iald d_Op_leastBehind_40 q8 q9 ?_
        refine r_iadd d_Op_leastBehind_41 ?_
        obtain ⟨q10, hw⟩ := hw
        obtain ⟨q11, hw⟩ := hw
        refine r_iald d_Op_leastBehind_42 q10 q11 ?_
        refine r_istore (ls2 := [(4, ai (gI h3 (gR h3 v0 6) (ix (v1 + (gI h3 (gR h3 v0 3) (ix v3)))))), (0, ar v0), (1, ai v1), (2, ai v2), (3, ai v3)]) d_Op_leastBehind_43 (nle rfl) rfl ?_
        refine r_iload_n (j := 3) d_Op_leastBehind_45 rfl ?_
        refine r_iconst d_Op_leastBehind_46 kc_m1 ?_
        refine r_icmp_ne d_Op_leastBehind_47 (fun w9 => ?_) (fun w9 => ?_)
        · replace hw := hw.2 w9
          refine r_iload_n (j := 3) d_Op_leastBehind_55 rfl ?_
          refine r_iload (j := 0) d_Op_leastBehind_56 rfl ?_
          refine r_callS (av := [ai v2, ai (gI h3 (gR h3 v0 6) (ix (v1 + (gI h3 (gR h3 v0 3) (ix v3)))))]) (rest := []) d_Op_leastBehind_58 mk_JM_min ll_Op_138 st_JM_min rfl rfl (nle rfl) (s_JM_min  hw (fun r13 h12 hw => ?_))
          show aW none m_Op_leastBehind (d + 1) 61 [(4, ai (gI h3 (gR h3 v0 6) (ix (v1 + (gI h3 (gR h3 v0 3) (ix v3)))))), (0, ar v0), (1, ai v1), (2, ai v2), (3, ai v3)] [ai r13] h12 0 0 QQ
          refine r_istore_n (ls2 := [(2, ai r13), (4, ai (gI h3 (gR h3 v0 6) (ix (v1 + (gI h3 (gR h3 v0 3) (ix v3)))))), (0, ar v0), (1, ai v1), (3, ai v3)]) d_Op_leastBehind_61 (nle rfl) rfl ?_
          refine r_iinc (j := 4) (ls2 := [(3, ai (v3 + (1 : Int32))), (2, ai r13), (4, ai (gI h3 (gR h3 v0 6) (ix (v1 + (gI h3 (gR h3 v0 3) (ix v3)))))), (0, ar v0), (1, ai v1)]) d_Op_leastBehind_62 rfl (congrArg (HAdd.hAdd v3) kc_1) (nle rfl) rfl ?_
          refine r_goto d_Op_leastBehind_65 ?_
          refine r_pick (ls2 := [(0, ar v0), (1, ai v1), (2, ai r13), (3, ai (v3 + (1 : Int32)))]) [3, 4, 1, 0] rfl ?_
          exact ih _ _ _ hw
        · replace hw := hw.1 w9
          refine r_iload (j := 0) d_Op_leastBehind_50 rfl ?_
          refine r_goto d_Op_leastBehind_52 ?_
          refine r_istore_n (ls2 := [(2, ai (gI h3 (gR h3 v0 6) (ix (v1 + (gI h3 (gR h3 v0 3) (ix v3)))))), (4, ai (gI h3 (gR h3 v0 6) (ix (v1 + (gI h3 (gR h3 v0 3) (ix v3)))))), (0, ar v0), (1, ai v1), (3, ai v3)]) d_Op_leastBehind_61 (nle rfl) rfl ?_
          refine r_iinc (j := 4) (ls2 := [(3, ai (v3 + (1 : Int32))), (2, ai (gI h3 (gR h3 v0 6) (ix (v1 + (gI h3 (gR h3 v0 3) (ix v3)))))), (4, ai (gI h3 (gR h3 v0 6) (ix (v1 + (gI h3 (gR h3 v0 3) (ix v3)))))), (0, ar v0), (1, ai v1)]) d_Op_leastBehind_62 rfl (congrArg (HAdd.hAdd v3) kc_1) (nle rfl) rfl ?_
          refine r_goto d_Op_leastBehind_65 ?_
          refine r_pick (ls2 := [(0, ar v0), (1, ai v1), (2, ai (gI h3 (gR h3 v0 6) (ix (v1 + (gI h3 (gR h3 v0 3) (ix v3)))))), (3, ai (v3 + (1 : Int32)))]) [3, 4, 1, 0] rfl ?_
          exact ih _ _ _ hw
set_option maxRecDepth 100000 in
set_option maxHeartbeats 4000000 in
theorem s_Op_leastBehind {d : Nat} (hd : 1 ≤ d) {v0 : Nat} {v1 : Int32} {h : Hp} {Q : Int32 → Hp → Prop} {QQ : Option AV → Hp → Prop} (hw : w_Op_leastBehind v0 v1 h Q) (hQ : ∀ r9 h9, Q r9 h9 → QQ (some (ai r9)) h9) : aCall m_Op_leastBehind d [ar v0, ai v1] h 0 0 QQ := by
  obtain ⟨d, rfl⟩ : ∃ d9, d = d9 + 1 := ⟨d - 1, by omega⟩
  refine aCall_in pl_Op_leastBehind (nle rfl) ?_
  show aW none m_Op_leastBehind (d + 1) 0 [(0, ar v0), (1, ai v1)] [] h 0 0 QQ
  unfold w_Op_leastBehind at hw
  refine r_iconst d_Op_leastBehind_0 kc_m1 ?_
  refine r_istore_n (ls2 := [(2, ai (-1 : Int32)), (0, ar v0), (1, ai v1)]) d_Op_leastBehind_1 (nle rfl) rfl ?_
  refine r_iconst d_Op_leastBehind_2 kc_0 ?_
  refine r_istore_n (ls2 := [(3, ai (0 : Int32)), (2, ai (-1 : Int32)), (0, ar v0), (1, ai v1)]) d_Op_leastBehind_3 (nle rfl) rfl ?_
  obtain ⟨n14, hw⟩ := hw
  refine r_pick (ls2 := [(0, ar v0), (1, ai v1), (2, ai (-1 : Int32)), (3, ai (0 : Int32))]) [2, 3, 1, 0] rfl ?_
  exact s_Op_leastBehind_L4 hd hQ  n14 _ _ _ hw
set_option maxRecDepth 100000 in
set_option maxHeartbeats 4000000 in
theorem s_Op_strayAtPart_L12 {d : Nat} (hd : 2 ≤ d + 1) {Q : Int32 → Hp → Prop} {QQ : Option AV → Hp → Prop} (hQ : ∀ r9 h9, Q r9 h9 → QQ (some (ai r9)) h9) {v0 : Nat} {v1 : Int32} : ∀ (n : Nat) (v2 : Int32) (v3 : Int32) (h : Hp), w_Op_strayAtPart_L12 Q  v0 v1 n v2 v3 h → aW none m_Op_strayAtPart (d + 1) 12 [(0, ar v0), (1, ai v1), (2, ai v2), (3, ai v3)] [] h 0 0 QQ := by
  intro n
  induction n with
  | zero => intro v2 v3 h hw; exact hw.elim
  | succ n ih =>
    intro v2 v3 h hw
    unfold w_Op_strayAtPart_L12 at hw
    refine r_iload_n (j := 3) d_Op_strayAtPart_12 rfl ?_
    refine r_aload_n (j := 0) d_Op_strayAtPart_13 rfl ?_
    obtain ⟨q3, hw⟩ := hw
    refine r_getR d_Op_strayAtPart_14 ok_6 (nle rfl) (nle rfl) rfl lf_Op_27 q3 ?_
    obtain ⟨q4, hw⟩ := hw
    refine r_getI d_Op_strayAtPart_17 ok_1 (nle rfl) (nle rfl) rfl lf_Op_100 q4 ?_
    refine r_icmp_ge d_Op_strayAtPart_20 (fun w9 => ?_) (fun w9 => ?_)
    · replace hw := hw.1 w9
      refine r_aload_n (j := 0) d_Op_strayAtPart_56 rfl ?_
      refine r_getR d_Op_strayAtPart_57 ok_6 (nle rfl) (nle rfl) rfl lf_Op_27 q3 ?_
      refine r_aload_n (j := 0) d_Op_strayAtPart_60 rfl ?_
      refine r_getR d_Op_strayAtPart_61 ok_6 (nle rfl) (nle rfl) rfl lf_Op_21 q3 ?_
      refine r_aload_n (j := 0) d_Op_strayAtPart_64 rfl ?_
      refine r_getI d_Op_strayAtPart_65 ok_6 (nle rfl) (nle rfl) rfl lf_Op_85 q3 ?_
      refine r_iload_n (j := 2) d_Op_strayAtPart_68 rfl ?_
      refine r_callV (av := [ar (gR h v0 5), ai (gI h v0 12), ai v2]) (rest := []) (ci := 1) d_Op_strayAtPart_69 mk_Co_strayAt ll_Op_134 im_Co_strayAt se_Co_strayAt rfl (nle rfl) rfl rfl (nle rfl) q4 (s_Co_strayAt (by omega) hw (fun r6 h5 hw => ?_))
      show aW none m_Op_strayAtPart (d + 1) 72 [(0, ar v0), (1, ai v1), (2, ai v2), (3, ai v3)] [ai r6] h5 0 0 QQ
      exact r_ireturn d_Op_strayAtPart_72.1 rfl (hQ _ _ hw)
    · replace hw := hw.2 w9
      refine r_aload_n (j := 0) d_Op_strayAtPart_23 rfl ?_
      refine r_iload_n (j := 1) d_Op_strayAtPart_24 rfl ?_
      refine r_iload_n (j := 3) d_Op_strayAtPart_25 rfl ?_
      refine r_callV (av := [ai v1, ai v3]) (rest := []) (ci := 6) d_Op_strayAtPart_26 mk_Op_takenAt ll_Op_127 im_Op_takenAt se_Op_takenAt rfl (nle rfl) rfl rfl (nle rfl) q3 (s_Op_takenAt  hw (fun r8 h7 hw => ?_))
      show aW none m_Op_strayAtPart (d + 1) 29 [(0, ar v0), (1, ai v1), (2, ai v2), (3, ai v3)] [ai r8] h7 0 0 QQ
      refine r_istore (ls2 := [(4, ai r8), (0, ar v0), (1, ai v1), (2, ai v2), (3, ai v3)]) d_Op_strayAtPart_29 (nle rfl) rfl ?_
      refine r_aload_n (j := 1) d_Op_strayAtPart_31 rfl ?_
      obtain ⟨q9, hw⟩ := hw
      refine r_getR d_Op_strayAtPart_32 ok_6 (nle rfl) (nle rfl) rfl lf_Op_27 q9 ?_
      refine r_aload_n (j := 1) d_Op_strayAtPart_35 rfl ?_
      refine r_getR d_Op_strayAtPart_36 ok_6 (nle rfl) (nle rfl) rfl lf_Op_21 q9 ?_
      refine r_iload_n (j := 4) d_Op_strayAtPart_39 rfl ?_
      refine r_iload (j := 0) d_Op_strayAtPart_40 rfl ?_
      obtain ⟨q11, hw⟩ := hw
      refine r_callV (av := [ar (gR h7 v0 5), ai v3, ai r8]) (rest := []) (ci := 1) d_Op_strayAtPart_42 mk_Co_addTo ll_Op_130 im_Co_addTo se_Co_addTo rfl (nle rfl) rfl rfl (nle rfl) q11 (s_Co_addTo (by omega) hw (fun h10 hw => ?_))
      show aW none m_Op_strayAtPart (d + 1) 45 [(4, ai r8), (0, ar v0), (1, ai v1), (2, ai v2), (3, ai v3)] [] h10 0 0 QQ
      refine r_iload_n (j := 3) d_Op_strayAtPart_45 rfl ?_
      refine r_iload (j := 0) d_Op_strayAtPart_46 rfl ?_
      refine r_iadd d_Op_strayAtPart_48 ?_
      refine r_istore_n (ls2 := [(2, ai (v2 + r8)), (4, ai r8), (0, ar v0), (1, ai v1), (3, ai v3)]) d_Op_strayAtPart_49 (nle rfl) rfl ?_
      refine r_iinc (j := 4) (ls2 := [(3, ai (v3 + (1 : Int32))), (2, ai (v2 + r8)), (4, ai r8), (0, ar v0), (1, ai v1)]) d_Op_strayAtPart_50 rfl (congrArg (HAdd.hAdd v3) kc_1) (nle rfl) rfl ?_
      refine r_goto d_Op_strayAtPart_53 ?_
      refine r_pick (ls2 := [(0, ar v0), (1, ai v1), (2, ai (v2 + r8)), (3, ai (v3 + (1 : Int32)))]) [3, 4, 1, 0] rfl ?_
      exact ih _ _ _ hw
set_option maxRecDepth 100000 in
set_option maxHeartbeats 4000000 in
theorem s_Op_strayAtPart {d : Nat} (hd : 2 ≤ d) {v0 : Nat} {v1 : Int32} {h : Hp} {Q : Int32 → Hp → Prop} {QQ : Option AV → Hp → Prop} (hw : w_Op_strayAtPart v0 v1 h Q) (hQ : ∀ r9 h9, Q r9 h9 → QQ (some (ai r9)) h9) : aCall m_Op_strayAtPart d [ar v0, ai v1] h 0 0 QQ := by
  obtain ⟨d, rfl⟩ : ∃ d9, d = d9 + 1 := ⟨d - 1, by omega⟩
  refine aCall_in pl_Op_strayAtPart (nle rfl) ?_
  show aW none m_Op_strayAtPart (d + 1) 0 [(0, ar v0), (1, ai v1)] [] h 0 0 QQ
  unfold w_Op_strayAtPart at hw
  refine r_aload_n (j := 0) d_Op_strayAtPart_0 rfl ?_
  obtain ⟨q1, hw⟩ := hw
  refine r_getR d_Op_strayAtPart_1 ok_6 (nle rfl) (nle rfl) rfl lf_Op_21 q1 ?_
  refine r_iconst d_Op_strayAtPart_4 kc_0 ?_
  refine r_callS (av := [ar (gR h v0 5), ai (0 : Int32)]) (rest := []) d_Op_strayAtPart_5 mk_JA_fill_IIV ll_Op_121 st_JA_fill_IIV rfl rfl (nle rfl) (s_JA_fill_IIV  hw (fun h2 hw => ?_))
  show aW none m_Op_strayAtPart (d + 1) 8 [(0, ar v0), (1, ai v1)] [] h2 0 0 QQ
  refine r_iconst d_Op_strayAtPart_8 kc_0 ?_
  refine r_istore_n (ls2 := [(2, ai (0 : Int32)), (0, ar v0), (1, ai v1)]) d_Op_strayAtPart_9 (nle rfl) rfl ?_
  refine r_iconst d_Op_strayAtPart_10 kc_0 ?_
  refine r_istore_n (ls2 := [(3, ai (0 : Int32)), (2, ai (0 : Int32)), (0, ar v0), (1, ai v1)]) d_Op_strayAtPart_11 (nle rfl) rfl ?_
  obtain ⟨n12, hw⟩ := hw
  refine r_pick (ls2 := [(0, ar v0), (1, ai v1), (2, ai (0 : Int32)), (3, ai (0 : Int32))]) [2, 3, 1, 0] rfl ?_
  exact s_Op_strayAtPart_L12 hd hQ  n12 _ _ _ hw
set_option maxRecDepth 100000 in
set_option maxHeartbeats 4000000 in
theorem s_Op_findOrder_L112 {d : Nat} (hd : 3 ≤ d + 1) {Q : Hp → Prop} {QQ : Option AV → Hp → Prop} (hQ : ∀ h9, Q h9 → QQ none h9) {v0 : Nat} : ∀ (n : Nat) (v1 : Int32) (v2 : Int32) (h : Hp), w_Op_findOrder_L112 Q  v0 n v1 v2 h → aW none m_Op_findOrder (d + 1) 112 [(0, ar v0), (1, ai v1), (2, ai v2)] [] h 0 0 QQ := by
  intro n
  induction n with
  | zero => intro v1 v2 h hw; exact hw.elim
  | succ n ih =>
    intro v1 v2 h hw
    unfold w_Op_findOrder_L112 at hw
    refine r_iload_n (j := 2) d_Op_findOrder_112 rfl ?_
    refine r_aload_n (j := 0) d_Op_findOrder_113 rfl ?_
    obtain ⟨q7, hw⟩ := hw
    refine r_getI d_Op_findOrder_114 ok_6 (nle rfl) (nle rfl) rfl lf_Op_85 q7 ?_
    refine r_icmp_ge d_Op_findOrder_117 (fun w9 => ?_) (fun w9 => ?_)
    · replace hw := hw.1 w9
      exact r_return d_Op_findOrder_151.1 rfl (hQ _ hw)
    · replace hw := hw.2 w9
      refine r_aload_n (j := 0) d_Op_findOrder_120 rfl ?_
      refine r_getR d_Op_findOrder_121 ok_6 (nle rfl) (nle rfl) rfl lf_Op_18 q7 ?_
      refine r_iload_n (j := 2) d_Op_findOrder_124 rfl ?_
      refine r_aload_n (j := 0) d_Op_findOrder_125 rfl ?_
      refine r_iload_n (j := 1) d_Op_findOrder_126 rfl ?_
      refine r_callV (av := [ai v1]) (rest := [ai v2, ar (gR h v0 4)]) (ci := 6) d_Op_findOrder_127 mk_Op_firstWithin ll_Op_118 im_Op_firstWithin se_Op_firstWithin rfl (nle rfl) rfl rfl (nle rfl) q7 (s_Op_firstWithin (by omega) hw (fun r9 h8 hw => ?_))
      show aW none m_Op_findOrder (d + 1) 130 [(0, ar v0), (1, ai v1), (2, ai v2)] [ai r9, ai v2, ar (gR h v0 4)] h8 0 0 QQ
      obtain ⟨q10, hw⟩ := hw
      obtain ⟨q11, hw⟩ := hw
      refine r_iast d_Op_findOrder_130 q10 q11 ?_
      refine r_iload_n (j := 1) d_Op_findOrder_131 rfl ?_
      refine r_aload_n (j := 0) d_Op_findOrder_132 rfl ?_
      obtain ⟨q12, hw⟩ := hw
      refine r_getRb eRI d_Op_findOrder_133 ok_6 (nle rfl) (nle rfl) rfl lf_Op_15 (kt eKI q12) ?_
      refine r_aload_n (j := 0) d_Op_findOrder_136 rfl ?_
      refine r_getRb eRI d_Op_findOrder_137 ok_6 (nle rfl) (nle rfl) rfl lf_Op_18 (kt eKI q12) ?_
      refine r_iload_n (j := 2) d_Op_findOrder_140 rfl ?_
      obtain ⟨q13, hw⟩ := hw
      obtain ⟨q14, hw⟩ := hw
      refine r_iald d_Op_findOrder_141 (kt eKI q13) (nt eNI q14) ?_
      obtain ⟨q15, hw⟩ := hw
      obtain ⟨q16, hw⟩ := hw
      refine r_iald d_Op_findOrder_142 (kt eKI q15) (nt eNI q16) ?_
      refine r_iadd d_Op_findOrder_143 ?_
      refine r_istore_n (ls2 := [(1, ai (v1 + (gI (sI h8 (gR h v0 4) (ix v2) r9) (gR h8 v0 3) (ix (gI (sI h8 (gR h v0 4) (ix v2) r9) (gR h8 v0 4) (ix v2)))))), (0, ar v0), (2, ai v2)]) d_Op_findOrder_144 (nle rfl) rfl ?_
      refine r_iinc (j := 2) (ls2 := [(2, ai (v2 + (1 : Int32))), (1, ai (v1 + (gI (sI h8 (gR h v0 4) (ix v2) r9) (gR h8 v0 3) (ix (gI (sI h8 (gR h v0 4) (ix v2) r9) (gR h8 v0 4) (ix v2)))))), (0, ar v0)]) d_Op_findOrder_145 rfl (congrArg (HAdd.hAdd v2) kc_1) (nle rfl) rfl ?_
      refine r_goto d_Op_findOrder_148 ?_
      refine r_pick (ls2 := [(0, ar v0), (1, ai (v1 + (gI (sI h8 (gR h v0 4) (ix v2) r9) (gR h8 v0 3) (ix (gI (sI h8 (gR h v0 4) (ix v2) r9) (gR h8 v0 4) (ix v2)))))), (2, ai (v2 + (1 : Int32)))]) [2, 1, 0] rfl ?_
      exact ih _ _ _ hw
set_option maxRecDepth 100000 in
set_option maxHeartbeats 4000000 in
theorem s_Op_findOrder_L69 {d : Nat} (hd : 3 ≤ d + 1) {Q : Hp → Prop} {QQ : Option AV → Hp → Prop} (hQ : ∀ h9, Q h9 → QQ none h9) {v0 : Nat} : ∀ (n : Nat) (v1 : Int32) (h : Hp), w_Op_findOrder_L69 Q  v0 n v1 h → aW none m_Op_findOrder (d + 1) 69 [(0, ar v0), (1, ai v1)] [] h 0 0 QQ := by
  intro n
  induction n with
  | zero => intro v1 h hw; exact hw.elim
  | succ n ih =>
    intro v1 h hw
    unfold w_Op_findOrder_L69 at hw
    refine r_iload_n (j := 1) d_Op_findOrder_69 rfl ?_
    refine r_if_lt d_Op_findOrder_70 (fun w9 => ?_) (fun w9 => ?_)
    · replace hw := hw.1 w9
      refine r_aload_n (j := 0) d_Op_findOrder_98 rfl ?_
      refine r_aload_n (j := 0) d_Op_findOrder_99 rfl ?_
      obtain ⟨q4, hw⟩ := hw
      refine r_getR d_Op_findOrder_100 ok_6 (nle rfl) (nle rfl) rfl lf_Op_24 q4 ?_
      refine r_iconst d_Op_findOrder_103 kc_0 ?_
      obtain ⟨q5, hw⟩ := hw
      obtain ⟨q6, hw⟩ := hw
      refine r_iald d_Op_findOrder_104 q5 q6 ?_
      refine r_putI d_Op_findOrder_105 ok_6 (nle rfl) (nle rfl) rfl lf_Op_115 rfl q4 ?_
      refine r_iconst d_Op_findOrder_108 kc_0 ?_
      refine r_istore_n (ls2 := [(1, ai (0 : Int32)), (0, ar v0)]) d_Op_findOrder_109 (nle rfl) rfl ?_
      refine r_iconst d_Op_findOrder_110 kc_0 ?_
      refine r_istore_n (ls2 := [(2, ai (0 : Int32)), (1, ai (0 : Int32)), (0, ar v0)]) d_Op_findOrder_111 (nle rfl) rfl ?_
      obtain ⟨n17, hw⟩ := hw
      refine r_pick (ls2 := [(0, ar v0), (1, ai (0 : Int32)), (2, ai (0 : Int32))]) [2, 1, 0] rfl ?_
      exact s_Op_findOrder_L112 hd hQ  n17 _ _ _ hw
    · replace hw := hw.2 w9
      refine r_aload_n (j := 0) d_Op_findOrder_73 rfl ?_
      obtain ⟨q18, hw⟩ := hw
      refine r_getR d_Op_findOrder_74 ok_6 (nle rfl) (nle rfl) rfl lf_Op_24 q18 ?_
      refine r_iload_n (j := 1) d_Op_findOrder_77 rfl ?_
      refine r_aload_n (j := 0) d_Op_findOrder_78 rfl ?_
      refine r_iload_n (j := 1) d_Op_findOrder_79 rfl ?_
      refine r_callV (av := [ai v1]) (rest := [ai v1, ar (gR h v0 6)]) (ci := 6) d_Op_findOrder_80 mk_Op_strayAtPart ll_Op_103 im_Op_strayAtPart se_Op_strayAtPart rfl (nle rfl) rfl rfl (nle rfl) q18 (s_Op_strayAtPart (by omega) hw (fun r20 h19 hw => ?_))
      show aW none m_Op_findOrder (d + 1) 83 [(0, ar v0), (1, ai v1)] [ai r20, ai v1, ar (gR h v0 6)] h19 0 0 QQ
      refine r_aload_n (j := 0) d_Op_findOrder_83 rfl ?_
      refine r_iload_n (j := 1) d_Op_findOrder_84 rfl ?_
      obtain ⟨q23, hw⟩ := hw
      refine r_callV (av := [ai v1]) (rest := [ai r20, ai v1, ar (gR h v0 6)]) (ci := 6) d_Op_findOrder_85 mk_Op_leastBehind ll_Op_106 im_Op_leastBehind se_Op_leastBehind rfl (nle rfl) rfl rfl (nle rfl) q23 (s_Op_leastBehind (by omega) hw (fun r22 h21 hw => ?_))
      show aW none m_Op_findOrder (d + 1) 88 [(0, ar v0), (1, ai v1)] [ai r22, ai r20, ai v1, ar (gR h v0 6)] h21 0 0 QQ
      refine r_callS (av := [ai r20, ai r22]) (rest := [ai v1, ar (gR h v0 6)]) d_Op_findOrder_88 mk_JM_max ll_Op_109 st_JM_max rfl rfl (nle rfl) (s_JM_max  hw (fun r25 h24 hw => ?_))
      show aW none m_Op_findOrder (d + 1) 91 [(0, ar v0), (1, ai v1)] [ai r25, ai v1, ar (gR h v0 6)] h24 0 0 QQ
      obtain ⟨q26, hw⟩ := hw
      obtain ⟨q27, hw⟩ := hw
      refine r_iast d_Op_findOrder_91 q26 q27 ?_
      refine r_iinc (j := 1) (ls2 := [(1, ai (v1 + (-1 : Int32))), (0, ar v0)]) d_Op_findOrder_92 rfl (congrArg (HAdd.hAdd v1) kc_m1) (nle rfl) rfl ?_
      refine r_goto d_Op_findOrder_95 ?_
      refine r_pick (ls2 := [(0, ar v0), (1, ai (v1 + (-1 : Int32)))]) [1, 0] rfl ?_
      exact ih _ _ hw
set_option maxRecDepth 100000 in
set_option maxHeartbeats 4000000 in
theorem s_Op_findOrder_L7 {d : Nat} (hd : 3 ≤ d + 1) {Q : Hp → Prop} {QQ : Option AV → Hp → Prop} (hQ : ∀ h9, Q h9 → QQ none h9) {v0 : Nat} : ∀ (n : Nat) (v1 : Int32) (h : Hp), w_Op_findOrder_L7 Q  v0 n v1 h → aW none m_Op_findOrder (d + 1) 7 [(0, ar v0), (1, ai v1)] [] h 0 0 QQ := by
  intro n
  induction n with
  | zero => intro v1 h hw; exact hw.elim
  | succ n ih =>
    intro v1 h hw
    unfold w_Op_findOrder_L7 at hw
    refine r_iload_n (j := 1) d_Op_findOrder_7 rfl ?_
    refine r_aload_n (j := 0) d_Op_findOrder_8 rfl ?_
    obtain ⟨q2, hw⟩ := hw
    refine r_getR d_Op_findOrder_9 ok_6 (nle rfl) (nle rfl) rfl lf_Op_27 q2 ?_
    obtain ⟨q3, hw⟩ := hw
    refine r_getI d_Op_findOrder_12 ok_1 (nle rfl) (nle rfl) rfl lf_Op_100 q3 ?_
    refine r_icmp_ge d_Op_findOrder_15 (fun w9 => ?_) (fun w9 => ?_)
    · replace hw := hw.1 w9
      refine r_aload_n (j := 0) d_Op_findOrder_51 rfl ?_
      refine r_getI d_Op_findOrder_52 ok_6 (nle rfl) (nle rfl) rfl lf_Op_97 q2 ?_
      refine r_sipush d_Op_findOrder_55 ks_1296 ?_
      refine r_icmp_le d_Op_findOrder_58 (fun w9 => ?_) (fun w9 => ?_)
      · replace hw := hw.1 w9
        refine r_aload_n (j := 0) d_Op_findOrder_62 rfl ?_
        refine r_getI d_Op_findOrder_63 ok_6 (nle rfl) (nle rfl) rfl lf_Op_97 q2 ?_
        refine r_iconst d_Op_findOrder_66 kc_1 ?_
        refine r_isub d_Op_findOrder_67 ?_
        refine r_istore_n (ls2 := [(1, ai ((gI h v0 7) - (1 : Int32))), (0, ar v0)]) d_Op_findOrder_68 (nle rfl) rfl ?_
        obtain ⟨n28, hw⟩ := hw
        refine r_pick (ls2 := [(0, ar v0), (1, ai ((gI h v0 7) - (1 : Int32)))]) [1, 0] rfl ?_
        exact s_Op_findOrder_L69 hd hQ  n28 _ _ hw
      · replace hw := hw.2 w9
        exact r_return d_Op_findOrder_61.1 rfl (hQ _ hw)
    · replace hw := hw.2 w9
      refine r_aload_n (j := 0) d_Op_findOrder_18 rfl ?_
      refine r_getR d_Op_findOrder_19 ok_6 (nle rfl) (nle rfl) rfl lf_Op_15 q2 ?_
      refine r_iload_n (j := 1) d_Op_findOrder_22 rfl ?_
      refine r_aload_n (j := 0) d_Op_findOrder_23 rfl ?_
      refine r_getI d_Op_findOrder_24 ok_6 (nle rfl) (nle rfl) rfl lf_Op_97 q2 ?_
      obtain ⟨q29, hw⟩ := hw
      obtain ⟨q30, hw⟩ := hw
      refine r_iast d_Op_findOrder_27 q29 q30 ?_
      refine r_aload_n (j := 0) d_Op_findOrder_28 rfl ?_
      refine r_dup d_Op_findOrder_29 rfl ?_
      refine r_getI d_Op_findOrder_30 ok_6 (nle rfl) (nle rfl) rfl lf_Op_97 (kt eKI q2) ?_
      refine r_aload_n (j := 0) d_Op_findOrder_33 rfl ?_
      refine r_getRb eRI d_Op_findOrder_34 ok_6 (nle rfl) (nle rfl) rfl lf_Op_9 (kt eKI q2) ?_
      refine r_iload_n (j := 1) d_Op_findOrder_37 rfl ?_
      obtain ⟨q31, hw⟩ := hw
      obtain ⟨q32, hw⟩ := hw
      refine r_iald d_Op_findOrder_38 (kt eKI q31) (nt eNI q32) ?_
      refine r_iconst d_Op_findOrder_39 kc_1 ?_
      refine r_iadd d_Op_findOrder_40 ?_
      refine r_imul d_Op_findOrder_41 ?_
      refine r_putI d_Op_findOrder_42 ok_6 (nle rfl) (nle rfl) rfl lf_Op_97 rfl (kt eKI q2) ?_
      refine r_iinc (j := 1) (ls2 := [(1, ai (v1 + (1 : Int32))), (0, ar v0)]) d_Op_findOrder_45 rfl (congrArg (HAdd.hAdd v1) kc_1) (nle rfl) rfl ?_
      refine r_goto d_Op_findOrder_48 ?_
      refine r_pick (ls2 := [(0, ar v0), (1, ai (v1 + (1 : Int32)))]) [1, 0] rfl ?_
      exact ih _ _ hw
set_option maxRecDepth 100000 in
set_option maxHeartbeats 4000000 in
theorem s_Op_findOrder {d : Nat} (hd : 3 ≤ d) {v0 : Nat} {h : Hp} {Q : Hp → Prop} {QQ : Option AV → Hp → Prop} (hw : w_Op_findOrder v0 h Q) (hQ : ∀ h9, Q h9 → QQ none h9) : aCall m_Op_findOrder d [ar v0] h 0 0 QQ := by
  obtain ⟨d, rfl⟩ : ∃ d9, d = d9 + 1 := ⟨d - 1, by omega⟩
  refine aCall_in pl_Op_findOrder (nle rfl) ?_
  show aW none m_Op_findOrder (d + 1) 0 [(0, ar v0)] [] h 0 0 QQ
  unfold w_Op_findOrder at hw
  refine r_aload_n (j := 0) d_Op_findOrder_0 rfl ?_
  refine r_iconst d_Op_findOrder_1 kc_1 ?_
  obtain ⟨q1, hw⟩ := hw
  refine r_putI d_Op_findOrder_2 ok_6 (nle rfl) (nle rfl) rfl lf_Op_97 rfl q1 ?_
  refine r_iconst d_Op_findOrder_5 kc_0 ?_
  refine r_istore_n (ls2 := [(1, ai (0 : Int32)), (0, ar v0)]) d_Op_findOrder_6 (nle rfl) rfl ?_
  obtain ⟨n33, hw⟩ := hw
  refine r_pick (ls2 := [(0, ar v0), (1, ai (0 : Int32))]) [1, 0] rfl ?_
  exact s_Op_findOrder_L7 hd hQ  n33 _ _ hw
set_option maxRecDepth 100000 in
set_option maxHeartbeats 4000000 in
theorem s_Op_findPlan_B95 {d : Nat} (hd : 62 ≤ d + 1) {Q : Hp → Prop} {QQ : Option AV → Hp → Prop} (hQ : ∀ h9, Q h9 → QQ none h9) {v0 : Nat} {v1 : Int32} {h : Hp} {k7 : Int32 → Hp → Prop} (hk7 : ∀ v1 h9, k7 v1 h9 → aW none m_Op_findPlan (d + 1) 7 [(0, ar v0), (1, ai v1)] [] h9 0 0 QQ) (hw : w_Op_findPlan_B95 Q k7 v0 v1 h) : aW none m_Op_findPlan (d + 1) 95 [(0, ar v0), (1, ai v1)] [] h 0 0 QQ := by
  unfold w_Op_findPlan_B95 at hw
  refine r_aload_n (j := 0) d_Op_findPlan_95 rfl ?_
  refine r_iconst d_Op_findPlan_96 kc_1 ?_
  obtain ⟨q11, hw⟩ := hw
  refine r_putZ d_Op_findPlan_97 ok_6 (nle rfl) (nle rfl) rfl lf_Op_51 rfl q11 (Or.inr rfl) ?_
  refine r_aload_n (j := 0) d_Op_findPlan_100 rfl ?_
  refine r_aload_n (j := 0) d_Op_findPlan_101 rfl ?_
  refine r_getRb eRI d_Op_findPlan_102 ok_6 (nle rfl) (nle rfl) rfl lf_Op_31 (kt eKI q11) ?_
  obtain ⟨q12, hw⟩ := hw
  refine r_getI d_Op_findPlan_105 ok_7 (nle rfl) (nle rfl) rfl lf_Op_81 (kt eKI q12) ?_
  refine r_putI d_Op_findPlan_108 ok_6 (nle rfl) (nle rfl) rfl lf_Op_84 rfl (kt eKI q11) ?_
  refine r_aload_n (j := 0) d_Op_findPlan_111 rfl ?_
  refine r_iload_n (j := 1) d_Op_findPlan_112 rfl ?_
  refine r_putI d_Op_findPlan_113 ok_6 (nle rfl) (nle rfl) rfl lf_Op_85 rfl (kt (eKI.trans eKI) q11) ?_
  refine r_aload_n (j := 0) d_Op_findPlan_116 rfl ?_
  refine r_getRb (eRI.trans (eRI.trans eRI)) d_Op_findPlan_117 ok_6 (nle rfl) (nle rfl) rfl lf_Op_31 (kt (eKI.trans (eKI.trans eKI)) q11) ?_
  refine r_getRb (eRI.trans (eRI.trans eRI)) d_Op_findPlan_120 ok_7 (nle rfl) (nle rfl) rfl lf_Op_88 (kt (eKI.trans (eKI.trans eKI)) q12) ?_
  refine r_iconst d_Op_findPlan_123 kc_0 ?_
  refine r_aload_n (j := 0) d_Op_findPlan_124 rfl ?_
  refine r_getRb (eRI.trans (eRI.trans eRI)) d_Op_findPlan_125 ok_6 (nle rfl) (nle rfl) rfl lf_Op_9 (kt (eKI.trans (eKI.trans eKI)) q11) ?_
  refine r_iconst d_Op_findPlan_128 kc_0 ?_
  refine r_bipush d_Op_findPlan_129 kb_8 ?_
  obtain ⟨q13, hw⟩ := hw
  obtain ⟨q14, hw⟩ := hw
  obtain ⟨q15, hw⟩ := hw
  obtain ⟨q16, hw⟩ := hw
  refine r_copy d_Op_findPlan_131 ll_Op_91 cp_1 cp_2 cp_3 (nle rfl) (kt (eKI.trans (eKI.trans eKI)) q13) (kt (eKI.trans (eKI.trans eKI)) q14) (by decide) (by decide) (by decide) (mt (eNI.trans (eNI.trans eNI)) q15) (mt (eNI.trans (eNI.trans eNI)) q16) ?_
  refine r_iinc (j := 1) (ls2 := [(1, ai (v1 + (1 : Int32))), (0, ar v0)]) d_Op_findPlan_134 rfl (congrArg (HAdd.hAdd v1) kc_1) (nle rfl) rfl ?_
  refine r_goto d_Op_findPlan_137 ?_
  refine r_pick (ls2 := [(0, ar v0), (1, ai (v1 + (1 : Int32)))]) [1, 0] rfl ?_
  exact hk7 _ _ hw
set_option maxRecDepth 100000 in
set_option maxHeartbeats 4000000 in
theorem s_Op_findPlan_L20 {d : Nat} (hd : 62 ≤ d + 1) {Q : Hp → Prop} {QQ : Option AV → Hp → Prop} (hQ : ∀ h9, Q h9 → QQ none h9) {v0 : Nat} {v1 : Int32} {k7 : Int32 → Hp → Prop} (hk7 : ∀ v1 h9, k7 v1 h9 → aW none m_Op_findPlan (d + 1) 7 [(0, ar v0), (1, ai v1)] [] h9 0 0 QQ) : ∀ (n : Nat) (v2 : Int32) (h : Hp), w_Op_findPlan_L20 Q k7 v0 v1 n v2 h → aW none m_Op_findPlan (d + 1) 20 [(0, ar v0), (1, ai v1), (2, ai v2)] [] h 0 0 QQ := by
  intro n
  induction n with
  | zero => intro v2 h hw; exact hw.elim
  | succ n ih =>
    intro v2 h hw
    unfold w_Op_findPlan_L20 at hw
    refine r_iload_n (j := 2) d_Op_findPlan_20 rfl ?_
    refine r_iconst d_Op_findPlan_21 kc_3 ?_
    refine r_icmp_ge d_Op_findPlan_22 (fun w9 => ?_) (fun w9 => ?_)
    · replace hw := hw.1 w9
      refine r_aload_n (j := 0) d_Op_findPlan_45 rfl ?_
      obtain ⟨q6, hw⟩ := hw
      refine r_getR d_Op_findPlan_46 ok_6 (nle rfl) (nle rfl) rfl lf_Op_31 q6 ?_
      refine r_aload_n (j := 0) d_Op_findPlan_49 rfl ?_
      refine r_getR d_Op_findPlan_50 ok_6 (nle rfl) (nle rfl) rfl lf_Op_27 q6 ?_
      refine r_iconst d_Op_findPlan_53 kc_m1 ?_
      refine r_iload_n (j := 1) d_Op_findPlan_54 rfl ?_
      refine r_aload_n (j := 0) d_Op_findPlan_55 rfl ?_
      refine r_getR d_Op_findPlan_56 ok_6 (nle rfl) (nle rfl) rfl lf_Op_21 q6 ?_
      refine r_ldc d_Op_findPlan_59 lc_Op_73 ?_
      obtain ⟨q8, hw⟩ := hw
      refine r_callV (av := [ar (gR h v0 0), ai (-1 : Int32), ai v1, ar (gR h v0 5), ai (1000000 : Int32)]) (rest := []) (ci := 7) d_Op_findPlan_61 mk_Ps_run ll_Op_74 im_Ps_run se_Ps_run rfl (nle rfl) rfl rfl (nle rfl) q8 (s_Ps_run (by omega) hw (fun h7 hw => ?_))
      show aW none m_Op_findPlan (d + 1) 64 [(0, ar v0), (1, ai v1), (2, ai v2)] [] h7 0 0 QQ
      refine r_aload_n (j := 0) d_Op_findPlan_64 rfl ?_
      obtain ⟨q9, hw⟩ := hw
      refine r_getR d_Op_findPlan_65 ok_6 (nle rfl) (nle rfl) rfl lf_Op_31 q9 ?_
      obtain ⟨q10, hw⟩ := hw
      refine r_getI d_Op_findPlan_68 ok_7 (nle rfl) (nle rfl) rfl lf_Op_78 q10 ?_
      refine r_if_le d_Op_findPlan_71 (fun w9 => ?_) (fun w9 => ?_)
      · replace hw := hw.1 w9
        refine r_iinc (j := 1) (ls2 := [(1, ai (v1 + (1 : Int32))), (0, ar v0), (2, ai v2)]) d_Op_findPlan_134 rfl (congrArg (HAdd.hAdd v1) kc_1) (nle rfl) rfl ?_
        refine r_goto d_Op_findPlan_137 ?_
        refine r_pick (ls2 := [(0, ar v0), (1, ai (v1 + (1 : Int32)))]) [1, 0] rfl ?_
        exact hk7 _ _ hw
      · replace hw := hw.2 w9
        refine r_aload_n (j := 0) d_Op_findPlan_74 rfl ?_
        refine r_getI d_Op_findPlan_75 ok_6 (nle rfl) (nle rfl) rfl lf_Op_51 q9 ?_
        refine r_if_eq d_Op_findPlan_78 (fun w9 => ?_) (fun w9 => ?_)
        · replace hw := hw.1 w9
          refine r_pick (ls2 := [(0, ar v0), (1, ai v1)]) [0, 1] rfl ?_
          exact s_Op_findPlan_B95 hd hQ hk7 hw
        · replace hw := hw.2 w9
          refine r_aload_n (j := 0) d_Op_findPlan_81 rfl ?_
          refine r_getR d_Op_findPlan_82 ok_6 (nle rfl) (nle rfl) rfl lf_Op_31 q9 ?_
          refine r_getI d_Op_findPlan_85 ok_7 (nle rfl) (nle rfl) rfl lf_Op_81 q10 ?_
          refine r_aload_n (j := 0) d_Op_findPlan_88 rfl ?_
          refine r_getI d_Op_findPlan_89 ok_6 (nle rfl) (nle rfl) rfl lf_Op_84 q9 ?_
          refine r_icmp_le d_Op_findPlan_92 (fun w9 => ?_) (fun w9 => ?_)
          · replace hw := hw.1 w9
            refine r_iinc (j := 1) (ls2 := [(1, ai (v1 + (1 : Int32))), (0, ar v0), (2, ai v2)]) d_Op_findPlan_134 rfl (congrArg (HAdd.hAdd v1) kc_1) (nle rfl) rfl ?_
            refine r_goto d_Op_findPlan_137 ?_
            refine r_pick (ls2 := [(0, ar v0), (1, ai (v1 + (1 : Int32)))]) [1, 0] rfl ?_
            exact hk7 _ _ hw
          · replace hw := hw.2 w9
            refine r_pick (ls2 := [(0, ar v0), (1, ai v1)]) [0, 1] rfl ?_
            exact s_Op_findPlan_B95 hd hQ hk7 hw
    · replace hw := hw.2 w9
      refine r_aload_n (j := 0) d_Op_findPlan_25 rfl ?_
      obtain ⟨q17, hw⟩ := hw
      refine r_getR d_Op_findPlan_26 ok_6 (nle rfl) (nle rfl) rfl lf_Op_21 q17 ?_
      refine r_iload_n (j := 2) d_Op_findPlan_29 rfl ?_
      refine r_aload_n (j := 0) d_Op_findPlan_30 rfl ?_
      refine r_getR d_Op_findPlan_31 ok_6 (nle rfl) (nle rfl) rfl lf_Op_27 q17 ?_
      refine r_iload_n (j := 2) d_Op_findPlan_34 rfl ?_
      obtain ⟨q20, hw⟩ := hw
      refine r_callV (av := [ai v2]) (rest := [ai v2, ar (gR h v0 5)]) (ci := 1) d_Op_findPlan_35 mk_Co_needOf ll_Op_67 im_Co_needOf se_Co_needOf rfl (nle rfl) rfl rfl (nle rfl) q20 (s_Co_needOf  hw (fun r19 h18 hw => ?_))
      show aW none m_Op_findPlan (d + 1) 38 [(0, ar v0), (1, ai v1), (2, ai v2)] [ai r19, ai v2, ar (gR h v0 5)] h18 0 0 QQ
      obtain ⟨q21, hw⟩ := hw
      obtain ⟨q22, hw⟩ := hw
      refine r_iast d_Op_findPlan_38 q21 q22 ?_
      refine r_iinc (j := 2) (ls2 := [(2, ai (v2 + (1 : Int32))), (0, ar v0), (1, ai v1)]) d_Op_findPlan_39 rfl (congrArg (HAdd.hAdd v2) kc_1) (nle rfl) rfl ?_
      refine r_goto d_Op_findPlan_42 ?_
      refine r_pick (ls2 := [(0, ar v0), (1, ai v1), (2, ai (v2 + (1 : Int32)))]) [1, 2, 0] rfl ?_
      exact ih _ _ hw
set_option maxRecDepth 100000 in
set_option maxHeartbeats 4000000 in
theorem s_Op_findPlan_L7 {d : Nat} (hd : 62 ≤ d + 1) {Q : Hp → Prop} {QQ : Option AV → Hp → Prop} (hQ : ∀ h9, Q h9 → QQ none h9) {v0 : Nat} : ∀ (n : Nat) (v1 : Int32) (h : Hp), w_Op_findPlan_L7 Q  v0 n v1 h → aW none m_Op_findPlan (d + 1) 7 [(0, ar v0), (1, ai v1)] [] h 0 0 QQ := by
  intro n
  induction n with
  | zero => intro v1 h hw; exact hw.elim
  | succ n ih =>
    intro v1 h hw
    unfold w_Op_findPlan_L7 at hw
    refine r_iload_n (j := 1) d_Op_findPlan_7 rfl ?_
    refine r_aload_n (j := 0) d_Op_findPlan_8 rfl ?_
    obtain ⟨q2, hw⟩ := hw
    refine r_getR d_Op_findPlan_9 ok_6 (nle rfl) (nle rfl) rfl lf_Op_27 q2 ?_
    obtain ⟨q5, hw⟩ := hw
    refine r_callV (av := []) (rest := [ai v1]) (ci := 1) d_Op_findPlan_12 mk_Co_steps ll_Op_64 im_Co_steps se_Co_steps rfl (nle rfl) rfl rfl (nle rfl) q5 (s_Co_steps  hw (fun r4 h3 hw => ?_))
    show aW none m_Op_findPlan (d + 1) 15 [(0, ar v0), (1, ai v1)] [ai r4, ai v1] h3 0 0 QQ
    refine r_icmp_gt d_Op_findPlan_15 (fun w9 => ?_) (fun w9 => ?_)
    · replace hw := hw.1 w9
      exact r_return d_Op_findPlan_140.1 rfl (hQ _ hw)
    · replace hw := hw.2 w9
      refine r_iconst d_Op_findPlan_18 kc_0 ?_
      refine r_istore_n (ls2 := [(2, ai (0 : Int32)), (0, ar v0), (1, ai v1)]) d_Op_findPlan_19 (nle rfl) rfl ?_
      obtain ⟨n23, hw⟩ := hw
      refine r_pick (ls2 := [(0, ar v0), (1, ai v1), (2, ai (0 : Int32))]) [1, 2, 0] rfl ?_
      exact s_Op_findPlan_L20 hd hQ ih n23 _ _ hw
set_option maxRecDepth 100000 in
set_option maxHeartbeats 4000000 in
theorem s_Op_findPlan {d : Nat} (hd : 62 ≤ d) {v0 : Nat} {h : Hp} {Q : Hp → Prop} {QQ : Option AV → Hp → Prop} (hw : w_Op_findPlan v0 h Q) (hQ : ∀ h9, Q h9 → QQ none h9) : aCall m_Op_findPlan d [ar v0] h 0 0 QQ := by
  obtain ⟨d, rfl⟩ : ∃ d9, d = d9 + 1 := ⟨d - 1, by omega⟩
  refine aCall_in pl_Op_findPlan (nle rfl) ?_
  show aW none m_Op_findPlan (d + 1) 0 [(0, ar v0)] [] h 0 0 QQ
  unfold w_Op_findPlan at hw
  refine r_aload_n (j := 0) d_Op_findPlan_0 rfl ?_
  refine r_iconst d_Op_findPlan_1 kc_0 ?_
  obtain ⟨q1, hw⟩ := hw
  refine r_putZ d_Op_findPlan_2 ok_6 (nle rfl) (nle rfl) rfl lf_Op_51 rfl q1 (Or.inl rfl) ?_
  refine r_iconst d_Op_findPlan_5 kc_0 ?_
  refine r_istore_n (ls2 := [(1, ai (0 : Int32)), (0, ar v0)]) d_Op_findPlan_6 (nle rfl) rfl ?_
  obtain ⟨n24, hw⟩ := hw
  refine r_pick (ls2 := [(0, ar v0), (1, ai (0 : Int32))]) [1, 0] rfl ?_
  exact s_Op_findPlan_L7 hd hQ  n24 _ _ hw
set_option maxRecDepth 100000 in
set_option maxHeartbeats 4000000 in
theorem s_Op_straySorted_L28 {d : Nat} (hd : 2 ≤ d + 1) {Q : Int32 → Hp → Prop} {QQ : Option AV → Hp → Prop} (hQ : ∀ r9 h9, Q r9 h9 → QQ (some (ai r9)) h9) {v0 : Nat} {v3 : Int32} {k14 : Int32 → Int32 → Int32 → Hp → Prop} (hk14 : ∀ v1 v2 v3 h9, k14 v1 v2 v3 h9 → aW none m_Op_straySorted (d + 1) 14 [(0, ar v0), (1, ai v1), (2, ai v2), (3, ai v3)] [] h9 0 0 QQ) : ∀ (n : Nat) (v1 : Int32) (v2 : Int32) (v4 : Int32) (h : Hp), w_Op_straySorted_L28 Q k14 v0 v3 n v1 v2 v4 h → aW none m_Op_straySorted (d + 1) 28 [(0, ar v0), (1, ai v1), (2, ai v2), (3, ai v3), (4, ai v4)] [] h 0 0 QQ := by
  intro n
  induction n with
  | zero => intro v1 v2 v4 h hw; exact hw.elim
  | succ n ih =>
    intro v1 v2 v4 h hw
    unfold w_Op_straySorted_L28 at hw
    refine r_iload (j := 4) d_Op_straySorted_28 rfl ?_
    refine r_aload_n (j := 0) d_Op_straySorted_30 rfl ?_
    obtain ⟨q5, hw⟩ := hw
    refine r_getR d_Op_straySorted_31 ok_6 (nle rfl) (nle rfl) rfl lf_Op_9 q5 ?_
    refine r_iload_n (j := 3) d_Op_straySorted_34 rfl ?_
    obtain ⟨q6, hw⟩ := hw
    obtain ⟨q7, hw⟩ := hw
    refine r_iald d_Op_straySorted_35 q6 q7 ?_
    refine r_icmp_ge d_Op_straySorted_36 (fun w9 => ?_) (fun w9 => ?_)
    · replace hw := hw.1 w9
      refine r_iinc (j := 3) (ls2 := [(3, ai (v3 + (1 : Int32))), (0, ar v0), (1, ai v1), (2, ai v2), (4, ai v4)]) d_Op_straySorted_82 rfl (congrArg (HAdd.hAdd v3) kc_1) (nle rfl) rfl ?_
      refine r_goto d_Op_straySorted_85 ?_
      refine r_pick (ls2 := [(0, ar v0), (1, ai v1), (2, ai v2), (3, ai (v3 + (1 : Int32)))]) [1, 2, 3, 0] rfl ?_
      exact hk14 _ _ _ _ hw
    · replace hw := hw.2 w9
      refine r_aload_n (j := 0) d_Op_straySorted_39 rfl ?_
      refine r_getR d_Op_straySorted_40 ok_6 (nle rfl) (nle rfl) rfl lf_Op_27 q5 ?_
      refine r_aload_n (j := 0) d_Op_straySorted_43 rfl ?_
      refine r_getR d_Op_straySorted_44 ok_6 (nle rfl) (nle rfl) rfl lf_Op_21 q5 ?_
      refine r_iload_n (j := 3) d_Op_straySorted_47 rfl ?_
      refine r_iconst d_Op_straySorted_48 kc_1 ?_
      obtain ⟨q9, hw⟩ := hw
      refine r_callV (av := [ar (gR h v0 5), ai v3, ai (1 : Int32)]) (rest := []) (ci := 1) d_Op_straySorted_49 mk_Co_addTo ll_Op_130 im_Co_addTo se_Co_addTo rfl (nle rfl) rfl rfl (nle rfl) q9 (s_Co_addTo (by omega) hw (fun h8 hw => ?_))
      show aW none m_Op_straySorted (d + 1) 52 [(0, ar v0), (1, ai v1), (2, ai v2), (3, ai v3), (4, ai v4)] [] h8 0 0 QQ
      refine r_iinc (j := 2) (ls2 := [(2, ai (v2 + (1 : Int32))), (0, ar v0), (1, ai v1), (3, ai v3), (4, ai v4)]) d_Op_straySorted_52 rfl (congrArg (HAdd.hAdd v2) kc_1) (nle rfl) rfl ?_
      refine r_iload_n (j := 2) d_Op_straySorted_55 rfl ?_
      refine r_aload_n (j := 1) d_Op_straySorted_56 rfl ?_
      obtain ⟨q10, hw⟩ := hw
      refine r_getR d_Op_straySorted_57 ok_6 (nle rfl) (nle rfl) rfl lf_Op_27 q10 ?_
      refine r_aload_n (j := 1) d_Op_straySorted_60 rfl ?_
      refine r_getR d_Op_straySorted_61 ok_6 (nle rfl) (nle rfl) rfl lf_Op_21 q10 ?_
      refine r_aload_n (j := 1) d_Op_straySorted_64 rfl ?_
      refine r_getI d_Op_straySorted_65 ok_6 (nle rfl) (nle rfl) rfl lf_Op_85 q10 ?_
      refine r_iload_n (j := 0) d_Op_straySorted_68 rfl ?_
      obtain ⟨q13, hw⟩ := hw
      refine r_callV (av := [ar (gR h8 v0 5), ai (gI h8 v0 12), ai (v2 + (1 : Int32))]) (rest := [ai v1]) (ci := 1) d_Op_straySorted_69 mk_Co_strayAt ll_Op_134 im_Co_strayAt se_Co_strayAt rfl (nle rfl) rfl rfl (nle rfl) q13 (s_Co_strayAt (by omega) hw (fun r12 h11 hw => ?_))
      show aW none m_Op_straySorted (d + 1) 72 [(2, ai (v2 + (1 : Int32))), (0, ar v0), (1, ai v1), (3, ai v3), (4, ai v4)] [ai r12, ai v1] h11 0 0 QQ
      refine r_callS (av := [ai v1, ai r12]) (rest := []) d_Op_straySorted_72 mk_JM_max ll_Op_109 st_JM_max rfl rfl (nle rfl) (s_JM_max  hw (fun r15 h14 hw => ?_))
      show aW none m_Op_straySorted (d + 1) 75 [(2, ai (v2 + (1 : Int32))), (0, ar v0), (1, ai v1), (3, ai v3), (4, ai v4)] [ai r15] h14 0 0 QQ
      refine r_istore_n (ls2 := [(1, ai r15), (2, ai (v2 + (1 : Int32))), (0, ar v0), (3, ai v3), (4, ai v4)]) d_Op_straySorted_75 (nle rfl) rfl ?_
      refine r_iinc (j := 4) (ls2 := [(4, ai (v4 + (1 : Int32))), (1, ai r15), (2, ai (v2 + (1 : Int32))), (0, ar v0), (3, ai v3)]) d_Op_straySorted_76 rfl (congrArg (HAdd.hAdd v4) kc_1) (nle rfl) rfl ?_
      refine r_goto d_Op_straySorted_79 ?_
      refine r_pick (ls2 := [(0, ar v0), (1, ai r15), (2, ai (v2 + (1 : Int32))), (3, ai v3), (4, ai (v4 + (1 : Int32)))]) [3, 1, 2, 4, 0] rfl ?_
      exact ih _ _ _ _ hw
set_option maxRecDepth 100000 in
set_option maxHeartbeats 4000000 in
theorem s_Op_straySorted_L14 {d : Nat} (hd : 2 ≤ d + 1) {Q : Int32 → Hp → Prop} {QQ : Option AV → Hp → Prop} (hQ : ∀ r9 h9, Q r9 h9 → QQ (some (ai r9)) h9) {v0 : Nat} : ∀ (n : Nat) (v1 : Int32) (v2 : Int32) (v3 : Int32) (h : Hp), w_Op_straySorted_L14 Q  v0 n v1 v2 v3 h → aW none m_Op_straySorted (d + 1) 14 [(0, ar v0), (1, ai v1), (2, ai v2), (3, ai v3)] [] h 0 0 QQ := by
  intro n
  induction n with
  | zero => intro v1 v2 v3 h hw; exact hw.elim
  | succ n ih =>
    intro v1 v2 v3 h hw
    unfold w_Op_straySorted_L14 at hw
    refine r_iload_n (j := 3) d_Op_straySorted_14 rfl ?_
    refine r_aload_n (j := 0) d_Op_straySorted_15 rfl ?_
    obtain ⟨q3, hw⟩ := hw
    refine r_getR d_Op_straySorted_16 ok_6 (nle rfl) (nle rfl) rfl lf_Op_27 q3 ?_
    obtain ⟨q4, hw⟩ := hw
    refine r_getI d_Op_straySorted_19 ok_1 (nle rfl) (nle rfl) rfl lf_Op_100 q4 ?_
    refine r_icmp_ge d_Op_straySorted_22 (fun w9 => ?_) (fun w9 => ?_)
    · replace hw := hw.1 w9
      refine r_iload_n (j := 1) d_Op_straySorted_88 rfl ?_
      exact r_ireturn d_Op_straySorted_89.1 rfl (hQ _ _ hw)
    · replace hw := hw.2 w9
      refine r_iconst d_Op_straySorted_25 kc_0 ?_
      refine r_istore (ls2 := [(4, ai (0 : Int32)), (0, ar v0), (1, ai v1), (2, ai v2), (3, ai v3)]) d_Op_straySorted_26 (nle rfl) rfl ?_
      obtain ⟨n16, hw⟩ := hw
      refine r_pick (ls2 := [(0, ar v0), (1, ai v1), (2, ai v2), (3, ai v3), (4, ai (0 : Int32))]) [1, 2, 3, 4, 0] rfl ?_
      exact s_Op_straySorted_L28 hd hQ ih n16 _ _ _ _ hw
set_option maxRecDepth 100000 in
set_option maxHeartbeats 4000000 in
theorem s_Op_straySorted {d : Nat} (hd : 2 ≤ d) {v0 : Nat} {h : Hp} {Q : Int32 → Hp → Prop} {QQ : Option AV → Hp → Prop} (hw : w_Op_straySorted v0 h Q) (hQ : ∀ r9 h9, Q r9 h9 → QQ (some (ai r9)) h9) : aCall m_Op_straySorted d [ar v0] h 0 0 QQ := by
  obtain ⟨d, rfl⟩ : ∃ d9, d = d9 + 1 := ⟨d - 1, by omega⟩
  refine aCall_in pl_Op_straySorted (nle rfl) ?_
  show aW none m_Op_straySorted (d + 1) 0 [(0, ar v0)] [] h 0 0 QQ
  unfold w_Op_straySorted at hw
  refine r_aload_n (j := 0) d_Op_straySorted_0 rfl ?_
  obtain ⟨q1, hw⟩ := hw
  refine r_getR d_Op_straySorted_1 ok_6 (nle rfl) (nle rfl) rfl lf_Op_21 q1 ?_
  refine r_iconst d_Op_straySorted_4 kc_0 ?_
  refine r_callS (av := [ar (gR h v0 5), ai (0 : Int32)]) (rest := []) d_Op_straySorted_5 mk_JA_fill_IIV ll_Op_121 st_JA_fill_IIV rfl rfl (nle rfl) (s_JA_fill_IIV  hw (fun h2 hw => ?_))
  show aW none m_Op_straySorted (d + 1) 8 [(0, ar v0)] [] h2 0 0 QQ
  refine r_iconst d_Op_straySorted_8 kc_0 ?_
  refine r_istore_n (ls2 := [(1, ai (0 : Int32)), (0, ar v0)]) d_Op_straySorted_9 (nle rfl) rfl ?_
  refine r_iconst d_Op_straySorted_10 kc_0 ?_
  refine r_istore_n (ls2 := [(2, ai (0 : Int32)), (1, ai (0 : Int32)), (0, ar v0)]) d_Op_straySorted_11 (nle rfl) rfl ?_
  refine r_iconst d_Op_straySorted_12 kc_0 ?_
  refine r_istore_n (ls2 := [(3, ai (0 : Int32)), (2, ai (0 : Int32)), (1, ai (0 : Int32)), (0, ar v0)]) d_Op_straySorted_13 (nle rfl) rfl ?_
  obtain ⟨n17, hw⟩ := hw
  refine r_pick (ls2 := [(0, ar v0), (1, ai (0 : Int32)), (2, ai (0 : Int32)), (3, ai (0 : Int32))]) [3, 2, 1, 0] rfl ?_
  exact s_Op_straySorted_L14 hd hQ  n17 _ _ _ _ hw
set_option maxRecDepth 100000 in
set_option maxHeartbeats 4000000 in
theorem s_Op_find_B21 {d : Nat} (hd : 63 ≤ d + 1) {Q : Bool → Hp → Prop} {QQ : Option AV → Hp → Prop} (hQ : ∀ r9 h9, Q r9 h9 → QQ (some (ai (b2i r9))) h9) {v0 : Nat} {h : Hp} (hw : w_Op_find_B21 Q  v0 h) : aW none m_Op_find (d + 1) 21 [(0, ar v0)] [] h 0 0 QQ := by
  unfold w_Op_find_B21 at hw
  refine r_aload_n (j := 0) d_Op_find_21 rfl ?_
  refine r_iconst d_Op_find_22 kc_1 ?_
  obtain ⟨q2, hw⟩ := hw
  refine r_putZ d_Op_find_23 ok_6 (nle rfl) (nle rfl) rfl lf_Op_35 rfl q2 (Or.inr rfl) ?_
  refine r_aload_n (j := 0) d_Op_find_26 rfl ?_
  refine r_aload_n (j := 0) d_Op_find_27 rfl ?_
  refine r_getRb eRI d_Op_find_28 ok_6 (nle rfl) (nle rfl) rfl lf_Op_27 (kt eKI q2) ?_
  obtain ⟨q3, hw⟩ := hw
  refine r_getI d_Op_find_31 ok_1 (nle rfl) (nle rfl) rfl lf_Op_43 (kt eKI q3) ?_
  refine r_putI d_Op_find_34 ok_6 (nle rfl) (nle rfl) rfl lf_Op_39 rfl (kt eKI q2) ?_
  refine r_aload_n (j := 0) d_Op_find_37 rfl ?_
  refine r_callV (av := []) (rest := []) (ci := 6) d_Op_find_38 mk_Op_findPlan ll_Op_48 im_Op_findPlan se_Op_findPlan rfl (nle rfl) rfl rfl (nle rfl) (kt (eKI.trans eKI) q2) (s_Op_findPlan (by omega) hw (fun h4 hw => ?_))
  show aW none m_Op_find (d + 1) 41 [(0, ar v0)] [] h4 0 0 QQ
  refine r_aload_n (j := 0) d_Op_find_41 rfl ?_
  obtain ⟨q5, hw⟩ := hw
  refine r_getI d_Op_find_42 ok_6 (nle rfl) (nle rfl) rfl lf_Op_51 q5 ?_
  refine r_if_eq d_Op_find_45 (fun w9 => ?_) (fun w9 => ?_)
  · replace hw := hw.1 w9
    refine r_aload_n (j := 0) d_Op_find_60 rfl ?_
    refine r_getI d_Op_find_61 ok_6 (nle rfl) (nle rfl) rfl lf_Op_51 q5 ?_
    obtain ⟨q6, hw⟩ := hw
    exact r_zreturn d_Op_find_64.1 rfl q6 (by have g9 := hQ _ _ hw; rwa [b2i_i q6] at g9)
  · replace hw := hw.2 w9
    refine r_aload_n (j := 0) d_Op_find_48 rfl ?_
    refine r_callV (av := []) (rest := []) (ci := 6) d_Op_find_49 mk_Op_findOrder ll_Op_54 im_Op_findOrder se_Op_findOrder rfl (nle rfl) rfl rfl (nle rfl) q5 (s_Op_findOrder (by omega) hw (fun h7 hw => ?_))
    show aW none m_Op_find (d + 1) 52 [(0, ar v0)] [] h7 0 0 QQ
    refine r_aload_n (j := 0) d_Op_find_52 rfl ?_
    refine r_aload_n (j := 0) d_Op_find_53 rfl ?_
    obtain ⟨q10, hw⟩ := hw
    refine r_callV (av := []) (rest := [ar v0]) (ci := 6) d_Op_find_54 mk_Op_straySorted ll_Op_57 im_Op_straySorted se_Op_straySorted rfl (nle rfl) rfl rfl (nle rfl) q10 (s_Op_straySorted (by omega) hw (fun r9 h8 hw => ?_))
    show aW none m_Op_find (d + 1) 57 [(0, ar v0)] [ai r9, ar v0] h8 0 0 QQ
    obtain ⟨q11, hw⟩ := hw
    refine r_putI d_Op_find_57 ok_6 (nle rfl) (nle rfl) rfl lf_Op_61 rfl q11 ?_
    refine r_aload_n (j := 0) d_Op_find_60 rfl ?_
    refine r_getI d_Op_find_61 ok_6 (nle rfl) (nle rfl) rfl lf_Op_51 (kt eKI q11) ?_
    obtain ⟨q12, hw⟩ := hw
    exact r_zreturn d_Op_find_64.1 rfl q12 (by have g9 := hQ _ _ hw; rwa [b2i_i q12] at g9)
set_option maxRecDepth 100000 in
set_option maxHeartbeats 4000000 in
theorem s_Op_find {d : Nat} (hd : 63 ≤ d) {v0 : Nat} {h : Hp} {Q : Bool → Hp → Prop} {QQ : Option AV → Hp → Prop} (hw : w_Op_find v0 h Q) (hQ : ∀ r9 h9, Q r9 h9 → QQ (some (ai (b2i r9))) h9) : aCall m_Op_find d [ar v0] h 0 0 QQ := by
  obtain ⟨d, rfl⟩ : ∃ d9, d = d9 + 1 := ⟨d - 1, by omega⟩
  refine aCall_in pl_Op_find (nle rfl) ?_
  show aW none m_Op_find (d + 1) 0 [(0, ar v0)] [] h 0 0 QQ
  unfold w_Op_find at hw
  refine r_aload_n (j := 0) d_Op_find_0 rfl ?_
  obtain ⟨q1, hw⟩ := hw
  refine r_getI d_Op_find_1 ok_6 (nle rfl) (nle rfl) rfl lf_Op_35 q1 ?_
  refine r_if_eq d_Op_find_4 (fun w9 => ?_) (fun w9 => ?_)
  · replace hw := hw.1 w9
    exact s_Op_find_B21 hd hQ  hw
  · replace hw := hw.2 w9
    refine r_aload_n (j := 0) d_Op_find_7 rfl ?_
    refine r_getI d_Op_find_8 ok_6 (nle rfl) (nle rfl) rfl lf_Op_39 q1 ?_
    refine r_aload_n (j := 0) d_Op_find_11 rfl ?_
    refine r_getR d_Op_find_12 ok_6 (nle rfl) (nle rfl) rfl lf_Op_27 q1 ?_
    obtain ⟨q13, hw⟩ := hw
    refine r_getI d_Op_find_15 ok_1 (nle rfl) (nle rfl) rfl lf_Op_43 q13 ?_
    refine r_icmp_eq d_Op_find_18 (fun w9 => ?_) (fun w9 => ?_)
    · replace hw := hw.1 w9
      refine r_aload_n (j := 0) d_Op_find_60 rfl ?_
      refine r_getI d_Op_find_61 ok_6 (nle rfl) (nle rfl) rfl lf_Op_51 q1 ?_
      obtain ⟨q14, hw⟩ := hw
      exact r_zreturn d_Op_find_64.1 rfl q14 (by have g9 := hQ _ _ hw; rwa [b2i_i q14] at g9)
    · replace hw := hw.2 w9
      exact s_Op_find_B21 hd hQ  hw
set_option maxRecDepth 100000 in
set_option maxHeartbeats 4000000 in
theorem s_Op_oftenOf {d : Nat} {v0 : Nat} {v1 : Int32} {h : Hp} {Q : Int32 → Hp → Prop} {QQ : Option AV → Hp → Prop} (hw : w_Op_oftenOf v0 v1 h Q) (hQ : ∀ r9 h9, Q r9 h9 → QQ (some (ai r9)) h9) : aCall m_Op_oftenOf d [ar v0, ai v1] h 0 0 QQ := by
  refine aCall_in pl_Op_oftenOf (nle rfl) ?_
  show aW none m_Op_oftenOf d 0 [(0, ar v0), (1, ai v1)] [] h 0 0 QQ
  unfold w_Op_oftenOf at hw
  refine r_aload_n (j := 0) d_Op_oftenOf_0 rfl ?_
  obtain ⟨q1, hw⟩ := hw
  refine r_getR d_Op_oftenOf_1 ok_6 (nle rfl) (nle rfl) rfl lf_Op_9 q1 ?_
  refine r_iload_n (j := 1) d_Op_oftenOf_4 rfl ?_
  obtain ⟨q2, hw⟩ := hw
  obtain ⟨q3, hw⟩ := hw
  refine r_iald d_Op_oftenOf_5 q2 q3 ?_
  exact r_ireturn d_Op_oftenOf_6.1 rfl (hQ _ _ hw)
set_option maxRecDepth 100000 in
set_option maxHeartbeats 4000000 in
theorem s_Op_columnAt {d : Nat} {v0 : Nat} {v1 : Int32} {h : Hp} {Q : Int32 → Hp → Prop} {QQ : Option AV → Hp → Prop} (hw : w_Op_columnAt v0 v1 h Q) (hQ : ∀ r9 h9, Q r9 h9 → QQ (some (ai r9)) h9) : aCall m_Op_columnAt d [ar v0, ai v1] h 0 0 QQ := by
  refine aCall_in pl_Op_columnAt (nle rfl) ?_
  show aW none m_Op_columnAt d 0 [(0, ar v0), (1, ai v1)] [] h 0 0 QQ
  unfold w_Op_columnAt at hw
  refine r_aload_n (j := 0) d_Op_columnAt_0 rfl ?_
  obtain ⟨q1, hw⟩ := hw
  refine r_getR d_Op_columnAt_1 ok_6 (nle rfl) (nle rfl) rfl lf_Op_18 q1 ?_
  refine r_iload_n (j := 1) d_Op_columnAt_4 rfl ?_
  obtain ⟨q2, hw⟩ := hw
  obtain ⟨q3, hw⟩ := hw
  refine r_iald d_Op_columnAt_5 q2 q3 ?_
  exact r_ireturn d_Op_columnAt_6.1 rfl (hQ _ _ hw)
set_option maxRecDepth 100000 in
set_option maxHeartbeats 4000000 in
theorem s_Ps_init {d : Nat} (hd : 1 ≤ d) {v0 : Nat} {bc bs : Nat} {h : Hp} {Q : Hp → Prop} {QQ : Option AV → Hp → Prop} (hw : w_Ps_init bc bs v0 h Q) (hQ : ∀ h9, Q h9 → QQ none h9) : aCall m_Ps_init d [ar v0] h bc bs QQ := by
  obtain ⟨d, rfl⟩ : ∃ d9, d = d9 + 1 := ⟨d - 1, by omega⟩
  refine aCall_in pl_Ps_init (nle rfl) ?_
  show aW none m_Ps_init (d + 1) 0 [(0, ar v0)] [] h bc bs QQ
  unfold w_Ps_init at hw
  refine r_aload_n (j := 0) d_Ps_init_0 rfl ?_
  obtain ⟨q1, hw⟩ := hw
  refine r_objInit d_Ps_init_1 ll_Ps_3 oi_1 oi_2 (nle rfl) q1 ?_
  refine r_aload_n (j := 0) d_Ps_init_4 rfl ?_
  refine r_iconst d_Ps_init_5 kc_3 ?_
  obtain ⟨q2, hw⟩ := hw
  obtain ⟨b3, t4, u8, u9, u6, u7, hw⟩ := hw
  subst u8 u9
  refine r_newI d_Ps_init_6 ac_I u6 rfl u7 (refB_r q2 refB_n) (refL_r q2 refL_n) ?_
  generalize e8 : nw h 20 (ix (3 : Int32)) = h5
  generalize e7 : gX h = a6
  replace hw := hw a6 h5 e7.symm e8.symm
  obtain ⟨q7, hw⟩ := hw
  obtain ⟨q8, hw⟩ := hw
  refine r_putFR d_Ps_init_8 ok_7 (nle rfl) (nle rfl) rfl lf_Ps_9 rfl rfl rfl q7 q8 ?_
  refine r_aload_n (j := 0) d_Ps_init_11 rfl ?_
  refine r_bipush d_Ps_init_12 kb_8 ?_
  obtain ⟨q9, hw⟩ := hw
  obtain ⟨b10, t11, u8, u9, u6, u7, hw⟩ := hw
  subst u8 u9
  refine r_newI d_Ps_init_14 ac_I u6 rfl u7 (refB_r (xt eXR q9) refB_n) (refL_r (xt eXR q9) refL_n) ?_
  generalize e8 : nw (sR h5 v0 0 a6) 20 (ix (8 : Int32)) = h12
  generalize e7 : gX (sR h5 v0 0 a6) = a13
  replace hw := hw a13 h12 e7.symm e8.symm
  obtain ⟨q14, hw⟩ := hw
  obtain ⟨q15, hw⟩ := hw
  refine r_putFR d_Ps_init_16 ok_7 (nle rfl) (nle rfl) rfl lf_Ps_15 rfl rfl rfl q14 q15 ?_
  refine r_aload_n (j := 0) d_Ps_init_19 rfl ?_
  refine r_bipush d_Ps_init_20 kb_8 ?_
  obtain ⟨q16, hw⟩ := hw
  obtain ⟨b17, t18, u8, u9, u6, u7, hw⟩ := hw
  subst u8 u9
  refine r_newI d_Ps_init_22 ac_I u6 rfl u7 (refB_r (xt eXR q16) refB_n) (refL_r (xt eXR q16) refL_n) ?_
  generalize e8 : nw (sR h12 v0 1 a13) 20 (ix (8 : Int32)) = h19
  generalize e7 : gX (sR h12 v0 1 a13) = a20
  replace hw := hw a20 h19 e7.symm e8.symm
  obtain ⟨q21, hw⟩ := hw
  obtain ⟨q22, hw⟩ := hw
  refine r_putFR d_Ps_init_24 ok_7 (nle rfl) (nle rfl) rfl lf_Ps_18 rfl rfl rfl q21 q22 ?_
  refine r_aload_n (j := 0) d_Ps_init_27 rfl ?_
  refine r_bipush d_Ps_init_28 kb_24 ?_
  obtain ⟨q23, hw⟩ := hw
  obtain ⟨b24, t25, u8, u9, u6, u7, hw⟩ := hw
  subst u8 u9
  refine r_newI d_Ps_init_30 ac_I u6 rfl u7 (refB_r (xt eXR q23) refB_n) (refL_r (xt eXR q23) refL_n) ?_
  generalize e8 : nw (sR h19 v0 2 a20) 20 (ix (24 : Int32)) = h26
  generalize e7 : gX (sR h19 v0 2 a20) = a27
  replace hw := hw a27 h26 e7.symm e8.symm
  obtain ⟨q28, hw⟩ := hw
  obtain ⟨q29, hw⟩ := hw
  refine r_putFR d_Ps_init_32 ok_7 (nle rfl) (nle rfl) rfl lf_Ps_21 rfl rfl rfl q28 q29 ?_
  refine r_aload_n (j := 0) d_Ps_init_35 rfl ?_
  refine r_bipush d_Ps_init_36 kb_24 ?_
  obtain ⟨q30, hw⟩ := hw
  obtain ⟨b31, t32, u8, u9, u6, u7, hw⟩ := hw
  subst u8 u9
  refine r_newI d_Ps_init_38 ac_I u6 rfl u7 (refB_r (xt eXR q30) refB_n) (refL_r (xt eXR q30) refL_n) ?_
  generalize e8 : nw (sR h26 v0 3 a27) 20 (ix (24 : Int32)) = h33
  generalize e7 : gX (sR h26 v0 3 a27) = a34
  replace hw := hw a34 h33 e7.symm e8.symm
  obtain ⟨q35, hw⟩ := hw
  obtain ⟨q36, hw⟩ := hw
  refine r_putFR d_Ps_init_40 ok_7 (nle rfl) (nle rfl) rfl lf_Ps_24 rfl rfl rfl q35 q36 ?_
  refine r_aload_n (j := 0) d_Ps_init_43 rfl ?_
  refine r_bipush d_Ps_init_44 kb_24 ?_
  obtain ⟨q37, hw⟩ := hw
  obtain ⟨b38, t39, u8, u9, u6, u7, hw⟩ := hw
  subst u8 u9
  refine r_newI d_Ps_init_46 ac_I u6 rfl u7 (refB_r (xt eXR q37) refB_n) (refL_r (xt eXR q37) refL_n) ?_
  generalize e8 : nw (sR h33 v0 4 a34) 20 (ix (24 : Int32)) = h40
  generalize e7 : gX (sR h33 v0 4 a34) = a41
  replace hw := hw a41 h40 e7.symm e8.symm
  obtain ⟨q42, hw⟩ := hw
  obtain ⟨q43, hw⟩ := hw
  refine r_putFR d_Ps_init_48 ok_7 (nle rfl) (nle rfl) rfl lf_Ps_27 rfl rfl rfl q42 q43 ?_
  exact r_return d_Ps_init_51.1 rfl (hQ _ hw)
set_option maxRecDepth 100000 in
set_option maxHeartbeats 4000000 in
theorem s_Rd_init {d : Nat} (hd : 2 ≤ d) {v0 : Nat} {v1 : Nat} {bc bs : Nat} {h : Hp} {Q : Hp → Prop} {QQ : Option AV → Hp → Prop} (hw : w_Rd_init bc bs v0 v1 h Q) (hQ : ∀ h9, Q h9 → QQ none h9) : aCall m_Rd_init d [ar v0, ar v1] h bc bs QQ := by
  obtain ⟨d, rfl⟩ : ∃ d9, d = d9 + 1 := ⟨d - 1, by omega⟩
  refine aCall_in pl_Rd_init (nle rfl) ?_
  show aW none m_Rd_init (d + 1) 0 [(0, ar v0), (1, ar v1)] [] h bc bs QQ
  unfold w_Rd_init at hw
  refine r_aload_n (j := 0) d_Rd_init_0 rfl ?_
  obtain ⟨q1, hw⟩ := hw
  refine r_objInit d_Rd_init_1 ll_Rd_3 oi_1 oi_2 (nle rfl) q1 ?_
  refine r_aload_n (j := 0) d_Rd_init_4 rfl ?_
  obtain ⟨q2, hw⟩ := hw
  obtain ⟨q3, hw⟩ := hw
  obtain ⟨b4, t5, u8, u9, hw⟩ := hw
  subst u8 u9
  refine r_new d_Rd_init_5 ok_1 (nle rfl) ty_1 lk_Rd_9 in_1 ini_1 (refB_r q2 refB_n) (refL_r q2 (refL_r q3 refL_n)) ?_
  generalize e8 : nw h 1 0 = h6
  generalize e7 : gX h = a7
  replace hw := hw a7 h6 e7.symm e8.symm
  refine r_dup d_Rd_init_8 rfl ?_
  obtain ⟨q9, hw⟩ := hw
  obtain ⟨q10, hw⟩ := hw
  obtain ⟨q11, hw⟩ := hw
  obtain ⟨q16, hw⟩ := hw
  obtain ⟨b12, t13, m14, m15, u8, u9, hw⟩ := hw
  subst u8 u9
  refine r_callI (av := []) (rest := [ar a7, ar v0]) d_Rd_init_9 mk_Co_init ll_Rd_11 im_Co_init rfl rfl rfl rfl (nle rfl) (refB_r q10 (refB_r q9 refB_n)) (refL_r q9 (refL_r q11 refL_n)) q16 (s_Co_init (by omega) hw (fun h8 hv => ?_))
  replace hw := hv
  clear hv
  show aW none m_Rd_init (d + 1) 12 [(0, ar v0), (1, ar v1)] [ar a7, ar v0] h8 b12 t13 QQ
  obtain ⟨q17, hw⟩ := hw
  obtain ⟨q18, hw⟩ := hw
  refine r_putFR d_Rd_init_12 ok_8 (nle rfl) (nle rfl) rfl lf_Rd_12 rfl rfl rfl q17 q18 ?_
  refine r_aload_n (j := 0) d_Rd_init_15 rfl ?_
  refine r_bipush d_Rd_init_16 kb_8 ?_
  obtain ⟨q19, hw⟩ := hw
  obtain ⟨q20, hw⟩ := hw
  obtain ⟨b21, t22, u8, u9, u6, u7, hw⟩ := hw
  subst u8 u9
  refine r_newI d_Rd_init_18 ac_I u6 rfl u7 (refB_r (xt eXR q19) refB_n) (refL_r (xt eXR q19) (refL_r (xt eXR q20) refL_n)) ?_
  generalize e8 : nw (sR h8 v0 1 a7) 20 (ix (8 : Int32)) = h23
  generalize e7 : gX (sR h8 v0 1 a7) = a24
  replace hw := hw a24 h23 e7.symm e8.symm
  obtain ⟨q25, hw⟩ := hw
  obtain ⟨q26, hw⟩ := hw
  refine r_putFR d_Rd_init_20 ok_8 (nle rfl) (nle rfl) rfl lf_Rd_18 rfl rfl rfl q25 q26 ?_
  refine r_aload_n (j := 0) d_Rd_init_23 rfl ?_
  refine r_bipush d_Rd_init_24 kb_8 ?_
  obtain ⟨q27, hw⟩ := hw
  obtain ⟨q28, hw⟩ := hw
  obtain ⟨b29, t30, u8, u9, u6, u7, hw⟩ := hw
  subst u8 u9
  refine r_newI d_Rd_init_26 ac_I u6 rfl u7 (refB_r (xt eXR q27) refB_n) (refL_r (xt eXR q27) (refL_r (xt eXR q28) refL_n)) ?_
  generalize e8 : nw (sR h23 v0 2 a24) 20 (ix (8 : Int32)) = h31
  generalize e7 : gX (sR h23 v0 2 a24) = a32
  replace hw := hw a32 h31 e7.symm e8.symm
  obtain ⟨q33, hw⟩ := hw
  obtain ⟨q34, hw⟩ := hw
  refine r_putFR d_Rd_init_28 ok_8 (nle rfl) (nle rfl) rfl lf_Rd_22 rfl rfl rfl q33 q34 ?_
  refine r_aload_n (j := 0) d_Rd_init_31 rfl ?_
  refine r_iconst d_Rd_init_32 kc_m1 ?_
  refine r_putI d_Rd_init_33 ok_8 (nle rfl) (nle rfl) rfl lf_Rd_25 rfl (kt eKR q33) ?_
  refine r_aload_n (j := 0) d_Rd_init_36 rfl ?_
  refine r_aload_n (j := 1) d_Rd_init_37 rfl ?_
  obtain ⟨q35, hw⟩ := hw
  refine r_putFR d_Rd_init_38 ok_8 (nle rfl) (nle rfl) rfl lf_Rd_29 rfl rfl rfl (kt (eKI.trans eKR) q33) (xt (eXI.trans eXR) q35) ?_
  exact r_return d_Rd_init_41.1 rfl (hQ _ hw)
set_option maxRecDepth 100000 in
set_option maxHeartbeats 4000000 in
theorem s_Rd_fail {d : Nat} {v0 : Nat} {v1 : Int32} {h : Hp} {Q : Bool → Hp → Prop} {QQ : Option AV → Hp → Prop} (hw : w_Rd_fail v0 v1 h Q) (hQ : ∀ r9 h9, Q r9 h9 → QQ (some (ai (b2i r9))) h9) : aCall m_Rd_fail d [ar v0, ai v1] h 0 0 QQ := by
  refine aCall_in pl_Rd_fail (nle rfl) ?_
  show aW none m_Rd_fail d 0 [(0, ar v0), (1, ai v1)] [] h 0 0 QQ
  unfold w_Rd_fail at hw
  refine r_aload_n (j := 0) d_Rd_fail_0 rfl ?_
  refine r_aload_n (j := 0) d_Rd_fail_1 rfl ?_
  obtain ⟨q1, hw⟩ := hw
  refine r_getR d_Rd_fail_2 ok_8 (nle rfl) (nle rfl) rfl lf_Rd_29 q1 ?_
  obtain ⟨q2, hw⟩ := hw
  refine r_getI d_Rd_fail_5 ok_10 (nle rfl) (nle rfl) rfl lf_Rd_51 q2 ?_
  refine r_iconst d_Rd_fail_8 kc_1 ?_
  refine r_icmp_ne d_Rd_fail_9 (fun w9 => ?_) (fun w9 => ?_)
  · replace hw := hw.2 w9
    refine r_iload_n (j := 1) d_Rd_fail_16 rfl ?_
    refine r_putI d_Rd_fail_17 ok_8 (nle rfl) (nle rfl) rfl lf_Rd_43 rfl q1 ?_
    refine r_aload_n (j := 0) d_Rd_fail_20 rfl ?_
    refine r_aload_n (j := 0) d_Rd_fail_21 rfl ?_
    refine r_getRb eRI d_Rd_fail_22 ok_8 (nle rfl) (nle rfl) rfl lf_Rd_29 (kt eKI q1) ?_
    refine r_getI d_Rd_fail_25 ok_10 (nle rfl) (nle rfl) rfl lf_Rd_58 (kt eKI q2) ?_
    refine r_putI d_Rd_fail_28 ok_8 (nle rfl) (nle rfl) rfl lf_Rd_25 rfl (kt eKI q1) ?_
    refine r_iconst d_Rd_fail_31 kc_0 ?_
    exact r_zreturn d_Rd_fail_32.1 rfl (Or.inl rfl) (hQ _ _ hw)
  · replace hw := hw.1 w9
    refine r_iconst d_Rd_fail_12 kc_1 ?_
    refine r_goto d_Rd_fail_13 ?_
    refine r_putI d_Rd_fail_17 ok_8 (nle rfl) (nle rfl) rfl lf_Rd_43 rfl q1 ?_
    refine r_aload_n (j := 0) d_Rd_fail_20 rfl ?_
    refine r_aload_n (j := 0) d_Rd_fail_21 rfl ?_
    refine r_getRb eRI d_Rd_fail_22 ok_8 (nle rfl) (nle rfl) rfl lf_Rd_29 (kt eKI q1) ?_
    refine r_getI d_Rd_fail_25 ok_10 (nle rfl) (nle rfl) rfl lf_Rd_58 (kt eKI q2) ?_
    refine r_putI d_Rd_fail_28 ok_8 (nle rfl) (nle rfl) rfl lf_Rd_25 rfl (kt eKI q1) ?_
    refine r_iconst d_Rd_fail_31 kc_0 ?_
    exact r_zreturn d_Rd_fail_32.1 rfl (Or.inl rfl) (hQ _ _ hw)
