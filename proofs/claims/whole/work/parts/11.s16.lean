set_option maxRecDepth 100000 in
set_option maxHeartbeats 4000000 in
theorem s_M_laysOrder_L60 {d : Nat} (hd : 2 ≤ d + 1) {Q : Hp → Prop} {QQ : Option AV → Hp → Prop} (hQ : ∀ h9, Q h9 → QQ none h9) {v0 : Nat} {v1 : Int32} : ∀ (n : Nat) (v2 : Int32) (h : Hp), w_M_laysOrder_L60 Q  v0 v1 n v2 h → aW none m_M_laysOrder (d + 1) 60 [(0, ar v0), (1, ai v1), (2, ai v2)] [] h 0 0 QQ := by
  intro n
  induction n with
  | zero => intro v2 h hw; exact hw.elim
  | succ n ih =>
    intro v2 h hw
    unfold w_M_laysOrder_L60 at hw
    refine r_iload_n (j := 2) d_M_laysOrder_60 rfl ?_
    refine r_if_lt d_M_laysOrder_61 (fun w9 => ?_) (fun w9 => ?_)
    · replace hw := hw.1 w9
      exact r_return d_M_laysOrder_161.1 rfl (hQ _ hw)
    · replace hw := hw.2 w9
      refine r_iload_n (j := 2) d_M_laysOrder_64 rfl ?_
      refine r_iload_n (j := 1) d_M_laysOrder_65 rfl ?_
      refine r_icmp_ne d_M_laysOrder_66 (fun w9 => ?_) (fun w9 => ?_)
      · replace hw := hw.2 w9
        refine r_ldcw d_M_laysOrder_73 lc_M_346 ?_
        refine r_istore_n (ls2 := [(3, ai (1000000000 : Int32)), (0, ar v0), (1, ai v1), (2, ai v2)]) d_M_laysOrder_76 (nle rfl) rfl ?_
        refine r_iconst d_M_laysOrder_77 kc_0 ?_
        refine r_istore (ls2 := [(4, ai (0 : Int32)), (3, ai (1000000000 : Int32)), (0, ar v0), (1, ai v1), (2, ai v2)]) d_M_laysOrder_78 (nle rfl) rfl ?_
        obtain ⟨n28, hw⟩ := hw
        refine r_pick (ls2 := [(0, ar v0), (1, ai v1), (2, ai v2), (3, ai (1000000000 : Int32)), (4, ai (0 : Int32))]) [2, 3, 4, 1, 0] rfl ?_
        exact s_M_laysOrder_L80 hd hQ ih n28 _ _ _ hw
      · replace hw := hw.1 w9
        refine r_iconst d_M_laysOrder_69 kc_0 ?_
        refine r_goto d_M_laysOrder_70 ?_
        refine r_istore_n (ls2 := [(3, ai (0 : Int32)), (0, ar v0), (1, ai v1), (2, ai v2)]) d_M_laysOrder_76 (nle rfl) rfl ?_
        refine r_iconst d_M_laysOrder_77 kc_0 ?_
        refine r_istore (ls2 := [(4, ai (0 : Int32)), (3, ai (0 : Int32)), (0, ar v0), (1, ai v1), (2, ai v2)]) d_M_laysOrder_78 (nle rfl) rfl ?_
        obtain ⟨n29, hw⟩ := hw
        refine r_pick (ls2 := [(0, ar v0), (1, ai v1), (2, ai v2), (3, ai (0 : Int32)), (4, ai (0 : Int32))]) [2, 3, 4, 1, 0] rfl ?_
        exact s_M_laysOrder_L80 hd hQ ih n29 _ _ _ hw
set_option maxRecDepth 100000 in
set_option maxHeartbeats 4000000 in
theorem s_M_laysOrder_L9 {d : Nat} (hd : 2 ≤ d + 1) {Q : Hp → Prop} {QQ : Option AV → Hp → Prop} (hQ : ∀ h9, Q h9 → QQ none h9) {v0 : Nat} : ∀ (n : Nat) (v1 : Int32) (h : Hp), w_M_laysOrder_L9 Q  v0 n v1 h → aW none m_M_laysOrder (d + 1) 9 [(0, ar v0), (1, ai v1)] [] h 0 0 QQ := by
  intro n
  induction n with
  | zero => intro v1 h hw; exact hw.elim
  | succ n ih =>
    intro v1 h hw
    unfold w_M_laysOrder_L9 at hw
    refine r_iload_n (j := 1) d_M_laysOrder_9 rfl ?_
    refine r_aload_n (j := 0) d_M_laysOrder_10 rfl ?_
    obtain ⟨q4, hw⟩ := hw
    refine r_getI d_M_laysOrder_11 ok_12 (nle rfl) (nle rfl) rfl lf_M_247 q4 ?_
    refine r_icmp_ge d_M_laysOrder_14 (fun w9 => ?_) (fun w9 => ?_)
    · replace hw := hw.1 w9
      refine r_aload_n (j := 0) d_M_laysOrder_46 rfl ?_
      refine r_getR d_M_laysOrder_47 ok_12 (nle rfl) (nle rfl) rfl lf_M_45 q4 ?_
      refine r_aload_n (j := 0) d_M_laysOrder_50 rfl ?_
      refine r_getI d_M_laysOrder_51 ok_12 (nle rfl) (nle rfl) rfl lf_M_247 q4 ?_
      obtain ⟨q5, hw⟩ := hw
      obtain ⟨q6, hw⟩ := hw
      refine r_iald d_M_laysOrder_54 q5 q6 ?_
      refine r_iconst d_M_laysOrder_55 kc_1 ?_
      refine r_isub d_M_laysOrder_56 ?_
      refine r_istore_n (ls2 := [(1, ai ((gI h (gR h v0 31) (ix (gI h v0 18))) - (1 : Int32))), (0, ar v0)]) d_M_laysOrder_57 (nle rfl) rfl ?_
      refine r_iload_n (j := 0) d_M_laysOrder_58 rfl ?_
      refine r_istore_n (ls2 := [(2, ai ((gI h (gR h v0 31) (ix (gI h v0 18))) - (1 : Int32))), (1, ai ((gI h (gR h v0 31) (ix (gI h v0 18))) - (1 : Int32))), (0, ar v0)]) d_M_laysOrder_59 (nle rfl) rfl ?_
      obtain ⟨n30, hw⟩ := hw
      refine r_pick (ls2 := [(0, ar v0), (1, ai ((gI h (gR h v0 31) (ix (gI h v0 18))) - (1 : Int32))), (2, ai ((gI h (gR h v0 31) (ix (gI h v0 18))) - (1 : Int32)))]) [2, 1, 0] rfl ?_
      exact s_M_laysOrder_L60 hd hQ  n30 _ _ hw
    · replace hw := hw.2 w9
      refine r_aload_n (j := 0) d_M_laysOrder_17 rfl ?_
      refine r_getR d_M_laysOrder_18 ok_12 (nle rfl) (nle rfl) rfl lf_M_45 q4 ?_
      refine r_iload_n (j := 1) d_M_laysOrder_21 rfl ?_
      refine r_iconst d_M_laysOrder_22 kc_1 ?_
      refine r_iadd d_M_laysOrder_23 ?_
      refine r_aload_n (j := 0) d_M_laysOrder_24 rfl ?_
      refine r_getR d_M_laysOrder_25 ok_12 (nle rfl) (nle rfl) rfl lf_M_45 q4 ?_
      refine r_iload_n (j := 1) d_M_laysOrder_28 rfl ?_
      obtain ⟨q31, hw⟩ := hw
      obtain ⟨q32, hw⟩ := hw
      refine r_iald d_M_laysOrder_29 q31 q32 ?_
      refine r_aload_n (j := 0) d_M_laysOrder_30 rfl ?_
      refine r_getR d_M_laysOrder_31 ok_12 (nle rfl) (nle rfl) rfl lf_M_39 q4 ?_
      refine r_iload_n (j := 1) d_M_laysOrder_34 rfl ?_
      obtain ⟨q33, hw⟩ := hw
      obtain ⟨q34, hw⟩ := hw
      refine r_iald d_M_laysOrder_35 q33 q34 ?_
      refine r_iconst d_M_laysOrder_36 kc_1 ?_
      refine r_iadd d_M_laysOrder_37 ?_
      refine r_imul d_M_laysOrder_38 ?_
      obtain ⟨q35, hw⟩ := hw
      refine r_iast d_M_laysOrder_39 q31 q35 ?_
      refine r_iinc (j := 1) (ls2 := [(1, ai (v1 + (1 : Int32))), (0, ar v0)]) d_M_laysOrder_40 rfl (congrArg (HAdd.hAdd v1) kc_1) (nle rfl) rfl ?_
      refine r_goto d_M_laysOrder_43 ?_
      refine r_pick (ls2 := [(0, ar v0), (1, ai (v1 + (1 : Int32)))]) [1, 0] rfl ?_
      exact ih _ _ hw
set_option maxRecDepth 100000 in
set_option maxHeartbeats 4000000 in
theorem s_M_laysOrder {d : Nat} (hd : 2 ≤ d) {v0 : Nat} {h : Hp} {Q : Hp → Prop} {QQ : Option AV → Hp → Prop} (hw : w_M_laysOrder v0 h Q) (hQ : ∀ h9, Q h9 → QQ none h9) : aCall m_M_laysOrder d [ar v0] h 0 0 QQ := by
  obtain ⟨d, rfl⟩ : ∃ d9, d = d9 + 1 := ⟨d - 1, by omega⟩
  refine aCall_in pl_M_laysOrder (nle rfl) ?_
  show aW none m_M_laysOrder (d + 1) 0 [(0, ar v0)] [] h 0 0 QQ
  unfold w_M_laysOrder at hw
  refine r_aload_n (j := 0) d_M_laysOrder_0 rfl ?_
  obtain ⟨q1, hw⟩ := hw
  refine r_getR d_M_laysOrder_1 ok_12 (nle rfl) (nle rfl) rfl lf_M_45 q1 ?_
  refine r_iconst d_M_laysOrder_4 kc_0 ?_
  refine r_iconst d_M_laysOrder_5 kc_1 ?_
  obtain ⟨q2, hw⟩ := hw
  obtain ⟨q3, hw⟩ := hw
  refine r_iast d_M_laysOrder_6 q2 q3 ?_
  refine r_iconst d_M_laysOrder_7 kc_0 ?_
  refine r_istore_n (ls2 := [(1, ai (0 : Int32)), (0, ar v0)]) d_M_laysOrder_8 (nle rfl) rfl ?_
  obtain ⟨n36, hw⟩ := hw
  refine r_pick (ls2 := [(0, ar v0), (1, ai (0 : Int32))]) [1, 0] rfl ?_
  exact s_M_laysOrder_L9 hd hQ  n36 _ _ hw
set_option maxRecDepth 100000 in
set_option maxHeartbeats 4000000 in
theorem s_M_order_L42 {d : Nat} (hd : 4 ≤ d + 1) {Q : Int32 → Hp → Prop} {QQ : Option AV → Hp → Prop} (hQ : ∀ r9 h9, Q r9 h9 → QQ (some (ai r9)) h9) {v0 : Nat} {v1 : Int32} {v2 : Int32} {v4 : Int32} {k34 : Int32 → Int32 → Int32 → Hp → Prop} (hk34 : ∀ v2 v3 v4 h9, k34 v2 v3 v4 h9 → aW none m_M_order (d + 1) 34 [(0, ar v0), (1, ai v1), (2, ai v2), (3, ai v3), (4, ai v4)] [] h9 0 0 QQ) : ∀ (n : Nat) (v3 : Int32) (h : Hp), w_M_order_L42 Q k34 v0 v1 v2 v4 n v3 h → aW none m_M_order (d + 1) 42 [(0, ar v0), (1, ai v1), (2, ai v2), (3, ai v3), (4, ai v4)] [] h 0 0 QQ := by
  intro n
  induction n with
  | zero => intro v3 h hw; exact hw.elim
  | succ n ih =>
    intro v3 h hw
    unfold w_M_order_L42 at hw
    refine r_aload_n (j := 0) d_M_order_42 rfl ?_
    refine r_iload_n (j := 2) d_M_order_43 rfl ?_
    refine r_iload_n (j := 3) d_M_order_44 rfl ?_
    obtain ⟨q11, hw⟩ := hw
    refine r_callV (av := [ai v2, ai v3]) (rest := []) (ci := 12) d_M_order_45 mk_M_partOf ll_M_340 im_M_partOf se_M_partOf rfl (nle rfl) rfl rfl (nle rfl) q11 (s_M_partOf  hw (fun r10 h9 hw => ?_))
    show aW none m_M_order (d + 1) 48 [(0, ar v0), (1, ai v1), (2, ai v2), (3, ai v3), (4, ai v4)] [ai r10] h9 0 0 QQ
    refine r_aload_n (j := 0) d_M_order_48 rfl ?_
    obtain ⟨q12, hw⟩ := hw
    refine r_getR d_M_order_49 ok_12 (nle rfl) (nle rfl) rfl lf_M_39 q12 ?_
    refine r_iload_n (j := 3) d_M_order_52 rfl ?_
    obtain ⟨q13, hw⟩ := hw
    obtain ⟨q14, hw⟩ := hw
    refine r_iald d_M_order_53 q13 q14 ?_
    refine r_icmp_eq d_M_order_54 (fun w9 => ?_) (fun w9 => ?_)
    · replace hw := hw.1 w9
      refine r_iinc (j := 3) (ls2 := [(3, ai (v3 + (1 : Int32))), (0, ar v0), (1, ai v1), (2, ai v2), (4, ai v4)]) d_M_order_79 rfl (congrArg (HAdd.hAdd v3) kc_1) (nle rfl) rfl ?_
      refine r_goto d_M_order_82 ?_
      refine r_pick (ls2 := [(0, ar v0), (1, ai v1), (2, ai v2), (3, ai (v3 + (1 : Int32))), (4, ai v4)]) [1, 2, 3, 0, 4] rfl ?_
      exact ih _ _ hw
    · replace hw := hw.2 w9
      refine r_aload_n (j := 0) d_M_order_57 rfl ?_
      refine r_getR d_M_order_58 ok_12 (nle rfl) (nle rfl) rfl lf_M_42 q12 ?_
      refine r_iload_n (j := 2) d_M_order_61 rfl ?_
      refine r_aload_n (j := 0) d_M_order_62 rfl ?_
      refine r_getR d_M_order_63 ok_12 (nle rfl) (nle rfl) rfl lf_M_45 q12 ?_
      refine r_iload_n (j := 3) d_M_order_66 rfl ?_
      obtain ⟨q15, hw⟩ := hw
      obtain ⟨q16, hw⟩ := hw
      refine r_iald d_M_order_67 q15 q16 ?_
      refine r_iadd d_M_order_68 ?_
      obtain ⟨q17, hw⟩ := hw
      obtain ⟨q18, hw⟩ := hw
      refine r_iald d_M_order_69 q17 q18 ?_
      refine r_aload_n (j := 0) d_M_order_70 rfl ?_
      refine r_getR d_M_order_71 ok_12 (nle rfl) (nle rfl) rfl lf_M_42 q12 ?_
      refine r_iconst d_M_order_74 kc_0 ?_
      obtain ⟨q19, hw⟩ := hw
      refine r_iald d_M_order_75 q17 q19 ?_
      refine r_icmp_le d_M_order_76 (fun w9 => ?_) (fun w9 => ?_)
      · replace hw := hw.1 w9
        refine r_iload_n (j := 2) d_M_order_85 rfl ?_
        refine r_aload_n (j := 0) d_M_order_86 rfl ?_
        refine r_getR d_M_order_87 ok_12 (nle rfl) (nle rfl) rfl lf_M_45 q12 ?_
        refine r_iload_n (j := 3) d_M_order_90 rfl ?_
        refine r_iald d_M_order_91 q15 q16 ?_
        refine r_iadd d_M_order_92 ?_
        refine r_istore_n (ls2 := [(2, ai (v2 + (gI h9 (gR h9 v0 31) (ix v3)))), (0, ar v0), (1, ai v1), (3, ai v3), (4, ai v4)]) d_M_order_93 (nle rfl) rfl ?_
        refine r_iinc (j := 4) (ls2 := [(4, ai (v4 + (1 : Int32))), (2, ai (v2 + (gI h9 (gR h9 v0 31) (ix v3)))), (0, ar v0), (1, ai v1), (3, ai v3)]) d_M_order_94 rfl (congrArg (HAdd.hAdd v4) kc_1) (nle rfl) rfl ?_
        refine r_goto d_M_order_97 ?_
        refine r_pick (ls2 := [(0, ar v0), (1, ai v1), (2, ai (v2 + (gI h9 (gR h9 v0 31) (ix v3)))), (3, ai v3), (4, ai (v4 + (1 : Int32)))]) [2, 3, 1, 4, 0] rfl ?_
        exact hk34 _ _ _ _ hw
      · replace hw := hw.2 w9
        refine r_iinc (j := 3) (ls2 := [(3, ai (v3 + (1 : Int32))), (0, ar v0), (1, ai v1), (2, ai v2), (4, ai v4)]) d_M_order_79 rfl (congrArg (HAdd.hAdd v3) kc_1) (nle rfl) rfl ?_
        refine r_goto d_M_order_82 ?_
        refine r_pick (ls2 := [(0, ar v0), (1, ai v1), (2, ai v2), (3, ai (v3 + (1 : Int32))), (4, ai v4)]) [1, 2, 3, 0, 4] rfl ?_
        exact ih _ _ hw
set_option maxRecDepth 100000 in
set_option maxHeartbeats 4000000 in
theorem s_M_order_L34 {d : Nat} (hd : 4 ≤ d + 1) {Q : Int32 → Hp → Prop} {QQ : Option AV → Hp → Prop} (hQ : ∀ r9 h9, Q r9 h9 → QQ (some (ai r9)) h9) {v0 : Nat} {v1 : Int32} : ∀ (n : Nat) (v2 : Int32) (v3 : Int32) (v4 : Int32) (h : Hp), w_M_order_L34 Q  v0 v1 n v2 v3 v4 h → aW none m_M_order (d + 1) 34 [(0, ar v0), (1, ai v1), (2, ai v2), (3, ai v3), (4, ai v4)] [] h 0 0 QQ := by
  intro n
  induction n with
  | zero => intro v2 v3 v4 h hw; exact hw.elim
  | succ n ih =>
    intro v2 v3 v4 h hw
    unfold w_M_order_L34 at hw
    refine r_iload (j := 4) d_M_order_34 rfl ?_
    refine r_iload_n (j := 1) d_M_order_36 rfl ?_
    refine r_icmp_gt d_M_order_37 (fun w9 => ?_) (fun w9 => ?_)
    · replace hw := hw.1 w9
      refine r_iload_n (j := 3) d_M_order_100 rfl ?_
      exact r_ireturn d_M_order_101.1 rfl (hQ _ _ hw)
    · replace hw := hw.2 w9
      refine r_iconst d_M_order_40 kc_0 ?_
      refine r_istore_n (ls2 := [(3, ai (0 : Int32)), (0, ar v0), (1, ai v1), (2, ai v2), (4, ai v4)]) d_M_order_41 (nle rfl) rfl ?_
      obtain ⟨n20, hw⟩ := hw
      refine r_pick (ls2 := [(0, ar v0), (1, ai v1), (2, ai v2), (3, ai (0 : Int32)), (4, ai v4)]) [1, 2, 3, 0, 4] rfl ?_
      exact s_M_order_L42 hd hQ ih n20 _ _ hw
set_option maxRecDepth 100000 in
set_option maxHeartbeats 4000000 in
theorem s_M_order {d : Nat} (hd : 4 ≤ d) {v0 : Nat} {v1 : Int32} {h : Hp} {Q : Int32 → Hp → Prop} {QQ : Option AV → Hp → Prop} (hw : w_M_order v0 v1 h Q) (hQ : ∀ r9 h9, Q r9 h9 → QQ (some (ai r9)) h9) : aCall m_M_order d [ar v0, ai v1] h 0 0 QQ := by
  obtain ⟨d, rfl⟩ : ∃ d9, d = d9 + 1 := ⟨d - 1, by omega⟩
  refine aCall_in pl_M_order (nle rfl) ?_
  show aW none m_M_order (d + 1) 0 [(0, ar v0), (1, ai v1)] [] h 0 0 QQ
  unfold w_M_order at hw
  refine r_aload_n (j := 0) d_M_order_0 rfl ?_
  obtain ⟨q3, hw⟩ := hw
  refine r_callV (av := []) (rest := []) (ci := 12) d_M_order_1 mk_M_laysOptimum ll_M_337 im_M_laysOptimum se_M_laysOptimum rfl (nle rfl) rfl rfl (nle rfl) q3 (s_M_laysOptimum (by omega) hw (fun r2 h1 hw => ?_))
  show aW none m_M_order (d + 1) 4 [(0, ar v0), (1, ai v1)] [ai (b2i r2)] h1 0 0 QQ
  refine r_if_eq d_M_order_4 (fun w9 => ?_) (fun w9 => ?_)
  · replace hw := hw.1 (b2i_0.mp w9)
    refine r_iconst d_M_order_21 kc_m1 ?_
    exact r_ireturn d_M_order_22.1 rfl (hQ _ _ hw)
  · replace hw := hw.2 (fun g9 => w9 (b2i_0.mpr g9))
    refine r_iload_n (j := 1) d_M_order_7 rfl ?_
    refine r_iconst d_M_order_8 kc_0 ?_
    refine r_aload_n (j := 0) d_M_order_9 rfl ?_
    obtain ⟨q4, hw⟩ := hw
    refine r_getI d_M_order_10 ok_12 (nle rfl) (nle rfl) rfl lf_M_328 q4 ?_
    refine r_iconst d_M_order_13 kc_1 ?_
    refine r_isub d_M_order_14 ?_
    refine r_callS (av := [ai v1, ai (0 : Int32), ai ((gI h1 v0 29) - (1 : Int32))]) (rest := []) d_M_order_15 mk_M_isIn ll_M_148 st_M_isIn rfl rfl (nle rfl) (s_M_isIn  hw (fun r6 h5 hw => ?_))
    show aW none m_M_order (d + 1) 18 [(0, ar v0), (1, ai v1)] [ai (b2i r6)] h5 0 0 QQ
    refine r_if_ne d_M_order_18 (fun w9 => ?_) (fun w9 => ?_)
    · replace hw := hw.2 (fun g9 => w9 (b2i_0.mpr g9))
      refine r_aload_n (j := 0) d_M_order_23 rfl ?_
      obtain ⟨q8, hw⟩ := hw
      refine r_callV (av := []) (rest := []) (ci := 12) d_M_order_24 mk_M_laysOrder ll_M_357 im_M_laysOrder se_M_laysOrder rfl (nle rfl) rfl rfl (nle rfl) q8 (s_M_laysOrder (by omega) hw (fun h7 hw => ?_))
      show aW none m_M_order (d + 1) 27 [(0, ar v0), (1, ai v1)] [] h7 0 0 QQ
      refine r_iconst d_M_order_27 kc_0 ?_
      refine r_istore_n (ls2 := [(2, ai (0 : Int32)), (0, ar v0), (1, ai v1)]) d_M_order_28 (nle rfl) rfl ?_
      refine r_iconst d_M_order_29 kc_0 ?_
      refine r_istore_n (ls2 := [(3, ai (0 : Int32)), (2, ai (0 : Int32)), (0, ar v0), (1, ai v1)]) d_M_order_30 (nle rfl) rfl ?_
      refine r_iconst d_M_order_31 kc_0 ?_
      refine r_istore (ls2 := [(4, ai (0 : Int32)), (3, ai (0 : Int32)), (2, ai (0 : Int32)), (0, ar v0), (1, ai v1)]) d_M_order_32 (nle rfl) rfl ?_
      obtain ⟨n21, hw⟩ := hw
      refine r_pick (ls2 := [(0, ar v0), (1, ai v1), (2, ai (0 : Int32)), (3, ai (0 : Int32)), (4, ai (0 : Int32))]) [3, 4, 2, 1, 0] rfl ?_
      exact s_M_order_L34 hd hQ  n21 _ _ _ _ hw
    · replace hw := hw.1 (b2i_0.mp w9)
      refine r_iconst d_M_order_21 kc_m1 ?_
      exact r_ireturn d_M_order_22.1 rfl (hQ _ _ hw)
set_option maxRecDepth 100000 in
set_option maxHeartbeats 4000000 in
theorem s_M_strays {d : Nat} (hd : 4 ≤ d) {v0 : Nat} {h : Hp} {Q : Int32 → Hp → Prop} {QQ : Option AV → Hp → Prop} (hw : w_M_strays v0 h Q) (hQ : ∀ r9 h9, Q r9 h9 → QQ (some (ai r9)) h9) : aCall m_M_strays d [ar v0] h 0 0 QQ := by
  obtain ⟨d, rfl⟩ : ∃ d9, d = d9 + 1 := ⟨d - 1, by omega⟩
  refine aCall_in pl_M_strays (nle rfl) ?_
  show aW none m_M_strays (d + 1) 0 [(0, ar v0)] [] h 0 0 QQ
  unfold w_M_strays at hw
  refine r_aload_n (j := 0) d_M_strays_0 rfl ?_
  obtain ⟨q3, hw⟩ := hw
  refine r_callV (av := []) (rest := []) (ci := 12) d_M_strays_1 mk_M_laysOptimum ll_M_337 im_M_laysOptimum se_M_laysOptimum rfl (nle rfl) rfl rfl (nle rfl) q3 (s_M_laysOptimum (by omega) hw (fun r2 h1 hw => ?_))
  show aW none m_M_strays (d + 1) 4 [(0, ar v0)] [ai (b2i r2)] h1 0 0 QQ
  refine r_if_ne d_M_strays_4 (fun w9 => ?_) (fun w9 => ?_)
  · replace hw := hw.2 (fun g9 => w9 (b2i_0.mpr g9))
    refine r_aload_n (j := 0) d_M_strays_9 rfl ?_
    obtain ⟨q5, hw⟩ := hw
    refine r_callV (av := []) (rest := []) (ci := 12) d_M_strays_10 mk_M_laysOrder ll_M_357 im_M_laysOrder se_M_laysOrder rfl (nle rfl) rfl rfl (nle rfl) q5 (s_M_laysOrder (by omega) hw (fun h4 hw => ?_))
    show aW none m_M_strays (d + 1) 13 [(0, ar v0)] [] h4 0 0 QQ
    refine r_aload_n (j := 0) d_M_strays_13 rfl ?_
    obtain ⟨q6, hw⟩ := hw
    refine r_getR d_M_strays_14 ok_12 (nle rfl) (nle rfl) rfl lf_M_42 q6 ?_
    refine r_iconst d_M_strays_17 kc_0 ?_
    obtain ⟨q7, hw⟩ := hw
    obtain ⟨q8, hw⟩ := hw
    refine r_iald d_M_strays_18 q7 q8 ?_
    exact r_ireturn d_M_strays_19.1 rfl (hQ _ _ hw)
  · replace hw := hw.1 (b2i_0.mp w9)
    refine r_iconst d_M_strays_7 kc_m1 ?_
    exact r_ireturn d_M_strays_8.1 rfl (hQ _ _ hw)
set_option maxRecDepth 100000 in
set_option maxHeartbeats 4000000 in
theorem s_M_noSums_L2 {d : Nat} {Q : Hp → Prop} {QQ : Option AV → Hp → Prop} (hQ : ∀ h9, Q h9 → QQ none h9) {v0 : Nat} : ∀ (n : Nat) (v1 : Int32) (h : Hp), w_M_noSums_L2 Q  v0 n v1 h → aW none m_M_noSums d 2 [(0, ar v0), (1, ai v1)] [] h 0 0 QQ := by
  intro n
  induction n with
  | zero => intro v1 h hw; exact hw.elim
  | succ n ih =>
    intro v1 h hw
    unfold w_M_noSums_L2 at hw
    refine r_iload_n (j := 1) d_M_noSums_2 rfl ?_
    refine r_iconst d_M_noSums_3 kc_3 ?_
    refine r_icmp_ge d_M_noSums_4 (fun w9 => ?_) (fun w9 => ?_)
    · replace hw := hw.1 w9
      exact r_return d_M_noSums_20.1 rfl (hQ _ hw)
    · replace hw := hw.2 w9
      refine r_aload_n (j := 0) d_M_noSums_7 rfl ?_
      obtain ⟨q1, hw⟩ := hw
      refine r_getR d_M_noSums_8 ok_12 (nle rfl) (nle rfl) rfl lf_M_48 q1 ?_
      refine r_iload_n (j := 1) d_M_noSums_11 rfl ?_
      refine r_iconst d_M_noSums_12 kc_0 ?_
      obtain ⟨q2, hw⟩ := hw
      obtain ⟨q3, hw⟩ := hw
      refine r_iast d_M_noSums_13 q2 q3 ?_
      refine r_iinc (j := 1) (ls2 := [(1, ai (v1 + (1 : Int32))), (0, ar v0)]) d_M_noSums_14 rfl (congrArg (HAdd.hAdd v1) kc_1) (nle rfl) rfl ?_
      refine r_goto d_M_noSums_17 ?_
      refine r_pick (ls2 := [(0, ar v0), (1, ai (v1 + (1 : Int32)))]) [1, 0] rfl ?_
      exact ih _ _ hw
set_option maxRecDepth 100000 in
set_option maxHeartbeats 4000000 in
theorem s_M_noSums {d : Nat} {v0 : Nat} {h : Hp} {Q : Hp → Prop} {QQ : Option AV → Hp → Prop} (hw : w_M_noSums v0 h Q) (hQ : ∀ h9, Q h9 → QQ none h9) : aCall m_M_noSums d [ar v0] h 0 0 QQ := by
  refine aCall_in pl_M_noSums (nle rfl) ?_
  show aW none m_M_noSums d 0 [(0, ar v0)] [] h 0 0 QQ
  unfold w_M_noSums at hw
  refine r_iconst d_M_noSums_0 kc_0 ?_
  refine r_istore_n (ls2 := [(1, ai (0 : Int32)), (0, ar v0)]) d_M_noSums_1 (nle rfl) rfl ?_
  obtain ⟨n4, hw⟩ := hw
  refine r_pick (ls2 := [(0, ar v0), (1, ai (0 : Int32))]) [1, 0] rfl ?_
  exact s_M_noSums_L2 hQ  n4 _ _ hw
set_option maxRecDepth 100000 in
set_option maxHeartbeats 4000000 in
theorem s_M_adds_L2 {d : Nat} (hd : 1 ≤ d + 1) {Q : Hp → Prop} {QQ : Option AV → Hp → Prop} (hQ : ∀ h9, Q h9 → QQ none h9) {v0 : Nat} {v1 : Int32} : ∀ (n : Nat) (v2 : Int32) (h : Hp), w_M_adds_L2 Q  v0 v1 n v2 h → aW none m_M_adds (d + 1) 2 [(0, ar v0), (1, ai v1), (2, ai v2)] [] h 0 0 QQ := by
  intro n
  induction n with
  | zero => intro v2 h hw; exact hw.elim
  | succ n ih =>
    intro v2 h hw
    unfold w_M_adds_L2 at hw
    refine r_iload_n (j := 2) d_M_adds_2 rfl ?_
    refine r_aload_n (j := 0) d_M_adds_3 rfl ?_
    obtain ⟨q1, hw⟩ := hw
    refine r_getI d_M_adds_4 ok_12 (nle rfl) (nle rfl) rfl lf_M_244 q1 ?_
    refine r_icmp_ge d_M_adds_7 (fun w9 => ?_) (fun w9 => ?_)
    · replace hw := hw.1 w9
      exact r_return d_M_adds_31.1 rfl (hQ _ hw)
    · replace hw := hw.2 w9
      refine r_aload_n (j := 0) d_M_adds_10 rfl ?_
      refine r_getR d_M_adds_11 ok_12 (nle rfl) (nle rfl) rfl lf_M_48 q1 ?_
      refine r_iload_n (j := 2) d_M_adds_14 rfl ?_
      refine r_dup2 d_M_adds_15 rfl rfl ?_
      obtain ⟨q2, hw⟩ := hw
      obtain ⟨q3, hw⟩ := hw
      refine r_iald d_M_adds_16 q2 q3 ?_
      refine r_aload_n (j := 0) d_M_adds_17 rfl ?_
      refine r_iload_n (j := 1) d_M_adds_18 rfl ?_
      refine r_iload_n (j := 2) d_M_adds_19 rfl ?_
      refine r_callV (av := [ai v1, ai v2]) (rest := [ai (gI h (gR h v0 32) (ix v2)), ai v2, ar (gR h v0 32)]) (ci := 12) d_M_adds_20 mk_M_numberOf ll_M_274 im_M_numberOf se_M_numberOf rfl (nle rfl) rfl rfl (nle rfl) q1 (s_M_numberOf  hw (fun r5 h4 hw => ?_))
      show aW none m_M_adds (d + 1) 23 [(0, ar v0), (1, ai v1), (2, ai v2)] [ai r5, ai (gI h (gR h v0 32) (ix v2)), ai v2, ar (gR h v0 32)] h4 0 0 QQ
      refine r_iadd d_M_adds_23 ?_
      obtain ⟨q6, hw⟩ := hw
      obtain ⟨q7, hw⟩ := hw
      refine r_iast d_M_adds_24 q6 q7 ?_
      refine r_iinc (j := 2) (ls2 := [(2, ai (v2 + (1 : Int32))), (0, ar v0), (1, ai v1)]) d_M_adds_25 rfl (congrArg (HAdd.hAdd v2) kc_1) (nle rfl) rfl ?_
      refine r_goto d_M_adds_28 ?_
      refine r_pick (ls2 := [(0, ar v0), (1, ai v1), (2, ai (v2 + (1 : Int32)))]) [1, 2, 0] rfl ?_
      exact ih _ _ hw
set_option maxRecDepth 100000 in
set_option maxHeartbeats 4000000 in
theorem s_M_adds {d : Nat} (hd : 1 ≤ d) {v0 : Nat} {v1 : Int32} {h : Hp} {Q : Hp → Prop} {QQ : Option AV → Hp → Prop} (hw : w_M_adds v0 v1 h Q) (hQ : ∀ h9, Q h9 → QQ none h9) : aCall m_M_adds d [ar v0, ai v1] h 0 0 QQ := by
  obtain ⟨d, rfl⟩ : ∃ d9, d = d9 + 1 := ⟨d - 1, by omega⟩
  refine aCall_in pl_M_adds (nle rfl) ?_
  show aW none m_M_adds (d + 1) 0 [(0, ar v0), (1, ai v1)] [] h 0 0 QQ
  unfold w_M_adds at hw
  refine r_iconst d_M_adds_0 kc_0 ?_
  refine r_istore_n (ls2 := [(2, ai (0 : Int32)), (0, ar v0), (1, ai v1)]) d_M_adds_1 (nle rfl) rfl ?_
  obtain ⟨n8, hw⟩ := hw
  refine r_pick (ls2 := [(0, ar v0), (1, ai v1), (2, ai (0 : Int32))]) [1, 2, 0] rfl ?_
  exact s_M_adds_L2 hd hQ  n8 _ _ hw
set_option maxRecDepth 100000 in
set_option maxHeartbeats 4000000 in
theorem s_M_strayNow_L5 {d : Nat} (hd : 1 ≤ d + 1) {Q : Int32 → Hp → Prop} {QQ : Option AV → Hp → Prop} (hQ : ∀ r9 h9, Q r9 h9 → QQ (some (ai r9)) h9) {v0 : Nat} {v1 : Int32} {v2 : Int32} : ∀ (n : Nat) (v3 : Int32) (v4 : Int32) (h : Hp), w_M_strayNow_L5 Q  v0 v1 v2 n v3 v4 h → aW none m_M_strayNow (d + 1) 5 [(0, ar v0), (1, ai v1), (2, ai v2), (3, ai v3), (4, ai v4)] [] h 0 0 QQ := by
  intro n
  induction n with
  | zero => intro v3 v4 h hw; exact hw.elim
  | succ n ih =>
    intro v3 v4 h hw
    unfold w_M_strayNow_L5 at hw
    refine r_iload (j := 4) d_M_strayNow_5 rfl ?_
    refine r_aload_n (j := 0) d_M_strayNow_7 rfl ?_
    obtain ⟨q1, hw⟩ := hw
    refine r_getI d_M_strayNow_8 ok_12 (nle rfl) (nle rfl) rfl lf_M_244 q1 ?_
    refine r_icmp_ge d_M_strayNow_11 (fun w9 => ?_) (fun w9 => ?_)
    · replace hw := hw.1 w9
      refine r_iload_n (j := 3) d_M_strayNow_46 rfl ?_
      exact r_ireturn d_M_strayNow_47.1 rfl (hQ _ _ hw)
    · replace hw := hw.2 w9
      refine r_iload_n (j := 3) d_M_strayNow_14 rfl ?_
      refine r_iload_n (j := 2) d_M_strayNow_15 rfl ?_
      refine r_aload_n (j := 0) d_M_strayNow_16 rfl ?_
      refine r_getR d_M_strayNow_17 ok_12 (nle rfl) (nle rfl) rfl lf_M_48 q1 ?_
      refine r_iload (j := 4) d_M_strayNow_20 rfl ?_
      obtain ⟨q2, hw⟩ := hw
      obtain ⟨q3, hw⟩ := hw
      refine r_iald d_M_strayNow_22 q2 q3 ?_
      refine r_imul d_M_strayNow_23 ?_
      refine r_iload_n (j := 1) d_M_strayNow_24 rfl ?_
      refine r_aload_n (j := 0) d_M_strayNow_25 rfl ?_
      refine r_iload (j := 4) d_M_strayNow_26 rfl ?_
      refine r_callV (av := [ai v4]) (rest := [ai v1, ai (v2 * (gI h (gR h v0 32) (ix v4))), ai v3]) (ci := 12) d_M_strayNow_28 mk_M_needOf ll_M_281 im_M_needOf se_M_needOf rfl (nle rfl) rfl rfl (nle rfl) q1 (s_M_needOf  hw (fun r5 h4 hw => ?_))
      show aW none m_M_strayNow (d + 1) 31 [(0, ar v0), (1, ai v1), (2, ai v2), (3, ai v3), (4, ai v4)] [ai r5, ai v1, ai (v2 * (gI h (gR h v0 32) (ix v4))), ai v3] h4 0 0 QQ
      refine r_imul d_M_strayNow_31 ?_
      refine r_isub d_M_strayNow_32 ?_
      refine r_callS (av := [ai ((v2 * (gI h (gR h v0 32) (ix v4))) - (v1 * r5))]) (rest := [ai v3]) d_M_strayNow_33 mk_M_plus ll_M_296 st_M_plus rfl rfl (nle rfl) (s_M_plus  hw (fun r7 h6 hw => ?_))
      show aW none m_M_strayNow (d + 1) 36 [(0, ar v0), (1, ai v1), (2, ai v2), (3, ai v3), (4, ai v4)] [ai r7, ai v3] h6 0 0 QQ
      refine r_callS (av := [ai v3, ai r7]) (rest := []) d_M_strayNow_36 mk_M_greater ll_M_343 st_M_greater rfl rfl (nle rfl) (s_M_greater  hw (fun r9 h8 hw => ?_))
      show aW none m_M_strayNow (d + 1) 39 [(0, ar v0), (1, ai v1), (2, ai v2), (3, ai v3), (4, ai v4)] [ai r9] h8 0 0 QQ
      refine r_istore_n (ls2 := [(3, ai r9), (0, ar v0), (1, ai v1), (2, ai v2), (4, ai v4)]) d_M_strayNow_39 (nle rfl) rfl ?_
      refine r_iinc (j := 4) (ls2 := [(4, ai (v4 + (1 : Int32))), (3, ai r9), (0, ar v0), (1, ai v1), (2, ai v2)]) d_M_strayNow_40 rfl (congrArg (HAdd.hAdd v4) kc_1) (nle rfl) rfl ?_
      refine r_goto d_M_strayNow_43 ?_
      refine r_pick (ls2 := [(0, ar v0), (1, ai v1), (2, ai v2), (3, ai r9), (4, ai (v4 + (1 : Int32)))]) [2, 3, 4, 1, 0] rfl ?_
      exact ih _ _ _ hw
set_option maxRecDepth 100000 in
set_option maxHeartbeats 4000000 in
theorem s_M_strayNow {d : Nat} (hd : 1 ≤ d) {v0 : Nat} {v1 : Int32} {v2 : Int32} {h : Hp} {Q : Int32 → Hp → Prop} {QQ : Option AV → Hp → Prop} (hw : w_M_strayNow v0 v1 v2 h Q) (hQ : ∀ r9 h9, Q r9 h9 → QQ (some (ai r9)) h9) : aCall m_M_strayNow d [ar v0, ai v1, ai v2] h 0 0 QQ := by
  obtain ⟨d, rfl⟩ : ∃ d9, d = d9 + 1 := ⟨d - 1, by omega⟩
  refine aCall_in pl_M_strayNow (nle rfl) ?_
  show aW none m_M_strayNow (d + 1) 0 [(0, ar v0), (1, ai v1), (2, ai v2)] [] h 0 0 QQ
  unfold w_M_strayNow at hw
  refine r_iconst d_M_strayNow_0 kc_0 ?_
  refine r_istore_n (ls2 := [(3, ai (0 : Int32)), (0, ar v0), (1, ai v1), (2, ai v2)]) d_M_strayNow_1 (nle rfl) rfl ?_
  refine r_iconst d_M_strayNow_2 kc_0 ?_
  refine r_istore (ls2 := [(4, ai (0 : Int32)), (3, ai (0 : Int32)), (0, ar v0), (1, ai v1), (2, ai v2)]) d_M_strayNow_3 (nle rfl) rfl ?_
  obtain ⟨n10, hw⟩ := hw
  refine r_pick (ls2 := [(0, ar v0), (1, ai v1), (2, ai v2), (3, ai (0 : Int32)), (4, ai (0 : Int32))]) [2, 3, 4, 1, 0] rfl ?_
  exact s_M_strayNow_L5 hd hQ  n10 _ _ _ hw
set_option maxRecDepth 100000 in
set_option maxHeartbeats 4000000 in
theorem s_M_sorted_L30 {d : Nat} (hd : 4 ≤ d + 1) {Q : Int32 → Hp → Prop} {QQ : Option AV → Hp → Prop} (hQ : ∀ r9 h9, Q r9 h9 → QQ (some (ai r9)) h9) {v0 : Nat} {v3 : Int32} {k19 : Int32 → Int32 → Int32 → Hp → Prop} (hk19 : ∀ v1 v2 v3 h9, k19 v1 v2 v3 h9 → aW none m_M_sorted (d + 1) 19 [(0, ar v0), (1, ai v1), (2, ai v2), (3, ai v3)] [] h9 0 0 QQ) : ∀ (n : Nat) (v1 : Int32) (v2 : Int32) (v4 : Int32) (h : Hp), w_M_sorted_L30 Q k19 v0 v3 n v1 v2 v4 h → aW none m_M_sorted (d + 1) 30 [(0, ar v0), (1, ai v1), (2, ai v2), (3, ai v3), (4, ai v4)] [] h 0 0 QQ := by
  intro n
  induction n with
  | zero => intro v1 v2 v4 h hw; exact hw.elim
  | succ n ih =>
    intro v1 v2 v4 h hw
    unfold w_M_sorted_L30 at hw
    refine r_iload (j := 4) d_M_sorted_30 rfl ?_
    refine r_aload_n (j := 0) d_M_sorted_32 rfl ?_
    obtain ⟨q7, hw⟩ := hw
    refine r_getR d_M_sorted_33 ok_12 (nle rfl) (nle rfl) rfl lf_M_39 q7 ?_
    refine r_iload_n (j := 3) d_M_sorted_36 rfl ?_
    obtain ⟨q8, hw⟩ := hw
    obtain ⟨q9, hw⟩ := hw
    refine r_iald d_M_sorted_37 q8 q9 ?_
    refine r_icmp_ge d_M_sorted_38 (fun w9 => ?_) (fun w9 => ?_)
    · replace hw := hw.1 w9
      refine r_iinc (j := 3) (ls2 := [(3, ai (v3 + (1 : Int32))), (0, ar v0), (1, ai v1), (2, ai v2), (4, ai v4)]) d_M_sorted_69 rfl (congrArg (HAdd.hAdd v3) kc_1) (nle rfl) rfl ?_
      refine r_goto d_M_sorted_72 ?_
      refine r_pick (ls2 := [(0, ar v0), (1, ai v1), (2, ai v2), (3, ai (v3 + (1 : Int32)))]) [1, 2, 3, 0] rfl ?_
      exact hk19 _ _ _ _ hw
    · replace hw := hw.2 w9
      refine r_aload_n (j := 0) d_M_sorted_41 rfl ?_
      refine r_iload_n (j := 3) d_M_sorted_42 rfl ?_
      refine r_callV (av := [ai v3]) (rest := []) (ci := 12) d_M_sorted_43 mk_M_adds ll_M_363 im_M_adds se_M_adds rfl (nle rfl) rfl rfl (nle rfl) q7 (s_M_adds (by omega) hw (fun h10 hw => ?_))
      show aW none m_M_sorted (d + 1) 46 [(0, ar v0), (1, ai v1), (2, ai v2), (3, ai v3), (4, ai v4)] [] h10 0 0 QQ
      refine r_iinc (j := 2) (ls2 := [(2, ai (v2 + (1 : Int32))), (0, ar v0), (1, ai v1), (3, ai v3), (4, ai v4)]) d_M_sorted_46 rfl (congrArg (HAdd.hAdd v2) kc_1) (nle rfl) rfl ?_
      refine r_iload_n (j := 2) d_M_sorted_49 rfl ?_
      refine r_aload_n (j := 1) d_M_sorted_50 rfl ?_
      refine r_iload_n (j := 0) d_M_sorted_51 rfl ?_
      refine r_aload_n (j := 1) d_M_sorted_52 rfl ?_
      obtain ⟨q11, hw⟩ := hw
      refine r_getI d_M_sorted_53 ok_12 (nle rfl) (nle rfl) rfl lf_M_328 q11 ?_
      refine r_callV (av := [ai (v2 + (1 : Int32)), ai (gI h10 v0 29)]) (rest := [ai v1]) (ci := 12) d_M_sorted_56 mk_M_strayNow ll_M_366 im_M_strayNow se_M_strayNow rfl (nle rfl) rfl rfl (nle rfl) q11 (s_M_strayNow (by omega) hw (fun r13 h12 hw => ?_))
      show aW none m_M_sorted (d + 1) 59 [(2, ai (v2 + (1 : Int32))), (0, ar v0), (1, ai v1), (3, ai v3), (4, ai v4)] [ai r13, ai v1] h12 0 0 QQ
      refine r_callS (av := [ai v1, ai r13]) (rest := []) d_M_sorted_59 mk_M_greater ll_M_343 st_M_greater rfl rfl (nle rfl) (s_M_greater  hw (fun r15 h14 hw => ?_))
      show aW none m_M_sorted (d + 1) 62 [(2, ai (v2 + (1 : Int32))), (0, ar v0), (1, ai v1), (3, ai v3), (4, ai v4)] [ai r15] h14 0 0 QQ
      refine r_istore_n (ls2 := [(1, ai r15), (2, ai (v2 + (1 : Int32))), (0, ar v0), (3, ai v3), (4, ai v4)]) d_M_sorted_62 (nle rfl) rfl ?_
      refine r_iinc (j := 4) (ls2 := [(4, ai (v4 + (1 : Int32))), (1, ai r15), (2, ai (v2 + (1 : Int32))), (0, ar v0), (3, ai v3)]) d_M_sorted_63 rfl (congrArg (HAdd.hAdd v4) kc_1) (nle rfl) rfl ?_
      refine r_goto d_M_sorted_66 ?_
      refine r_pick (ls2 := [(0, ar v0), (1, ai r15), (2, ai (v2 + (1 : Int32))), (3, ai v3), (4, ai (v4 + (1 : Int32)))]) [3, 1, 2, 4, 0] rfl ?_
      exact ih _ _ _ _ hw
set_option maxRecDepth 100000 in
set_option maxHeartbeats 4000000 in
theorem s_M_sorted_L19 {d : Nat} (hd : 4 ≤ d + 1) {Q : Int32 → Hp → Prop} {QQ : Option AV → Hp → Prop} (hQ : ∀ r9 h9, Q r9 h9 → QQ (some (ai r9)) h9) {v0 : Nat} : ∀ (n : Nat) (v1 : Int32) (v2 : Int32) (v3 : Int32) (h : Hp), w_M_sorted_L19 Q  v0 n v1 v2 v3 h → aW none m_M_sorted (d + 1) 19 [(0, ar v0), (1, ai v1), (2, ai v2), (3, ai v3)] [] h 0 0 QQ := by
  intro n
  induction n with
  | zero => intro v1 v2 v3 h hw; exact hw.elim
  | succ n ih =>
    intro v1 v2 v3 h hw
    unfold w_M_sorted_L19 at hw
    refine r_iload_n (j := 3) d_M_sorted_19 rfl ?_
    refine r_aload_n (j := 0) d_M_sorted_20 rfl ?_
    obtain ⟨q6, hw⟩ := hw
    refine r_getI d_M_sorted_21 ok_12 (nle rfl) (nle rfl) rfl lf_M_247 q6 ?_
    refine r_icmp_ge d_M_sorted_24 (fun w9 => ?_) (fun w9 => ?_)
    · replace hw := hw.1 w9
      refine r_iload_n (j := 1) d_M_sorted_75 rfl ?_
      exact r_ireturn d_M_sorted_76.1 rfl (hQ _ _ hw)
    · replace hw := hw.2 w9
      refine r_iconst d_M_sorted_27 kc_0 ?_
      refine r_istore (ls2 := [(4, ai (0 : Int32)), (0, ar v0), (1, ai v1), (2, ai v2), (3, ai v3)]) d_M_sorted_28 (nle rfl) rfl ?_
      obtain ⟨n16, hw⟩ := hw
      refine r_pick (ls2 := [(0, ar v0), (1, ai v1), (2, ai v2), (3, ai v3), (4, ai (0 : Int32))]) [1, 2, 3, 4, 0] rfl ?_
      exact s_M_sorted_L30 hd hQ ih n16 _ _ _ _ hw
set_option maxRecDepth 100000 in
set_option maxHeartbeats 4000000 in
theorem s_M_sorted {d : Nat} (hd : 4 ≤ d) {v0 : Nat} {h : Hp} {Q : Int32 → Hp → Prop} {QQ : Option AV → Hp → Prop} (hw : w_M_sorted v0 h Q) (hQ : ∀ r9 h9, Q r9 h9 → QQ (some (ai r9)) h9) : aCall m_M_sorted d [ar v0] h 0 0 QQ := by
  obtain ⟨d, rfl⟩ : ∃ d9, d = d9 + 1 := ⟨d - 1, by omega⟩
  refine aCall_in pl_M_sorted (nle rfl) ?_
  show aW none m_M_sorted (d + 1) 0 [(0, ar v0)] [] h 0 0 QQ
  unfold w_M_sorted at hw
  refine r_aload_n (j := 0) d_M_sorted_0 rfl ?_
  obtain ⟨q3, hw⟩ := hw
  refine r_callV (av := []) (rest := []) (ci := 12) d_M_sorted_1 mk_M_laysOptimum ll_M_337 im_M_laysOptimum se_M_laysOptimum rfl (nle rfl) rfl rfl (nle rfl) q3 (s_M_laysOptimum (by omega) hw (fun r2 h1 hw => ?_))
  show aW none m_M_sorted (d + 1) 4 [(0, ar v0)] [ai (b2i r2)] h1 0 0 QQ
  refine r_if_ne d_M_sorted_4 (fun w9 => ?_) (fun w9 => ?_)
  · replace hw := hw.2 (fun g9 => w9 (b2i_0.mpr g9))
    refine r_aload_n (j := 0) d_M_sorted_9 rfl ?_
    obtain ⟨q5, hw⟩ := hw
    refine r_callV (av := []) (rest := []) (ci := 12) d_M_sorted_10 mk_M_noSums ll_M_360 im_M_noSums se_M_noSums rfl (nle rfl) rfl rfl (nle rfl) q5 (s_M_noSums  hw (fun h4 hw => ?_))
    show aW none m_M_sorted (d + 1) 13 [(0, ar v0)] [] h4 0 0 QQ
    refine r_iconst d_M_sorted_13 kc_0 ?_
    refine r_istore_n (ls2 := [(1, ai (0 : Int32)), (0, ar v0)]) d_M_sorted_14 (nle rfl) rfl ?_
    refine r_iconst d_M_sorted_15 kc_0 ?_
    refine r_istore_n (ls2 := [(2, ai (0 : Int32)), (1, ai (0 : Int32)), (0, ar v0)]) d_M_sorted_16 (nle rfl) rfl ?_
    refine r_iconst d_M_sorted_17 kc_0 ?_
    refine r_istore_n (ls2 := [(3, ai (0 : Int32)), (2, ai (0 : Int32)), (1, ai (0 : Int32)), (0, ar v0)]) d_M_sorted_18 (nle rfl) rfl ?_
    obtain ⟨n17, hw⟩ := hw
    refine r_pick (ls2 := [(0, ar v0), (1, ai (0 : Int32)), (2, ai (0 : Int32)), (3, ai (0 : Int32))]) [3, 2, 1, 0] rfl ?_
    exact s_M_sorted_L19 hd hQ  n17 _ _ _ _ hw
  · replace hw := hw.1 (b2i_0.mp w9)
    refine r_iconst d_M_sorted_7 kc_m1 ?_
    exact r_ireturn d_M_sorted_8.1 rfl (hQ _ _ hw)
set_option maxRecDepth 100000 in
set_option maxHeartbeats 4000000 in
theorem s_M_keyNow {d : Nat} {v0 : Nat} {h : Hp} {Q : Int32 → Hp → Prop} {QQ : Option AV → Hp → Prop} (hw : w_M_keyNow v0 h Q) (hQ : ∀ r9 h9, Q r9 h9 → QQ (some (ai r9)) h9) : aCall m_M_keyNow d [ar v0] h 0 0 QQ := by
  refine aCall_in pl_M_keyNow (nle rfl) ?_
  show aW none m_M_keyNow d 0 [(0, ar v0)] [] h 0 0 QQ
  unfold w_M_keyNow at hw
  refine r_aload_n (j := 0) d_M_keyNow_0 rfl ?_
  obtain ⟨q1, hw⟩ := hw
  refine r_getR d_M_keyNow_1 ok_12 (nle rfl) (nle rfl) rfl lf_M_48 q1 ?_
  refine r_iconst d_M_keyNow_4 kc_0 ?_
  obtain ⟨q2, hw⟩ := hw
  obtain ⟨q3, hw⟩ := hw
  refine r_iald d_M_keyNow_5 q2 q3 ?_
  refine r_bipush d_M_keyNow_6 kb_60 ?_
  refine r_iadd d_M_keyNow_8 ?_
  refine r_bipush d_M_keyNow_9 kb_121 ?_
  refine r_imul d_M_keyNow_11 ?_
  refine r_aload_n (j := 0) d_M_keyNow_12 rfl ?_
  refine r_getR d_M_keyNow_13 ok_12 (nle rfl) (nle rfl) rfl lf_M_48 q1 ?_
  refine r_iconst d_M_keyNow_16 kc_1 ?_
  obtain ⟨q4, hw⟩ := hw
  refine r_iald d_M_keyNow_17 q2 q4 ?_
  refine r_iadd d_M_keyNow_18 ?_
  refine r_bipush d_M_keyNow_19 kb_60 ?_
  refine r_iadd d_M_keyNow_21 ?_
  refine r_bipush d_M_keyNow_22 kb_121 ?_
  refine r_imul d_M_keyNow_24 ?_
  refine r_aload_n (j := 0) d_M_keyNow_25 rfl ?_
  refine r_getR d_M_keyNow_26 ok_12 (nle rfl) (nle rfl) rfl lf_M_48 q1 ?_
  refine r_iconst d_M_keyNow_29 kc_2 ?_
  obtain ⟨q5, hw⟩ := hw
  refine r_iald d_M_keyNow_30 q2 q5 ?_
  refine r_iadd d_M_keyNow_31 ?_
  refine r_bipush d_M_keyNow_32 kb_60 ?_
  refine r_iadd d_M_keyNow_34 ?_
  exact r_ireturn d_M_keyNow_35.1 rfl (hQ _ _ hw)
set_option maxRecDepth 100000 in
set_option maxHeartbeats 4000000 in
theorem s_M_unpacks {d : Nat} {v0 : Nat} {v1 : Int32} {h : Hp} {Q : Hp → Prop} {QQ : Option AV → Hp → Prop} (hw : w_M_unpacks v0 v1 h Q) (hQ : ∀ h9, Q h9 → QQ none h9) : aCall m_M_unpacks d [ar v0, ai v1] h 0 0 QQ := by
  refine aCall_in pl_M_unpacks (nle rfl) ?_
  show aW none m_M_unpacks d 0 [(0, ar v0), (1, ai v1)] [] h 0 0 QQ
  unfold w_M_unpacks at hw
  refine r_aload_n (j := 0) d_M_unpacks_0 rfl ?_
  obtain ⟨q1, hw⟩ := hw
  refine r_getR d_M_unpacks_1 ok_12 (nle rfl) (nle rfl) rfl lf_M_48 q1 ?_
  refine r_iconst d_M_unpacks_4 kc_2 ?_
  refine r_iload_n (j := 1) d_M_unpacks_5 rfl ?_
  refine r_bipush d_M_unpacks_6 kb_121 ?_
  refine r_irem d_M_unpacks_8 (by decide) ?_
  refine r_bipush d_M_unpacks_9 kb_60 ?_
  refine r_isub d_M_unpacks_11 ?_
  obtain ⟨q2, hw⟩ := hw
  obtain ⟨q3, hw⟩ := hw
  refine r_iast d_M_unpacks_12 q2 q3 ?_
  refine r_aload_n (j := 0) d_M_unpacks_13 rfl ?_
  refine r_getRb eRI d_M_unpacks_14 ok_12 (nle rfl) (nle rfl) rfl lf_M_48 (kt eKI q1) ?_
  refine r_iconst d_M_unpacks_17 kc_1 ?_
  refine r_iload_n (j := 1) d_M_unpacks_18 rfl ?_
  refine r_bipush d_M_unpacks_19 kb_121 ?_
  refine r_idiv d_M_unpacks_21 (by decide) ?_
  refine r_bipush d_M_unpacks_22 kb_121 ?_
  refine r_irem d_M_unpacks_24 (by decide) ?_
  refine r_bipush d_M_unpacks_25 kb_60 ?_
  refine r_isub d_M_unpacks_27 ?_
  obtain ⟨q4, hw⟩ := hw
  refine r_iast d_M_unpacks_28 (kt eKI q2) (nt eNI q4) ?_
  refine r_aload_n (j := 0) d_M_unpacks_29 rfl ?_
  refine r_getRb (eRI.trans eRI) d_M_unpacks_30 ok_12 (nle rfl) (nle rfl) rfl lf_M_48 (kt (eKI.trans eKI) q1) ?_
  refine r_iconst d_M_unpacks_33 kc_0 ?_
  refine r_iload_n (j := 1) d_M_unpacks_34 rfl ?_
  refine r_bipush d_M_unpacks_35 kb_121 ?_
  refine r_idiv d_M_unpacks_37 (by decide) ?_
  refine r_bipush d_M_unpacks_38 kb_121 ?_
  refine r_idiv d_M_unpacks_40 (by decide) ?_
  refine r_bipush d_M_unpacks_41 kb_60 ?_
  refine r_isub d_M_unpacks_43 ?_
  obtain ⟨q5, hw⟩ := hw
  refine r_iast d_M_unpacks_44 (kt (eKI.trans eKI) q2) (nt (eNI.trans eNI) q5) ?_
  exact r_return d_M_unpacks_45.1 rfl (hQ _ hw)
set_option maxRecDepth 100000 in
set_option maxHeartbeats 4000000 in
theorem s_M_slotOf_L19 {d : Nat} (hd : 1 ≤ d + 1) {Q : Int32 → Hp → Prop} {QQ : Option AV → Hp → Prop} (hQ : ∀ r9 h9, Q r9 h9 → QQ (some (ai r9)) h9) {v0 : Nat} {v1 : Int32} {v2 : Int32} : ∀ (n : Nat) (v3 : Int32) (h : Hp), w_M_slotOf_L19 Q  v0 v1 v2 n v3 h → aW none m_M_slotOf (d + 1) 19 [(0, ar v0), (1, ai v1), (2, ai v2), (3, ai v3)] [] h 0 0 QQ := by
  intro n
  induction n with
  | zero => intro v3 h hw; exact hw.elim
  | succ n ih =>
    intro v3 h hw
    unfold w_M_slotOf_L19 at hw
    refine r_aload_n (j := 0) d_M_slotOf_19 rfl ?_
    obtain ⟨q1, hw⟩ := hw
    refine r_getR d_M_slotOf_20 ok_12 (nle rfl) (nle rfl) rfl lf_M_62 q1 ?_
    refine r_iload_n (j := 3) d_M_slotOf_23 rfl ?_
    obtain ⟨q2, hw⟩ := hw
    obtain ⟨q3, hw⟩ := hw
    refine r_iald d_M_slotOf_24 q2 q3 ?_
    refine r_if_eq d_M_slotOf_25 (fun w9 => ?_) (fun w9 => ?_)
    · replace hw := hw.1 w9
      refine r_iload_n (j := 3) d_M_slotOf_86 rfl ?_
      exact r_ireturn d_M_slotOf_87.1 rfl (hQ _ _ hw)
    · replace hw := hw.2 w9
      refine r_aload_n (j := 0) d_M_slotOf_28 rfl ?_
      refine r_getR d_M_slotOf_29 ok_12 (nle rfl) (nle rfl) rfl lf_M_52 q1 ?_
      refine r_aload_n (j := 0) d_M_slotOf_32 rfl ?_
      refine r_getR d_M_slotOf_33 ok_12 (nle rfl) (nle rfl) rfl lf_M_62 q1 ?_
      refine r_iload_n (j := 3) d_M_slotOf_36 rfl ?_
      refine r_iald d_M_slotOf_37 q2 q3 ?_
      refine r_iconst d_M_slotOf_38 kc_1 ?_
      refine r_isub d_M_slotOf_39 ?_
      obtain ⟨q4, hw⟩ := hw
      obtain ⟨q5, hw⟩ := hw
      refine r_iald d_M_slotOf_40 q4 q5 ?_
      refine r_iload_n (j := 2) d_M_slotOf_41 rfl ?_
      refine r_icmp_ne d_M_slotOf_42 (fun w9 => ?_) (fun w9 => ?_)
      · replace hw := hw.2 w9
        refine r_iload_n (j := 3) d_M_slotOf_75 rfl ?_
        refine r_iconst d_M_slotOf_76 kc_1 ?_
        refine r_iadd d_M_slotOf_77 ?_
        refine r_ldcw d_M_slotOf_78 lc_M_370 ?_
        refine r_iand d_M_slotOf_81 ?_
        refine r_istore_n (ls2 := [(3, ai ((v3 + (1 : Int32)) &&& (262143 : Int32))), (0, ar v0), (1, ai v1), (2, ai v2)]) d_M_slotOf_82 (nle rfl) rfl ?_
        refine r_goto d_M_slotOf_83 ?_
        refine r_pick (ls2 := [(0, ar v0), (1, ai v1), (2, ai v2), (3, ai ((v3 + (1 : Int32)) &&& (262143 : Int32)))]) [1, 2, 3, 0] rfl ?_
        exact ih _ _ hw
      · replace hw := hw.1 w9
        refine r_aload_n (j := 0) d_M_slotOf_45 rfl ?_
        refine r_getR d_M_slotOf_46 ok_12 (nle rfl) (nle rfl) rfl lf_M_62 q1 ?_
        refine r_iload_n (j := 3) d_M_slotOf_49 rfl ?_
        refine r_iald d_M_slotOf_50 q2 q3 ?_
        refine r_iconst d_M_slotOf_51 kc_1 ?_
        refine r_isub d_M_slotOf_52 ?_
        refine r_aload_n (j := 0) d_M_slotOf_53 rfl ?_
        refine r_getR d_M_slotOf_54 ok_12 (nle rfl) (nle rfl) rfl lf_M_58 q1 ?_
        refine r_iload_n (j := 1) d_M_slotOf_57 rfl ?_
        obtain ⟨q6, hw⟩ := hw
        obtain ⟨q7, hw⟩ := hw
        refine r_iald d_M_slotOf_58 q6 q7 ?_
        refine r_aload_n (j := 0) d_M_slotOf_59 rfl ?_
        refine r_getR d_M_slotOf_60 ok_12 (nle rfl) (nle rfl) rfl lf_M_58 q1 ?_
        refine r_iload_n (j := 1) d_M_slotOf_63 rfl ?_
        refine r_iconst d_M_slotOf_64 kc_1 ?_
        refine r_iadd d_M_slotOf_65 ?_
        obtain ⟨q8, hw⟩ := hw
        refine r_iald d_M_slotOf_66 q6 q8 ?_
        refine r_iconst d_M_slotOf_67 kc_1 ?_
        refine r_isub d_M_slotOf_68 ?_
        refine r_callS (av := [ai ((gI h (gR h v0 36) (ix v3)) - (1 : Int32)), ai (gI h (gR h v0 35) (ix v1)), ai ((gI h (gR h v0 35) (ix (v1 + (1 : Int32)))) - (1 : Int32))]) (rest := []) d_M_slotOf_69 mk_M_isIn ll_M_148 st_M_isIn rfl rfl (nle rfl) (s_M_isIn  hw (fun r10 h9 hw => ?_))
        show aW none m_M_slotOf (d + 1) 72 [(0, ar v0), (1, ai v1), (2, ai v2), (3, ai v3)] [ai (b2i r10)] h9 0 0 QQ
        refine r_if_ne d_M_slotOf_72 (fun w9 => ?_) (fun w9 => ?_)
        · replace hw := hw.2 (fun g9 => w9 (b2i_0.mpr g9))
          refine r_iload_n (j := 3) d_M_slotOf_86 rfl ?_
          exact r_ireturn d_M_slotOf_87.1 rfl (hQ _ _ hw)
        · replace hw := hw.1 (b2i_0.mp w9)
          refine r_iload_n (j := 3) d_M_slotOf_75 rfl ?_
          refine r_iconst d_M_slotOf_76 kc_1 ?_
          refine r_iadd d_M_slotOf_77 ?_
          refine r_ldcw d_M_slotOf_78 lc_M_370 ?_
          refine r_iand d_M_slotOf_81 ?_
          refine r_istore_n (ls2 := [(3, ai ((v3 + (1 : Int32)) &&& (262143 : Int32))), (0, ar v0), (1, ai v1), (2, ai v2)]) d_M_slotOf_82 (nle rfl) rfl ?_
          refine r_goto d_M_slotOf_83 ?_
          refine r_pick (ls2 := [(0, ar v0), (1, ai v1), (2, ai v2), (3, ai ((v3 + (1 : Int32)) &&& (262143 : Int32)))]) [1, 2, 3, 0] rfl ?_
          exact ih _ _ hw
set_option maxRecDepth 100000 in
set_option maxHeartbeats 4000000 in
theorem s_M_slotOf {d : Nat} (hd : 1 ≤ d) {v0 : Nat} {v1 : Int32} {v2 : Int32} {h : Hp} {Q : Int32 → Hp → Prop} {QQ : Option AV → Hp → Prop} (hw : w_M_slotOf v0 v1 v2 h Q) (hQ : ∀ r9 h9, Q r9 h9 → QQ (some (ai r9)) h9) : aCall m_M_slotOf d [ar v0, ai v1, ai v2] h 0 0 QQ := by
  obtain ⟨d, rfl⟩ : ∃ d9, d = d9 + 1 := ⟨d - 1, by omega⟩
  refine aCall_in pl_M_slotOf (nle rfl) ?_
  show aW none m_M_slotOf (d + 1) 0 [(0, ar v0), (1, ai v1), (2, ai v2)] [] h 0 0 QQ
  unfold w_M_slotOf at hw
  refine r_iload_n (j := 2) d_M_slotOf_0 rfl ?_
  refine r_bipush d_M_slotOf_1 kb_31 ?_
  refine r_imul d_M_slotOf_3 ?_
  refine r_iload_n (j := 1) d_M_slotOf_4 rfl ?_
  refine r_sipush d_M_slotOf_5 ks_7919 ?_
  refine r_imul d_M_slotOf_8 ?_
  refine r_iadd d_M_slotOf_9 ?_
  refine r_ldcw d_M_slotOf_10 lc_M_369 ?_
  refine r_imul d_M_slotOf_13 ?_
  refine r_ldcw d_M_slotOf_14 lc_M_370 ?_
  refine r_iand d_M_slotOf_17 ?_
  refine r_istore_n (ls2 := [(3, ai ((((v2 * (31 : Int32)) + (v1 * (7919 : Int32))) * (40503 : Int32)) &&& (262143 : Int32))), (0, ar v0), (1, ai v1), (2, ai v2)]) d_M_slotOf_18 (nle rfl) rfl ?_
  obtain ⟨n11, hw⟩ := hw
  refine r_pick (ls2 := [(0, ar v0), (1, ai v1), (2, ai v2), (3, ai ((((v2 * (31 : Int32)) + (v1 * (7919 : Int32))) * (40503 : Int32)) &&& (262143 : Int32)))]) [1, 2, 3, 0] rfl ?_
  exact s_M_slotOf_L19 hd hQ  n11 _ _ hw
set_option maxRecDepth 100000 in
set_option maxHeartbeats 4000000 in
theorem s_M_comes {d : Nat} (hd : 2 ≤ d) {v0 : Nat} {v1 : Int32} {h : Hp} {Q : Hp → Prop} {QQ : Option AV → Hp → Prop} (hw : w_M_comes v0 v1 h Q) (hQ : ∀ h9, Q h9 → QQ none h9) : aCall m_M_comes d [ar v0, ai v1] h 0 0 QQ := by
  obtain ⟨d, rfl⟩ : ∃ d9, d = d9 + 1 := ⟨d - 1, by omega⟩
  refine aCall_in pl_M_comes (nle rfl) ?_
  show aW none m_M_comes (d + 1) 0 [(0, ar v0), (1, ai v1)] [] h 0 0 QQ
  unfold w_M_comes at hw
  refine r_aload_n (j := 0) d_M_comes_0 rfl ?_
  obtain ⟨q3, hw⟩ := hw
  refine r_callV (av := []) (rest := []) (ci := 12) d_M_comes_1 mk_M_keyNow ll_M_371 im_M_keyNow se_M_keyNow rfl (nle rfl) rfl rfl (nle rfl) q3 (s_M_keyNow  hw (fun r2 h1 hw => ?_))
  show aW none m_M_comes (d + 1) 4 [(0, ar v0), (1, ai v1)] [ai r2] h1 0 0 QQ
  refine r_istore_n (ls2 := [(2, ai r2), (0, ar v0), (1, ai v1)]) d_M_comes_4 (nle rfl) rfl ?_
  refine r_aload_n (j := 1) d_M_comes_5 rfl ?_
  refine r_iload_n (j := 2) d_M_comes_6 rfl ?_
  refine r_iload_n (j := 0) d_M_comes_7 rfl ?_
  obtain ⟨q6, hw⟩ := hw
  refine r_callV (av := [ai v1, ai r2]) (rest := []) (ci := 12) d_M_comes_8 mk_M_slotOf ll_M_374 im_M_slotOf se_M_slotOf rfl (nle rfl) rfl rfl (nle rfl) q6 (s_M_slotOf (by omega) hw (fun r5 h4 hw => ?_))
  show aW none m_M_comes (d + 1) 11 [(2, ai r2), (0, ar v0), (1, ai v1)] [ai r5] h4 0 0 QQ
  refine r_istore_n (ls2 := [(3, ai r5), (2, ai r2), (0, ar v0), (1, ai v1)]) d_M_comes_11 (nle rfl) rfl ?_
  refine r_aload_n (j := 2) d_M_comes_12 rfl ?_
  obtain ⟨q7, hw⟩ := hw
  refine r_getR d_M_comes_13 ok_12 (nle rfl) (nle rfl) rfl lf_M_62 q7 ?_
  refine r_iload_n (j := 0) d_M_comes_16 rfl ?_
  obtain ⟨q8, hw⟩ := hw
  obtain ⟨q9, hw⟩ := hw
  refine r_iald d_M_comes_17 q8 q9 ?_
  refine r_if_eq d_M_comes_18 (fun w9 => ?_) (fun w9 => ?_)
  · replace hw := hw.1 w9
    refine r_aload_n (j := 2) d_M_comes_22 rfl ?_
    refine r_getR d_M_comes_23 ok_12 (nle rfl) (nle rfl) rfl lf_M_52 q7 ?_
    refine r_aload_n (j := 2) d_M_comes_26 rfl ?_
    refine r_getI d_M_comes_27 ok_12 (nle rfl) (nle rfl) rfl lf_M_377 q7 ?_
    refine r_iload_n (j := 1) d_M_comes_30 rfl ?_
    obtain ⟨q10, hw⟩ := hw
    obtain ⟨q11, hw⟩ := hw
    refine r_iast d_M_comes_31 q10 q11 ?_
    refine r_aload_n (j := 2) d_M_comes_32 rfl ?_
    refine r_dup d_M_comes_33 rfl ?_
    refine r_getI d_M_comes_34 ok_12 (nle rfl) (nle rfl) rfl lf_M_377 (kt eKI q7) ?_
    refine r_iconst d_M_comes_37 kc_1 ?_
    refine r_iadd d_M_comes_38 ?_
    refine r_putI d_M_comes_39 ok_12 (nle rfl) (nle rfl) rfl lf_M_377 rfl (kt eKI q7) ?_
    refine r_aload_n (j := 2) d_M_comes_42 rfl ?_
    refine r_getRb (eRI.trans eRI) d_M_comes_43 ok_12 (nle rfl) (nle rfl) rfl lf_M_62 (kt (eKI.trans eKI) q7) ?_
    refine r_iload_n (j := 0) d_M_comes_46 rfl ?_
    refine r_aload_n (j := 2) d_M_comes_47 rfl ?_
    refine r_getI d_M_comes_48 ok_12 (nle rfl) (nle rfl) rfl lf_M_377 (kt (eKI.trans eKI) q7) ?_
    refine r_iast d_M_comes_51 (kt (eKI.trans eKI) q8) (nt (eNI.trans eNI) q9) ?_
    exact r_return d_M_comes_52.1 rfl (hQ _ hw)
  · replace hw := hw.2 w9
    exact r_return d_M_comes_21.1 rfl (hQ _ hw)
set_option maxRecDepth 100000 in
set_option maxHeartbeats 4000000 in
theorem s_M_laysLayers_L103 {d : Nat} (hd : 3 ≤ d + 1) {Q : Hp → Prop} {QQ : Option AV → Hp → Prop} (hQ : ∀ h9, Q h9 → QQ none h9) {v0 : Nat} {v1 : Int32} {v2 : Int32} {v3 : Int32} {v4 : Int32} {k52 : Int32 → Hp → Prop} {k87 : Int32 → Hp → Prop} (hk52 : ∀ v3 h9, k52 v3 h9 → aW none m_M_laysLayers (d + 1) 52 [(0, ar v0), (1, ai v1), (2, ai v2), (3, ai v3)] [] h9 0 0 QQ) (hk87 : ∀ v4 h9, k87 v4 h9 → aW none m_M_laysLayers (d + 1) 87 [(0, ar v0), (1, ai v1), (2, ai v2), (3, ai v3), (4, ai v4)] [] h9 0 0 QQ) : ∀ (n : Nat) (v5 : Int32) (h : Hp), w_M_laysLayers_L103 Q k52 k87 v0 v1 v2 v3 v4 n v5 h → aW none m_M_laysLayers (d + 1) 103 [(0, ar v0), (1, ai v1), (2, ai v2), (3, ai v3), (4, ai v4), (5, ai v5)] [] h 0 0 QQ := by
  intro n
  induction n with
  | zero => intro v5 h hw; exact hw.elim
  | succ n ih =>
    intro v5 h hw
    unfold w_M_laysLayers_L103 at hw
    refine r_iload (j := 5) d_M_laysLayers_103 rfl ?_
    refine r_aload_n (j := 0) d_M_laysLayers_105 rfl ?_
    obtain ⟨q19, hw⟩ := hw
    refine r_getI d_M_laysLayers_106 ok_12 (nle rfl) (nle rfl) rfl lf_M_247 q19 ?_
    refine r_icmp_ge d_M_laysLayers_109 (fun w9 => ?_) (fun w9 => ?_)
    · replace hw := hw.1 w9
      refine r_iinc (j := 4) (ls2 := [(4, ai (v4 + (1 : Int32))), (0, ar v0), (1, ai v1), (2, ai v2), (3, ai v3), (5, ai v5)]) d_M_laysLayers_156 rfl (congrArg (HAdd.hAdd v4) kc_1) (nle rfl) rfl ?_
      refine r_goto d_M_laysLayers_159 ?_
      refine r_pick (ls2 := [(0, ar v0), (1, ai v1), (2, ai v2), (3, ai v3), (4, ai (v4 + (1 : Int32)))]) [1, 2, 3, 4, 0] rfl ?_
      exact hk87 _ _ hw
    · replace hw := hw.2 w9
      refine r_aload_n (j := 0) d_M_laysLayers_112 rfl ?_
      refine r_aload_n (j := 0) d_M_laysLayers_113 rfl ?_
      refine r_getR d_M_laysLayers_114 ok_12 (nle rfl) (nle rfl) rfl lf_M_52 q19 ?_
      refine r_iload (j := 4) d_M_laysLayers_117 rfl ?_
      obtain ⟨q20, hw⟩ := hw
      obtain ⟨q21, hw⟩ := hw
      refine r_iald d_M_laysLayers_119 q20 q21 ?_
      refine r_callV (av := [ai (gI h (gR h v0 33) (ix v4))]) (rest := []) (ci := 12) d_M_laysLayers_120 mk_M_unpacks ll_M_383 im_M_unpacks se_M_unpacks rfl (nle rfl) rfl rfl (nle rfl) q19 (s_M_unpacks  hw (fun h22 hw => ?_))
      show aW none m_M_laysLayers (d + 1) 123 [(0, ar v0), (1, ai v1), (2, ai v2), (3, ai v3), (4, ai v4), (5, ai v5)] [] h22 0 0 QQ
      refine r_aload_n (j := 0) d_M_laysLayers_123 rfl ?_
      refine r_iload (j := 5) d_M_laysLayers_124 rfl ?_
      obtain ⟨q24, hw⟩ := hw
      refine r_callV (av := [ai v5]) (rest := []) (ci := 12) d_M_laysLayers_126 mk_M_adds ll_M_363 im_M_adds se_M_adds rfl (nle rfl) rfl rfl (nle rfl) q24 (s_M_adds (by omega) hw (fun h23 hw => ?_))
      show aW none m_M_laysLayers (d + 1) 129 [(0, ar v0), (1, ai v1), (2, ai v2), (3, ai v3), (4, ai v4), (5, ai v5)] [] h23 0 0 QQ
      refine r_aload_n (j := 0) d_M_laysLayers_129 rfl ?_
      refine r_iload_n (j := 3) d_M_laysLayers_130 rfl ?_
      refine r_iconst d_M_laysLayers_131 kc_1 ?_
      refine r_iadd d_M_laysLayers_132 ?_
      refine r_iload_n (j := 1) d_M_laysLayers_133 rfl ?_
      obtain ⟨q27, hw⟩ := hw
      refine r_callV (av := [ai (v3 + (1 : Int32)), ai v1]) (rest := []) (ci := 12) d_M_laysLayers_134 mk_M_strayNow ll_M_366 im_M_strayNow se_M_strayNow rfl (nle rfl) rfl rfl (nle rfl) q27 (s_M_strayNow (by omega) hw (fun r26 h25 hw => ?_))
      show aW none m_M_laysLayers (d + 1) 137 [(0, ar v0), (1, ai v1), (2, ai v2), (3, ai v3), (4, ai v4), (5, ai v5)] [ai r26] h25 0 0 QQ
      refine r_iload_n (j := 2) d_M_laysLayers_137 rfl ?_
      refine r_iload_n (j := 1) d_M_laysLayers_138 rfl ?_
      refine r_imul d_M_laysLayers_139 ?_
      refine r_icmp_gt d_M_laysLayers_140 (fun w9 => ?_) (fun w9 => ?_)
      · replace hw := hw.1 w9
        refine r_iinc (j := 5) (ls2 := [(5, ai (v5 + (1 : Int32))), (0, ar v0), (1, ai v1), (2, ai v2), (3, ai v3), (4, ai v4)]) d_M_laysLayers_150 rfl (congrArg (HAdd.hAdd v5) kc_1) (nle rfl) rfl ?_
        refine r_goto d_M_laysLayers_153 ?_
        refine r_pick (ls2 := [(0, ar v0), (1, ai v1), (2, ai v2), (3, ai v3), (4, ai v4), (5, ai (v5 + (1 : Int32)))]) [1, 2, 3, 4, 5, 0] rfl ?_
        exact ih _ _ hw
      · replace hw := hw.2 w9
        refine r_aload_n (j := 0) d_M_laysLayers_143 rfl ?_
        refine r_iload_n (j := 3) d_M_laysLayers_144 rfl ?_
        refine r_iconst d_M_laysLayers_145 kc_1 ?_
        refine r_iadd d_M_laysLayers_146 ?_
        obtain ⟨q29, hw⟩ := hw
        refine r_callV (av := [ai (v3 + (1 : Int32))]) (rest := []) (ci := 12) d_M_laysLayers_147 mk_M_comes ll_M_380 im_M_comes se_M_comes rfl (nle rfl) rfl rfl (nle rfl) q29 (s_M_comes (by omega) hw (fun h28 hw => ?_))
        show aW none m_M_laysLayers (d + 1) 150 [(0, ar v0), (1, ai v1), (2, ai v2), (3, ai v3), (4, ai v4), (5, ai v5)] [] h28 0 0 QQ
        refine r_iinc (j := 5) (ls2 := [(5, ai (v5 + (1 : Int32))), (0, ar v0), (1, ai v1), (2, ai v2), (3, ai v3), (4, ai v4)]) d_M_laysLayers_150 rfl (congrArg (HAdd.hAdd v5) kc_1) (nle rfl) rfl ?_
        refine r_goto d_M_laysLayers_153 ?_
        refine r_pick (ls2 := [(0, ar v0), (1, ai v1), (2, ai v2), (3, ai v3), (4, ai v4), (5, ai (v5 + (1 : Int32)))]) [1, 2, 3, 4, 5, 0] rfl ?_
        exact ih _ _ hw
set_option maxRecDepth 100000 in
set_option maxHeartbeats 4000000 in
theorem s_M_laysLayers_L87 {d : Nat} (hd : 3 ≤ d + 1) {Q : Hp → Prop} {QQ : Option AV → Hp → Prop} (hQ : ∀ h9, Q h9 → QQ none h9) {v0 : Nat} {v1 : Int32} {v2 : Int32} {v3 : Int32} {k52 : Int32 → Hp → Prop} (hk52 : ∀ v3 h9, k52 v3 h9 → aW none m_M_laysLayers (d + 1) 52 [(0, ar v0), (1, ai v1), (2, ai v2), (3, ai v3)] [] h9 0 0 QQ) : ∀ (n : Nat) (v4 : Int32) (h : Hp), w_M_laysLayers_L87 Q k52 v0 v1 v2 v3 n v4 h → aW none m_M_laysLayers (d + 1) 87 [(0, ar v0), (1, ai v1), (2, ai v2), (3, ai v3), (4, ai v4)] [] h 0 0 QQ := by
  intro n
  induction n with
  | zero => intro v4 h hw; exact hw.elim
  | succ n ih =>
    intro v4 h hw
    unfold w_M_laysLayers_L87 at hw
    refine r_iload (j := 4) d_M_laysLayers_87 rfl ?_
    refine r_aload_n (j := 0) d_M_laysLayers_89 rfl ?_
    obtain ⟨q16, hw⟩ := hw
    refine r_getR d_M_laysLayers_90 ok_12 (nle rfl) (nle rfl) rfl lf_M_58 q16 ?_
    refine r_iload_n (j := 3) d_M_laysLayers_93 rfl ?_
    refine r_iconst d_M_laysLayers_94 kc_1 ?_
    refine r_iadd d_M_laysLayers_95 ?_
    obtain ⟨q17, hw⟩ := hw
    obtain ⟨q18, hw⟩ := hw
    refine r_iald d_M_laysLayers_96 q17 q18 ?_
    refine r_icmp_ge d_M_laysLayers_97 (fun w9 => ?_) (fun w9 => ?_)
    · replace hw := hw.1 w9
      refine r_iinc (j := 3) (ls2 := [(3, ai (v3 + (1 : Int32))), (0, ar v0), (1, ai v1), (2, ai v2), (4, ai v4)]) d_M_laysLayers_162 rfl (congrArg (HAdd.hAdd v3) kc_1) (nle rfl) rfl ?_
      refine r_goto d_M_laysLayers_165 ?_
      refine r_pick (ls2 := [(0, ar v0), (1, ai v1), (2, ai v2), (3, ai (v3 + (1 : Int32)))]) [1, 2, 3, 0] rfl ?_
      exact hk52 _ _ hw
    · replace hw := hw.2 w9
      refine r_iconst d_M_laysLayers_100 kc_0 ?_
      refine r_istore (ls2 := [(5, ai (0 : Int32)), (0, ar v0), (1, ai v1), (2, ai v2), (3, ai v3), (4, ai v4)]) d_M_laysLayers_101 (nle rfl) rfl ?_
      obtain ⟨n30, hw⟩ := hw
      refine r_pick (ls2 := [(0, ar v0), (1, ai v1), (2, ai v2), (3, ai v3), (4, ai v4), (5, ai (0 : Int32))]) [1, 2, 3, 4, 5, 0] rfl ?_
      exact s_M_laysLayers_L103 hd hQ hk52 ih n30 _ _ hw
set_option maxRecDepth 100000 in
set_option maxHeartbeats 4000000 in
theorem s_M_laysLayers_L52 {d : Nat} (hd : 3 ≤ d + 1) {Q : Hp → Prop} {QQ : Option AV → Hp → Prop} (hQ : ∀ h9, Q h9 → QQ none h9) {v0 : Nat} {v1 : Int32} {v2 : Int32} : ∀ (n : Nat) (v3 : Int32) (h : Hp), w_M_laysLayers_L52 Q  v0 v1 v2 n v3 h → aW none m_M_laysLayers (d + 1) 52 [(0, ar v0), (1, ai v1), (2, ai v2), (3, ai v3)] [] h 0 0 QQ := by
  intro n
  induction n with
  | zero => intro v3 h hw; exact hw.elim
  | succ n ih =>
    intro v3 h hw
    unfold w_M_laysLayers_L52 at hw
    refine r_iload_n (j := 3) d_M_laysLayers_52 rfl ?_
    refine r_iload_n (j := 1) d_M_laysLayers_53 rfl ?_
    refine r_icmp_ge d_M_laysLayers_54 (fun w9 => ?_) (fun w9 => ?_)
    · replace hw := hw.1 w9
      refine r_aload_n (j := 0) d_M_laysLayers_168 rfl ?_
      obtain ⟨q8, hw⟩ := hw
      refine r_getR d_M_laysLayers_169 ok_12 (nle rfl) (nle rfl) rfl lf_M_58 q8 ?_
      refine r_iload_n (j := 1) d_M_laysLayers_172 rfl ?_
      refine r_iconst d_M_laysLayers_173 kc_1 ?_
      refine r_iadd d_M_laysLayers_174 ?_
      refine r_aload_n (j := 0) d_M_laysLayers_175 rfl ?_
      refine r_getI d_M_laysLayers_176 ok_12 (nle rfl) (nle rfl) rfl lf_M_377 q8 ?_
      obtain ⟨q9, hw⟩ := hw
      obtain ⟨q10, hw⟩ := hw
      refine r_iast d_M_laysLayers_179 q9 q10 ?_
      exact r_return d_M_laysLayers_180.1 rfl (hQ _ hw)
    · replace hw := hw.2 w9
      refine r_aload_n (j := 0) d_M_laysLayers_57 rfl ?_
      obtain ⟨q11, hw⟩ := hw
      refine r_getR d_M_laysLayers_58 ok_12 (nle rfl) (nle rfl) rfl lf_M_58 q11 ?_
      refine r_iload_n (j := 3) d_M_laysLayers_61 rfl ?_
      refine r_iconst d_M_laysLayers_62 kc_1 ?_
      refine r_iadd d_M_laysLayers_63 ?_
      refine r_aload_n (j := 0) d_M_laysLayers_64 rfl ?_
      refine r_getI d_M_laysLayers_65 ok_12 (nle rfl) (nle rfl) rfl lf_M_377 q11 ?_
      obtain ⟨q12, hw⟩ := hw
      obtain ⟨q13, hw⟩ := hw
      refine r_iast d_M_laysLayers_68 q12 q13 ?_
      refine r_aload_n (j := 0) d_M_laysLayers_69 rfl ?_
      refine r_getRb eRI d_M_laysLayers_70 ok_12 (nle rfl) (nle rfl) rfl lf_M_58 (kt eKI q11) ?_
      refine r_iload_n (j := 3) d_M_laysLayers_73 rfl ?_
      refine r_iconst d_M_laysLayers_74 kc_2 ?_
      refine r_iadd d_M_laysLayers_75 ?_
      refine r_ldc d_M_laysLayers_76 lc_M_61 ?_
      obtain ⟨q14, hw⟩ := hw
      refine r_iast d_M_laysLayers_78 (kt eKI q12) (nt eNI q14) ?_
      refine r_aload_n (j := 0) d_M_laysLayers_79 rfl ?_
      refine r_getRb (eRI.trans eRI) d_M_laysLayers_80 ok_12 (nle rfl) (nle rfl) rfl lf_M_58 (kt (eKI.trans eKI) q11) ?_
      refine r_iload_n (j := 3) d_M_laysLayers_83 rfl ?_
      obtain ⟨q15, hw⟩ := hw
      refine r_iald d_M_laysLayers_84 (kt (eKI.trans eKI) q12) (nt (eNI.trans eNI) q15) ?_
      refine r_istore (ls2 := [(4, ai (gI (sI (sI h (gR h v0 35) (ix (v3 + (1 : Int32))) (gI h v0 38)) (gR h v0 35) (ix (v3 + (2 : Int32))) (262144 : Int32)) (gR h v0 35) (ix v3))), (0, ar v0), (1, ai v1), (2, ai v2), (3, ai v3)]) d_M_laysLayers_85 (nle rfl) rfl ?_
      obtain ⟨n31, hw⟩ := hw
      refine r_pick (ls2 := [(0, ar v0), (1, ai v1), (2, ai v2), (3, ai v3), (4, ai (gI (sI (sI h (gR h v0 35) (ix (v3 + (1 : Int32))) (gI h v0 38)) (gR h v0 35) (ix (v3 + (2 : Int32))) (262144 : Int32)) (gR h v0 35) (ix v3)))]) [1, 2, 3, 4, 0] rfl ?_
      exact s_M_laysLayers_L87 hd hQ ih n31 _ _ hw
set_option maxRecDepth 100000 in
set_option maxHeartbeats 4000000 in
theorem s_M_laysLayers_L2 {d : Nat} (hd : 3 ≤ d + 1) {Q : Hp → Prop} {QQ : Option AV → Hp → Prop} (hQ : ∀ h9, Q h9 → QQ none h9) {v0 : Nat} {v1 : Int32} {v2 : Int32} : ∀ (n : Nat) (v3 : Int32) (h : Hp), w_M_laysLayers_L2 Q  v0 v1 v2 n v3 h → aW none m_M_laysLayers (d + 1) 2 [(0, ar v0), (1, ai v1), (2, ai v2), (3, ai v3)] [] h 0 0 QQ := by
  intro n
  induction n with
  | zero => intro v3 h hw; exact hw.elim
  | succ n ih =>
    intro v3 h hw
    unfold w_M_laysLayers_L2 at hw
    refine r_iload_n (j := 3) d_M_laysLayers_2 rfl ?_
    refine r_ldc d_M_laysLayers_3 lc_M_61 ?_
    refine r_icmp_ge d_M_laysLayers_5 (fun w9 => ?_) (fun w9 => ?_)
    · replace hw := hw.1 w9
      refine r_aload_n (j := 0) d_M_laysLayers_21 rfl ?_
      refine r_iconst d_M_laysLayers_22 kc_0 ?_
      obtain ⟨q1, hw⟩ := hw
      refine r_putI d_M_laysLayers_23 ok_12 (nle rfl) (nle rfl) rfl lf_M_377 rfl q1 ?_
      refine r_aload_n (j := 0) d_M_laysLayers_26 rfl ?_
      refine r_getRb eRI d_M_laysLayers_27 ok_12 (nle rfl) (nle rfl) rfl lf_M_58 (kt eKI q1) ?_
      refine r_iconst d_M_laysLayers_30 kc_0 ?_
      refine r_iconst d_M_laysLayers_31 kc_0 ?_
      obtain ⟨q2, hw⟩ := hw
      obtain ⟨q3, hw⟩ := hw
      refine r_iast d_M_laysLayers_32 (kt eKI q2) (nt eNI q3) ?_
      refine r_aload_n (j := 0) d_M_laysLayers_33 rfl ?_
      refine r_getRb (eRI.trans eRI) d_M_laysLayers_34 ok_12 (nle rfl) (nle rfl) rfl lf_M_58 (kt (eKI.trans eKI) q1) ?_
      refine r_iconst d_M_laysLayers_37 kc_1 ?_
      refine r_ldc d_M_laysLayers_38 lc_M_61 ?_
      obtain ⟨q4, hw⟩ := hw
      refine r_iast d_M_laysLayers_40 (kt (eKI.trans eKI) q2) (nt (eNI.trans eNI) q4) ?_
      refine r_aload_n (j := 0) d_M_laysLayers_41 rfl ?_
      refine r_callV (av := []) (rest := []) (ci := 12) d_M_laysLayers_42 mk_M_noSums ll_M_360 im_M_noSums se_M_noSums rfl (nle rfl) rfl rfl (nle rfl) (kt (eKI.trans (eKI.trans eKI)) q1) (s_M_noSums  hw (fun h5 hw => ?_))
      show aW none m_M_laysLayers (d + 1) 45 [(0, ar v0), (1, ai v1), (2, ai v2), (3, ai v3)] [] h5 0 0 QQ
      refine r_aload_n (j := 0) d_M_laysLayers_45 rfl ?_
      refine r_iconst d_M_laysLayers_46 kc_0 ?_
      obtain ⟨q7, hw⟩ := hw
      refine r_callV (av := [ai (0 : Int32)]) (rest := []) (ci := 12) d_M_laysLayers_47 mk_M_comes ll_M_380 im_M_comes se_M_comes rfl (nle rfl) rfl rfl (nle rfl) q7 (s_M_comes (by omega) hw (fun h6 hw => ?_))
      show aW none m_M_laysLayers (d + 1) 50 [(0, ar v0), (1, ai v1), (2, ai v2), (3, ai v3)] [] h6 0 0 QQ
      refine r_iconst d_M_laysLayers_50 kc_0 ?_
      refine r_istore_n (ls2 := [(3, ai (0 : Int32)), (0, ar v0), (1, ai v1), (2, ai v2)]) d_M_laysLayers_51 (nle rfl) rfl ?_
      obtain ⟨n32, hw⟩ := hw
      refine r_pick (ls2 := [(0, ar v0), (1, ai v1), (2, ai v2), (3, ai (0 : Int32))]) [1, 2, 3, 0] rfl ?_
      exact s_M_laysLayers_L52 hd hQ  n32 _ _ hw
    · replace hw := hw.2 w9
      refine r_aload_n (j := 0) d_M_laysLayers_8 rfl ?_
      obtain ⟨q33, hw⟩ := hw
      refine r_getR d_M_laysLayers_9 ok_12 (nle rfl) (nle rfl) rfl lf_M_62 q33 ?_
      refine r_iload_n (j := 3) d_M_laysLayers_12 rfl ?_
      refine r_iconst d_M_laysLayers_13 kc_0 ?_
      obtain ⟨q34, hw⟩ := hw
      obtain ⟨q35, hw⟩ := hw
      refine r_iast d_M_laysLayers_14 q34 q35 ?_
      refine r_iinc (j := 3) (ls2 := [(3, ai (v3 + (1 : Int32))), (0, ar v0), (1, ai v1), (2, ai v2)]) d_M_laysLayers_15 rfl (congrArg (HAdd.hAdd v3) kc_1) (nle rfl) rfl ?_
      refine r_goto d_M_laysLayers_18 ?_
      refine r_pick (ls2 := [(0, ar v0), (1, ai v1), (2, ai v2), (3, ai (v3 + (1 : Int32)))]) [1, 2, 3, 0] rfl ?_
      exact ih _ _ hw
set_option maxRecDepth 100000 in
set_option maxHeartbeats 4000000 in
theorem s_M_laysLayers {d : Nat} (hd : 3 ≤ d) {v0 : Nat} {v1 : Int32} {v2 : Int32} {h : Hp} {Q : Hp → Prop} {QQ : Option AV → Hp → Prop} (hw : w_M_laysLayers v0 v1 v2 h Q) (hQ : ∀ h9, Q h9 → QQ none h9) : aCall m_M_laysLayers d [ar v0, ai v1, ai v2] h 0 0 QQ := by
  obtain ⟨d, rfl⟩ : ∃ d9, d = d9 + 1 := ⟨d - 1, by omega⟩
  refine aCall_in pl_M_laysLayers (nle rfl) ?_
  show aW none m_M_laysLayers (d + 1) 0 [(0, ar v0), (1, ai v1), (2, ai v2)] [] h 0 0 QQ
  unfold w_M_laysLayers at hw
  refine r_iconst d_M_laysLayers_0 kc_0 ?_
  refine r_istore_n (ls2 := [(3, ai (0 : Int32)), (0, ar v0), (1, ai v1), (2, ai v2)]) d_M_laysLayers_1 (nle rfl) rfl ?_
  obtain ⟨n36, hw⟩ := hw
  refine r_pick (ls2 := [(0, ar v0), (1, ai v1), (2, ai v2), (3, ai (0 : Int32))]) [1, 2, 3, 0] rfl ?_
  exact s_M_laysLayers_L2 hd hQ  n36 _ _ hw
set_option maxRecDepth 100000 in
set_option maxHeartbeats 4000000 in
theorem s_M_isNeeded_L4 {d : Nat} (hd : 1 ≤ d + 1) {Q : Bool → Hp → Prop} {QQ : Option AV → Hp → Prop} (hQ : ∀ r9 h9, Q r9 h9 → QQ (some (ai (b2i r9))) h9) {v0 : Nat} : ∀ (n : Nat) (v1 : Int32) (v2 : Int32) (h : Hp), w_M_isNeeded_L4 Q  v0 n v1 v2 h → aW none m_M_isNeeded (d + 1) 4 [(0, ar v0), (1, ai v1), (2, ai v2)] [] h 0 0 QQ := by
  intro n
  induction n with
  | zero => intro v1 v2 h hw; exact hw.elim
  | succ n ih =>
    intro v1 v2 h hw
    unfold w_M_isNeeded_L4 at hw
    refine r_iload_n (j := 2) d_M_isNeeded_4 rfl ?_
    refine r_aload_n (j := 0) d_M_isNeeded_5 rfl ?_
    obtain ⟨q1, hw⟩ := hw
    refine r_getI d_M_isNeeded_6 ok_12 (nle rfl) (nle rfl) rfl lf_M_244 q1 ?_
    refine r_icmp_ge d_M_isNeeded_9 (fun w9 => ?_) (fun w9 => ?_)
    · replace hw := hw.1 w9
      refine r_iload_n (j := 1) d_M_isNeeded_42 rfl ?_
      obtain ⟨q2, hw⟩ := hw
      exact r_zreturn d_M_isNeeded_43.1 rfl q2 (by have g9 := hQ _ _ hw; rwa [b2i_i q2] at g9)
    · replace hw := hw.2 w9
      refine r_iload_n (j := 1) d_M_isNeeded_12 rfl ?_
      refine r_if_eq d_M_isNeeded_13 (fun w9 => ?_) (fun w9 => ?_)
      · replace hw := hw.1 w9
        refine r_iconst d_M_isNeeded_34 kc_0 ?_
        refine r_istore_n (ls2 := [(1, ai (0 : Int32)), (0, ar v0), (2, ai v2)]) d_M_isNeeded_35 (nle rfl) rfl ?_
        refine r_iinc (j := 2) (ls2 := [(2, ai (v2 + (1 : Int32))), (1, ai (0 : Int32)), (0, ar v0)]) d_M_isNeeded_36 rfl (congrArg (HAdd.hAdd v2) kc_1) (nle rfl) rfl ?_
        refine r_goto d_M_isNeeded_39 ?_
        refine r_pick (ls2 := [(0, ar v0), (1, ai (0 : Int32)), (2, ai (v2 + (1 : Int32)))]) [2, 1, 0] rfl ?_
        exact ih _ _ _ hw
      · replace hw := hw.2 w9
        refine r_aload_n (j := 0) d_M_isNeeded_16 rfl ?_
        refine r_getR d_M_isNeeded_17 ok_12 (nle rfl) (nle rfl) rfl lf_M_48 q1 ?_
        refine r_iload_n (j := 2) d_M_isNeeded_20 rfl ?_
        obtain ⟨q3, hw⟩ := hw
        obtain ⟨q4, hw⟩ := hw
        refine r_iald d_M_isNeeded_21 q3 q4 ?_
        refine r_aload_n (j := 0) d_M_isNeeded_22 rfl ?_
        refine r_iload_n (j := 2) d_M_isNeeded_23 rfl ?_
        refine r_callV (av := [ai v2]) (rest := [ai (gI h (gR h v0 32) (ix v2))]) (ci := 12) d_M_isNeeded_24 mk_M_needOf ll_M_281 im_M_needOf se_M_needOf rfl (nle rfl) rfl rfl (nle rfl) q1 (s_M_needOf  hw (fun r6 h5 hw => ?_))
        show aW none m_M_isNeeded (d + 1) 27 [(0, ar v0), (1, ai v1), (2, ai v2)] [ai r6, ai (gI h (gR h v0 32) (ix v2))] h5 0 0 QQ
        refine r_icmp_ne d_M_isNeeded_27 (fun w9 => ?_) (fun w9 => ?_)
        · replace hw := hw.2 w9
          refine r_iconst d_M_isNeeded_34 kc_0 ?_
          refine r_istore_n (ls2 := [(1, ai (0 : Int32)), (0, ar v0), (2, ai v2)]) d_M_isNeeded_35 (nle rfl) rfl ?_
          refine r_iinc (j := 2) (ls2 := [(2, ai (v2 + (1 : Int32))), (1, ai (0 : Int32)), (0, ar v0)]) d_M_isNeeded_36 rfl (congrArg (HAdd.hAdd v2) kc_1) (nle rfl) rfl ?_
          refine r_goto d_M_isNeeded_39 ?_
          refine r_pick (ls2 := [(0, ar v0), (1, ai (0 : Int32)), (2, ai (v2 + (1 : Int32)))]) [2, 1, 0] rfl ?_
          exact ih _ _ _ hw
        · replace hw := hw.1 w9
          refine r_iconst d_M_isNeeded_30 kc_1 ?_
          refine r_goto d_M_isNeeded_31 ?_
          refine r_istore_n (ls2 := [(1, ai (1 : Int32)), (0, ar v0), (2, ai v2)]) d_M_isNeeded_35 (nle rfl) rfl ?_
          refine r_iinc (j := 2) (ls2 := [(2, ai (v2 + (1 : Int32))), (1, ai (1 : Int32)), (0, ar v0)]) d_M_isNeeded_36 rfl (congrArg (HAdd.hAdd v2) kc_1) (nle rfl) rfl ?_
          refine r_goto d_M_isNeeded_39 ?_
          refine r_pick (ls2 := [(0, ar v0), (1, ai (1 : Int32)), (2, ai (v2 + (1 : Int32)))]) [2, 1, 0] rfl ?_
          exact ih _ _ _ hw
set_option maxRecDepth 100000 in
set_option maxHeartbeats 4000000 in
theorem s_M_isNeeded {d : Nat} (hd : 1 ≤ d) {v0 : Nat} {h : Hp} {Q : Bool → Hp → Prop} {QQ : Option AV → Hp → Prop} (hw : w_M_isNeeded v0 h Q) (hQ : ∀ r9 h9, Q r9 h9 → QQ (some (ai (b2i r9))) h9) : aCall m_M_isNeeded d [ar v0] h 0 0 QQ := by
  obtain ⟨d, rfl⟩ : ∃ d9, d = d9 + 1 := ⟨d - 1, by omega⟩
  refine aCall_in pl_M_isNeeded (nle rfl) ?_
  show aW none m_M_isNeeded (d + 1) 0 [(0, ar v0)] [] h 0 0 QQ
  unfold w_M_isNeeded at hw
  refine r_iconst d_M_isNeeded_0 kc_1 ?_
  refine r_istore_n (ls2 := [(1, ai (1 : Int32)), (0, ar v0)]) d_M_isNeeded_1 (nle rfl) rfl ?_
  refine r_iconst d_M_isNeeded_2 kc_0 ?_
  refine r_istore_n (ls2 := [(2, ai (0 : Int32)), (1, ai (1 : Int32)), (0, ar v0)]) d_M_isNeeded_3 (nle rfl) rfl ?_
  obtain ⟨n7, hw⟩ := hw
  refine r_pick (ls2 := [(0, ar v0), (1, ai (1 : Int32)), (2, ai (0 : Int32))]) [2, 1, 0] rfl ?_
  exact s_M_isNeeded_L4 hd hQ  n7 _ _ _ hw
set_option maxRecDepth 100000 in
set_option maxHeartbeats 4000000 in
theorem s_M_behind {d : Nat} (hd : 2 ≤ d) {v0 : Nat} {v1 : Int32} {v2 : Int32} {v3 : Int32} {h : Hp} {Q : Int32 → Hp → Prop} {QQ : Option AV → Hp → Prop} (hw : w_M_behind v0 v1 v2 v3 h Q) (hQ : ∀ r9 h9, Q r9 h9 → QQ (some (ai r9)) h9) : aCall m_M_behind d [ar v0, ai v1, ai v2, ai v3] h 0 0 QQ := by
  obtain ⟨d, rfl⟩ : ∃ d9, d = d9 + 1 := ⟨d - 1, by omega⟩
  refine aCall_in pl_M_behind (nle rfl) ?_
  show aW none m_M_behind (d + 1) 0 [(0, ar v0), (1, ai v1), (2, ai v2), (3, ai v3)] [] h 0 0 QQ
  unfold w_M_behind at hw
  refine r_aload_n (j := 0) d_M_behind_0 rfl ?_
  refine r_aload_n (j := 0) d_M_behind_1 rfl ?_
  obtain ⟨q1, hw⟩ := hw
  refine r_getR d_M_behind_2 ok_12 (nle rfl) (nle rfl) rfl lf_M_52 q1 ?_
  refine r_iload_n (j := 1) d_M_behind_5 rfl ?_
  obtain ⟨q2, hw⟩ := hw
  obtain ⟨q3, hw⟩ := hw
  refine r_iald d_M_behind_6 q2 q3 ?_
  refine r_callV (av := [ai (gI h (gR h v0 33) (ix v1))]) (rest := []) (ci := 12) d_M_behind_7 mk_M_unpacks ll_M_383 im_M_unpacks se_M_unpacks rfl (nle rfl) rfl rfl (nle rfl) q1 (s_M_unpacks  hw (fun h4 hw => ?_))
  show aW none m_M_behind (d + 1) 10 [(0, ar v0), (1, ai v1), (2, ai v2), (3, ai v3)] [] h4 0 0 QQ
  refine r_aload_n (j := 0) d_M_behind_10 rfl ?_
  refine r_iload_n (j := 3) d_M_behind_11 rfl ?_
  obtain ⟨q6, hw⟩ := hw
  refine r_callV (av := [ai v3]) (rest := []) (ci := 12) d_M_behind_12 mk_M_adds ll_M_363 im_M_adds se_M_adds rfl (nle rfl) rfl rfl (nle rfl) q6 (s_M_adds (by omega) hw (fun h5 hw => ?_))
  show aW none m_M_behind (d + 1) 15 [(0, ar v0), (1, ai v1), (2, ai v2), (3, ai v3)] [] h5 0 0 QQ
  refine r_aload_n (j := 0) d_M_behind_15 rfl ?_
  refine r_iload_n (j := 2) d_M_behind_16 rfl ?_
  refine r_iconst d_M_behind_17 kc_1 ?_
  refine r_iadd d_M_behind_18 ?_
  refine r_aload_n (j := 0) d_M_behind_19 rfl ?_
  obtain ⟨q9, hw⟩ := hw
  refine r_callV (av := []) (rest := [ai (v2 + (1 : Int32)), ar v0]) (ci := 12) d_M_behind_20 mk_M_keyNow ll_M_371 im_M_keyNow se_M_keyNow rfl (nle rfl) rfl rfl (nle rfl) q9 (s_M_keyNow  hw (fun r8 h7 hw => ?_))
  show aW none m_M_behind (d + 1) 23 [(0, ar v0), (1, ai v1), (2, ai v2), (3, ai v3)] [ai r8, ai (v2 + (1 : Int32)), ar v0] h7 0 0 QQ
  obtain ⟨q12, hw⟩ := hw
  refine r_callV (av := [ai (v2 + (1 : Int32)), ai r8]) (rest := []) (ci := 12) d_M_behind_23 mk_M_slotOf ll_M_374 im_M_slotOf se_M_slotOf rfl (nle rfl) rfl rfl (nle rfl) q12 (s_M_slotOf (by omega) hw (fun r11 h10 hw => ?_))
  show aW none m_M_behind (d + 1) 26 [(0, ar v0), (1, ai v1), (2, ai v2), (3, ai v3)] [ai r11] h10 0 0 QQ
  refine r_istore (ls2 := [(4, ai r11), (0, ar v0), (1, ai v1), (2, ai v2), (3, ai v3)]) d_M_behind_26 (nle rfl) rfl ?_
  refine r_aload_n (j := 1) d_M_behind_28 rfl ?_
  obtain ⟨q13, hw⟩ := hw
  refine r_getR d_M_behind_29 ok_12 (nle rfl) (nle rfl) rfl lf_M_62 q13 ?_
  refine r_iload (j := 0) d_M_behind_32 rfl ?_
  obtain ⟨q14, hw⟩ := hw
  obtain ⟨q15, hw⟩ := hw
  refine r_iald d_M_behind_34 q14 q15 ?_
  refine r_iconst d_M_behind_35 kc_1 ?_
  refine r_isub d_M_behind_36 ?_
  exact r_ireturn d_M_behind_37.1 rfl (hQ _ _ hw)
