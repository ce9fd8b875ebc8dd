set_option maxRecDepth 100000 in
set_option maxHeartbeats 4000000 in
theorem s_M_doesLead_L4 {d : Nat} (hd : 2 ≤ d + 1) {Q : Bool → Hp → Prop} {QQ : Option AV → Hp → Prop} (hQ : ∀ r9 h9, Q r9 h9 → QQ (some (ai (b2i r9))) h9) {v0 : Nat} : ∀ (n : Nat) (v1 : Int32) (v2 : Int32) (h : Hp), w_M_doesLead_L4 Q  v0 n v1 v2 h → aW none m_M_doesLead (d + 1) 4 [(0, ar v0), (1, ai v1), (2, ai v2)] [] h 0 0 QQ := by
  intro n
  induction n with
  | zero => intro v1 v2 h hw; exact hw.elim
  | succ n ih =>
    intro v1 v2 h hw
    unfold w_M_doesLead_L4 at hw
    refine r_iload_n (j := 2) d_M_doesLead_4 rfl ?_
    refine r_aload_n (j := 0) d_M_doesLead_5 rfl ?_
    obtain ⟨q1, hw⟩ := hw
    refine r_getI d_M_doesLead_6 ok_12 (nle rfl) (nle rfl) rfl lf_M_244 q1 ?_
    refine r_icmp_ge d_M_doesLead_9 (fun w9 => ?_) (fun w9 => ?_)
    · replace hw := hw.1 w9
      refine r_iload_n (j := 1) d_M_doesLead_41 rfl ?_
      obtain ⟨q2, hw⟩ := hw
      exact r_zreturn d_M_doesLead_42.1 rfl q2 (by have g9 := hQ _ _ hw; rwa [b2i_i q2] at g9)
    · replace hw := hw.2 w9
      refine r_iload_n (j := 1) d_M_doesLead_12 rfl ?_
      refine r_if_eq d_M_doesLead_13 (fun w9 => ?_) (fun w9 => ?_)
      · replace hw := hw.1 w9
        refine r_iconst d_M_doesLead_33 kc_0 ?_
        refine r_istore_n (ls2 := [(1, ai (0 : Int32)), (0, ar v0), (2, ai v2)]) d_M_doesLead_34 (nle rfl) rfl ?_
        refine r_iinc (j := 2) (ls2 := [(2, ai (v2 + (1 : Int32))), (1, ai (0 : Int32)), (0, ar v0)]) d_M_doesLead_35 rfl (congrArg (HAdd.hAdd v2) kc_1) (nle rfl) rfl ?_
        refine r_goto d_M_doesLead_38 ?_
        refine r_pick (ls2 := [(0, ar v0), (1, ai (0 : Int32)), (2, ai (v2 + (1 : Int32)))]) [2, 1, 0] rfl ?_
        exact ih _ _ _ hw
      · replace hw := hw.2 w9
        refine r_aload_n (j := 0) d_M_doesLead_16 rfl ?_
        refine r_iload_n (j := 2) d_M_doesLead_17 rfl ?_
        refine r_callV (av := [ai v2]) (rest := []) (ci := 12) d_M_doesLead_18 mk_M_planSum ll_M_309 im_M_planSum se_M_planSum rfl (nle rfl) rfl rfl (nle rfl) q1 (s_M_planSum (by omega) hw (fun r4 h3 hw => ?_))
        show aW none m_M_doesLead (d + 1) 21 [(0, ar v0), (1, ai v1), (2, ai v2)] [ai r4] h3 0 0 QQ
        refine r_aload_n (j := 0) d_M_doesLead_21 rfl ?_
        refine r_iload_n (j := 2) d_M_doesLead_22 rfl ?_
        obtain ⟨q7, hw⟩ := hw
        refine r_callV (av := [ai v2]) (rest := [ai r4]) (ci := 12) d_M_doesLead_23 mk_M_needOf ll_M_281 im_M_needOf se_M_needOf rfl (nle rfl) rfl rfl (nle rfl) q7 (s_M_needOf  hw (fun r6 h5 hw => ?_))
        show aW none m_M_doesLead (d + 1) 26 [(0, ar v0), (1, ai v1), (2, ai v2)] [ai r6, ai r4] h5 0 0 QQ
        refine r_icmp_ne d_M_doesLead_26 (fun w9 => ?_) (fun w9 => ?_)
        · replace hw := hw.2 w9
          refine r_iconst d_M_doesLead_33 kc_0 ?_
          refine r_istore_n (ls2 := [(1, ai (0 : Int32)), (0, ar v0), (2, ai v2)]) d_M_doesLead_34 (nle rfl) rfl ?_
          refine r_iinc (j := 2) (ls2 := [(2, ai (v2 + (1 : Int32))), (1, ai (0 : Int32)), (0, ar v0)]) d_M_doesLead_35 rfl (congrArg (HAdd.hAdd v2) kc_1) (nle rfl) rfl ?_
          refine r_goto d_M_doesLead_38 ?_
          refine r_pick (ls2 := [(0, ar v0), (1, ai (0 : Int32)), (2, ai (v2 + (1 : Int32)))]) [2, 1, 0] rfl ?_
          exact ih _ _ _ hw
        · replace hw := hw.1 w9
          refine r_iconst d_M_doesLead_29 kc_1 ?_
          refine r_goto d_M_doesLead_30 ?_
          refine r_istore_n (ls2 := [(1, ai (1 : Int32)), (0, ar v0), (2, ai v2)]) d_M_doesLead_34 (nle rfl) rfl ?_
          refine r_iinc (j := 2) (ls2 := [(2, ai (v2 + (1 : Int32))), (1, ai (1 : Int32)), (0, ar v0)]) d_M_doesLead_35 rfl (congrArg (HAdd.hAdd v2) kc_1) (nle rfl) rfl ?_
          refine r_goto d_M_doesLead_38 ?_
          refine r_pick (ls2 := [(0, ar v0), (1, ai (1 : Int32)), (2, ai (v2 + (1 : Int32)))]) [2, 1, 0] rfl ?_
          exact ih _ _ _ hw
set_option maxRecDepth 100000 in
set_option maxHeartbeats 4000000 in
theorem s_M_doesLead {d : Nat} (hd : 2 ≤ d) {v0 : Nat} {h : Hp} {Q : Bool → Hp → Prop} {QQ : Option AV → Hp → Prop} (hw : w_M_doesLead v0 h Q) (hQ : ∀ r9 h9, Q r9 h9 → QQ (some (ai (b2i r9))) h9) : aCall m_M_doesLead d [ar v0] h 0 0 QQ := by
  obtain ⟨d, rfl⟩ : ∃ d9, d = d9 + 1 := ⟨d - 1, by omega⟩
  refine aCall_in pl_M_doesLead (nle rfl) ?_
  show aW none m_M_doesLead (d + 1) 0 [(0, ar v0)] [] h 0 0 QQ
  unfold w_M_doesLead at hw
  refine r_iconst d_M_doesLead_0 kc_1 ?_
  refine r_istore_n (ls2 := [(1, ai (1 : Int32)), (0, ar v0)]) d_M_doesLead_1 (nle rfl) rfl ?_
  refine r_iconst d_M_doesLead_2 kc_0 ?_
  refine r_istore_n (ls2 := [(2, ai (0 : Int32)), (1, ai (1 : Int32)), (0, ar v0)]) d_M_doesLead_3 (nle rfl) rfl ?_
  obtain ⟨n8, hw⟩ := hw
  refine r_pick (ls2 := [(0, ar v0), (1, ai (1 : Int32)), (2, ai (0 : Int32))]) [2, 1, 0] rfl ?_
  exact s_M_doesLead_L4 hd hQ  n8 _ _ _ hw
set_option maxRecDepth 100000 in
set_option maxHeartbeats 4000000 in
theorem s_M_plansOf_L8 {d : Nat} (hd : 3 ≤ d + 1) {Q : Int32 → Hp → Prop} {QQ : Option AV → Hp → Prop} (hQ : ∀ r9 h9, Q r9 h9 → QQ (some (ai r9)) h9) {v0 : Nat} : ∀ (n : Nat) (v2 : Int32) (v3 : Int32) (h : Hp), w_M_plansOf_L8 Q  v0 n v2 v3 h → aW none m_M_plansOf (d + 1) 8 [(0, ar v0), (2, ai v2), (3, ai v3)] [] h 0 0 QQ := by
  intro n
  induction n with
  | zero => intro v2 v3 h hw; exact hw.elim
  | succ n ih =>
    intro v2 v3 h hw
    unfold w_M_plansOf_L8 at hw
    refine r_iload_n (j := 2) d_M_plansOf_8 rfl ?_
    refine r_if_eq d_M_plansOf_9 (fun w9 => ?_) (fun w9 => ?_)
    · replace hw := hw.1 w9
      refine r_iload_n (j := 1) d_M_plansOf_30 rfl ?_
      exact r_ireturn d_M_plansOf_31.1 rfl (hQ _ _ hw)
    · replace hw := hw.2 w9
      refine r_iload_n (j := 1) d_M_plansOf_12 rfl ?_
      refine r_aload_n (j := 0) d_M_plansOf_13 rfl ?_
      obtain ⟨q6, hw⟩ := hw
      refine r_callV (av := []) (rest := [ai v2]) (ci := 12) d_M_plansOf_14 mk_M_doesLead ll_M_315 im_M_doesLead se_M_doesLead rfl (nle rfl) rfl rfl (nle rfl) q6 (s_M_doesLead (by omega) hw (fun r5 h4 hw => ?_))
      show aW none m_M_plansOf (d + 1) 17 [(0, ar v0), (2, ai v2), (3, ai v3)] [ai (b2i r5), ai v2] h4 0 0 QQ
      refine r_callS (av := [ai (b2i r5)]) (rest := [ai v2]) d_M_plansOf_17 mk_M_truth ll_M_318 st_M_truth rfl rfl (nle rfl) (s_M_truth  hw (fun r8 h7 hw => ?_))
      show aW none m_M_plansOf (d + 1) 20 [(0, ar v0), (2, ai v2), (3, ai v3)] [ai r8, ai v2] h7 0 0 QQ
      refine r_iadd d_M_plansOf_20 ?_
      refine r_istore_n (ls2 := [(2, ai (v2 + r8)), (0, ar v0), (3, ai v3)]) d_M_plansOf_21 (nle rfl) rfl ?_
      refine r_aload_n (j := 1) d_M_plansOf_22 rfl ?_
      obtain ⟨q11, hw⟩ := hw
      refine r_callV (av := []) (rest := []) (ci := 12) d_M_plansOf_23 mk_M_nextPlan ll_M_322 im_M_nextPlan se_M_nextPlan rfl (nle rfl) rfl rfl (nle rfl) q11 (s_M_nextPlan  hw (fun r10 h9 hw => ?_))
      show aW none m_M_plansOf (d + 1) 26 [(2, ai (v2 + r8)), (0, ar v0), (3, ai v3)] [ai (b2i r10)] h9 0 0 QQ
      refine r_istore_n (ls2 := [(3, ai (b2i r10)), (2, ai (v2 + r8)), (0, ar v0)]) d_M_plansOf_26 (nle rfl) rfl ?_
      refine r_goto d_M_plansOf_27 ?_
      refine r_pick (ls2 := [(0, ar v0), (2, ai (v2 + r8)), (3, ai (b2i r10))]) [2, 1, 0] rfl ?_
      exact ih _ _ _ hw
set_option maxRecDepth 100000 in
set_option maxHeartbeats 4000000 in
theorem s_M_plansOf {d : Nat} (hd : 3 ≤ d) {v0 : Nat} {v1 : Int32} {h : Hp} {Q : Int32 → Hp → Prop} {QQ : Option AV → Hp → Prop} (hw : w_M_plansOf v0 v1 h Q) (hQ : ∀ r9 h9, Q r9 h9 → QQ (some (ai r9)) h9) : aCall m_M_plansOf d [ar v0, ai v1] h 0 0 QQ := by
  obtain ⟨d, rfl⟩ : ∃ d9, d = d9 + 1 := ⟨d - 1, by omega⟩
  refine aCall_in pl_M_plansOf (nle rfl) ?_
  show aW none m_M_plansOf (d + 1) 0 [(0, ar v0), (1, ai v1)] [] h 0 0 QQ
  unfold w_M_plansOf at hw
  refine r_iconst d_M_plansOf_0 kc_0 ?_
  refine r_istore_n (ls2 := [(2, ai (0 : Int32)), (0, ar v0), (1, ai v1)]) d_M_plansOf_1 (nle rfl) rfl ?_
  refine r_aload_n (j := 1) d_M_plansOf_2 rfl ?_
  refine r_iload_n (j := 2) d_M_plansOf_3 rfl ?_
  obtain ⟨q3, hw⟩ := hw
  refine r_callV (av := [ai v1]) (rest := []) (ci := 12) d_M_plansOf_4 mk_M_firstPlan ll_M_312 im_M_firstPlan se_M_firstPlan rfl (nle rfl) rfl rfl (nle rfl) q3 (s_M_firstPlan  hw (fun r2 h1 hw => ?_))
  show aW none m_M_plansOf (d + 1) 7 [(2, ai (0 : Int32)), (0, ar v0), (1, ai v1)] [ai (b2i r2)] h1 0 0 QQ
  refine r_istore_n (ls2 := [(3, ai (b2i r2)), (2, ai (0 : Int32)), (0, ar v0), (1, ai v1)]) d_M_plansOf_7 (nle rfl) rfl ?_
  obtain ⟨n12, hw⟩ := hw
  refine r_pick (ls2 := [(0, ar v0), (2, ai (0 : Int32)), (3, ai (b2i r2))]) [2, 1, 0] rfl ?_
  exact s_M_plansOf_L8 hd hQ  n12 _ _ _ hw
set_option maxRecDepth 100000 in
set_option maxHeartbeats 4000000 in
theorem s_M_plans {d : Nat} (hd : 4 ≤ d) {v0 : Nat} {v1 : Int32} {h : Hp} {Q : Int32 → Hp → Prop} {QQ : Option AV → Hp → Prop} (hw : w_M_plans v0 v1 h Q) (hQ : ∀ r9 h9, Q r9 h9 → QQ (some (ai r9)) h9) : aCall m_M_plans d [ar v0, ai v1] h 0 0 QQ := by
  obtain ⟨d, rfl⟩ : ∃ d9, d = d9 + 1 := ⟨d - 1, by omega⟩
  refine aCall_in pl_M_plans (nle rfl) ?_
  show aW none m_M_plans (d + 1) 0 [(0, ar v0), (1, ai v1)] [] h 0 0 QQ
  unfold w_M_plans at hw
  refine r_iload_n (j := 1) d_M_plans_0 rfl ?_
  refine r_iconst d_M_plans_1 kc_0 ?_
  refine r_bipush d_M_plans_2 kb_12 ?_
  refine r_callS (av := [ai v1, ai (0 : Int32), ai (12 : Int32)]) (rest := []) d_M_plans_4 mk_M_isIn ll_M_148 st_M_isIn rfl rfl (nle rfl) (s_M_isIn  hw (fun r2 h1 hw => ?_))
  show aW none m_M_plans (d + 1) 7 [(0, ar v0), (1, ai v1)] [ai (b2i r2)] h1 0 0 QQ
  refine r_if_eq d_M_plans_7 (fun w9 => ?_) (fun w9 => ?_)
  · replace hw := hw.1 (b2i_0.mp w9)
    refine r_iconst d_M_plans_18 kc_m1 ?_
    exact r_ireturn d_M_plans_19.1 rfl (hQ _ _ hw)
  · replace hw := hw.2 (fun g9 => w9 (b2i_0.mpr g9))
    refine r_aload_n (j := 0) d_M_plans_10 rfl ?_
    refine r_iload_n (j := 1) d_M_plans_11 rfl ?_
    obtain ⟨q5, hw⟩ := hw
    refine r_callV (av := [ai v1]) (rest := []) (ci := 12) d_M_plans_12 mk_M_plansOf ll_M_325 im_M_plansOf se_M_plansOf rfl (nle rfl) rfl rfl (nle rfl) q5 (s_M_plansOf (by omega) hw (fun r4 h3 hw => ?_))
    show aW none m_M_plans (d + 1) 15 [(0, ar v0), (1, ai v1)] [ai r4] h3 0 0 QQ
    refine r_goto d_M_plans_15 ?_
    exact r_ireturn d_M_plans_19.1 rfl (hQ _ _ hw)
set_option maxRecDepth 100000 in
set_option maxHeartbeats 4000000 in
theorem s_M_fewest_L2 {d : Nat} (hd : 4 ≤ d + 1) {Q : Int32 → Hp → Prop} {QQ : Option AV → Hp → Prop} (hQ : ∀ r9 h9, Q r9 h9 → QQ (some (ai r9)) h9) {v0 : Nat} : ∀ (n : Nat) (v1 : Int32) (h : Hp), w_M_fewest_L2 Q  v0 n v1 h → aW none m_M_fewest (d + 1) 2 [(0, ar v0), (1, ai v1)] [] h 0 0 QQ := by
  intro n
  induction n with
  | zero => intro v1 h hw; exact hw.elim
  | succ n ih =>
    intro v1 h hw
    unfold w_M_fewest_L2 at hw
    refine r_iload_n (j := 1) d_M_fewest_2 rfl ?_
    refine r_bipush d_M_fewest_3 kb_12 ?_
    refine r_icmp_gt d_M_fewest_5 (fun w9 => ?_) (fun w9 => ?_)
    · replace hw := hw.1 w9
      refine r_iconst d_M_fewest_24 kc_m1 ?_
      exact r_ireturn d_M_fewest_25.1 rfl (hQ _ _ hw)
    · replace hw := hw.2 w9
      refine r_aload_n (j := 0) d_M_fewest_8 rfl ?_
      refine r_iload_n (j := 1) d_M_fewest_9 rfl ?_
      obtain ⟨q3, hw⟩ := hw
      refine r_callV (av := [ai v1]) (rest := []) (ci := 12) d_M_fewest_10 mk_M_plansOf ll_M_325 im_M_plansOf se_M_plansOf rfl (nle rfl) rfl rfl (nle rfl) q3 (s_M_plansOf (by omega) hw (fun r2 h1 hw => ?_))
      show aW none m_M_fewest (d + 1) 13 [(0, ar v0), (1, ai v1)] [ai r2] h1 0 0 QQ
      refine r_if_le d_M_fewest_13 (fun w9 => ?_) (fun w9 => ?_)
      · replace hw := hw.1 w9
        refine r_iinc (j := 1) (ls2 := [(1, ai (v1 + (1 : Int32))), (0, ar v0)]) d_M_fewest_18 rfl (congrArg (HAdd.hAdd v1) kc_1) (nle rfl) rfl ?_
        refine r_goto d_M_fewest_21 ?_
        refine r_pick (ls2 := [(0, ar v0), (1, ai (v1 + (1 : Int32)))]) [1, 0] rfl ?_
        exact ih _ _ hw
      · replace hw := hw.2 w9
        refine r_iload_n (j := 1) d_M_fewest_16 rfl ?_
        exact r_ireturn d_M_fewest_17.1 rfl (hQ _ _ hw)
set_option maxRecDepth 100000 in
set_option maxHeartbeats 4000000 in
theorem s_M_fewest {d : Nat} (hd : 4 ≤ d) {v0 : Nat} {h : Hp} {Q : Int32 → Hp → Prop} {QQ : Option AV → Hp → Prop} (hw : w_M_fewest v0 h Q) (hQ : ∀ r9 h9, Q r9 h9 → QQ (some (ai r9)) h9) : aCall m_M_fewest d [ar v0] h 0 0 QQ := by
  obtain ⟨d, rfl⟩ : ∃ d9, d = d9 + 1 := ⟨d - 1, by omega⟩
  refine aCall_in pl_M_fewest (nle rfl) ?_
  show aW none m_M_fewest (d + 1) 0 [(0, ar v0)] [] h 0 0 QQ
  unfold w_M_fewest at hw
  refine r_iconst d_M_fewest_0 kc_0 ?_
  refine r_istore_n (ls2 := [(1, ai (0 : Int32)), (0, ar v0)]) d_M_fewest_1 (nle rfl) rfl ?_
  obtain ⟨n4, hw⟩ := hw
  refine r_pick (ls2 := [(0, ar v0), (1, ai (0 : Int32))]) [1, 0] rfl ?_
  exact s_M_fewest_L2 hd hQ  n4 _ _ hw
set_option maxRecDepth 100000 in
set_option maxHeartbeats 4000000 in
theorem s_M_laysOptimum_B96 {d : Nat} (hd : 3 ≤ d + 1) {Q : Bool → Hp → Prop} {QQ : Option AV → Hp → Prop} (hQ : ∀ r9 h9, Q r9 h9 → QQ (some (ai (b2i r9))) h9) {k7 : Int32 → Hp → Prop} {k24 : Int32 → Hp → Prop} (hk7 : ∀ v1 h9, k7 v1 h9 → aW none m_M_laysOptimum (d + 1) 7 [(0, ar v0), (1, ai v1)] [] h9 0 0 QQ) (hk24 : ∀ v2 h9, k24 v2 h9 → aW none m_M_laysOptimum (d + 1) 24 [(0, ar v0), (1, ai v1), (2, ai v2)] [] h9 0 0 QQ) {v0 : Nat} {v1 : Int32} {h : Hp} (hw : w_M_laysOptimum_B96 Q k7 k24 v0 v1 h) : aW none m_M_laysOptimum (d + 1) 96 [(0, ar v0), (1, ai v1)] [] h 0 0 QQ := by
  unfold w_M_laysOptimum_B96 at hw
  refine r_aload_n (j := 0) d_M_laysOptimum_96 rfl ?_
  obtain ⟨q15, hw⟩ := hw
  refine r_callV (av := []) (rest := []) (ci := 12) d_M_laysOptimum_97 mk_M_nextPlan ll_M_322 im_M_nextPlan se_M_nextPlan rfl (nle rfl) rfl rfl (nle rfl) q15 (s_M_nextPlan  hw (fun r14 h13 hw => ?_))
  show aW none m_M_laysOptimum (d + 1) 100 [(0, ar v0), (1, ai v1)] [ai (b2i r14)] h13 0 0 QQ
  refine r_istore_n (ls2 := [(2, ai (b2i r14)), (0, ar v0), (1, ai v1)]) d_M_laysOptimum_100 (nle rfl) rfl ?_
  refine r_goto d_M_laysOptimum_101 ?_
  refine r_pick (ls2 := [(0, ar v0), (1, ai v1), (2, ai (b2i r14))]) [1, 2, 0] rfl ?_
  exact hk24 _ _ hw
set_option maxRecDepth 100000 in
set_option maxHeartbeats 4000000 in
theorem s_M_laysOptimum_L69 {d : Nat} (hd : 3 ≤ d + 1) {Q : Bool → Hp → Prop} {QQ : Option AV → Hp → Prop} (hQ : ∀ r9 h9, Q r9 h9 → QQ (some (ai (b2i r9))) h9) {k7 : Int32 → Hp → Prop} {k24 : Int32 → Hp → Prop} (hk7 : ∀ v1 h9, k7 v1 h9 → aW none m_M_laysOptimum (d + 1) 7 [(0, ar v0), (1, ai v1)] [] h9 0 0 QQ) (hk24 : ∀ v2 h9, k24 v2 h9 → aW none m_M_laysOptimum (d + 1) 24 [(0, ar v0), (1, ai v1), (2, ai v2)] [] h9 0 0 QQ) {v0 : Nat} {v1 : Int32} : ∀ (n : Nat) (v4 : Int32) (h : Hp), w_M_laysOptimum_L69 Q k7 k24 v0 v1 n v4 h → aW none m_M_laysOptimum (d + 1) 69 [(0, ar v0), (1, ai v1), (4, ai v4)] [] h 0 0 QQ := by
  intro n
  induction n with
  | zero => intro v4 h hw; exact hw.elim
  | succ n ih =>
    intro v4 h hw
    unfold w_M_laysOptimum_L69 at hw
    refine r_iload (j := 2) d_M_laysOptimum_69 rfl ?_
    refine r_bipush d_M_laysOptimum_71 kb_8 ?_
    refine r_icmp_ge d_M_laysOptimum_73 (fun w9 => ?_) (fun w9 => ?_)
    · replace hw := hw.1 w9
      refine r_pick (ls2 := [(0, ar v0), (1, ai v1)]) [0, 1] rfl ?_
      exact s_M_laysOptimum_B96 hd hQ hk7 hk24 hw
    · replace hw := hw.2 w9
      refine r_aload_n (j := 0) d_M_laysOptimum_76 rfl ?_
      obtain ⟨q18, hw⟩ := hw
      refine r_getR d_M_laysOptimum_77 ok_12 (nle rfl) (nle rfl) rfl lf_M_39 q18 ?_
      refine r_iload (j := 2) d_M_laysOptimum_80 rfl ?_
      refine r_aload_n (j := 0) d_M_laysOptimum_82 rfl ?_
      refine r_getR d_M_laysOptimum_83 ok_12 (nle rfl) (nle rfl) rfl lf_M_36 q18 ?_
      refine r_iload (j := 2) d_M_laysOptimum_86 rfl ?_
      obtain ⟨q19, hw⟩ := hw
      obtain ⟨q20, hw⟩ := hw
      refine r_iald d_M_laysOptimum_88 q19 q20 ?_
      obtain ⟨q21, hw⟩ := hw
      obtain ⟨q22, hw⟩ := hw
      refine r_iast d_M_laysOptimum_89 q21 q22 ?_
      refine r_iinc (j := 2) (ls2 := [(4, ai (v4 + (1 : Int32))), (0, ar v0), (1, ai v1)]) d_M_laysOptimum_90 rfl (congrArg (HAdd.hAdd v4) kc_1) (nle rfl) rfl ?_
      refine r_goto d_M_laysOptimum_93 ?_
      refine r_pick (ls2 := [(0, ar v0), (1, ai v1), (4, ai (v4 + (1 : Int32)))]) [1, 2, 0] rfl ?_
      exact ih _ _ hw
set_option maxRecDepth 100000 in
set_option maxHeartbeats 4000000 in
theorem s_M_laysOptimum_B56 {d : Nat} (hd : 3 ≤ d + 1) {Q : Bool → Hp → Prop} {QQ : Option AV → Hp → Prop} (hQ : ∀ r9 h9, Q r9 h9 → QQ (some (ai (b2i r9))) h9) {k7 : Int32 → Hp → Prop} {k24 : Int32 → Hp → Prop} (hk7 : ∀ v1 h9, k7 v1 h9 → aW none m_M_laysOptimum (d + 1) 7 [(0, ar v0), (1, ai v1)] [] h9 0 0 QQ) (hk24 : ∀ v2 h9, k24 v2 h9 → aW none m_M_laysOptimum (d + 1) 24 [(0, ar v0), (1, ai v1), (2, ai v2)] [] h9 0 0 QQ) {v0 : Nat} {v1 : Int32} {v3 : Int32} {h : Hp} (hw : w_M_laysOptimum_B56 Q k7 k24 v0 v1 v3 h) : aW none m_M_laysOptimum (d + 1) 56 [(0, ar v0), (1, ai v1), (3, ai v3)] [] h 0 0 QQ := by
  unfold w_M_laysOptimum_B56 at hw
  refine r_aload_n (j := 0) d_M_laysOptimum_56 rfl ?_
  refine r_iload_n (j := 2) d_M_laysOptimum_57 rfl ?_
  obtain ⟨q17, hw⟩ := hw
  refine r_putI d_M_laysOptimum_58 ok_12 (nle rfl) (nle rfl) rfl lf_M_334 rfl q17 ?_
  refine r_aload_n (j := 0) d_M_laysOptimum_61 rfl ?_
  refine r_iload_n (j := 1) d_M_laysOptimum_62 rfl ?_
  refine r_putI d_M_laysOptimum_63 ok_12 (nle rfl) (nle rfl) rfl lf_M_328 rfl q17 ?_
  refine r_iconst d_M_laysOptimum_66 kc_0 ?_
  refine r_istore (ls2 := [(4, ai (0 : Int32)), (0, ar v0), (1, ai v1), (3, ai v3)]) d_M_laysOptimum_67 (nle rfl) rfl ?_
  obtain ⟨n23, hw⟩ := hw
  refine r_pick (ls2 := [(0, ar v0), (1, ai v1), (4, ai (0 : Int32))]) [1, 2, 0] rfl ?_
  exact s_M_laysOptimum_L69 hd hQ hk7 hk24 n23 _ _ hw
set_option maxRecDepth 100000 in
set_option maxHeartbeats 4000000 in
theorem s_M_laysOptimum_L24 {d : Nat} (hd : 3 ≤ d + 1) {Q : Bool → Hp → Prop} {QQ : Option AV → Hp → Prop} (hQ : ∀ r9 h9, Q r9 h9 → QQ (some (ai (b2i r9))) h9) {k7 : Int32 → Hp → Prop} (hk7 : ∀ v1 h9, k7 v1 h9 → aW none m_M_laysOptimum (d + 1) 7 [(0, ar v0), (1, ai v1)] [] h9 0 0 QQ) {v0 : Nat} {v1 : Int32} : ∀ (n : Nat) (v2 : Int32) (h : Hp), w_M_laysOptimum_L24 Q k7 v0 v1 n v2 h → aW none m_M_laysOptimum (d + 1) 24 [(0, ar v0), (1, ai v1), (2, ai v2)] [] h 0 0 QQ := by
  intro n
  induction n with
  | zero => intro v2 h hw; exact hw.elim
  | succ n ih =>
    intro v2 h hw
    unfold w_M_laysOptimum_L24 at hw
    refine r_iload_n (j := 2) d_M_laysOptimum_24 rfl ?_
    refine r_if_eq d_M_laysOptimum_25 (fun w9 => ?_) (fun w9 => ?_)
    · replace hw := hw.1 w9
      refine r_iinc (j := 1) (ls2 := [(1, ai (v1 + (1 : Int32))), (0, ar v0), (2, ai v2)]) d_M_laysOptimum_104 rfl (congrArg (HAdd.hAdd v1) kc_1) (nle rfl) rfl ?_
      refine r_goto d_M_laysOptimum_107 ?_
      refine r_pick (ls2 := [(0, ar v0), (1, ai (v1 + (1 : Int32)))]) [1, 0] rfl ?_
      exact hk7 _ _ hw
    · replace hw := hw.2 w9
      refine r_aload_n (j := 0) d_M_laysOptimum_28 rfl ?_
      obtain ⟨q9, hw⟩ := hw
      refine r_callV (av := []) (rest := []) (ci := 12) d_M_laysOptimum_29 mk_M_planGain ll_M_331 im_M_planGain se_M_planGain rfl (nle rfl) rfl rfl (nle rfl) q9 (s_M_planGain (by omega) hw (fun r8 h7 hw => ?_))
      show aW none m_M_laysOptimum (d + 1) 32 [(0, ar v0), (1, ai v1), (2, ai v2)] [ai r8] h7 0 0 QQ
      refine r_istore_n (ls2 := [(3, ai r8), (0, ar v0), (1, ai v1), (2, ai v2)]) d_M_laysOptimum_32 (nle rfl) rfl ?_
      refine r_aload_n (j := 1) d_M_laysOptimum_33 rfl ?_
      obtain ⟨q12, hw⟩ := hw
      refine r_callV (av := []) (rest := []) (ci := 12) d_M_laysOptimum_34 mk_M_doesLead ll_M_315 im_M_doesLead se_M_doesLead rfl (nle rfl) rfl rfl (nle rfl) q12 (s_M_doesLead (by omega) hw (fun r11 h10 hw => ?_))
      show aW none m_M_laysOptimum (d + 1) 37 [(3, ai r8), (0, ar v0), (1, ai v1), (2, ai v2)] [ai (b2i r11)] h10 0 0 QQ
      refine r_if_eq d_M_laysOptimum_37 (fun w9 => ?_) (fun w9 => ?_)
      · replace hw := hw.1 (b2i_0.mp w9)
        refine r_pick (ls2 := [(0, ar v0), (1, ai v1)]) [1, 2] rfl ?_
        exact s_M_laysOptimum_B96 hd hQ hk7 ih hw
      · replace hw := hw.2 (fun g9 => w9 (b2i_0.mpr g9))
        refine r_aload_n (j := 1) d_M_laysOptimum_40 rfl ?_
        obtain ⟨q16, hw⟩ := hw
        refine r_getI d_M_laysOptimum_41 ok_12 (nle rfl) (nle rfl) rfl lf_M_328 q16 ?_
        refine r_iconst d_M_laysOptimum_44 kc_m1 ?_
        refine r_icmp_eq d_M_laysOptimum_45 (fun w9 => ?_) (fun w9 => ?_)
        · replace hw := hw.1 w9
          refine r_pick (ls2 := [(0, ar v0), (1, ai v1), (3, ai r8)]) [1, 2, 0] rfl ?_
          exact s_M_laysOptimum_B56 hd hQ hk7 ih hw
        · replace hw := hw.2 w9
          refine r_iload_n (j := 0) d_M_laysOptimum_48 rfl ?_
          refine r_aload_n (j := 1) d_M_laysOptimum_49 rfl ?_
          refine r_getI d_M_laysOptimum_50 ok_12 (nle rfl) (nle rfl) rfl lf_M_334 q16 ?_
          refine r_icmp_le d_M_laysOptimum_53 (fun w9 => ?_) (fun w9 => ?_)
          · replace hw := hw.1 w9
            refine r_pick (ls2 := [(0, ar v0), (1, ai v1)]) [1, 2] rfl ?_
            exact s_M_laysOptimum_B96 hd hQ hk7 ih hw
          · replace hw := hw.2 w9
            refine r_pick (ls2 := [(0, ar v0), (1, ai v1), (3, ai r8)]) [1, 2, 0] rfl ?_
            exact s_M_laysOptimum_B56 hd hQ hk7 ih hw
set_option maxRecDepth 100000 in
set_option maxHeartbeats 4000000 in
theorem s_M_laysOptimum_L7 {d : Nat} (hd : 3 ≤ d + 1) {Q : Bool → Hp → Prop} {QQ : Option AV → Hp → Prop} (hQ : ∀ r9 h9, Q r9 h9 → QQ (some (ai (b2i r9))) h9) {v0 : Nat} : ∀ (n : Nat) (v1 : Int32) (h : Hp), w_M_laysOptimum_L7 Q  v0 n v1 h → aW none m_M_laysOptimum (d + 1) 7 [(0, ar v0), (1, ai v1)] [] h 0 0 QQ := by
  intro n
  induction n with
  | zero => intro v1 h hw; exact hw.elim
  | succ n ih =>
    intro v1 h hw
    unfold w_M_laysOptimum_L7 at hw
    refine r_iload_n (j := 1) d_M_laysOptimum_7 rfl ?_
    refine r_aload_n (j := 0) d_M_laysOptimum_8 rfl ?_
    obtain ⟨q2, hw⟩ := hw
    refine r_getR d_M_laysOptimum_9 ok_12 (nle rfl) (nle rfl) rfl lf_M_30 q2 ?_
    refine r_bipush d_M_laysOptimum_12 kb_35 ?_
    obtain ⟨q3, hw⟩ := hw
    obtain ⟨q4, hw⟩ := hw
    refine r_iald d_M_laysOptimum_14 q3 q4 ?_
    refine r_icmp_gt d_M_laysOptimum_15 (fun w9 => ?_) (fun w9 => ?_)
    · replace hw := hw.1 w9
      refine r_aload_n (j := 0) d_M_laysOptimum_110 rfl ?_
      refine r_getI d_M_laysOptimum_111 ok_12 (nle rfl) (nle rfl) rfl lf_M_328 q2 ?_
      refine r_iconst d_M_laysOptimum_114 kc_m1 ?_
      refine r_icmp_eq d_M_laysOptimum_115 (fun w9 => ?_) (fun w9 => ?_)
      · replace hw := hw.1 w9
        refine r_iconst d_M_laysOptimum_122 kc_0 ?_
        exact r_zreturn d_M_laysOptimum_123.1 rfl (Or.inl rfl) (hQ _ _ hw)
      · replace hw := hw.2 w9
        refine r_iconst d_M_laysOptimum_118 kc_1 ?_
        refine r_goto d_M_laysOptimum_119 ?_
        exact r_zreturn d_M_laysOptimum_123.1 rfl (Or.inr rfl) (hQ _ _ hw)
    · replace hw := hw.2 w9
      refine r_aload_n (j := 0) d_M_laysOptimum_18 rfl ?_
      refine r_iload_n (j := 1) d_M_laysOptimum_19 rfl ?_
      refine r_callV (av := [ai v1]) (rest := []) (ci := 12) d_M_laysOptimum_20 mk_M_firstPlan ll_M_312 im_M_firstPlan se_M_firstPlan rfl (nle rfl) rfl rfl (nle rfl) q2 (s_M_firstPlan  hw (fun r6 h5 hw => ?_))
      show aW none m_M_laysOptimum (d + 1) 23 [(0, ar v0), (1, ai v1)] [ai (b2i r6)] h5 0 0 QQ
      refine r_istore_n (ls2 := [(2, ai (b2i r6)), (0, ar v0), (1, ai v1)]) d_M_laysOptimum_23 (nle rfl) rfl ?_
      obtain ⟨n24, hw⟩ := hw
      refine r_pick (ls2 := [(0, ar v0), (1, ai v1), (2, ai (b2i r6))]) [1, 2, 0] rfl ?_
      exact s_M_laysOptimum_L24 hd hQ ih n24 _ _ hw
set_option maxRecDepth 100000 in
set_option maxHeartbeats 4000000 in
theorem s_M_laysOptimum {d : Nat} (hd : 3 ≤ d) {v0 : Nat} {h : Hp} {Q : Bool → Hp → Prop} {QQ : Option AV → Hp → Prop} (hw : w_M_laysOptimum v0 h Q) (hQ : ∀ r9 h9, Q r9 h9 → QQ (some (ai (b2i r9))) h9) : aCall m_M_laysOptimum d [ar v0] h 0 0 QQ := by
  obtain ⟨d, rfl⟩ : ∃ d9, d = d9 + 1 := ⟨d - 1, by omega⟩
  refine aCall_in pl_M_laysOptimum (nle rfl) ?_
  show aW none m_M_laysOptimum (d + 1) 0 [(0, ar v0)] [] h 0 0 QQ
  unfold w_M_laysOptimum at hw
  refine r_aload_n (j := 0) d_M_laysOptimum_0 rfl ?_
  refine r_iconst d_M_laysOptimum_1 kc_m1 ?_
  obtain ⟨q1, hw⟩ := hw
  refine r_putI d_M_laysOptimum_2 ok_12 (nle rfl) (nle rfl) rfl lf_M_328 rfl q1 ?_
  refine r_iconst d_M_laysOptimum_5 kc_0 ?_
  refine r_istore_n (ls2 := [(1, ai (0 : Int32)), (0, ar v0)]) d_M_laysOptimum_6 (nle rfl) rfl ?_
  obtain ⟨n25, hw⟩ := hw
  refine r_pick (ls2 := [(0, ar v0), (1, ai (0 : Int32))]) [1, 0] rfl ?_
  exact s_M_laysOptimum_L7 hd hQ  n25 _ _ hw
set_option maxRecDepth 100000 in
set_option maxHeartbeats 4000000 in
theorem s_M_optimum {d : Nat} (hd : 4 ≤ d) {v0 : Nat} {v1 : Int32} {h : Hp} {Q : Int32 → Hp → Prop} {QQ : Option AV → Hp → Prop} (hw : w_M_optimum v0 v1 h Q) (hQ : ∀ r9 h9, Q r9 h9 → QQ (some (ai r9)) h9) : aCall m_M_optimum d [ar v0, ai v1] h 0 0 QQ := by
  obtain ⟨d, rfl⟩ : ∃ d9, d = d9 + 1 := ⟨d - 1, by omega⟩
  refine aCall_in pl_M_optimum (nle rfl) ?_
  show aW none m_M_optimum (d + 1) 0 [(0, ar v0), (1, ai v1)] [] h 0 0 QQ
  unfold w_M_optimum at hw
  refine r_iload_n (j := 1) d_M_optimum_0 rfl ?_
  refine r_iconst d_M_optimum_1 kc_0 ?_
  refine r_iconst d_M_optimum_2 kc_1 ?_
  refine r_callS (av := [ai v1, ai (0 : Int32), ai (1 : Int32)]) (rest := []) d_M_optimum_3 mk_M_isIn ll_M_148 st_M_isIn rfl rfl (nle rfl) (s_M_isIn  hw (fun r2 h1 hw => ?_))
  show aW none m_M_optimum (d + 1) 6 [(0, ar v0), (1, ai v1)] [ai (b2i r2)] h1 0 0 QQ
  refine r_if_eq d_M_optimum_6 (fun w9 => ?_) (fun w9 => ?_)
  · replace hw := hw.1 (b2i_0.mp w9)
    refine r_ldcw d_M_optimum_34 lc_M_277 ?_
    exact r_ireturn d_M_optimum_37.1 rfl (hQ _ _ hw)
  · replace hw := hw.2 (fun g9 => w9 (b2i_0.mpr g9))
    refine r_aload_n (j := 0) d_M_optimum_9 rfl ?_
    obtain ⟨q5, hw⟩ := hw
    refine r_callV (av := []) (rest := []) (ci := 12) d_M_optimum_10 mk_M_laysOptimum ll_M_337 im_M_laysOptimum se_M_laysOptimum rfl (nle rfl) rfl rfl (nle rfl) q5 (s_M_laysOptimum (by omega) hw (fun r4 h3 hw => ?_))
    show aW none m_M_optimum (d + 1) 13 [(0, ar v0), (1, ai v1)] [ai (b2i r4)] h3 0 0 QQ
    refine r_if_eq d_M_optimum_13 (fun w9 => ?_) (fun w9 => ?_)
    · replace hw := hw.1 (b2i_0.mp w9)
      refine r_ldcw d_M_optimum_34 lc_M_277 ?_
      exact r_ireturn d_M_optimum_37.1 rfl (hQ _ _ hw)
    · replace hw := hw.2 (fun g9 => w9 (b2i_0.mpr g9))
      refine r_iload_n (j := 1) d_M_optimum_16 rfl ?_
      refine r_if_ne d_M_optimum_17 (fun w9 => ?_) (fun w9 => ?_)
      · replace hw := hw.2 w9
        refine r_aload_n (j := 0) d_M_optimum_27 rfl ?_
        obtain ⟨q6, hw⟩ := hw
        refine r_getI d_M_optimum_28 ok_12 (nle rfl) (nle rfl) rfl lf_M_328 q6 ?_
        refine r_goto d_M_optimum_31 ?_
        exact r_ireturn d_M_optimum_37.1 rfl (hQ _ _ hw)
      · replace hw := hw.1 w9
        refine r_aload_n (j := 0) d_M_optimum_20 rfl ?_
        obtain ⟨q7, hw⟩ := hw
        refine r_getI d_M_optimum_21 ok_12 (nle rfl) (nle rfl) rfl lf_M_334 q7 ?_
        refine r_goto d_M_optimum_24 ?_
        exact r_ireturn d_M_optimum_37.1 rfl (hQ _ _ hw)
set_option maxRecDepth 100000 in
set_option maxHeartbeats 4000000 in
theorem s_M_plan {d : Nat} (hd : 4 ≤ d) {v0 : Nat} {v1 : Int32} {h : Hp} {Q : Int32 → Hp → Prop} {QQ : Option AV → Hp → Prop} (hw : w_M_plan v0 v1 h Q) (hQ : ∀ r9 h9, Q r9 h9 → QQ (some (ai r9)) h9) : aCall m_M_plan d [ar v0, ai v1] h 0 0 QQ := by
  obtain ⟨d, rfl⟩ : ∃ d9, d = d9 + 1 := ⟨d - 1, by omega⟩
  refine aCall_in pl_M_plan (nle rfl) ?_
  show aW none m_M_plan (d + 1) 0 [(0, ar v0), (1, ai v1)] [] h 0 0 QQ
  unfold w_M_plan at hw
  refine r_aload_n (j := 0) d_M_plan_0 rfl ?_
  refine r_iload_n (j := 1) d_M_plan_1 rfl ?_
  obtain ⟨q3, hw⟩ := hw
  refine r_callV (av := [ai v1]) (rest := []) (ci := 12) d_M_plan_2 mk_M_isColumn ll_M_268 im_M_isColumn se_M_isColumn rfl (nle rfl) rfl rfl (nle rfl) q3 (s_M_isColumn (by omega) hw (fun r2 h1 hw => ?_))
  show aW none m_M_plan (d + 1) 5 [(0, ar v0), (1, ai v1)] [ai (b2i r2)] h1 0 0 QQ
  refine r_if_eq d_M_plan_5 (fun w9 => ?_) (fun w9 => ?_)
  · replace hw := hw.1 (b2i_0.mp w9)
    refine r_iconst d_M_plan_24 kc_m1 ?_
    exact r_ireturn d_M_plan_25.1 rfl (hQ _ _ hw)
  · replace hw := hw.2 (fun g9 => w9 (b2i_0.mpr g9))
    refine r_aload_n (j := 0) d_M_plan_8 rfl ?_
    obtain ⟨q6, hw⟩ := hw
    refine r_callV (av := []) (rest := []) (ci := 12) d_M_plan_9 mk_M_laysOptimum ll_M_337 im_M_laysOptimum se_M_laysOptimum rfl (nle rfl) rfl rfl (nle rfl) q6 (s_M_laysOptimum (by omega) hw (fun r5 h4 hw => ?_))
    show aW none m_M_plan (d + 1) 12 [(0, ar v0), (1, ai v1)] [ai (b2i r5)] h4 0 0 QQ
    refine r_if_eq d_M_plan_12 (fun w9 => ?_) (fun w9 => ?_)
    · replace hw := hw.1 (b2i_0.mp w9)
      refine r_iconst d_M_plan_24 kc_m1 ?_
      exact r_ireturn d_M_plan_25.1 rfl (hQ _ _ hw)
    · replace hw := hw.2 (fun g9 => w9 (b2i_0.mpr g9))
      refine r_aload_n (j := 0) d_M_plan_15 rfl ?_
      obtain ⟨q7, hw⟩ := hw
      refine r_getR d_M_plan_16 ok_12 (nle rfl) (nle rfl) rfl lf_M_39 q7 ?_
      refine r_iload_n (j := 1) d_M_plan_19 rfl ?_
      obtain ⟨q8, hw⟩ := hw
      obtain ⟨q9, hw⟩ := hw
      refine r_iald d_M_plan_20 q8 q9 ?_
      refine r_goto d_M_plan_21 ?_
      exact r_ireturn d_M_plan_25.1 rfl (hQ _ _ hw)
set_option maxRecDepth 100000 in
set_option maxHeartbeats 4000000 in
theorem s_M_partOf {d : Nat} {v0 : Nat} {v1 : Int32} {v2 : Int32} {h : Hp} {Q : Int32 → Hp → Prop} {QQ : Option AV → Hp → Prop} (hw : w_M_partOf v0 v1 v2 h Q) (hQ : ∀ r9 h9, Q r9 h9 → QQ (some (ai r9)) h9) : aCall m_M_partOf d [ar v0, ai v1, ai v2] h 0 0 QQ := by
  refine aCall_in pl_M_partOf (nle rfl) ?_
  show aW none m_M_partOf d 0 [(0, ar v0), (1, ai v1), (2, ai v2)] [] h 0 0 QQ
  unfold w_M_partOf at hw
  refine r_iload_n (j := 1) d_M_partOf_0 rfl ?_
  refine r_aload_n (j := 0) d_M_partOf_1 rfl ?_
  obtain ⟨q1, hw⟩ := hw
  refine r_getR d_M_partOf_2 ok_12 (nle rfl) (nle rfl) rfl lf_M_45 q1 ?_
  refine r_iload_n (j := 2) d_M_partOf_5 rfl ?_
  obtain ⟨q2, hw⟩ := hw
  obtain ⟨q3, hw⟩ := hw
  refine r_iald d_M_partOf_6 q2 q3 ?_
  obtain ⟨q4, hw⟩ := hw
  refine r_idiv d_M_partOf_7 q4 ?_
  refine r_aload_n (j := 0) d_M_partOf_8 rfl ?_
  refine r_getR d_M_partOf_9 ok_12 (nle rfl) (nle rfl) rfl lf_M_39 q1 ?_
  refine r_iload_n (j := 2) d_M_partOf_12 rfl ?_
  obtain ⟨q5, hw⟩ := hw
  obtain ⟨q6, hw⟩ := hw
  refine r_iald d_M_partOf_13 q5 q6 ?_
  refine r_iconst d_M_partOf_14 kc_1 ?_
  refine r_iadd d_M_partOf_15 ?_
  obtain ⟨q7, hw⟩ := hw
  refine r_irem d_M_partOf_16 q7 ?_
  exact r_ireturn d_M_partOf_17.1 rfl (hQ _ _ hw)
set_option maxRecDepth 100000 in
set_option maxHeartbeats 4000000 in
theorem s_M_strayOf_L21 {d : Nat} (hd : 1 ≤ d + 1) {Q : Int32 → Hp → Prop} {QQ : Option AV → Hp → Prop} (hQ : ∀ r9 h9, Q r9 h9 → QQ (some (ai r9)) h9) {k6 : Int32 → Int32 → Hp → Prop} (hk6 : ∀ v4 v5 h9, k6 v4 v5 h9 → aW none m_M_strayOf (d + 1) 6 [(0, ar v0), (1, ai v1), (2, ai v2), (3, ai v3), (4, ai v4), (5, ai v5)] [] h9 0 0 QQ) {v0 : Nat} {v1 : Int32} {v2 : Int32} {v3 : Int32} {v4 : Int32} {v5 : Int32} : ∀ (n : Nat) (v6 : Int32) (v7 : Int32) (h : Hp), w_M_strayOf_L21 Q k6 v0 v1 v2 v3 v4 v5 n v6 v7 h → aW none m_M_strayOf (d + 1) 21 [(0, ar v0), (1, ai v1), (2, ai v2), (3, ai v3), (4, ai v4), (5, ai v5), (6, ai v6), (7, ai v7)] [] h 0 0 QQ := by
  intro n
  induction n with
  | zero => intro v6 v7 h hw; exact hw.elim
  | succ n ih =>
    intro v6 v7 h hw
    unfold w_M_strayOf_L21 at hw
    refine r_iload (j := 7) d_M_strayOf_21 rfl ?_
    refine r_aload_n (j := 0) d_M_strayOf_23 rfl ?_
    obtain ⟨q2, hw⟩ := hw
    refine r_getI d_M_strayOf_24 ok_12 (nle rfl) (nle rfl) rfl lf_M_247 q2 ?_
    refine r_icmp_ge d_M_strayOf_27 (fun w9 => ?_) (fun w9 => ?_)
    · replace hw := hw.1 w9
      refine r_iload (j := 4) d_M_strayOf_57 rfl ?_
      refine r_iload_n (j := 3) d_M_strayOf_59 rfl ?_
      refine r_iload (j := 6) d_M_strayOf_60 rfl ?_
      refine r_imul d_M_strayOf_62 ?_
      refine r_iload_n (j := 2) d_M_strayOf_63 rfl ?_
      refine r_aload_n (j := 0) d_M_strayOf_64 rfl ?_
      refine r_iload (j := 5) d_M_strayOf_65 rfl ?_
      refine r_callV (av := [ai v5]) (rest := [ai v2, ai (v3 * v6), ai v4]) (ci := 12) d_M_strayOf_67 mk_M_needOf ll_M_281 im_M_needOf se_M_needOf rfl (nle rfl) rfl rfl (nle rfl) q2 (s_M_needOf  hw (fun r4 h3 hw => ?_))
      show aW none m_M_strayOf (d + 1) 70 [(0, ar v0), (1, ai v1), (2, ai v2), (3, ai v3), (4, ai v4), (5, ai v5), (6, ai v6), (7, ai v7)] [ai r4, ai v2, ai (v3 * v6), ai v4] h3 0 0 QQ
      refine r_imul d_M_strayOf_70 ?_
      refine r_isub d_M_strayOf_71 ?_
      refine r_callS (av := [ai ((v3 * v6) - (v2 * r4))]) (rest := [ai v4]) d_M_strayOf_72 mk_M_plus ll_M_296 st_M_plus rfl rfl (nle rfl) (s_M_plus  hw (fun r6 h5 hw => ?_))
      show aW none m_M_strayOf (d + 1) 75 [(0, ar v0), (1, ai v1), (2, ai v2), (3, ai v3), (4, ai v4), (5, ai v5), (6, ai v6), (7, ai v7)] [ai r6, ai v4] h5 0 0 QQ
      refine r_callS (av := [ai v4, ai r6]) (rest := []) d_M_strayOf_75 mk_M_greater ll_M_343 st_M_greater rfl rfl (nle rfl) (s_M_greater  hw (fun r8 h7 hw => ?_))
      show aW none m_M_strayOf (d + 1) 78 [(0, ar v0), (1, ai v1), (2, ai v2), (3, ai v3), (4, ai v4), (5, ai v5), (6, ai v6), (7, ai v7)] [ai r8] h7 0 0 QQ
      refine r_istore (ls2 := [(4, ai r8), (0, ar v0), (1, ai v1), (2, ai v2), (3, ai v3), (5, ai v5), (6, ai v6), (7, ai v7)]) d_M_strayOf_78 (nle rfl) rfl ?_
      refine r_iinc (j := 5) (ls2 := [(5, ai (v5 + (1 : Int32))), (4, ai r8), (0, ar v0), (1, ai v1), (2, ai v2), (3, ai v3), (6, ai v6), (7, ai v7)]) d_M_strayOf_80 rfl (congrArg (HAdd.hAdd v5) kc_1) (nle rfl) rfl ?_
      refine r_goto d_M_strayOf_83 ?_
      refine r_pick (ls2 := [(0, ar v0), (1, ai v1), (2, ai v2), (3, ai v3), (4, ai r8), (5, ai (v5 + (1 : Int32)))]) [2, 3, 4, 5, 1, 0] rfl ?_
      exact hk6 _ _ _ hw
    · replace hw := hw.2 w9
      refine r_iload (j := 6) d_M_strayOf_30 rfl ?_
      refine r_aload_n (j := 0) d_M_strayOf_32 rfl ?_
      refine r_iload_n (j := 1) d_M_strayOf_33 rfl ?_
      refine r_iload (j := 7) d_M_strayOf_34 rfl ?_
      refine r_callV (av := [ai v1, ai v7]) (rest := [ai v6]) (ci := 12) d_M_strayOf_36 mk_M_partOf ll_M_340 im_M_partOf se_M_partOf rfl (nle rfl) rfl rfl (nle rfl) q2 (s_M_partOf  hw (fun r10 h9 hw => ?_))
      show aW none m_M_strayOf (d + 1) 39 [(0, ar v0), (1, ai v1), (2, ai v2), (3, ai v3), (4, ai v4), (5, ai v5), (6, ai v6), (7, ai v7)] [ai r10, ai v6] h9 0 0 QQ
      refine r_aload_n (j := 0) d_M_strayOf_39 rfl ?_
      refine r_iload (j := 7) d_M_strayOf_40 rfl ?_
      refine r_iload (j := 5) d_M_strayOf_42 rfl ?_
      obtain ⟨q13, hw⟩ := hw
      refine r_callV (av := [ai v7, ai v5]) (rest := [ai r10, ai v6]) (ci := 12) d_M_strayOf_44 mk_M_numberOf ll_M_274 im_M_numberOf se_M_numberOf rfl (nle rfl) rfl rfl (nle rfl) q13 (s_M_numberOf  hw (fun r12 h11 hw => ?_))
      show aW none m_M_strayOf (d + 1) 47 [(0, ar v0), (1, ai v1), (2, ai v2), (3, ai v3), (4, ai v4), (5, ai v5), (6, ai v6), (7, ai v7)] [ai r12, ai r10, ai v6] h11 0 0 QQ
      refine r_imul d_M_strayOf_47 ?_
      refine r_iadd d_M_strayOf_48 ?_
      refine r_istore (ls2 := [(6, ai (v6 + (r10 * r12))), (0, ar v0), (1, ai v1), (2, ai v2), (3, ai v3), (4, ai v4), (5, ai v5), (7, ai v7)]) d_M_strayOf_49 (nle rfl) rfl ?_
      refine r_iinc (j := 7) (ls2 := [(7, ai (v7 + (1 : Int32))), (6, ai (v6 + (r10 * r12))), (0, ar v0), (1, ai v1), (2, ai v2), (3, ai v3), (4, ai v4), (5, ai v5)]) d_M_strayOf_51 rfl (congrArg (HAdd.hAdd v7) kc_1) (nle rfl) rfl ?_
      refine r_goto d_M_strayOf_54 ?_
      refine r_pick (ls2 := [(0, ar v0), (1, ai v1), (2, ai v2), (3, ai v3), (4, ai v4), (5, ai v5), (6, ai (v6 + (r10 * r12))), (7, ai (v7 + (1 : Int32)))]) [2, 3, 4, 5, 6, 7, 1, 0] rfl ?_
      exact ih _ _ _ hw
set_option maxRecDepth 100000 in
set_option maxHeartbeats 4000000 in
theorem s_M_strayOf_L6 {d : Nat} (hd : 1 ≤ d + 1) {Q : Int32 → Hp → Prop} {QQ : Option AV → Hp → Prop} (hQ : ∀ r9 h9, Q r9 h9 → QQ (some (ai r9)) h9) {v0 : Nat} {v1 : Int32} {v2 : Int32} {v3 : Int32} : ∀ (n : Nat) (v4 : Int32) (v5 : Int32) (h : Hp), w_M_strayOf_L6 Q  v0 v1 v2 v3 n v4 v5 h → aW none m_M_strayOf (d + 1) 6 [(0, ar v0), (1, ai v1), (2, ai v2), (3, ai v3), (4, ai v4), (5, ai v5)] [] h 0 0 QQ := by
  intro n
  induction n with
  | zero => intro v4 v5 h hw; exact hw.elim
  | succ n ih =>
    intro v4 v5 h hw
    unfold w_M_strayOf_L6 at hw
    refine r_iload (j := 5) d_M_strayOf_6 rfl ?_
    refine r_aload_n (j := 0) d_M_strayOf_8 rfl ?_
    obtain ⟨q1, hw⟩ := hw
    refine r_getI d_M_strayOf_9 ok_12 (nle rfl) (nle rfl) rfl lf_M_244 q1 ?_
    refine r_icmp_ge d_M_strayOf_12 (fun w9 => ?_) (fun w9 => ?_)
    · replace hw := hw.1 w9
      refine r_iload (j := 4) d_M_strayOf_86 rfl ?_
      exact r_ireturn d_M_strayOf_88.1 rfl (hQ _ _ hw)
    · replace hw := hw.2 w9
      refine r_iconst d_M_strayOf_15 kc_0 ?_
      refine r_istore (ls2 := [(6, ai (0 : Int32)), (0, ar v0), (1, ai v1), (2, ai v2), (3, ai v3), (4, ai v4), (5, ai v5)]) d_M_strayOf_16 (nle rfl) rfl ?_
      refine r_iconst d_M_strayOf_18 kc_0 ?_
      refine r_istore (ls2 := [(7, ai (0 : Int32)), (6, ai (0 : Int32)), (0, ar v0), (1, ai v1), (2, ai v2), (3, ai v3), (4, ai v4), (5, ai v5)]) d_M_strayOf_19 (nle rfl) rfl ?_
      obtain ⟨n14, hw⟩ := hw
      refine r_pick (ls2 := [(0, ar v0), (1, ai v1), (2, ai v2), (3, ai v3), (4, ai v4), (5, ai v5), (6, ai (0 : Int32)), (7, ai (0 : Int32))]) [2, 3, 4, 5, 6, 7, 1, 0] rfl ?_
      exact s_M_strayOf_L21 hd hQ ih n14 _ _ _ hw
set_option maxRecDepth 100000 in
set_option maxHeartbeats 4000000 in
theorem s_M_strayOf {d : Nat} (hd : 1 ≤ d) {v0 : Nat} {v1 : Int32} {v2 : Int32} {v3 : Int32} {h : Hp} {Q : Int32 → Hp → Prop} {QQ : Option AV → Hp → Prop} (hw : w_M_strayOf v0 v1 v2 v3 h Q) (hQ : ∀ r9 h9, Q r9 h9 → QQ (some (ai r9)) h9) : aCall m_M_strayOf d [ar v0, ai v1, ai v2, ai v3] h 0 0 QQ := by
  obtain ⟨d, rfl⟩ : ∃ d9, d = d9 + 1 := ⟨d - 1, by omega⟩
  refine aCall_in pl_M_strayOf (nle rfl) ?_
  show aW none m_M_strayOf (d + 1) 0 [(0, ar v0), (1, ai v1), (2, ai v2), (3, ai v3)] [] h 0 0 QQ
  unfold w_M_strayOf at hw
  refine r_iconst d_M_strayOf_0 kc_0 ?_
  refine r_istore (ls2 := [(4, ai (0 : Int32)), (0, ar v0), (1, ai v1), (2, ai v2), (3, ai v3)]) d_M_strayOf_1 (nle rfl) rfl ?_
  refine r_iconst d_M_strayOf_3 kc_0 ?_
  refine r_istore (ls2 := [(5, ai (0 : Int32)), (4, ai (0 : Int32)), (0, ar v0), (1, ai v1), (2, ai v2), (3, ai v3)]) d_M_strayOf_4 (nle rfl) rfl ?_
  obtain ⟨n15, hw⟩ := hw
  refine r_pick (ls2 := [(0, ar v0), (1, ai v1), (2, ai v2), (3, ai v3), (4, ai (0 : Int32)), (5, ai (0 : Int32))]) [2, 3, 4, 5, 1, 0] rfl ?_
  exact s_M_strayOf_L6 hd hQ  n15 _ _ _ hw
set_option maxRecDepth 100000 in
set_option maxHeartbeats 4000000 in
theorem s_M_stepsIn_L4 {d : Nat} (hd : 1 ≤ d + 1) {Q : Int32 → Hp → Prop} {QQ : Option AV → Hp → Prop} (hQ : ∀ r9 h9, Q r9 h9 → QQ (some (ai r9)) h9) {v0 : Nat} {v1 : Int32} : ∀ (n : Nat) (v2 : Int32) (v3 : Int32) (h : Hp), w_M_stepsIn_L4 Q  v0 v1 n v2 v3 h → aW none m_M_stepsIn (d + 1) 4 [(0, ar v0), (1, ai v1), (2, ai v2), (3, ai v3)] [] h 0 0 QQ := by
  intro n
  induction n with
  | zero => intro v2 v3 h hw; exact hw.elim
  | succ n ih =>
    intro v2 v3 h hw
    unfold w_M_stepsIn_L4 at hw
    refine r_iload_n (j := 3) d_M_stepsIn_4 rfl ?_
    refine r_aload_n (j := 0) d_M_stepsIn_5 rfl ?_
    obtain ⟨q1, hw⟩ := hw
    refine r_getI d_M_stepsIn_6 ok_12 (nle rfl) (nle rfl) rfl lf_M_247 q1 ?_
    refine r_icmp_ge d_M_stepsIn_9 (fun w9 => ?_) (fun w9 => ?_)
    · replace hw := hw.1 w9
      refine r_iload_n (j := 2) d_M_stepsIn_27 rfl ?_
      exact r_ireturn d_M_stepsIn_28.1 rfl (hQ _ _ hw)
    · replace hw := hw.2 w9
      refine r_iload_n (j := 2) d_M_stepsIn_12 rfl ?_
      refine r_aload_n (j := 0) d_M_stepsIn_13 rfl ?_
      refine r_iload_n (j := 1) d_M_stepsIn_14 rfl ?_
      refine r_iload_n (j := 3) d_M_stepsIn_15 rfl ?_
      refine r_callV (av := [ai v1, ai v3]) (rest := [ai v2]) (ci := 12) d_M_stepsIn_16 mk_M_partOf ll_M_340 im_M_partOf se_M_partOf rfl (nle rfl) rfl rfl (nle rfl) q1 (s_M_partOf  hw (fun r3 h2 hw => ?_))
      show aW none m_M_stepsIn (d + 1) 19 [(0, ar v0), (1, ai v1), (2, ai v2), (3, ai v3)] [ai r3, ai v2] h2 0 0 QQ
      refine r_iadd d_M_stepsIn_19 ?_
      refine r_istore_n (ls2 := [(2, ai (v2 + r3)), (0, ar v0), (1, ai v1), (3, ai v3)]) d_M_stepsIn_20 (nle rfl) rfl ?_
      refine r_iinc (j := 3) (ls2 := [(3, ai (v3 + (1 : Int32))), (2, ai (v2 + r3)), (0, ar v0), (1, ai v1)]) d_M_stepsIn_21 rfl (congrArg (HAdd.hAdd v3) kc_1) (nle rfl) rfl ?_
      refine r_goto d_M_stepsIn_24 ?_
      refine r_pick (ls2 := [(0, ar v0), (1, ai v1), (2, ai (v2 + r3)), (3, ai (v3 + (1 : Int32)))]) [2, 3, 1, 0] rfl ?_
      exact ih _ _ _ hw
set_option maxRecDepth 100000 in
set_option maxHeartbeats 4000000 in
theorem s_M_stepsIn {d : Nat} (hd : 1 ≤ d) {v0 : Nat} {v1 : Int32} {h : Hp} {Q : Int32 → Hp → Prop} {QQ : Option AV → Hp → Prop} (hw : w_M_stepsIn v0 v1 h Q) (hQ : ∀ r9 h9, Q r9 h9 → QQ (some (ai r9)) h9) : aCall m_M_stepsIn d [ar v0, ai v1] h 0 0 QQ := by
  obtain ⟨d, rfl⟩ : ∃ d9, d = d9 + 1 := ⟨d - 1, by omega⟩
  refine aCall_in pl_M_stepsIn (nle rfl) ?_
  show aW none m_M_stepsIn (d + 1) 0 [(0, ar v0), (1, ai v1)] [] h 0 0 QQ
  unfold w_M_stepsIn at hw
  refine r_iconst d_M_stepsIn_0 kc_0 ?_
  refine r_istore_n (ls2 := [(2, ai (0 : Int32)), (0, ar v0), (1, ai v1)]) d_M_stepsIn_1 (nle rfl) rfl ?_
  refine r_iconst d_M_stepsIn_2 kc_0 ?_
  refine r_istore_n (ls2 := [(3, ai (0 : Int32)), (2, ai (0 : Int32)), (0, ar v0), (1, ai v1)]) d_M_stepsIn_3 (nle rfl) rfl ?_
  obtain ⟨n4, hw⟩ := hw
  refine r_pick (ls2 := [(0, ar v0), (1, ai v1), (2, ai (0 : Int32)), (3, ai (0 : Int32))]) [2, 3, 1, 0] rfl ?_
  exact s_M_stepsIn_L4 hd hQ  n4 _ _ _ hw
set_option maxRecDepth 100000 in
set_option maxHeartbeats 4000000 in
theorem s_M_laysOrder_L80 {d : Nat} (hd : 2 ≤ d + 1) {Q : Hp → Prop} {QQ : Option AV → Hp → Prop} (hQ : ∀ h9, Q h9 → QQ none h9) {k60 : Int32 → Hp → Prop} (hk60 : ∀ v2 h9, k60 v2 h9 → aW none m_M_laysOrder (d + 1) 60 [(0, ar v0), (1, ai v1), (2, ai v2)] [] h9 0 0 QQ) {v0 : Nat} {v1 : Int32} {v2 : Int32} : ∀ (n : Nat) (v3 : Int32) (v4 : Int32) (h : Hp), w_M_laysOrder_L80 Q k60 v0 v1 v2 n v3 v4 h → aW none m_M_laysOrder (d + 1) 80 [(0, ar v0), (1, ai v1), (2, ai v2), (3, ai v3), (4, ai v4)] [] h 0 0 QQ := by
  intro n
  induction n with
  | zero => intro v3 v4 h hw; exact hw.elim
  | succ n ih =>
    intro v3 v4 h hw
    unfold w_M_laysOrder_L80 at hw
    refine r_iload (j := 4) d_M_laysOrder_80 rfl ?_
    refine r_aload_n (j := 0) d_M_laysOrder_82 rfl ?_
    obtain ⟨q7, hw⟩ := hw
    refine r_getI d_M_laysOrder_83 ok_12 (nle rfl) (nle rfl) rfl lf_M_247 q7 ?_
    refine r_icmp_ge d_M_laysOrder_86 (fun w9 => ?_) (fun w9 => ?_)
    · replace hw := hw.1 w9
      refine r_aload_n (j := 0) d_M_laysOrder_131 rfl ?_
      refine r_getR d_M_laysOrder_132 ok_12 (nle rfl) (nle rfl) rfl lf_M_42 q7 ?_
      refine r_iload_n (j := 2) d_M_laysOrder_135 rfl ?_
      refine r_iload_n (j := 3) d_M_laysOrder_136 rfl ?_
      refine r_aload_n (j := 0) d_M_laysOrder_137 rfl ?_
      refine r_iload_n (j := 2) d_M_laysOrder_138 rfl ?_
      refine r_aload_n (j := 0) d_M_laysOrder_139 rfl ?_
      refine r_iload_n (j := 2) d_M_laysOrder_140 rfl ?_
      refine r_callV (av := [ai v2]) (rest := [ai v2, ar v0, ai v3, ai v2, ar (gR h v0 30)]) (ci := 12) d_M_laysOrder_141 mk_M_stepsIn ll_M_350 im_M_stepsIn se_M_stepsIn rfl (nle rfl) rfl rfl (nle rfl) q7 (s_M_stepsIn (by omega) hw (fun r9 h8 hw => ?_))
      show aW none m_M_laysOrder (d + 1) 144 [(0, ar v0), (1, ai v1), (2, ai v2), (3, ai v3), (4, ai v4)] [ai r9, ai v2, ar v0, ai v3, ai v2, ar (gR h v0 30)] h8 0 0 QQ
      refine r_aload_n (j := 0) d_M_laysOrder_144 rfl ?_
      obtain ⟨q10, hw⟩ := hw
      refine r_getI d_M_laysOrder_145 ok_12 (nle rfl) (nle rfl) rfl lf_M_328 q10 ?_
      refine r_callV (av := [ai v2, ai r9, ai (gI h8 v0 29)]) (rest := [ai v3, ai v2, ar (gR h v0 30)]) (ci := 12) d_M_laysOrder_148 mk_M_strayOf ll_M_353 im_M_strayOf se_M_strayOf rfl (nle rfl) rfl rfl (nle rfl) q10 (s_M_strayOf (by omega) hw (fun r12 h11 hw => ?_))
      show aW none m_M_laysOrder (d + 1) 151 [(0, ar v0), (1, ai v1), (2, ai v2), (3, ai v3), (4, ai v4)] [ai r12, ai v3, ai v2, ar (gR h v0 30)] h11 0 0 QQ
      refine r_callS (av := [ai v3, ai r12]) (rest := [ai v2, ar (gR h v0 30)]) d_M_laysOrder_151 mk_M_greater ll_M_343 st_M_greater rfl rfl (nle rfl) (s_M_greater  hw (fun r14 h13 hw => ?_))
      show aW none m_M_laysOrder (d + 1) 154 [(0, ar v0), (1, ai v1), (2, ai v2), (3, ai v3), (4, ai v4)] [ai r14, ai v2, ar (gR h v0 30)] h13 0 0 QQ
      obtain ⟨q15, hw⟩ := hw
      obtain ⟨q16, hw⟩ := hw
      refine r_iast d_M_laysOrder_154 q15 q16 ?_
      refine r_iinc (j := 2) (ls2 := [(2, ai (v2 + (-1 : Int32))), (0, ar v0), (1, ai v1), (3, ai v3), (4, ai v4)]) d_M_laysOrder_155 rfl (congrArg (HAdd.hAdd v2) kc_m1) (nle rfl) rfl ?_
      refine r_goto d_M_laysOrder_158 ?_
      refine r_pick (ls2 := [(0, ar v0), (1, ai v1), (2, ai (v2 + (-1 : Int32)))]) [1, 2, 0] rfl ?_
      exact hk60 _ _ hw
    · replace hw := hw.2 w9
      refine r_aload_n (j := 0) d_M_laysOrder_89 rfl ?_
      refine r_iload_n (j := 2) d_M_laysOrder_90 rfl ?_
      refine r_iload (j := 4) d_M_laysOrder_91 rfl ?_
      refine r_callV (av := [ai v2, ai v4]) (rest := []) (ci := 12) d_M_laysOrder_93 mk_M_partOf ll_M_340 im_M_partOf se_M_partOf rfl (nle rfl) rfl rfl (nle rfl) q7 (s_M_partOf  hw (fun r18 h17 hw => ?_))
      show aW none m_M_laysOrder (d + 1) 96 [(0, ar v0), (1, ai v1), (2, ai v2), (3, ai v3), (4, ai v4)] [ai r18] h17 0 0 QQ
      refine r_aload_n (j := 0) d_M_laysOrder_96 rfl ?_
      obtain ⟨q19, hw⟩ := hw
      refine r_getR d_M_laysOrder_97 ok_12 (nle rfl) (nle rfl) rfl lf_M_39 q19 ?_
      refine r_iload (j := 4) d_M_laysOrder_100 rfl ?_
      obtain ⟨q20, hw⟩ := hw
      obtain ⟨q21, hw⟩ := hw
      refine r_iald d_M_laysOrder_102 q20 q21 ?_
      refine r_icmp_ge d_M_laysOrder_103 (fun w9 => ?_) (fun w9 => ?_)
      · replace hw := hw.1 w9
        refine r_iinc (j := 4) (ls2 := [(4, ai (v4 + (1 : Int32))), (0, ar v0), (1, ai v1), (2, ai v2), (3, ai v3)]) d_M_laysOrder_125 rfl (congrArg (HAdd.hAdd v4) kc_1) (nle rfl) rfl ?_
        refine r_goto d_M_laysOrder_128 ?_
        refine r_pick (ls2 := [(0, ar v0), (1, ai v1), (2, ai v2), (3, ai v3), (4, ai (v4 + (1 : Int32)))]) [1, 2, 3, 4, 0] rfl ?_
        exact ih _ _ _ hw
      · replace hw := hw.2 w9
        refine r_iload_n (j := 3) d_M_laysOrder_106 rfl ?_
        refine r_aload_n (j := 0) d_M_laysOrder_107 rfl ?_
        refine r_getR d_M_laysOrder_108 ok_12 (nle rfl) (nle rfl) rfl lf_M_42 q19 ?_
        refine r_iload_n (j := 2) d_M_laysOrder_111 rfl ?_
        refine r_aload_n (j := 0) d_M_laysOrder_112 rfl ?_
        refine r_getR d_M_laysOrder_113 ok_12 (nle rfl) (nle rfl) rfl lf_M_45 q19 ?_
        refine r_iload (j := 4) d_M_laysOrder_116 rfl ?_
        obtain ⟨q22, hw⟩ := hw
        obtain ⟨q23, hw⟩ := hw
        refine r_iald d_M_laysOrder_118 q22 q23 ?_
        refine r_iadd d_M_laysOrder_119 ?_
        obtain ⟨q24, hw⟩ := hw
        obtain ⟨q25, hw⟩ := hw
        refine r_iald d_M_laysOrder_120 q24 q25 ?_
        refine r_callS (av := [ai v3, ai (gI h17 (gR h17 v0 30) (ix (v2 + (gI h17 (gR h17 v0 31) (ix v4)))))]) (rest := []) d_M_laysOrder_121 mk_M_lesser ll_M_347 st_M_lesser rfl rfl (nle rfl) (s_M_lesser  hw (fun r27 h26 hw => ?_))
        show aW none m_M_laysOrder (d + 1) 124 [(0, ar v0), (1, ai v1), (2, ai v2), (3, ai v3), (4, ai v4)] [ai r27] h26 0 0 QQ
        refine r_istore_n (ls2 := [(3, ai r27), (0, ar v0), (1, ai v1), (2, ai v2), (4, ai v4)]) d_M_laysOrder_124 (nle rfl) rfl ?_
        refine r_iinc (j := 4) (ls2 := [(4, ai (v4 + (1 : Int32))), (3, ai r27), (0, ar v0), (1, ai v1), (2, ai v2)]) d_M_laysOrder_125 rfl (congrArg (HAdd.hAdd v4) kc_1) (nle rfl) rfl ?_
        refine r_goto d_M_laysOrder_128 ?_
        refine r_pick (ls2 := [(0, ar v0), (1, ai v1), (2, ai v2), (3, ai r27), (4, ai (v4 + (1 : Int32)))]) [2, 3, 4, 1, 0] rfl ?_
        exact ih _ _ _ hw
set_option maxRecDepth 100000 in
set_option maxHeartbeats 4000000 in
theorem s_M_laysOrder_L60 {d : Nat} (hd : 2 ≤ d + 1) {Q : Hp → Prop} {QQ : Option AV → Hp → Prop} (hQ : ∀ h9, Q h9 → QQ none h9) {v0 : Nat} {v1 : Int32} : ∀ (n : Nat) (v2 : Int32) (h : Hp), w_M_laysOrder_L60 Q  v0 v1 n v2 h → aW none m_M_laysOrder (d + 1) 60 [(0, ar v0), (1, ai v1), (2, ai v2)] [] h 0 0 QQ := by
  intro n
  induction n with
  | zero => intro v2 h hw; exact hw.elim
  | succ n ih =>
    intro v2 h hw
    unfold w_M_laysOrder_L60 at hw
    refine r_iload_n (j := 2) d_M_laysOrder_60 rfl ?_
    refine r_if_lt d_M_laysOrder_61 (fun w9 => ?_) (fun w9 => ?_)
    · replace hw := hw.1 w9
      exact r_return d_M_laysOrder_161.1 rfl (hQ _ hw)
    · replace hw := hw.2 w9
      refine r_iload_n (j := 2) d_M_laysOrder_64 rfl ?_
      refine r_iload_n (j := 1) d_M_laysOrder_65 rfl ?_
      refine r_icmp_ne d_M_laysOrder_66 (fun w9 => ?_) (fun w9 => ?_)
      · replace hw := hw.2 w9
        refine r_ldcw d_M_laysOrder_73 lc_M_346 ?_
        refine r_istore_n (ls2 := [(3, ai (1000000000 : Int32)), (0, ar v0), (1, ai v1), (2, ai v2)]) d_M_laysOrder_76 (nle rfl) rfl ?_
        refine r_iconst d_M_laysOrder_77 kc_0 ?_
        refine r_istore (ls2 := [(4, ai (0 : Int32)), (3, ai (1000000000 : Int32)), (0, ar v0), (1, ai v1), (2, ai v2)]) d_M_laysOrder_78 (nle rfl) rfl ?_
        obtain ⟨n28, hw⟩ := hw
        refine r_pick (ls2 := [(0, ar v0), (1, ai v1), (2, ai v2), (3, ai (1000000000 : Int32)), (4, ai (0 : Int32))]) [2, 3, 4, 1, 0] rfl ?_
        exact s_M_laysOrder_L80 hd hQ ih n28 _ _ _ hw
      · replace hw := hw.1 w9
        refine r_iconst d_M_laysOrder_69 kc_0 ?_
        refine r_goto d_M_laysOrder_70 ?_
        refine r_istore_n (ls2 := [(3, ai (0 : Int32)), (0, ar v0), (1, ai v1), (2, ai v2)]) d_M_laysOrder_76 (nle rfl) rfl ?_
        refine r_iconst d_M_laysOrder_77 kc_0 ?_
        refine r_istore (ls2 := [(4, ai (0 : Int32)), (3, ai (0 : Int32)), (0, ar v0), (1, ai v1), (2, ai v2)]) d_M_laysOrder_78 (nle rfl) rfl ?_
        obtain ⟨n29, hw⟩ := hw
        refine r_pick (ls2 := [(0, ar v0), (1, ai v1), (2, ai v2), (3, ai (0 : Int32)), (4, ai (0 : Int32))]) [2, 3, 4, 1, 0] rfl ?_
        exact s_M_laysOrder_L80 hd hQ ih n29 _ _ _ hw
set_option maxRecDepth 100000 in
set_option maxHeartbeats 4000000 in
theorem s_M_laysOrder_L9 {d : Nat} (hd : 2 ≤ d + 1) {Q : Hp → Prop} {QQ : Option AV → Hp → Prop} (hQ : ∀ h9, Q h9 → QQ none h9) {v0 : Nat} : ∀ (n : Nat) (v1 : Int32) (h : Hp), w_M_laysOrder_L9 Q  v0 n v1 h → aW none m_M_laysOrder (d + 1) 9 [(0, ar v0), (1, ai v1)] [] h 0 0 QQ := by
  intro n
  induction n with
  | zero => intro v1 h hw; exact hw.elim
  | succ n ih =>
    intro v1 h hw
    unfold w_M_laysOrder_L9 at hw
    refine r_iload_n (j := 1) d_M_laysOrder_9 rfl ?_
    refine r_aload_n (j := 0) d_M_laysOrder_10 rfl ?_
    obtain ⟨q4, hw⟩ := hw
    refine r_getI d_M_laysOrder_11 ok_12 (nle rfl) (nle rfl) rfl lf_M_247 q4 ?_
    refine r_icmp_ge d_M_laysOrder_14 (fun w9 => ?_) (fun w9 => ?_)
    · replace hw := hw.1 w9
      refine r_aload_n (j := 0) d_M_laysOrder_46 rfl ?_
      refine r_getR d_M_laysOrder_47 ok_12 (nle rfl) (nle rfl) rfl lf_M_45 q4 ?_
      refine r_aload_n (j := 0) d_M_laysOrder_50 rfl ?_
      refine r_getI d_M_laysOrder_51 ok_12 (nle rfl) (nle rfl) rfl lf_M_247 q4 ?_
      obtain ⟨q5, hw⟩ := hw
      obtain ⟨q6, hw⟩ := hw
      refine r_iald d_M_laysOrder_54 q5 q6 ?_
      refine r_iconst d_M_laysOrder_55 kc_1 ?_
      refine r_isub d_M_laysOrder_56 ?_
      refine r_istore_n (ls2 := [(1, ai ((gI h (gR h v0 31) (ix (gI h v0 18))) - (1 : Int32))), (0, ar v0)]) d_M_laysOrder_57 (nle rfl) rfl ?_
      refine r_iload_n (j := 0) d_M_laysOrder_58 rfl ?_
      refine r_istore_n (ls2 := [(2, ai ((gI h (gR h v0 31) (ix (gI h v0 18))) - (1 : Int32))), (1, ai ((gI h (gR h v0 31) (ix (gI h v0 18))) - (1 : Int32))), (0, ar v0)]) d_M_laysOrder_59 (nle rfl) rfl ?_
      obtain ⟨n30, hw⟩ := hw
      refine r_pick (ls2 := [(0, ar v0), (1, ai ((gI h (gR h v0 31) (ix (gI h v0 18))) - (1 : Int32))), (2, ai ((gI h (gR h v0 31) (ix (gI h v0 18))) - (1 : Int32)))]) [2, 1, 0] rfl ?_
      exact s_M_laysOrder_L60 hd hQ  n30 _ _ hw
    · replace hw := hw.2 w9
      refine r_aload_n (j := 0) d_M_laysOrder_17 rfl ?_
      refine r_getR d_M_laysOrder_18 ok_12 (nle rfl) (nle rfl) rfl lf_M_45 q4 ?_
      refine r_iload_n (j := 1) d_M_laysOrder_21 rfl ?_
      refine r_iconst d_M_laysOrder_22 kc_1 ?_
      refine r_iadd d_M_laysOrder_23 ?_
      refine r_aload_n (j := 0) d_M_laysOrder_24 rfl ?_
      refine r_getR d_M_laysOrder_25 ok_12 (nle rfl) (nle rfl) rfl lf_M_45 q4 ?_
      refine r_iload_n (j := 1) d_M_laysOrder_28 rfl ?_
      obtain ⟨q31, hw⟩ := hw
      obtain ⟨q32, hw⟩ := hw
      refine r_iald d_M_laysOrder_29 q31 q32 ?_
      refine r_aload_n (j := 0) d_M_laysOrder_30 rfl ?_
      refine r_getR d_M_laysOrder_31 ok_12 (nle rfl) (nle rfl) rfl lf_M_39 q4 ?_
      refine r_iload_n (j := 1) d_M_laysOrder_34 rfl ?_
      obtain ⟨q33, hw⟩ := hw
      obtain ⟨q34, hw⟩ := hw
      refine r_iald d_M_laysOrder_35 q33 q34 ?_
      refine r_iconst d_M_laysOrder_36 kc_1 ?_
      refine r_iadd d_M_laysOrder_37 ?_
      refine r_imul d_M_laysOrder_38 ?_
      obtain ⟨q35, hw⟩ := hw
      refine r_iast d_M_laysOrder_39 q31 q35 ?_
      refine r_iinc (j := 1) (ls2 := [(1, ai (v1 + (1 : Int32))), (0, ar v0)]) d_M_laysOrder_40 rfl (congrArg (HAdd.hAdd v1) kc_1) (nle rfl) rfl ?_
      refine r_goto d_M_laysOrder_43 ?_
      refine r_pick (ls2 := [(0, ar v0), (1, ai (v1 + (1 : Int32)))]) [1, 0] rfl ?_
      exact ih _ _ hw
set_option maxRecDepth 100000 in
set_option maxHeartbeats 4000000 in
theorem s_M_laysOrder {d : Nat} (hd : 2 ≤ d) {v0 : Nat} {h : Hp} {Q : Hp → Prop} {QQ : Option AV → Hp → Prop} (hw : w_M_laysOrder v0 h Q) (hQ : ∀ h9, Q h9 → QQ none h9) : aCall m_M_laysOrder d [ar v0] h 0 0 QQ := by
  obtain ⟨d, rfl⟩ : ∃ d9, d = d9 + 1 := ⟨d - 1, by omega⟩
  refine aCall_in pl_M_laysOrder (nle rfl) ?_
  show aW none m_M_laysOrder (d + 1) 0 [(0, ar v0)] [] h 0 0 QQ
  unfold w_M_laysOrder at hw
  refine r_aload_n (j := 0) d_M_laysOrder_0 rfl ?_
  obtain ⟨q1, hw⟩ := hw
  refine r_getR d_M_laysOrder_1 ok_12 (nle rfl) (nle rfl) rfl lf_M_45 q1 ?_
  refine r_iconst d_M_laysOrder_4 kc_0 ?_
  refine r_iconst d_M_laysOrder_5 kc_1 ?_
  obtain ⟨q2, hw⟩ := hw
  obtain ⟨q3, hw⟩ := hw
  refine r_iast d_M_laysOrder_6 q2 q3 ?_
  refine r_iconst d_M_laysOrder_7 kc_0 ?_
  refine r_istore_n (ls2 := [(1, ai (0 : Int32)), (0, ar v0)]) d_M_laysOrder_8 (nle rfl) rfl ?_
  obtain ⟨n36, hw⟩ := hw
  refine r_pick (ls2 := [(0, ar v0), (1, ai (0 : Int32))]) [1, 0] rfl ?_
  exact s_M_laysOrder_L9 hd hQ  n36 _ _ hw
set_option maxRecDepth 100000 in
set_option maxHeartbeats 4000000 in
theorem s_M_order_L42 {d : Nat} (hd : 4 ≤ d + 1) {Q : Int32 → Hp → Prop} {QQ : Option AV → Hp → Prop} (hQ : ∀ r9 h9, Q r9 h9 → QQ (some (ai r9)) h9) {k34 : Int32 → Int32 → Int32 → Hp → Prop} (hk34 : ∀ v2 v3 v4 h9, k34 v2 v3 v4 h9 → aW none m_M_order (d + 1) 34 [(0, ar v0), (1, ai v1), (2, ai v2), (3, ai v3), (4, ai v4)] [] h9 0 0 QQ) {v0 : Nat} {v1 : Int32} {v2 : Int32} {v4 : Int32} : ∀ (n : Nat) (v3 : Int32) (h : Hp), w_M_order_L42 Q k34 v0 v1 v2 v4 n v3 h → aW none m_M_order (d + 1) 42 [(0, ar v0), (1, ai v1), (2, ai v2), (3, ai v3), (4, ai v4)] [] h 0 0 QQ := by
  intro n
  induction n with
  | zero => intro v3 h hw; exact hw.elim
  | succ n ih =>
    intro v3 h hw
    unfold w_M_order_L42 at hw
    refine r_aload_n (j := 0) d_M_order_42 rfl ?_
    refine r_iload_n (j := 2) d_M_order_43 rfl ?_
    refine r_iload_n (j := 3) d_M_order_44 rfl ?_
    obtain ⟨q11, hw⟩ := hw
    refine r_callV (av := [ai v2, ai v3]) (rest := []) (ci := 12) d_M_order_45 mk_M_partOf ll_M_340 im_M_partOf se_M_partOf rfl (nle rfl) rfl rfl (nle rfl) q11 (s_M_partOf  hw (fun r10 h9 hw => ?_))
    show aW none m_M_order (d + 1) 48 [(0, ar v0), (1, ai v1), (2, ai v2), (3, ai v3), (4, ai v4)] [ai r10] h9 0 0 QQ
    refine r_aload_n (j := 0) d_M_order_48 rfl ?_
    obtain ⟨q12, hw⟩ := hw
    refine r_getR d_M_order_49 ok_12 (nle rfl) (nle rfl) rfl lf_M_39 q12 ?_
    refine r_iload_n (j := 3) d_M_order_52 rfl ?_
    obtain ⟨q13, hw⟩ := hw
    obtain ⟨q14, hw⟩ := hw
    refine r_iald d_M_order_53 q13 q14 ?_
    refine r_icmp_eq d_M_order_54 (fun w9 => ?_) (fun w9 => ?_)
    · replace hw := hw.1 w9
      refine r_iinc (j := 3) (ls2 := [(3, ai (v3 + (1 : Int32))), (0, ar v0), (1, ai v1), (2, ai v2), (4, ai v4)]) d_M_order_79 rfl (congrArg (HAdd.hAdd v3) kc_1) (nle rfl) rfl ?_
      refine r_goto d_M_order_82 ?_
      refine r_pick (ls2 := [(0, ar v0), (1, ai v1), (2, ai v2), (3, ai (v3 + (1 : Int32))), (4, ai v4)]) [1, 2, 3, 0, 4] rfl ?_
      exact ih _ _ hw
    · replace hw := hw.2 w9
      refine r_aload_n (j := 0) d_M_order_57 rfl ?_
      refine r_getR d_M_order_58 ok_12 (nle rfl) (nle rfl) rfl lf_M_42 q12 ?_
      refine r_iload_n (j := 2) d_M_order_61 rfl ?_
      refine r_aload_n (j := 0) d_M_order_62 rfl ?_
      refine r_getR d_M_order_63 ok_12 (nle rfl) (nle rfl) rfl lf_M_45 q12 ?_
      refine r_iload_n (j := 3) d_M_order_66 rfl ?_
      obtain ⟨q15, hw⟩ := hw
      obtain ⟨q16, hw⟩ := hw
      refine r_iald d_M_order_67 q15 q16 ?_
      refine r_iadd d_M_order_68 ?_
      obtain ⟨q17, hw⟩ := hw
      obtain ⟨q18, hw⟩ := hw
      refine r_iald d_M_order_69 q17 q18 ?_
      refine r_aload_n (j := 0) d_M_order_70 rfl ?_
      refine r_getR d_M_order_71 ok_12 (nle rfl) (nle rfl) rfl lf_M_42 q12 ?_
      refine r_iconst d_M_order_74 kc_0 ?_
      obtain ⟨q19, hw⟩ := hw
      refine r_iald d_M_order_75 q17 q19 ?_
      refine r_icmp_le d_M_order_76 (fun w9 => ?_) (fun w9 => ?_)
      · replace hw := hw.1 w9
        refine r_iload_n (j := 2) d_M_order_85 rfl ?_
        refine r_aload_n (j := 0) d_M_order_86 rfl ?_
        refine r_getR d_M_order_87 ok_12 (nle rfl) (nle rfl) rfl lf_M_45 q12 ?_
        refine r_iload_n (j := 3) d_M_order_90 rfl ?_
        refine r_iald d_M_order_91 q15 q16 ?_
        refine r_iadd d_M_order_92 ?_
        refine r_istore_n (ls2 := [(2, ai (v2 + (gI h9 (gR h9 v0 31) (ix v3)))), (0, ar v0), (1, ai v1), (3, ai v3), (4, ai v4)]) d_M_order_93 (nle rfl) rfl ?_
        refine r_iinc (j := 4) (ls2 := [(4, ai (v4 + (1 : Int32))), (2, ai (v2 + (gI h9 (gR h9 v0 31) (ix v3)))), (0, ar v0), (1, ai v1), (3, ai v3)]) d_M_order_94 rfl (congrArg (HAdd.hAdd v4) kc_1) (nle rfl) rfl ?_
        refine r_goto d_M_order_97 ?_
        refine r_pick (ls2 := [(0, ar v0), (1, ai v1), (2, ai (v2 + (gI h9 (gR h9 v0 31) (ix v3)))), (3, ai v3), (4, ai (v4 + (1 : Int32)))]) [2, 3, 1, 4, 0] rfl ?_
        exact hk34 _ _ _ _ hw
      · replace hw := hw.2 w9
        refine r_iinc (j := 3) (ls2 := [(3, ai (v3 + (1 : Int32))), (0, ar v0), (1, ai v1), (2, ai v2), (4, ai v4)]) d_M_order_79 rfl (congrArg (HAdd.hAdd v3) kc_1) (nle rfl) rfl ?_
        refine r_goto d_M_order_82 ?_
        refine r_pick (ls2 := [(0, ar v0), (1, ai v1), (2, ai v2), (3, ai (v3 + (1 : Int32))), (4, ai v4)]) [1, 2, 3, 0, 4] rfl ?_
        exact ih _ _ hw
set_option maxRecDepth 100000 in
set_option maxHeartbeats 4000000 in
theorem s_M_order_L34 {d : Nat} (hd : 4 ≤ d + 1) {Q : Int32 → Hp → Prop} {QQ : Option AV → Hp → Prop} (hQ : ∀ r9 h9, Q r9 h9 → QQ (some (ai r9)) h9) {v0 : Nat} {v1 : Int32} : ∀ (n : Nat) (v2 : Int32) (v3 : Int32) (v4 : Int32) (h : Hp), w_M_order_L34 Q  v0 v1 n v2 v3 v4 h → aW none m_M_order (d + 1) 34 [(0, ar v0), (1, ai v1), (2, ai v2), (3, ai v3), (4, ai v4)] [] h 0 0 QQ := by
  intro n
  induction n with
  | zero => intro v2 v3 v4 h hw; exact hw.elim
  | succ n ih =>
    intro v2 v3 v4 h hw
    unfold w_M_order_L34 at hw
    refine r_iload (j := 4) d_M_order_34 rfl ?_
    refine r_iload_n (j := 1) d_M_order_36 rfl ?_
    refine r_icmp_gt d_M_order_37 (fun w9 => ?_) (fun w9 => ?_)
    · replace hw := hw.1 w9
      refine r_iload_n (j := 3) d_M_order_100 rfl ?_
      exact r_ireturn d_M_order_101.1 rfl (hQ _ _ hw)
    · replace hw := hw.2 w9
      refine r_iconst d_M_order_40 kc_0 ?_
      refine r_istore_n (ls2 := [(3, ai (0 : Int32)), (0, ar v0), (1, ai v1), (2, ai v2), (4, ai v4)]) d_M_order_41 (nle rfl) rfl ?_
      obtain ⟨n20, hw⟩ := hw
      refine r_pick (ls2 := [(0, ar v0), (1, ai v1), (2, ai v2), (3, ai (0 : Int32)), (4, ai v4)]) [1, 2, 3, 0, 4] rfl ?_
      exact s_M_order_L42 hd hQ ih n20 _ _ hw
set_option maxRecDepth 100000 in
set_option maxHeartbeats 4000000 in
theorem s_M_order {d : Nat} (hd : 4 ≤ d) {v0 : Nat} {v1 : Int32} {h : Hp} {Q : Int32 → Hp → Prop} {QQ : Option AV → Hp → Prop} (hw : w_M_order v0 v1 h Q) (hQ : ∀ r9 h9, Q r9 h9 → QQ (some (ai r9)) h9) : aCall m_M_order d [ar v0, ai v1] h 0 0 QQ := by
  obtain ⟨d, rfl⟩ : ∃ d9, d = d9 + 1 := ⟨d - 1, by omega⟩
  refine aCall_in pl_M_order (nle rfl) ?_
  show aW none m_M_order (d + 1) 0 [(0, ar v0), (1, ai v1)] [] h 0 0 QQ
  unfold w_M_order at hw
  refine r_aload_n (j := 0) d_M_order_0 rfl ?_
  obtain ⟨q3, hw⟩ := hw
  refine r_callV (av := []) (rest := []) (ci := 12) d_M_order_1 mk_M_laysOptimum ll_M_337 im_M_laysOptimum se_M_laysOptimum rfl (nle rfl) rfl rfl (nle rfl) q3 (s_M_laysOptimum (by omega) hw (fun r2 h1 hw => ?_))
  show aW none m_M_order (d + 1) 4 [(0, ar v0), (1, ai v1)] [ai (b2i r2)] h1 0 0 QQ
  refine r_if_eq d_M_order_4 (fun w9 => ?_) (fun w9 => ?_)
  · replace hw := hw.1 (b2i_0.mp w9)
    refine r_iconst d_M_order_21 kc_m1 ?_
    exact r_ireturn d_M_order_22.1 rfl (hQ _ _ hw)
  · replace hw := hw.2 (fun g9 => w9 (b2i_0.mpr g9))
    refine r_iload_n (j := 1) d_M_order_7 rfl ?_
    refine r_iconst d_M_order_8 kc_0 ?_
    refine r_aload_n (j := 0) d_M_order_9 rfl ?_
    obtain ⟨q4, hw⟩ := hw
    refine r_getI d_M_order_10 ok_12 (nle rfl) (nle rfl) rfl lf_M_328 q4 ?_
    refine r_iconst d_M_order_13 kc_1 ?_
    refine r_isub d_M_order_14 ?_
    refine r_callS (av := [ai v1, ai (0 : Int32), ai ((gI h1 v0 29) - (1 : Int32))]) (rest := []) d_M_order_15 mk_M_isIn ll_M_148 st_M_isIn rfl rfl (nle rfl) (s_M_isIn  hw (fun r6 h5 hw => ?_))
    show aW none m_M_order (d + 1) 18 [(0, ar v0), (1, ai v1)] [ai (b2i r6)] h5 0 0 QQ
    refine r_if_ne d_M_order_18 (fun w9 => ?_) (fun w9 => ?_)
    · replace hw := hw.2 (fun g9 => w9 (b2i_0.mpr g9))
      refine r_aload_n (j := 0) d_M_order_23 rfl ?_
      obtain ⟨q8, hw⟩ := hw
      refine r_callV (av := []) (rest := []) (ci := 12) d_M_order_24 mk_M_laysOrder ll_M_357 im_M_laysOrder se_M_laysOrder rfl (nle rfl) rfl rfl (nle rfl) q8 (s_M_laysOrder (by omega) hw (fun h7 hw => ?_))
      show aW none m_M_order (d + 1) 27 [(0, ar v0), (1, ai v1)] [] h7 0 0 QQ
      refine r_iconst d_M_order_27 kc_0 ?_
      refine r_istore_n (ls2 := [(2, ai (0 : Int32)), (0, ar v0), (1, ai v1)]) d_M_order_28 (nle rfl) rfl ?_
      refine r_iconst d_M_order_29 kc_0 ?_
      refine r_istore_n (ls2 := [(3, ai (0 : Int32)), (2, ai (0 : Int32)), (0, ar v0), (1, ai v1)]) d_M_order_30 (nle rfl) rfl ?_
      refine r_iconst d_M_order_31 kc_0 ?_
      refine r_istore (ls2 := [(4, ai (0 : Int32)), (3, ai (0 : Int32)), (2, ai (0 : Int32)), (0, ar v0), (1, ai v1)]) d_M_order_32 (nle rfl) rfl ?_
      obtain ⟨n21, hw⟩ := hw
      refine r_pick (ls2 := [(0, ar v0), (1, ai v1), (2, ai (0 : Int32)), (3, ai (0 : Int32)), (4, ai (0 : Int32))]) [3, 4, 2, 1, 0] rfl ?_
      exact s_M_order_L34 hd hQ  n21 _ _ _ _ hw
    · replace hw := hw.1 (b2i_0.mp w9)
      refine r_iconst d_M_order_21 kc_m1 ?_
      exact r_ireturn d_M_order_22.1 rfl (hQ _ _ hw)
set_option maxRecDepth 100000 in
set_option maxHeartbeats 4000000 in
theorem s_M_strays {d : Nat} (hd : 4 ≤ d) {v0 : Nat} {h : Hp} {Q : Int32 → Hp → Prop} {QQ : Option AV → Hp → Prop} (hw : w_M_strays v0 h Q) (hQ : ∀ r9 h9, Q r9 h9 → QQ (some (ai r9)) h9) : aCall m_M_strays d [ar v0] h 0 0 QQ := by
  obtain ⟨d, rfl⟩ : ∃ d9, d = d9 + 1 := ⟨d - 1, by omega⟩
  refine aCall_in pl_M_strays (nle rfl) ?_
  show aW none m_M_strays (d + 1) 0 [(0, ar v0)] [] h 0 0 QQ
  unfold w_M_strays at hw
  refine r_aload_n (j := 0) d_M_strays_0 rfl ?_
  obtain ⟨q3, hw⟩ := hw
  refine r_callV (av := []) (rest := []) (ci := 12) d_M_strays_1 mk_M_laysOptimum ll_M_337 im_M_laysOptimum se_M_laysOptimum rfl (nle rfl) rfl rfl (nle rfl) q3 (s_M_laysOptimum (by omega) hw (fun r2 h1 hw => ?_))
  show aW none m_M_strays (d + 1) 4 [(0, ar v0)] [ai (b2i r2)] h1 0 0 QQ
  refine r_if_ne d_M_strays_4 (fun w9 => ?_) (fun w9 => ?_)
  · replace hw := hw.2 (fun g9 => w9 (b2i_0.mpr g9))
    refine r_aload_n (j := 0) d_M_strays_9 rfl ?_
    obtain ⟨q5, hw⟩ := hw
    refine r_callV (av := []) (rest := []) (ci := 12) d_M_strays_10 mk_M_laysOrder ll_M_357 im_M_laysOrder se_M_laysOrder rfl (nle rfl) rfl rfl (nle rfl) q5 (s_M_laysOrder (by omega) hw (fun h4 hw => ?_))
    show aW none m_M_strays (d + 1) 13 [(0, ar v0)] [] h4 0 0 QQ
    refine r_aload_n (j := 0) d_M_strays_13 rfl ?_
    obtain ⟨q6, hw⟩ := hw
    refine r_getR d_M_strays_14 ok_12 (nle rfl) (nle rfl) rfl lf_M_42 q6 ?_
    refine r_iconst d_M_strays_17 kc_0 ?_
    obtain ⟨q7, hw⟩ := hw
    obtain ⟨q8, hw⟩ := hw
    refine r_iald d_M_strays_18 q7 q8 ?_
    exact r_ireturn d_M_strays_19.1 rfl (hQ _ _ hw)
  · replace hw := hw.1 (b2i_0.mp w9)
    refine r_iconst d_M_strays_7 kc_m1 ?_
    exact r_ireturn d_M_strays_8.1 rfl (hQ _ _ hw)
set_option maxRecDepth 100000 in
set_option maxHeartbeats 4000000 in
theorem s_M_noSums_L2 {d : Nat} {Q : Hp → Prop} {QQ : Option AV → Hp → Prop} (hQ : ∀ h9, Q h9 → QQ none h9) {v0 : Nat} : ∀ (n : Nat) (v1 : Int32) (h : Hp), w_M_noSums_L2 Q  v0 n v1 h → aW none m_M_noSums d 2 [(0, ar v0), (1, ai v1)] [] h 0 0 QQ := by
  intro n
  induction n with
  | zero => intro v1 h hw; exact hw.elim
  | succ n ih =>
    intro v1 h hw
    unfold w_M_noSums_L2 at hw
    refine r_iload_n (j := 1) d_M_noSums_2 rfl ?_
    refine r_iconst d_M_noSums_3 kc_3 ?_
    refine r_icmp_ge d_M_noSums_4 (fun w9 => ?_) (fun w9 => ?_)
    · replace hw := hw.1 w9
      exact r_return d_M_noSums_20.1 rfl (hQ _ hw)
    · replace hw := hw.2 w9
      refine r_aload_n (j := 0) d_M_noSums_7 rfl ?_
      obtain ⟨q1, hw⟩ := hw
      refine r_getR d_M_noSums_8 ok_12 (nle rfl) (nle rfl) rfl lf_M_48 q1 ?_
      refine r_iload_n (j := 1) d_M_noSums_11 rfl ?_
      refine r_iconst d_M_noSums_12 kc_0 ?_
      obtain ⟨q2, hw⟩ := hw
      obtain ⟨q3, hw⟩ := hw
      refine r_iast d_M_noSums_13 q2 q3 ?_
      refine r_iinc (j := 1) (ls2 := [(1, ai (v1 + (1 : Int32))), (0, ar v0)]) d_M_noSums_14 rfl (congrArg (HAdd.hAdd v1) kc_1) (nle rfl) rfl ?_
      refine r_goto d_M_noSums_17 ?_
      refine r_pick (ls2 := [(0, ar v0), (1, ai (v1 + (1 : Int32)))]) [1, 0] rfl ?_
      exact ih _ _ hw
set_option maxRecDepth 100000 in
set_option maxHeartbeats 4000000 in
theorem s_M_noSums {d : Nat} {v0 : Nat} {h : Hp} {Q : Hp → Prop} {QQ : Option AV → Hp → Prop} (hw : w_M_noSums v0 h Q) (hQ : ∀ h9, Q h9 → QQ none h9) : aCall m_M_noSums d [ar v0] h 0 0 QQ := by
  refine aCall_in pl_M_noSums (nle rfl) ?_
  show aW none m_M_noSums d 0 [(0, ar v0)] [] h 0 0 QQ
  unfold w_M_noSums at hw
  refine r_iconst d_M_noSums_0 kc_0 ?_
  refine r_istore_n (ls2 := [(1, ai (0 : Int32)), (0, ar v0)]) d_M_noSums_1 (nle rfl) rfl ?_
  obtain ⟨n4, hw⟩ := hw
  refine r_pick (ls2 := [(0, ar v0), (1, ai (0 : Int32))]) [1, 0] rfl ?_
  exact s_M_noSums_L2 hQ  n4 _ _ hw
set_option maxRecDepth 100000 in
set_option maxHeartbeats 4000000 in
theorem s_M_adds_L2 {d : Nat} (hd : 1 ≤ d + 1) {Q : Hp → Prop} {QQ : Option AV → Hp → Prop} (hQ : ∀ h9, Q h9 → QQ none h9) {v0 : Nat} {v1 : Int32} : ∀ (n : Nat) (v2 : Int32) (h : Hp), w_M_adds_L2 Q  v0 v1 n v2 h → aW none m_M_adds (d + 1) 2 [(0, ar v0), (1, ai v1), (2, ai v2)] [] h 0 0 QQ := by
  intro n
  induction n with
  | zero => intro v2 h hw; exact hw.elim
  | succ n ih =>
    intro v2 h hw
    unfold w_M_adds_L2 at hw
    refine r_iload_n (j := 2) d_M_adds_2 rfl ?_
    refine r_aload_n (j := 0) d_M_adds_3 rfl ?_
    obtain ⟨q1, hw⟩ := hw
    refine r_getI d_M_adds_4 ok_12 (nle rfl) (nle rfl) rfl lf_M_244 q1 ?_
    refine r_icmp_ge d_M_adds_7 (fun w9 => ?_) (fun w9 => ?_)
    · replace hw := hw.1 w9
      exact r_return d_M_adds_31.1 rfl (hQ _ hw)
    · replace hw := hw.2 w9
      refine r_aload_n (j := 0) d_M_adds_10 rfl ?_
      refine r_getR d_M_adds_11 ok_12 (nle rfl) (nle rfl) rfl lf_M_48 q1 ?_
      refine r_iload_n (j := 2) d_M_adds_14 rfl ?_
      refine r_dup2 d_M_adds_15 rfl rfl ?_
      obtain ⟨q2, hw⟩ := hw
      obtain ⟨q3, hw⟩ := hw
      refine r_iald d_M_adds_16 q2 q3 ?_
      refine r_aload_n (j := 0) d_M_adds_17 rfl ?_
      refine r_iload_n (j := 1) d_M_adds_18 rfl ?_
      refine r_iload_n (j := 2) d_M_adds_19 rfl ?_
      refine r_callV (av := [ai v1, ai v2]) (rest := [ai (gI h (gR h v0 32) (ix v2)), ai v2, ar (gR h v0 32)]) (ci := 12) d_M_adds_20 mk_M_numberOf ll_M_274 im_M_numberOf se_M_numberOf rfl (nle rfl) rfl rfl (nle rfl) q1 (s_M_numberOf  hw (fun r5 h4 hw => ?_))
      show aW none m_M_adds (d + 1) 23 [(0, ar v0), (1, ai v1), (2, ai v2)] [ai r5, ai (gI h (gR h v0 32) (ix v2)), ai v2, ar (gR h v0 32)] h4 0 0 QQ
      refine r_iadd d_M_adds_23 ?_
      obtain ⟨q6, hw⟩ := hw
      obtain ⟨q7, hw⟩ := hw
      refine r_iast d_M_adds_24 q6 q7 ?_
      refine r_iinc (j := 2) (ls2 := [(2, ai (v2 + (1 : Int32))), (0, ar v0), (1, ai v1)]) d_M_adds_25 rfl (congrArg (HAdd.hAdd v2) kc_1) (nle rfl) rfl ?_
      refine r_goto d_M_adds_28 ?_
      refine r_pick (ls2 := [(0, ar v0), (1, ai v1), (2, ai (v2 + (1 : Int32)))]) [1, 2, 0] rfl ?_
      exact ih _ _ hw
set_option maxRecDepth 100000 in
set_option maxHeartbeats 4000000 in
theorem s_M_adds {d : Nat} (hd : 1 ≤ d) {v0 : Nat} {v1 : Int32} {h : Hp} {Q : Hp → Prop} {QQ : Option AV → Hp → Prop} (hw : w_M_adds v0 v1 h Q) (hQ : ∀ h9, Q h9 → QQ none h9) : aCall m_M_adds d [ar v0, ai v1] h 0 0 QQ := by
  obtain ⟨d, rfl⟩ : ∃ d9, d = d9 + 1 := ⟨d - 1, by omega⟩
  refine aCall_in pl_M_adds (nle rfl) ?_
  show aW none m_M_adds (d + 1) 0 [(0, ar v0), (1, ai v1)] [] h 0 0 QQ
  unfold w_M_adds at hw
  refine r_iconst d_M_adds_0 kc_0 ?_
  refine r_istore_n (ls2 := [(2, ai (0 : Int32)), (0, ar v0), (1, ai v1)]) d_M_adds_1 (nle rfl) rfl ?_
  obtain ⟨n8, hw⟩ := hw
  refine r_pick (ls2 := [(0, ar v0), (1, ai v1), (2, ai (0 : Int32))]) [1, 2, 0] rfl ?_
  exact s_M_adds_L2 hd hQ  n8 _ _ hw
set_option maxRecDepth 100000 in
set_option maxHeartbeats 4000000 in
theorem s_M_strayNow_L5 {d : Nat} (hd : 1 ≤ d + 1) {Q : Int32 → Hp → Prop} {QQ : Option AV → Hp → Prop} (hQ : ∀ r9 h9, Q r9 h9 → QQ (some (ai r9)) h9) {v0 : Nat} {v1 : Int32} {v2 : Int32} : ∀ (n : Nat) (v3 : Int32) (v4 : Int32) (h : Hp), w_M_strayNow_L5 Q  v0 v1 v2 n v3 v4 h → aW none m_M_strayNow (d + 1) 5 [(0, ar v0), (1, ai v1), (2, ai v2), (3, ai v3), (4, ai v4)] [] h 0 0 QQ := by
  intro n
  induction n with
  | zero => intro v3 v4 h hw; exact hw.elim
  | succ n ih =>
    intro v3 v4 h hw
    unfold w_M_strayNow_L5 at hw
    refine r_iload (j := 4) d_M_strayNow_5 rfl ?_
    refine r_aload_n (j := 0) d_M_strayNow_7 rfl ?_
    obtain ⟨q1, hw⟩ := hw
    refine r_getI d_M_strayNow_8 ok_12 (nle rfl) (nle rfl) rfl lf_M_244 q1 ?_
    refine r_icmp_ge d_M_strayNow_11 (fun w9 => ?_) (fun w9 => ?_)
    · replace hw := hw.1 w9
      refine r_iload_n (j := 3) d_M_strayNow_46 rfl ?_
      exact r_ireturn d_M_strayNow_47.1 rfl (hQ _ _ hw)
    · replace hw := hw.2 w9
      refine r_iload_n (j := 3) d_M_strayNow_14 rfl ?_
      refine r_iload_n (j := 2) d_M_strayNow_15 rfl ?_
      refine r_aload_n (j := 0) d_M_strayNow_16 rfl ?_
      refine r_getR d_M_strayNow_17 ok_12 (nle rfl) (nle rfl) rfl lf_M_48 q1 ?_
      refine r_iload (j := 4) d_M_strayNow_20 rfl ?_
      obtain ⟨q2, hw⟩ := hw
      obtain ⟨q3, hw⟩ := hw
      refine r_iald d_M_strayNow_22 q2 q3 ?_
      refine r_imul d_M_strayNow_23 ?_
      refine r_iload_n (j := 1) d_M_strayNow_24 rfl ?_
      refine r_aload_n (j := 0) d_M_strayNow_25 rfl ?_
      refine r_iload (j := 4) d_M_strayNow_26 rfl ?_
      refine r_callV (av := [ai v4]) (rest := [ai v1, ai (v2 * (gI h (gR h v0 32) (ix v4))), ai v3]) (ci := 12) d_M_strayNow_28 mk_M_needOf ll_M_281 im_M_needOf se_M_needOf rfl (nle rfl) rfl rfl (nle rfl) q1 (s_M_needOf  hw (fun r5 h4 hw => ?_))
      show aW none m_M_strayNow (d + 1) 31 [(0, ar v0), (1, ai v1), (2, ai v2), (3, ai v3), (4, ai v4)] [ai r5, ai v1, ai (v2 * (gI h (gR h v0 32) (ix v4))), ai v3] h4 0 0 QQ
      refine r_imul d_M_strayNow_31 ?_
      refine r_isub d_M_strayNow_32 ?_
      refine r_callS (av := [ai ((v2 * (gI h (gR h v0 32) (ix v4))) - (v1 * r5))]) (rest := [ai v3]) d_M_strayNow_33 mk_M_plus ll_M_296 st_M_plus rfl rfl (nle rfl) (s_M_plus  hw (fun r7 h6 hw => ?_))
      show aW none m_M_strayNow (d + 1) 36 [(0, ar v0), (1, ai v1), (2, ai v2), (3, ai v3), (4, ai v4)] [ai r7, ai v3] h6 0 0 QQ
      refine r_callS (av := [ai v3, ai r7]) (rest := []) d_M_strayNow_36 mk_M_greater ll_M_343 st_M_greater rfl rfl (nle rfl) (s_M_greater  hw (fun r9 h8 hw => ?_))
      show aW none m_M_strayNow (d + 1) 39 [(0, ar v0), (1, ai v1), (2, ai v2), (3, ai v3), (4, ai v4)] [ai r9] h8 0 0 QQ
      refine r_istore_n (ls2 := [(3, ai r9), (0, ar v0), (1, ai v1), (2, ai v2), (4, ai v4)]) d_M_strayNow_39 (nle rfl) rfl ?_
      refine r_iinc (j := 4) (ls2 := [(4, ai (v4 + (1 : Int32))), (3, ai r9), (0, ar v0), (1, ai v1), (2, ai v2)]) d_M_strayNow_40 rfl (congrArg (HAdd.hAdd v4) kc_1) (nle rfl) rfl ?_
      refine r_goto d_M_strayNow_43 ?_
      refine r_pick (ls2 := [(0, ar v0), (1, ai v1), (2, ai v2), (3, ai r9), (4, ai (v4 + (1 : Int32)))]) [2, 3, 4, 1, 0] rfl ?_
      exact ih _ _ _ hw
set_option maxRecDepth 100000 in
set_option maxHeartbeats 4000000 in
theorem s_M_strayNow {d : Nat} (hd : 1 ≤ d) {v0 : Nat} {v1 : Int32} {v2 : Int32} {h : Hp} {Q : Int32 → Hp → Prop} {QQ : Option AV → Hp → Prop} (hw : w_M_strayNow v0 v1 v2 h Q) (hQ : ∀ r9 h9, Q r9 h9 → QQ (some (ai r9)) h9) : aCall m_M_strayNow d [ar v0, ai v1, ai v2] h 0 0 QQ := by
  obtain ⟨d, rfl⟩ : ∃ d9, d = d9 + 1 := ⟨d - 1, by omega⟩
  refine aCall_in pl_M_strayNow (nle rfl) ?_
  show aW none m_M_strayNow (d + 1) 0 [(0, ar v0), (1, ai v1), (2, ai v2)] [] h 0 0 QQ
  unfold w_M_strayNow at hw
  refine r_iconst d_M_strayNow_0 kc_0 ?_
  refine r_istore_n (ls2 := [(3, ai (0 : Int32)), (0, ar v0), (1, ai v1), (2, ai v2)]) d_M_strayNow_1 (nle rfl) rfl ?_
  refine r_iconst d_M_strayNow_2 kc_0 ?_
  refine r_istore (ls2 := [(4, ai (0 : Int32)), (3, ai (0 : Int32)), (0, ar v0), (1, ai v1), (2, ai v2)]) d_M_strayNow_3 (nle rfl) rfl ?_
  obtain ⟨n10, hw⟩ := hw
  refine r_pick (ls2 := [(0, ar v0), (1, ai v1), (2, ai v2), (3, ai (0 : Int32)), (4, ai (0 : Int32))]) [2, 3, 4, 1, 0] rfl ?_
  exact s_M_strayNow_L5 hd hQ  n10 _ _ _ hw
set_option maxRecDepth 100000 in
set_option maxHeartbeats 4000000 in
theorem s_M_sorted_L30 {d : Nat} (hd : 4 ≤ d + 1) {Q : Int32 → Hp → Prop} {QQ : Option AV → Hp → Prop} (hQ : ∀ r9 h9, Q r9 h9 → QQ (some (ai r9)) h9) {k19 : Int32 → Int32 → Int32 → Hp → Prop} (hk19 : ∀ v1 v2 v3 h9, k19 v1 v2 v3 h9 → aW none m_M_sorted (d + 1) 19 [(0, ar v0), (1, ai v1), (2, ai v2), (3, ai v3)] [] h9 0 0 QQ) {v0 : Nat} {v3 : Int32} : ∀ (n : Nat) (v1 : Int32) (v2 : Int32) (v4 : Int32) (h : Hp), w_M_sorted_L30 Q k19 v0 v3 n v1 v2 v4 h → aW none m_M_sorted (d + 1) 30 [(0, ar v0), (1, ai v1), (2, ai v2), (3, ai v3), (4, ai v4)] [] h 0 0 QQ := by
  intro n
  induction n with
  | zero => intro v1 v2 v4 h hw; exact hw.elim
  | succ n ih =>
    intro v1 v2 v4 h hw
    unfold w_M_sorted_L30 at hw
    refine r_iload (j := 4) d_M_sorted_30 rfl ?_
    refine r_aload_n (j := 0) d_M_sorted_32 rfl ?_
    obtain ⟨q7, hw⟩ := hw
    refine r_getR d_M_sorted_33 ok_12 (nle rfl) (nle rfl) rfl lf_M_39 q7 ?_
    refine r_iload_n (j := 3) d_M_sorted_36 rfl ?_
    obtain ⟨q8, hw⟩ := hw
    obtain ⟨q9, hw⟩ := hw
    refine r_iald d_M_sorted_37 q8 q9 ?_
    refine r_icmp_ge d_M_sorted_38 (fun w9 => ?_) (fun w9 => ?_)
    · replace hw := hw.1 w9
      refine r_iinc (j := 3) (ls2 := [(3, ai (v3 + (1 : Int32))), (0, ar v0), (1, ai v1), (2, ai v2), (4, ai v4)]) d_M_sorted_69 rfl (congrArg (HAdd.hAdd v3) kc_1) (nle rfl) rfl ?_
      refine r_goto d_M_sorted_72 ?_
      refine r_pick (ls2 := [(0, ar v0), (1, ai v1), (2, ai v2), (3, ai (v3 + (1 : Int32)))]) [1, 2, 3, 0] rfl ?_
      exact hk19 _ _ _ _ hw
    · replace hw := hw.2 w9
      refine r_aload_n (j := 0) d_M_sorted_41 rfl ?_
      refine r_iload_n (j := 3) d_M_sorted_42 rfl ?_
      refine r_callV (av := [ai v3]) (rest := []) (ci := 12) d_M_sorted_43 mk_M_adds ll_M_363 im_M_adds se_M_adds rfl (nle rfl) rfl rfl (nle rfl) q7 (s_M_adds (by omega) hw (fun h10 hw => ?_))
      show aW none m_M_sorted (d + 1) 46 [(0, ar v0), (1, ai v1), (2, ai v2), (3, ai v3), (4, ai v4)] [] h10 0 0 QQ
      refine r_iinc (j := 2) (ls2 := [(2, ai (v2 + (1 : Int32))), (0, ar v0), (1, ai v1), (3, ai v3), (4, ai v4)]) d_M_sorted_46 rfl (congrArg (HAdd.hAdd v2) kc_1) (nle rfl) rfl ?_
      refine r_iload_n (j := 2) d_M_sorted_49 rfl ?_
      refine r_aload_n (j := 1) d_M_sorted_50 rfl ?_
      refine r_iload_n (j := 0) d_M_sorted_51 rfl ?_
      refine r_aload_n (j := 1) d_M_sorted_52 rfl ?_
      obtain ⟨q11, hw⟩ := hw
      refine r_getI d_M_sorted_53 ok_12 (nle rfl) (nle rfl) rfl lf_M_328 q11 ?_
      refine r_callV (av := [ai (v2 + (1 : Int32)), ai (gI h10 v0 29)]) (rest := [ai v1]) (ci := 12) d_M_sorted_56 mk_M_strayNow ll_M_366 im_M_strayNow se_M_strayNow rfl (nle rfl) rfl rfl (nle rfl) q11 (s_M_strayNow (by omega) hw (fun r13 h12 hw => ?_))
      show aW none m_M_sorted (d + 1) 59 [(2, ai (v2 + (1 : Int32))), (0, ar v0), (1, ai v1), (3, ai v3), (4, ai v4)] [ai r13, ai v1] h12 0 0 QQ
      refine r_callS (av := [ai v1, ai r13]) (rest := []) d_M_sorted_59 mk_M_greater ll_M_343 st_M_greater rfl rfl (nle rfl) (s_M_greater  hw (fun r15 h14 hw => ?_))
      show aW none m_M_sorted (d + 1) 62 [(2, ai (v2 + (1 : Int32))), (0, ar v0), (1, ai v1), (3, ai v3), (4, ai v4)] [ai r15] h14 0 0 QQ
      refine r_istore_n (ls2 := [(1, ai r15), (2, ai (v2 + (1 : Int32))), (0, ar v0), (3, ai v3), (4, ai v4)]) d_M_sorted_62 (nle rfl) rfl ?_
      refine r_iinc (j := 4) (ls2 := [(4, ai (v4 + (1 : Int32))), (1, ai r15), (2, ai (v2 + (1 : Int32))), (0, ar v0), (3, ai v3)]) d_M_sorted_63 rfl (congrArg (HAdd.hAdd v4) kc_1) (nle rfl) rfl ?_
      refine r_goto d_M_sorted_66 ?_
      refine r_pick (ls2 := [(0, ar v0), (1, ai r15), (2, ai (v2 + (1 : Int32))), (3, ai v3), (4, ai (v4 + (1 : Int32)))]) [3, 1, 2, 4, 0] rfl ?_
      exact ih _ _ _ _ hw
set_option maxRecDepth 100000 in
set_option maxHeartbeats 4000000 in
theorem s_M_sorted_L19 {d : Nat} (hd : 4 ≤ d + 1) {Q : Int32 → Hp → Prop} {QQ : Option AV → Hp → Prop} (hQ : ∀ r9 h9, Q r9 h9 → QQ (some (ai r9)) h9) {v0 : Nat} : ∀ (n : Nat) (v1 : Int32) (v2 : Int32) (v3 : Int32) (h : Hp), w_M_sorted_L19 Q  v0 n v1 v2 v3 h → aW none m_M_sorted (d + 1) 19 [(0, ar v0), (1, ai v1), (2, ai v2), (3, ai v3)] [] h 0 0 QQ := by
  intro n
  induction n with
  | zero => intro v1 v2 v3 h hw; exact hw.elim
  | succ n ih =>
    intro v1 v2 v3 h hw
    unfold w_M_sorted_L19 at hw
    refine r_iload_n (j := 3) d_M_sorted_19 rfl ?_
    refine r_aload_n (j := 0) d_M_sorted_20 rfl ?_
    obtain ⟨q6, hw⟩ := hw
    refine r_getI d_M_sorted_21 ok_12 (nle rfl) (nle rfl) rfl lf_M_247 q6 ?_
    refine r_icmp_ge d_M_sorted_24 (fun w9 => ?_) (fun w9 => ?_)
    · replace hw := hw.1 w9
      refine r_iload_n (j := 1) d_M_sorted_75 rfl ?_
      exact r_ireturn d_M_sorted_76.1 rfl (hQ _ _ hw)
    · replace hw := hw.2 w9
      refine r_iconst d_M_sorted_27 kc_0 ?_
      refine r_istore (ls2 := [(4, ai (0 : Int32)), (0, ar v0), (1, ai v1), (2, ai v2), (3, ai v3)]) d_M_sorted_28 (nle rfl) rfl ?_
      obtain ⟨n16, hw⟩ := hw
      refine r_pick (ls2 := [(0, ar v0), (1, ai v1), (2, ai v2), (3, ai v3), (4, ai (0 : Int32))]) [1, 2, 3, 4, 0] rfl ?_
      exact s_M_sorted_L30 hd hQ ih n16 _ _ _ _ hw
set_option maxRecDepth 100000 in
set_option maxHeartbeats 4000000 in
theorem s_M_sorted {d : Nat} (hd : 4 ≤ d) {v0 : Nat} {h : Hp} {Q : Int32 → Hp → Prop} {QQ : Option AV → Hp → Prop} (hw : w_M_sorted v0 h Q) (hQ : ∀ r9 h9, Q r9 h9 → QQ (some (ai r9)) h9) : aCall m_M_sorted d [ar v0] h 0 0 QQ := by
  obtain ⟨d, rfl⟩ : ∃ d9, d = d9 + 1 := ⟨d - 1, by omega⟩
  refine aCall_in pl_M_sorted (nle rfl) ?_
  show aW none m_M_sorted (d + 1) 0 [(0, ar v0)] [] h 0 0 QQ
  unfold w_M_sorted at hw
  refine r_aload_n (j := 0) d_M_sorted_0 rfl ?_
  obtain ⟨q3, hw⟩ := hw
  refine r_callV (av := []) (rest := []) (ci := 12) d_M_sorted_1 mk_M_laysOptimum ll_M_337 im_M_laysOptimum se_M_laysOptimum rfl (nle rfl) rfl rfl (nle rfl) q3 (s_M_laysOptimum (by omega) hw (fun r2 h1 hw => ?_))
  show aW none m_M_sorted (d + 1) 4 [(0, ar v0)] [ai (b2i r2)] h1 0 0 QQ
  refine r_if_ne d_M_sorted_4 (fun w9 => ?_) (fun w9 => ?_)
  · replace hw := hw.2 (fun g9 => w9 (b2i_0.mpr g9))
    refine r_aload_n (j := 0) d_M_sorted_9 rfl ?_
    obtain ⟨q5, hw⟩ := hw
    refine r_callV (av := []) (rest := []) (ci := 12) d_M_sorted_10 mk_M_noSums ll_M_360 im_M_noSums se_M_noSums rfl (nle rfl) rfl rfl (nle rfl) q5 (s_M_noSums  hw (fun h4 hw => ?_))
    show aW none m_M_sorted (d + 1) 13 [(0, ar v0)] [] h4 0 0 QQ
    refine r_iconst d_M_sorted_13 kc_0 ?_
    refine r_istore_n (ls2 := [(1, ai (0 : Int32)), (0, ar v0)]) d_M_sorted_14 (nle rfl) rfl ?_
    refine r_iconst d_M_sorted_15 kc_0 ?_
    refine r_istore_n (ls2 := [(2, ai (0 : Int32)), (1, ai (0 : Int32)), (0, ar v0)]) d_M_sorted_16 (nle rfl) rfl ?_
    refine r_iconst d_M_sorted_17 kc_0 ?_
    refine r_istore_n (ls2 := [(3, ai (0 : Int32)), (2, ai (0 : Int32)), (1, ai (0 : Int32)), (0, ar v0)]) d_M_sorted_18 (nle rfl) rfl ?_
    obtain ⟨n17, hw⟩ := hw
    refine r_pick (ls2 := [(0, ar v0), (1, ai (0 : Int32)), (2, ai (0 : Int32)), (3, ai (0 : Int32))]) [3, 2, 1, 0] rfl ?_
    exact s_M_sorted_L19 hd hQ  n17 _ _ _ _ hw
  · replace hw := hw.1 (b2i_0.mp w9)
    refine r_iconst d_M_sorted_7 kc_m1 ?_
    exact r_ireturn d_M_sorted_8.1 rfl (hQ _ _ hw)
set_option maxRecDepth 100000 in
set_option maxHeartbeats 4000000 in
theorem s_M_keyNow {d : Nat} {v0 : Nat} {h : Hp} {Q : Int32 → Hp → Prop} {QQ : Option AV → Hp → Prop} (hw : w_M_keyNow v0 h Q) (hQ : ∀ r9 h9, Q r9 h9 → QQ (some (ai r9)) h9) : aCall m_M_keyNow d [ar v0] h 0 0 QQ := by
  refine aCall_in pl_M_keyNow (nle rfl) ?_
  show aW none m_M_keyNow d 0 [(0, ar v0)] [] h 0 0 QQ
  unfold w_M_keyNow at hw
  refine r_aload_n (j := 0) d_M_keyNow_0 rfl ?_
  obtain ⟨q1, hw⟩ := hw
  refine r_getR d_M_keyNow_1 ok_12 (nle rfl) (nle rfl) rfl lf_M_48 q1 ?_
  refine r_iconst d_M_keyNow_4 kc_0 ?_
  obtain ⟨q2, hw⟩ := hw
  obtain ⟨q3, hw⟩ := hw
  refine r_iald d_M_keyNow_5 q2 q3 ?_
  refine r_bipush d_M_keyNow_6 kb_60 ?_
  refine r_iadd d_M_keyNow_8 ?_
  refine r_bipush d_M_keyNow_9 kb_121 ?_
  refine r_imul d_M_keyNow_11 ?_
  refine r_aload_n (j := 0) d_M_keyNow_12 rfl ?_
  refine r_getR d_M_keyNow_13 ok_12 (nle rfl) (nle rfl) rfl lf_M_48 q1 ?_
  refine r_iconst d_M_keyNow_16 kc_1 ?_
  obtain ⟨q4, hw⟩ := hw
  refine r_iald d_M_keyNow_17 q2 q4 ?_
  refine r_iadd d_M_keyNow_18 ?_
  refine r_bipush d_M_keyNow_19 kb_60 ?_
  refine r_iadd d_M_keyNow_21 ?_
  refine r_bipush d_M_keyNow_22 kb_121 ?_
  refine r_imul d_M_keyNow_24 ?_
  refine r_aload_n (j := 0) d_M_keyNow_25 rfl ?_
  refine r_getR d_M_keyNow_26 ok_12 (nle rfl) (nle rfl) rfl lf_M_48 q1 ?_
  refine r_iconst d_M_keyNow_29 kc_2 ?_
  obtain ⟨q5, hw⟩ := hw
  refine r_iald d_M_keyNow_30 q2 q5 ?_
  refine r_iadd d_M_keyNow_31 ?_
  refine r_bipush d_M_keyNow_32 kb_60 ?_
  refine r_iadd d_M_keyNow_34 ?_
  exact r_ireturn d_M_keyNow_35.1 rfl (hQ _ _ hw)
set_option maxRecDepth 100000 in
set_option maxHeartbeats 4000000 in
theorem s_M_unpacks {d : Nat} {v0 : Nat} {v1 : Int32} {h : Hp} {Q : Hp → Prop} {QQ : Option AV → Hp → Prop} (hw : w_M_unpacks v0 v1 h Q) (hQ : ∀ h9, Q h9 → QQ none h9) : aCall m_M_unpacks d [ar v0, ai v1] h 0 0 QQ := by
  refine aCall_in pl_M_unpacks (nle rfl) ?_
  show aW none m_M_unpacks d 0 [(0, ar v0), (1, ai v1)] [] h 0 0 QQ
  unfold w_M_unpacks at hw
  refine r_aload_n (j := 0) d_M_unpacks_0 rfl ?_
  obtain ⟨q1, hw⟩ := hw
  refine r_getR d_M_unpacks_1 ok_12 (nle rfl) (nle rfl) rfl lf_M_48 q1 ?_
  refine r_iconst d_M_unpacks_4 kc_2 ?_
  refine r_iload_n (j := 1) d_M_unpacks_5 rfl ?_
  refine r_bipush d_M_unpacks_6 kb_121 ?_
  refine r_irem d_M_unpacks_8 (by decide) ?_
  refine r_bipush d_M_unpacks_9 kb_60 ?_
  refine r_isub d_M_unpacks_11 ?_
  obtain ⟨q2, hw⟩ := hw
  obtain ⟨q3, hw⟩ := hw
  refine r_iast d_M_unpacks_12 q2 q3 ?_
  refine r_aload_n (j := 0) d_M_unpacks_13 rfl ?_
  refine r_getR d_M_unpacks_14 ok_12 (nle rfl) (nle rfl) rfl lf_M_48 q1 ?_
  refine r_iconst d_M_unpacks_17 kc_1 ?_
  refine r_iload_n (j := 1) d_M_unpacks_18 rfl ?_
  refine r_bipush d_M_unpacks_19 kb_121 ?_
  refine r_idiv d_M_unpacks_21 (by decide) ?_
  refine r_bipush d_M_unpacks_22 kb_121 ?_
  refine r_irem d_M_unpacks_24 (by decide) ?_
  refine r_bipush d_M_unpacks_25 kb_60 ?_
  refine r_isub d_M_unpacks_27 ?_
  obtain ⟨q4, hw⟩ := hw
  refine r_iast d_M_unpacks_28 q2 q4 ?_
  refine r_aload_n (j := 0) d_M_unpacks_29 rfl ?_
  refine r_getR d_M_unpacks_30 ok_12 (nle rfl) (nle rfl) rfl lf_M_48 q1 ?_
  refine r_iconst d_M_unpacks_33 kc_0 ?_
  refine r_iload_n (j := 1) d_M_unpacks_34 rfl ?_
  refine r_bipush d_M_unpacks_35 kb_121 ?_
  refine r_idiv d_M_unpacks_37 (by decide) ?_
  refine r_bipush d_M_unpacks_38 kb_121 ?_
  refine r_idiv d_M_unpacks_40 (by decide) ?_
  refine r_bipush d_M_unpacks_41 kb_60 ?_
  refine r_isub d_M_unpacks_43 ?_
  obtain ⟨q5, hw⟩ := hw
  refine r_iast d_M_unpacks_44 q2 q5 ?_
  exact r_return d_M_unpacks_45.1 rfl (hQ _ hw)
set_option maxRecDepth 100000 in
set_option maxHeartbeats 4000000 in
theorem s_M_slotOf_L19 {d : Nat} (hd : 1 ≤ d + 1) {Q : Int32 → Hp → Prop} {QQ : Option AV → Hp → Prop} (hQ : ∀ r9 h9, Q r9 h9 → QQ (some (ai r9)) h9) {v0 : Nat} {v1 : Int32} {v2 : Int32} : ∀ (n : Nat) (v3 : Int32) (h : Hp), w_M_slotOf_L19 Q  v0 v1 v2 n v3 h → aW none m_M_slotOf (d + 1) 19 [(0, ar v0), (1, ai v1), (2, ai v2), (3, ai v3)] [] h 0 0 QQ := by
  intro n
  induction n with
  | zero => intro v3 h hw; exact hw.elim
  | succ n ih =>
    intro v3 h hw
    unfold w_M_slotOf_L19 at hw
    refine r_aload_n (j := 0) d_M_slotOf_19 rfl ?_
    obtain ⟨q1, hw⟩ := hw
    refine r_getR d_M_slotOf_20 ok_12 (nle rfl) (nle rfl) rfl lf_M_62 q1 ?_
    refine r_iload_n (j := 3) d_M_slotOf_23 rfl ?_
    obtain ⟨q2, hw⟩ := hw
    obtain ⟨q3, hw⟩ := hw
    refine r_iald d_M_slotOf_24 q2 q3 ?_
    refine r_if_eq d_M_slotOf_25 (fun w9 => ?_) (fun w9 => ?_)
    · replace hw := hw.1 w9
      refine r_iload_n (j := 3) d_M_slotOf_86 rfl ?_
      exact r_ireturn d_M_slotOf_87.1 rfl (hQ _ _ hw)
    · replace hw := hw.2 w9
      refine r_aload_n (j := 0) d_M_slotOf_28 rfl ?_
      refine r_getR d_M_slotOf_29 ok_12 (nle rfl) (nle rfl) rfl lf_M_52 q1 ?_
      refine r_aload_n (j := 0) d_M_slotOf_32 rfl ?_
      refine r_getR d_M_slotOf_33 ok_12 (nle rfl) (nle rfl) rfl lf_M_62 q1 ?_
      refine r_iload_n (j := 3) d_M_slotOf_36 rfl ?_
      refine r_iald d_M_slotOf_37 q2 q3 ?_
      refine r_iconst d_M_slotOf_38 kc_1 ?_
      refine r_isub d_M_slotOf_39 ?_
      obtain ⟨q4, hw⟩ := hw
      obtain ⟨q5, hw⟩ := hw
      refine r_iald d_M_slotOf_40 q4 q5 ?_
      refine r_iload_n (j := 2) d_M_slotOf_41 rfl ?_
      refine r_icmp_ne d_M_slotOf_42 (fun w9 => ?_) (fun w9 => ?_)
      · replace hw := hw.2 w9
        refine r_iload_n (j := 3) d_M_slotOf_75 rfl ?_
        refine r_iconst d_M_slotOf_76 kc_1 ?_
        refine r_iadd d_M_slotOf_77 ?_
        refine r_ldcw d_M_slotOf_78 lc_M_370 ?_
        refine r_iand d_M_slotOf_81 ?_
        refine r_istore_n (ls2 := [(3, ai ((v3 + (1 : Int32)) &&& (262143 : Int32))), (0, ar v0), (1, ai v1), (2, ai v2)]) d_M_slotOf_82 (nle rfl) rfl ?_
        refine r_goto d_M_slotOf_83 ?_
        refine r_pick (ls2 := [(0, ar v0), (1, ai v1), (2, ai v2), (3, ai ((v3 + (1 : Int32)) &&& (262143 : Int32)))]) [1, 2, 3, 0] rfl ?_
        exact ih _ _ hw
      · replace hw := hw.1 w9
        refine r_aload_n (j := 0) d_M_slotOf_45 rfl ?_
        refine r_getR d_M_slotOf_46 ok_12 (nle rfl) (nle rfl) rfl lf_M_62 q1 ?_
        refine r_iload_n (j := 3) d_M_slotOf_49 rfl ?_
        refine r_iald d_M_slotOf_50 q2 q3 ?_
        refine r_iconst d_M_slotOf_51 kc_1 ?_
        refine r_isub d_M_slotOf_52 ?_
        refine r_aload_n (j := 0) d_M_slotOf_53 rfl ?_
        refine r_getR d_M_slotOf_54 ok_12 (nle rfl) (nle rfl) rfl lf_M_58 q1 ?_
        refine r_iload_n (j := 1) d_M_slotOf_57 rfl ?_
        obtain ⟨q6, hw⟩ := hw
        obtain ⟨q7, hw⟩ := hw
        refine r_iald d_M_slotOf_58 q6 q7 ?_
        refine r_aload_n (j := 0) d_M_slotOf_59 rfl ?_
        refine r_getR d_M_slotOf_60 ok_12 (nle rfl) (nle rfl) rfl lf_M_58 q1 ?_
        refine r_iload_n (j := 1) d_M_slotOf_63 rfl ?_
        refine r_iconst d_M_slotOf_64 kc_1 ?_
        refine r_iadd d_M_slotOf_65 ?_
        obtain ⟨q8, hw⟩ := hw
        refine r_iald d_M_slotOf_66 q6 q8 ?_
        refine r_iconst d_M_slotOf_67 kc_1 ?_
        refine r_isub d_M_slotOf_68 ?_
        refine r_callS (av := [ai ((gI h (gR h v0 36) (ix v3)) - (1 : Int32)), ai (gI h (gR h v0 35) (ix v1)), ai ((gI h (gR h v0 35) (ix (v1 + (1 : Int32)))) - (1 : Int32))]) (rest := []) d_M_slotOf_69 mk_M_isIn ll_M_148 st_M_isIn rfl rfl (nle rfl) (s_M_isIn  hw (fun r10 h9 hw => ?_))
        show aW none m_M_slotOf (d + 1) 72 [(0, ar v0), (1, ai v1), (2, ai v2), (3, ai v3)] [ai (b2i r10)] h9 0 0 QQ
        refine r_if_ne d_M_slotOf_72 (fun w9 => ?_) (fun w9 => ?_)
        · replace hw := hw.2 (fun g9 => w9 (b2i_0.mpr g9))
          refine r_iload_n (j := 3) d_M_slotOf_86 rfl ?_
          exact r_ireturn d_M_slotOf_87.1 rfl (hQ _ _ hw)
        · replace hw := hw.1 (b2i_0.mp w9)
          refine r_iload_n (j := 3) d_M_slotOf_75 rfl ?_
          refine r_iconst d_M_slotOf_76 kc_1 ?_
          refine r_iadd d_M_slotOf_77 ?_
          refine r_ldcw d_M_slotOf_78 lc_M_370 ?_
          refine r_iand d_M_slotOf_81 ?_
          refine r_istore_n (ls2 := [(3, ai ((v3 + (1 : Int32)) &&& (262143 : Int32))), (0, ar v0), (1, ai v1), (2, ai v2)]) d_M_slotOf_82 (nle rfl) rfl ?_
          refine r_goto d_M_slotOf_83 ?_
          refine r_pick (ls2 := [(0, ar v0), (1, ai v1), (2, ai v2), (3, ai ((v3 + (1 : Int32)) &&& (262143 : Int32)))]) [1, 2, 3, 0] rfl ?_
          exact ih _ _ hw
set_option maxRecDepth 100000 in
set_option maxHeartbeats 4000000 in
theorem s_M_slotOf {d : Nat} (hd : 1 ≤ d) {v0 : Nat} {v1 : Int32} {v2 : Int32} {h : Hp} {Q : Int32 → Hp → Prop} {QQ : Option AV → Hp → Prop} (hw : w_M_slotOf v0 v1 v2 h Q) (hQ : ∀ r9 h9, Q r9 h9 → QQ (some (ai r9)) h9) : aCall m_M_slotOf d [ar v0, ai v1, ai v2] h 0 0 QQ := by
  obtain ⟨d, rfl⟩ : ∃ d9, d = d9 + 1 := ⟨d - 1, by omega⟩
  refine aCall_in pl_M_slotOf (nle rfl) ?_
  show aW none m_M_slotOf (d + 1) 0 [(0, ar v0), (1, ai v1), (2, ai v2)] [] h 0 0 QQ
  unfold w_M_slotOf at hw
  refine r_iload_n (j := 2) d_M_slotOf_0 rfl ?_
  refine r_bipush d_M_slotOf_1 kb_31 ?_
  refine r_imul d_M_slotOf_3 ?_
  refine r_iload_n (j := 1) d_M_slotOf_4 rfl ?_
  refine r_sipush d_M_slotOf_5 ks_7919 ?_
  refine r_imul d_M_slotOf_8 ?_
  refine r_iadd d_M_slotOf_9 ?_
  refine r_ldcw d_M_slotOf_10 lc_M_369 ?_
  refine r_imul d_M_slotOf_13 ?_
  refine r_ldcw d_M_slotOf_14 lc_M_370 ?_
  refine r_iand d_M_slotOf_17 ?_
  refine r_istore_n (ls2 := [(3, ai ((((v2 * (31 : Int32)) + (v1 * (7919 : Int32))) * (40503 : Int32)) &&& (262143 : Int32))), (0, ar v0), (1, ai v1), (2, ai v2)]) d_M_slotOf_18 (nle rfl) rfl ?_
  obtain ⟨n11, hw⟩ := hw
  refine r_pick (ls2 := [(0, ar v0), (1, ai v1), (2, ai v2), (3, ai ((((v2 * (31 : Int32)) + (v1 * (7919 : Int32))) * (40503 : Int32)) &&& (262143 : Int32)))]) [1, 2, 3, 0] rfl ?_
  exact s_M_slotOf_L19 hd hQ  n11 _ _ hw
set_option maxRecDepth 100000 in
set_option maxHeartbeats 4000000 in
theorem s_M_comes {d : Nat} (hd : 2 ≤ d) {v0 : Nat} {v1 : Int32} {h : Hp} {Q : Hp → Prop} {QQ : Option AV → Hp → Prop} (hw : w_M_comes v0 v1 h Q) (hQ : ∀ h9, Q h9 → QQ none h9) : aCall m_M_comes d [ar v0, ai v1] h 0 0 QQ := by
  obtain ⟨d, rfl⟩ : ∃ d9, d = d9 + 1 := ⟨d - 1, by omega⟩
  refine aCall_in pl_M_comes (nle rfl) ?_
  show aW none m_M_comes (d + 1) 0 [(0, ar v0), (1, ai v1)] [] h 0 0 QQ
  unfold w_M_comes at hw
  refine r_aload_n (j := 0) d_M_comes_0 rfl ?_
  obtain ⟨q3, hw⟩ := hw
  refine r_callV (av := []) (rest := []) (ci := 12) d_M_comes_1 mk_M_keyNow ll_M_371 im_M_keyNow se_M_keyNow rfl (nle rfl) rfl rfl (nle rfl) q3 (s_M_keyNow  hw (fun r2 h1 hw => ?_))
  show aW none m_M_comes (d + 1) 4 [(0, ar v0), (1, ai v1)] [ai r2] h1 0 0 QQ
  refine r_istore_n (ls2 := [(2, ai r2), (0, ar v0), (1, ai v1)]) d_M_comes_4 (nle rfl) rfl ?_
  refine r_aload_n (j := 1) d_M_comes_5 rfl ?_
  refine r_iload_n (j := 2) d_M_comes_6 rfl ?_
  refine r_iload_n (j := 0) d_M_comes_7 rfl ?_
  obtain ⟨q6, hw⟩ := hw
  refine r_callV (av := [ai v1, ai r2]) (rest := []) (ci := 12) d_M_comes_8 mk_M_slotOf ll_M_374 im_M_slotOf se_M_slotOf rfl (nle rfl) rfl rfl (nle rfl) q6 (s_M_slotOf (by omega) hw (fun r5 h4 hw => ?_))
  show aW none m_M_comes (d + 1) 11 [(2, ai r2), (0, ar v0), (1, ai v1)] [ai r5] h4 0 0 QQ
  refine r_istore_n (ls2 := [(3, ai r5), (2, ai r2), (0, ar v0), (1, ai v1)]) d_M_comes_11 (nle rfl) rfl ?_
  refine r_aload_n (j := 2) d_M_comes_12 rfl ?_
  obtain ⟨q7, hw⟩ := hw
  refine r_getR d_M_comes_13 ok_12 (nle rfl) (nle rfl) rfl lf_M_62 q7 ?_
  refine r_iload_n (j := 0) d_M_comes_16 rfl ?_
  obtain ⟨q8, hw⟩ := hw
  obtain ⟨q9, hw⟩ := hw
  refine r_iald d_M_comes_17 q8 q9 ?_
  refine r_if_eq d_M_comes_18 (fun w9 => ?_) (fun w9 => ?_)
  · replace hw := hw.1 w9
    refine r_aload_n (j := 2) d_M_comes_22 rfl ?_
    refine r_getR d_M_comes_23 ok_12 (nle rfl) (nle rfl) rfl lf_M_52 q7 ?_
    refine r_aload_n (j := 2) d_M_comes_26 rfl ?_
    refine r_getI d_M_comes_27 ok_12 (nle rfl) (nle rfl) rfl lf_M_377 q7 ?_
    refine r_iload_n (j := 1) d_M_comes_30 rfl ?_
    obtain ⟨q10, hw⟩ := hw
    obtain ⟨q11, hw⟩ := hw
    refine r_iast d_M_comes_31 q10 q11 ?_
    refine r_aload_n (j := 2) d_M_comes_32 rfl ?_
    refine r_dup d_M_comes_33 rfl ?_
    refine r_getI d_M_comes_34 ok_12 (nle rfl) (nle rfl) rfl lf_M_377 q7 ?_
    refine r_iconst d_M_comes_37 kc_1 ?_
    refine r_iadd d_M_comes_38 ?_
    refine r_putI d_M_comes_39 ok_12 (nle rfl) (nle rfl) rfl lf_M_377 rfl q7 ?_
    refine r_aload_n (j := 2) d_M_comes_42 rfl ?_
    refine r_getR d_M_comes_43 ok_12 (nle rfl) (nle rfl) rfl lf_M_62 q7 ?_
    refine r_iload_n (j := 0) d_M_comes_46 rfl ?_
    refine r_aload_n (j := 2) d_M_comes_47 rfl ?_
    refine r_getI d_M_comes_48 ok_12 (nle rfl) (nle rfl) rfl lf_M_377 q7 ?_
    refine r_iast d_M_comes_51 q8 q9 ?_
    exact r_return d_M_comes_52.1 rfl (hQ _ hw)
  · replace hw := hw.2 w9
    exact r_return d_M_comes_21.1 rfl (hQ _ hw)
set_option maxRecDepth 100000 in
set_option maxHeartbeats 4000000 in
theorem s_M_laysLayers_L103 {d : Nat} (hd : 3 ≤ d + 1) {Q : Hp → Prop} {QQ : Option AV → Hp → Prop} (hQ : ∀ h9, Q h9 → QQ none h9) {k52 : Int32 → Hp → Prop} {k87 : Int32 → Hp → Prop} (hk52 : ∀ v3 h9, k52 v3 h9 → aW none m_M_laysLayers (d + 1) 52 [(0, ar v0), (1, ai v1), (2, ai v2), (3, ai v3)] [] h9 0 0 QQ) (hk87 : ∀ v4 h9, k87 v4 h9 → aW none m_M_laysLayers (d + 1) 87 [(0, ar v0), (1, ai v1), (2, ai v2), (3, ai v3), (4, ai v4)] [] h9 0 0 QQ) {v0 : Nat} {v1 : Int32} {v2 : Int32} {v3 : Int32} {v4 : Int32} : ∀ (n : Nat) (v5 : Int32) (h : Hp), w_M_laysLayers_L103 Q k52 k87 v0 v1 v2 v3 v4 n v5 h → aW none m_M_laysLayers (d + 1) 103 [(0, ar v0), (1, ai v1), (2, ai v2), (3, ai v3), (4, ai v4), (5, ai v5)] [] h 0 0 QQ := by
  intro n
  induction n with
  | zero => intro v5 h hw; exact hw.elim
  | succ n ih =>
    intro v5 h hw
    unfold w_M_laysLayers_L103 at hw
    refine r_iload (j := 5) d_M_laysLayers_103 rfl ?_
    refine r_aload_n (j := 0) d_M_laysLayers_105 rfl ?_
    obtain ⟨q19, hw⟩ := hw
    refine r_getI d_M_laysLayers_106 ok_12 (nle rfl) (nle rfl) rfl lf_M_247 q19 ?_
    refine r_icmp_ge d_M_laysLayers_109 (fun w9 => ?_) (fun w9 => ?_)
    · replace hw := hw.1 w9
      refine r_iinc (j := 4) (ls2 := [(4, ai (v4 + (1 : Int32))), (0, ar v0), (1, ai v1), (2, ai v2), (3, ai v3), (5, ai v5)]) d_M_laysLayers_156 rfl (congrArg (HAdd.hAdd v4) kc_1) (nle rfl) rfl ?_
      refine r_goto d_M_laysLayers_159 ?_
      refine r_pick (ls2 := [(0, ar v0), (1, ai v1), (2, ai v2), (3, ai v3), (4, ai (v4 + (1 : Int32)))]) [1, 2, 3, 4, 0] rfl ?_
      exact hk87 _ _ hw
    · replace hw := hw.2 w9
      refine r_aload_n (j := 0) d_M_laysLayers_112 rfl ?_
      refine r_aload_n (j := 0) d_M_laysLayers_113 rfl ?_
      refine r_getR d_M_laysLayers_114 ok_12 (nle rfl) (nle rfl) rfl lf_M_52 q19 ?_
      refine r_iload (j := 4) d_M_laysLayers_117 rfl ?_
      obtain ⟨q20, hw⟩ := hw
      obtain ⟨q21, hw⟩ := hw
      refine r_iald d_M_laysLayers_119 q20 q21 ?_
      refine r_callV (av := [ai (gI h (gR h v0 33) (ix v4))]) (rest := []) (ci := 12) d_M_laysLayers_120 mk_M_unpacks ll_M_383 im_M_unpacks se_M_unpacks rfl (nle rfl) rfl rfl (nle rfl) q19 (s_M_unpacks  hw (fun h22 hw => ?_))
      show aW none m_M_laysLayers (d + 1) 123 [(0, ar v0), (1, ai v1), (2, ai v2), (3, ai v3), (4, ai v4), (5, ai v5)] [] h22 0 0 QQ
      refine r_aload_n (j := 0) d_M_laysLayers_123 rfl ?_
      refine r_iload (j := 5) d_M_laysLayers_124 rfl ?_
      obtain ⟨q24, hw⟩ := hw
      refine r_callV (av := [ai v5]) (rest := []) (ci := 12) d_M_laysLayers_126 mk_M_adds ll_M_363 im_M_adds se_M_adds rfl (nle rfl) rfl rfl (nle rfl) q24 (s_M_adds (by omega) hw (fun h23 hw => ?_))
      show aW none m_M_laysLayers (d + 1) 129 [(0, ar v0), (1, ai v1), (2, ai v2), (3, ai v3), (4, ai v4), (5, ai v5)] [] h23 0 0 QQ
      refine r_aload_n (j := 0) d_M_laysLayers_129 rfl ?_
      refine r_iload_n (j := 3) d_M_laysLayers_130 rfl ?_
      refine r_iconst d_M_laysLayers_131 kc_1 ?_
      refine r_iadd d_M_laysLayers_132 ?_
      refine r_iload_n (j := 1) d_M_laysLayers_133 rfl ?_
      obtain ⟨q27, hw⟩ := hw
      refine r_callV (av := [ai (v3 + (1 : Int32)), ai v1]) (rest := []) (ci := 12) d_M_laysLayers_134 mk_M_strayNow ll_M_366 im_M_strayNow se_M_strayNow rfl (nle rfl) rfl rfl (nle rfl) q27 (s_M_strayNow (by omega) hw (fun r26 h25 hw => ?_))
      show aW none m_M_laysLayers (d + 1) 137 [(0, ar v0), (1, ai v1), (2, ai v2), (3, ai v3), (4, ai v4), (5, ai v5)] [ai r26] h25 0 0 QQ
      refine r_iload_n (j := 2) d_M_laysLayers_137 rfl ?_
      refine r_iload_n (j := 1) d_M_laysLayers_138 rfl ?_
      refine r_imul d_M_laysLayers_139 ?_
      refine r_icmp_gt d_M_laysLayers_140 (fun w9 => ?_) (fun w9 => ?_)
      · replace hw := hw.1 w9
        refine r_iinc (j := 5) (ls2 := [(5, ai (v5 + (1 : Int32))), (0, ar v0), (1, ai v1), (2, ai v2), (3, ai v3), (4, ai v4)]) d_M_laysLayers_150 rfl (congrArg (HAdd.hAdd v5) kc_1) (nle rfl) rfl ?_
        refine r_goto d_M_laysLayers_153 ?_
        refine r_pick (ls2 := [(0, ar v0), (1, ai v1), (2, ai v2), (3, ai v3), (4, ai v4), (5, ai (v5 + (1 : Int32)))]) [1, 2, 3, 4, 5, 0] rfl ?_
        exact ih _ _ hw
      · replace hw := hw.2 w9
        refine r_aload_n (j := 0) d_M_laysLayers_143 rfl ?_
        refine r_iload_n (j := 3) d_M_laysLayers_144 rfl ?_
        refine r_iconst d_M_laysLayers_145 kc_1 ?_
        refine r_iadd d_M_laysLayers_146 ?_
        obtain ⟨q29, hw⟩ := hw
        refine r_callV (av := [ai (v3 + (1 : Int32))]) (rest := []) (ci := 12) d_M_laysLayers_147 mk_M_comes ll_M_380 im_M_comes se_M_comes rfl (nle rfl) rfl rfl (nle rfl) q29 (s_M_comes (by omega) hw (fun h28 hw => ?_))
        show aW none m_M_laysLayers (d + 1) 150 [(0, ar v0), (1, ai v1), (2, ai v2), (3, ai v3), (4, ai v4), (5, ai v5)] [] h28 0 0 QQ
        refine r_iinc (j := 5) (ls2 := [(5, ai (v5 + (1 : Int32))), (0, ar v0), (1, ai v1), (2, ai v2), (3, ai v3), (4, ai v4)]) d_M_laysLayers_150 rfl (congrArg (HAdd.hAdd v5) kc_1) (nle rfl) rfl ?_
        refine r_goto d_M_laysLayers_153 ?_
        refine r_pick (ls2 := [(0, ar v0), (1, ai v1), (2, ai v2), (3, ai v3), (4, ai v4), (5, ai (v5 + (1 : Int32)))]) [1, 2, 3, 4, 5, 0] rfl ?_
        exact ih _ _ hw
set_option maxRecDepth 100000 in
set_option maxHeartbeats 4000000 in
theorem s_M_laysLayers_L87 {d : Nat} (hd : 3 ≤ d + 1) {Q : Hp → Prop} {QQ : Option AV → Hp → Prop} (hQ : ∀ h9, Q h9 → QQ none h9) {k52 : Int32 → Hp → Prop} (hk52 : ∀ v3 h9, k52 v3 h9 → aW none m_M_laysLayers (d + 1) 52 [(0, ar v0), (1, ai v1), (2, ai v2), (3, ai v3)] [] h9 0 0 QQ) {v0 : Nat} {v1 : Int32} {v2 : Int32} {v3 : Int32} : ∀ (n : Nat) (v4 : Int32) (h : Hp), w_M_laysLayers_L87 Q k52 v0 v1 v2 v3 n v4 h → aW none m_M_laysLayers (d + 1) 87 [(0, ar v0), (1, ai v1), (2, ai v2), (3, ai v3), (4, ai v4)] [] h 0 0 QQ := by
  intro n
  induction n with
  | zero => intro v4 h hw; exact hw.elim
  | succ n ih =>
    intro v4 h hw
    unfold w_M_laysLayers_L87 at hw
    refine r_iload (j := 4) d_M_laysLayers_87 rfl ?_
    refine r_aload_n (j := 0) d_M_laysLayers_89 rfl ?_
    obtain ⟨q16, hw⟩ := hw
    refine r_getR d_M_laysLayers_90 ok_12 (nle rfl) (nle rfl) rfl lf_M_58 q16 ?_
    refine r_iload_n (j := 3) d_M_laysLayers_93 rfl ?_
    refine r_iconst d_M_laysLayers_94 kc_1 ?_
    refine r_iadd d_M_laysLayers_95 ?_
    obtain ⟨q17, hw⟩ := hw
    obtain ⟨q18, hw⟩ := hw
    refine r_iald d_M_laysLayers_96 q17 q18 ?_
    refine r_icmp_ge d_M_laysLayers_97 (fun w9 => ?_) (fun w9 => ?_)
    · replace hw := hw.1 w9
      refine r_iinc (j := 3) (ls2 := [(3, ai (v3 + (1 : Int32))), (0, ar v0), (1, ai v1), (2, ai v2), (4, ai v4)]) d_M_laysLayers_162 rfl (congrArg (HAdd.hAdd v3) kc_1) (nle rfl) rfl ?_
      refine r_goto d_M_laysLayers_165 ?_
      refine r_pick (ls2 := [(0, ar v0), (1, ai v1), (2, ai v2), (3, ai (v3 + (1 : Int32)))]) [1, 2, 3, 0] rfl ?_
      exact hk52 _ _ hw
    · replace hw := hw.2 w9
      refine r_iconst d_M_laysLayers_100 kc_0 ?_
      refine r_istore (ls2 := [(5, ai (0 : Int32)), (0, ar v0), (1, ai v1), (2, ai v2), (3, ai v3), (4, ai v4)]) d_M_laysLayers_101 (nle rfl) rfl ?_
      obtain ⟨n30, hw⟩ := hw
      refine r_pick (ls2 := [(0, ar v0), (1, ai v1), (2, ai v2), (3, ai v3), (4, ai v4), (5, ai (0 : Int32))]) [1, 2, 3, 4, 5, 0] rfl ?_
      exact s_M_laysLayers_L103 hd hQ hk52 ih n30 _ _ hw
set_option maxRecDepth 100000 in
set_option maxHeartbeats 4000000 in
theorem s_M_laysLayers_L52 {d : Nat} (hd : 3 ≤ d + 1) {Q : Hp → Prop} {QQ : Option AV → Hp → Prop} (hQ : ∀ h9, Q h9 → QQ none h9) {v0 : Nat} {v1 : Int32} {v2 : Int32} : ∀ (n : Nat) (v3 : Int32) (h : Hp), w_M_laysLayers_L52 Q  v0 v1 v2 n v3 h → aW none m_M_laysLayers (d + 1) 52 [(0, ar v0), (1, ai v1), (2, ai v2), (3, ai v3)] [] h 0 0 QQ := by
  intro n
  induction n with
  | zero => intro v3 h hw; exact hw.elim
  | succ n ih =>
    intro v3 h hw
    unfold w_M_laysLayers_L52 at hw
    refine r_iload_n (j := 3) d_M_laysLayers_52 rfl ?_
    refine r_iload_n (j := 1) d_M_laysLayers_53 rfl ?_
    refine r_icmp_ge d_M_laysLayers_54 (fun w9 => ?_) (fun w9 => ?_)
    · replace hw := hw.1 w9
      refine r_aload_n (j := 0) d_M_laysLayers_168 rfl ?_
      obtain ⟨q8, hw⟩ := hw
      refine r_getR d_M_laysLayers_169 ok_12 (nle rfl) (nle rfl) rfl lf_M_58 q8 ?_
      refine r_iload_n (j := 1) d_M_laysLayers_172 rfl ?_
      refine r_iconst d_M_laysLayers_173 kc_1 ?_
      refine r_iadd d_M_laysLayers_174 ?_
      refine r_aload_n (j := 0) d_M_laysLayers_175 rfl ?_
      refine r_getI d_M_laysLayers_176 ok_12 (nle rfl) (nle rfl) rfl lf_M_377 q8 ?_
      obtain ⟨q9, hw⟩ := hw
      obtain ⟨q10, hw⟩ := hw
      refine r_iast d_M_laysLayers_179 q9 q10 ?_
      exact r_return d_M_laysLayers_180.1 rfl (hQ _ hw)
    · replace hw := hw.2 w9
      refine r_aload_n (j := 0) d_M_laysLayers_57 rfl ?_
      obtain ⟨q11, hw⟩ := hw
      refine r_getR d_M_laysLayers_58 ok_12 (nle rfl) (nle rfl) rfl lf_M_58 q11 ?_
      refine r_iload_n (j := 3) d_M_laysLayers_61 rfl ?_
      refine r_iconst d_M_laysLayers_62 kc_1 ?_
      refine r_iadd d_M_laysLayers_63 ?_
      refine r_aload_n (j := 0) d_M_laysLayers_64 rfl ?_
      refine r_getI d_M_laysLayers_65 ok_12 (nle rfl) (nle rfl) rfl lf_M_377 q11 ?_
      obtain ⟨q12, hw⟩ := hw
      obtain ⟨q13, hw⟩ := hw
      refine r_iast d_M_laysLayers_68 q12 q13 ?_
      refine r_aload_n (j := 0) d_M_laysLayers_69 rfl ?_
      refine r_getR d_M_laysLayers_70 ok_12 (nle rfl) (nle rfl) rfl lf_M_58 q11 ?_
      refine r_iload_n (j := 3) d_M_laysLayers_73 rfl ?_
      refine r_iconst d_M_laysLayers_74 kc_2 ?_
      refine r_iadd d_M_laysLayers_75 ?_
      refine r_ldc d_M_laysLayers_76 lc_M_61 ?_
      obtain ⟨q14, hw⟩ := hw
      refine r_iast d_M_laysLayers_78 q12 q14 ?_
      refine r_aload_n (j := 0) d_M_laysLayers_79 rfl ?_
      refine r_getR d_M_laysLayers_80 ok_12 (nle rfl) (nle rfl) rfl lf_M_58 q11 ?_
      refine r_iload_n (j := 3) d_M_laysLayers_83 rfl ?_
      obtain ⟨q15, hw⟩ := hw
      refine r_iald d_M_laysLayers_84 q12 q15 ?_
      refine r_istore (ls2 := [(4, ai (gI (sI (sI h (gR h v0 35) (ix (v3 + (1 : Int32))) (gI h v0 38)) (gR h v0 35) (ix (v3 + (2 : Int32))) (262144 : Int32)) (gR h v0 35) (ix v3))), (0, ar v0), (1, ai v1), (2, ai v2), (3, ai v3)]) d_M_laysLayers_85 (nle rfl) rfl ?_
      obtain ⟨n31, hw⟩ := hw
      refine r_pick (ls2 := [(0, ar v0), (1, ai v1), (2, ai v2), (3, ai v3), (4, ai (gI (sI (sI h (gR h v0 35) (ix (v3 + (1 : Int32))) (gI h v0 38)) (gR h v0 35) (ix (v3 + (2 : Int32))) (262144 : Int32)) (gR h v0 35) (ix v3)))]) [1, 2, 3, 4, 0] rfl ?_
      exact s_M_laysLayers_L87 hd hQ ih n31 _ _ hw
set_option maxRecDepth 100000 in
set_option maxHeartbeats 4000000 in
theorem s_M_laysLayers_L2 {d : Nat} (hd : 3 ≤ d + 1) {Q : Hp → Prop} {QQ : Option AV → Hp → Prop} (hQ : ∀ h9, Q h9 → QQ none h9) {v0 : Nat} {v1 : Int32} {v2 : Int32} : ∀ (n : Nat) (v3 : Int32) (h : Hp), w_M_laysLayers_L2 Q  v0 v1 v2 n v3 h → aW none m_M_laysLayers (d + 1) 2 [(0, ar v0), (1, ai v1), (2, ai v2), (3, ai v3)] [] h 0 0 QQ := by
  intro n
  induction n with
  | zero => intro v3 h hw; exact hw.elim
  | succ n ih =>
    intro v3 h hw
    unfold w_M_laysLayers_L2 at hw
    refine r_iload_n (j := 3) d_M_laysLayers_2 rfl ?_
    refine r_ldc d_M_laysLayers_3 lc_M_61 ?_
    refine r_icmp_ge d_M_laysLayers_5 (fun w9 => ?_) (fun w9 => ?_)
    · replace hw := hw.1 w9
      refine r_aload_n (j := 0) d_M_laysLayers_21 rfl ?_
      refine r_iconst d_M_laysLayers_22 kc_0 ?_
      obtain ⟨q1, hw⟩ := hw
      refine r_putI d_M_laysLayers_23 ok_12 (nle rfl) (nle rfl) rfl lf_M_377 rfl q1 ?_
      refine r_aload_n (j := 0) d_M_laysLayers_26 rfl ?_
      refine r_getR d_M_laysLayers_27 ok_12 (nle rfl) (nle rfl) rfl lf_M_58 q1 ?_
      refine r_iconst d_M_laysLayers_30 kc_0 ?_
      refine r_iconst d_M_laysLayers_31 kc_0 ?_
      obtain ⟨q2, hw⟩ := hw
      obtain ⟨q3, hw⟩ := hw
      refine r_iast d_M_laysLayers_32 q2 q3 ?_
      refine r_aload_n (j := 0) d_M_laysLayers_33 rfl ?_
      refine r_getR d_M_laysLayers_34 ok_12 (nle rfl) (nle rfl) rfl lf_M_58 q1 ?_
      refine r_iconst d_M_laysLayers_37 kc_1 ?_
      refine r_ldc d_M_laysLayers_38 lc_M_61 ?_
      obtain ⟨q4, hw⟩ := hw
      refine r_iast d_M_laysLayers_40 q2 q4 ?_
      refine r_aload_n (j := 0) d_M_laysLayers_41 rfl ?_
      refine r_callV (av := []) (rest := []) (ci := 12) d_M_laysLayers_42 mk_M_noSums ll_M_360 im_M_noSums se_M_noSums rfl (nle rfl) rfl rfl (nle rfl) q1 (s_M_noSums  hw (fun h5 hw => ?_))
      show aW none m_M_laysLayers (d + 1) 45 [(0, ar v0), (1, ai v1), (2, ai v2), (3, ai v3)] [] h5 0 0 QQ
      refine r_aload_n (j := 0) d_M_laysLayers_45 rfl ?_
      refine r_iconst d_M_laysLayers_46 kc_0 ?_
      obtain ⟨q7, hw⟩ := hw
      refine r_callV (av := [ai (0 : Int32)]) (rest := []) (ci := 12) d_M_laysLayers_47 mk_M_comes ll_M_380 im_M_comes se_M_comes rfl (nle rfl) rfl rfl (nle rfl) q7 (s_M_comes (by omega) hw (fun h6 hw => ?_))
      show aW none m_M_laysLayers (d + 1) 50 [(0, ar v0), (1, ai v1), (2, ai v2), (3, ai v3)] [] h6 0 0 QQ
      refine r_iconst d_M_laysLayers_50 kc_0 ?_
      refine r_istore_n (ls2 := [(3, ai (0 : Int32)), (0, ar v0), (1, ai v1), (2, ai v2)]) d_M_laysLayers_51 (nle rfl) rfl ?_
      obtain ⟨n32, hw⟩ := hw
      refine r_pick (ls2 := [(0, ar v0), (1, ai v1), (2, ai v2), (3, ai (0 : Int32))]) [1, 2, 3, 0] rfl ?_
      exact s_M_laysLayers_L52 hd hQ  n32 _ _ hw
    · replace hw := hw.2 w9
      refine r_aload_n (j := 0) d_M_laysLayers_8 rfl ?_
      obtain ⟨q33, hw⟩ := hw
      refine r_getR d_M_laysLayers_9 ok_12 (nle rfl) (nle rfl) rfl lf_M_62 q33 ?_
      refine r_iload_n (j := 3) d_M_laysLayers_12 rfl ?_
      refine r_iconst d_M_laysLayers_13 kc_0 ?_
      obtain ⟨q34, hw⟩ := hw
      obtain ⟨q35, hw⟩ := hw
      refine r_iast d_M_laysLayers_14 q34 q35 ?_
      refine r_iinc (j := 3) (ls2 := [(3, ai (v3 + (1 : Int32))), (0, ar v0), (1, ai v1), (2, ai v2)]) d_M_laysLayers_15 rfl (congrArg (HAdd.hAdd v3) kc_1) (nle rfl) rfl ?_
      refine r_goto d_M_laysLayers_18 ?_
      refine r_pick (ls2 := [(0, ar v0), (1, ai v1), (2, ai v2), (3, ai (v3 + (1 : Int32)))]) [1, 2, 3, 0] rfl ?_
      exact ih _ _ hw
set_option maxRecDepth 100000 in
set_option maxHeartbeats 4000000 in
theorem s_M_laysLayers {d : Nat} (hd : 3 ≤ d) {v0 : Nat} {v1 : Int32} {v2 : Int32} {h : Hp} {Q : Hp → Prop} {QQ : Option AV → Hp → Prop} (hw : w_M_laysLayers v0 v1 v2 h Q) (hQ : ∀ h9, Q h9 → QQ none h9) : aCall m_M_laysLayers d [ar v0, ai v1, ai v2] h 0 0 QQ := by
  obtain ⟨d, rfl⟩ : ∃ d9, d = d9 + 1 := ⟨d - 1, by omega⟩
  refine aCall_in pl_M_laysLayers (nle rfl) ?_
  show aW none m_M_laysLayers (d + 1) 0 [(0, ar v0), (1, ai v1), (2, ai v2)] [] h 0 0 QQ
  unfold w_M_laysLayers at hw
  refine r_iconst d_M_laysLayers_0 kc_0 ?_
  refine r_istore_n (ls2 := [(3, ai (0 : Int32)), (0, ar v0), (1, ai v1), (2, ai v2)]) d_M_laysLayers_1 (nle rfl) rfl ?_
  obtain ⟨n36, hw⟩ := hw
  refine r_pick (ls2 := [(0, ar v0), (1, ai v1), (2, ai v2), (3, ai (0 : Int32))]) [1, 2, 3, 0] rfl ?_
  exact s_M_laysLayers_L2 hd hQ  n36 _ _ hw
set_option maxRecDepth 100000 in
set_option maxHeartbeats 4000000 in
theorem s_M_isNeeded_L4 {d : Nat} (hd : 1 ≤ d + 1) {Q : Bool → Hp → Prop} {QQ : Option AV → Hp → Prop} (hQ : ∀ r9 h9, Q r9 h9 → QQ (some (ai (b2i r9))) h9) {v0 : Nat} : ∀ (n : Nat) (v1 : Int32) (v2 : Int32) (h : Hp), w_M_isNeeded_L4 Q  v0 n v1 v2 h → aW none m_M_isNeeded (d + 1) 4 [(0, ar v0), (1, ai v1), (2, ai v2)] [] h 0 0 QQ := by
  intro n
  induction n with
  | zero => intro v1 v2 h hw; exact hw.elim
  | succ n ih =>
    intro v1 v2 h hw
    unfold w_M_isNeeded_L4 at hw
    refine r_iload_n (j := 2) d_M_isNeeded_4 rfl ?_
    refine r_aload_n (j := 0) d_M_isNeeded_5 rfl ?_
    obtain ⟨q1, hw⟩ := hw
    refine r_getI d_M_isNeeded_6 ok_12 (nle rfl) (nle rfl) rfl lf_M_244 q1 ?_
    refine r_icmp_ge d_M_isNeeded_9 (fun w9 => ?_) (fun w9 => ?_)
    · replace hw := hw.1 w9
      refine r_iload_n (j := 1) d_M_isNeeded_42 rfl ?_
      obtain ⟨q2, hw⟩ := hw
      exact r_zreturn d_M_isNeeded_43.1 rfl q2 (by have g9 := hQ _ _ hw; rwa [b2i_i q2] at g9)
    · replace hw := hw.2 w9
      refine r_iload_n (j := 1) d_M_isNeeded_12 rfl ?_
      refine r_if_eq d_M_isNeeded_13 (fun w9 => ?_) (fun w9 => ?_)
      · replace hw := hw.1 w9
        refine r_iconst d_M_isNeeded_34 kc_0 ?_
        refine r_istore_n (ls2 := [(1, ai (0 : Int32)), (0, ar v0), (2, ai v2)]) d_M_isNeeded_35 (nle rfl) rfl ?_
        refine r_iinc (j := 2) (ls2 := [(2, ai (v2 + (1 : Int32))), (1, ai (0 : Int32)), (0, ar v0)]) d_M_isNeeded_36 rfl (congrArg (HAdd.hAdd v2) kc_1) (nle rfl) rfl ?_
        refine r_goto d_M_isNeeded_39 ?_
        refine r_pick (ls2 := [(0, ar v0), (1, ai (0 : Int32)), (2, ai (v2 + (1 : Int32)))]) [2, 1, 0] rfl ?_
        exact ih _ _ _ hw
      · replace hw := hw.2 w9
        refine r_aload_n (j := 0) d_M_isNeeded_16 rfl ?_
        refine r_getR d_M_isNeeded_17 ok_12 (nle rfl) (nle rfl) rfl lf_M_48 q1 ?_
        refine r_iload_n (j := 2) d_M_isNeeded_20 rfl ?_
        obtain ⟨q3, hw⟩ := hw
        obtain ⟨q4, hw⟩ := hw
        refine r_iald d_M_isNeeded_21 q3 q4 ?_
        refine r_aload_n (j := 0) d_M_isNeeded_22 rfl ?_
        refine r_iload_n (j := 2) d_M_isNeeded_23 rfl ?_
        refine r_callV (av := [ai v2]) (rest := [ai (gI h (gR h v0 32) (ix v2))]) (ci := 12) d_M_isNeeded_24 mk_M_needOf ll_M_281 im_M_needOf se_M_needOf rfl (nle rfl) rfl rfl (nle rfl) q1 (s_M_needOf  hw (fun r6 h5 hw => ?_))
        show aW none m_M_isNeeded (d + 1) 27 [(0, ar v0), (1, ai v1), (2, ai v2)] [ai r6, ai (gI h (gR h v0 32) (ix v2))] h5 0 0 QQ
        refine r_icmp_ne d_M_isNeeded_27 (fun w9 => ?_) (fun w9 => ?_)
        · replace hw := hw.2 w9
          refine r_iconst d_M_isNeeded_34 kc_0 ?_
          refine r_istore_n (ls2 := [(1, ai (0 : Int32)), (0, ar v0), (2, ai v2)]) d_M_isNeeded_35 (nle rfl) rfl ?_
          refine r_iinc (j := 2) (ls2 := [(2, ai (v2 + (1 : Int32))), (1, ai (0 : Int32)), (0, ar v0)]) d_M_isNeeded_36 rfl (congrArg (HAdd.hAdd v2) kc_1) (nle rfl) rfl ?_
          refine r_goto d_M_isNeeded_39 ?_
          refine r_pick (ls2 := [(0, ar v0), (1, ai (0 : Int32)), (2, ai (v2 + (1 : Int32)))]) [2, 1, 0] rfl ?_
          exact ih _ _ _ hw
        · replace hw := hw.1 w9
          refine r_iconst d_M_isNeeded_30 kc_1 ?_
          refine r_goto d_M_isNeeded_31 ?_
          refine r_istore_n (ls2 := [(1, ai (1 : Int32)), (0, ar v0), (2, ai v2)]) d_M_isNeeded_35 (nle rfl) rfl ?_
          refine r_iinc (j := 2) (ls2 := [(2, ai (v2 + (1 : Int32))), (1, ai (1 : Int32)), (0, ar v0)]) d_M_isNeeded_36 rfl (congrArg (HAdd.hAdd v2) kc_1) (nle rfl) rfl ?_
          refine r_goto d_M_isNeeded_39 ?_
          refine r_pick (ls2 := [(0, ar v0), (1, ai (1 : Int32)), (2, ai (v2 + (1 : Int32)))]) [2, 1, 0] rfl ?_
          exact ih _ _ _ hw
set_option maxRecDepth 100000 in
set_option maxHeartbeats 4000000 in
theorem s_M_isNeeded {d : Nat} (hd : 1 ≤ d) {v0 : Nat} {h : Hp} {Q : Bool → Hp → Prop} {QQ : Option AV → Hp → Prop} (hw : w_M_isNeeded v0 h Q) (hQ : ∀ r9 h9, Q r9 h9 → QQ (some (ai (b2i r9))) h9) : aCall m_M_isNeeded d [ar v0] h 0 0 QQ := by
  obtain ⟨d, rfl⟩ : ∃ d9, d = d9 + 1 := ⟨d - 1, by omega⟩
  refine aCall_in pl_M_isNeeded (nle rfl) ?_
  show aW none m_M_isNeeded (d + 1) 0 [(0, ar v0)] [] h 0 0 QQ
  unfold w_M_isNeeded at hw
  refine r_iconst d_M_isNeeded_0 kc_1 ?_
  refine r_istore_n (ls2 := [(1, ai (1 : Int32)), (0, ar v0)]) d_M_isNeeded_1 (nle rfl) rfl ?_
  refine r_iconst d_M_isNeeded_2 kc_0 ?_
  refine r_istore_n (ls2 := [(2, ai (0 : Int32)), (1, ai (1 : Int32)), (0, ar v0)]) d_M_isNeeded_3 (nle rfl) rfl ?_
  obtain ⟨n7, hw⟩ := hw
  refine r_pick (ls2 := [(0, ar v0), (1, ai (1 : Int32)), (2, ai (0 : Int32))]) [2, 1, 0] rfl ?_
  exact s_M_isNeeded_L4 hd hQ  n7 _ _ _ hw
set_option maxRecDepth 100000 in
set_option maxHeartbeats 4000000 in
theorem s_M_behind {d : Nat} (hd : 2 ≤ d) {v0 : Nat} {v1 : Int32} {v2 : Int32} {v3 : Int32} {h : Hp} {Q : Int32 → Hp → Prop} {QQ : Option AV → Hp → Prop} (hw : w_M_behind v0 v1 v2 v3 h Q) (hQ : ∀ r9 h9, Q r9 h9 → QQ (some (ai r9)) h9) : aCall m_M_behind d [ar v0, ai v1, ai v2, ai v3] h 0 0 QQ := by
  obtain ⟨d, rfl⟩ : ∃ d9, d = d9 + 1 := ⟨d - 1, by omega⟩
  refine aCall_in pl_M_behind (nle rfl) ?_
  show aW none m_M_behind (d + 1) 0 [(0, ar v0), (1, ai v1), (2, ai v2), (3, ai v3)] [] h 0 0 QQ
  unfold w_M_behind at hw
  refine r_aload_n (j := 0) d_M_behind_0 rfl ?_
  refine r_aload_n (j := 0) d_M_behind_1 rfl ?_
  obtain ⟨q1, hw⟩ := hw
  refine r_getR d_M_behind_2 ok_12 (nle rfl) (nle rfl) rfl lf_M_52 q1 ?_
  refine r_iload_n (j := 1) d_M_behind_5 rfl ?_
  obtain ⟨q2, hw⟩ := hw
  obtain ⟨q3, hw⟩ := hw
  refine r_iald d_M_behind_6 q2 q3 ?_
  refine r_callV (av := [ai (gI h (gR h v0 33) (ix v1))]) (rest := []) (ci := 12) d_M_behind_7 mk_M_unpacks ll_M_383 im_M_unpacks se_M_unpacks rfl (nle rfl) rfl rfl (nle rfl) q1 (s_M_unpacks  hw (fun h4 hw => ?_))
  show aW none m_M_behind (d + 1) 10 [(0, ar v0), (1, ai v1), (2, ai v2), (3, ai v3)] [] h4 0 0 QQ
  refine r_aload_n (j := 0) d_M_behind_10 rfl ?_
  refine r_iload_n (j := 3) d_M_behind_11 rfl ?_
  obtain ⟨q6, hw⟩ := hw
  refine r_callV (av := [ai v3]) (rest := []) (ci := 12) d_M_behind_12 mk_M_adds ll_M_363 im_M_adds se_M_adds rfl (nle rfl) rfl rfl (nle rfl) q6 (s_M_adds (by omega) hw (fun h5 hw => ?_))
  show aW none m_M_behind (d + 1) 15 [(0, ar v0), (1, ai v1), (2, ai v2), (3, ai v3)] [] h5 0 0 QQ
  refine r_aload_n (j := 0) d_M_behind_15 rfl ?_
  refine r_iload_n (j := 2) d_M_behind_16 rfl ?_
  refine r_iconst d_M_behind_17 kc_1 ?_
  refine r_iadd d_M_behind_18 ?_
  refine r_aload_n (j := 0) d_M_behind_19 rfl ?_
  obtain ⟨q9, hw⟩ := hw
  refine r_callV (av := []) (rest := [ai (v2 + (1 : Int32)), ar v0]) (ci := 12) d_M_behind_20 mk_M_keyNow ll_M_371 im_M_keyNow se_M_keyNow rfl (nle rfl) rfl rfl (nle rfl) q9 (s_M_keyNow  hw (fun r8 h7 hw => ?_))
  show aW none m_M_behind (d + 1) 23 [(0, ar v0), (1, ai v1), (2, ai v2), (3, ai v3)] [ai r8, ai (v2 + (1 : Int32)), ar v0] h7 0 0 QQ
  obtain ⟨q12, hw⟩ := hw
  refine r_callV (av := [ai (v2 + (1 : Int32)), ai r8]) (rest := []) (ci := 12) d_M_behind_23 mk_M_slotOf ll_M_374 im_M_slotOf se_M_slotOf rfl (nle rfl) rfl rfl (nle rfl) q12 (s_M_slotOf (by omega) hw (fun r11 h10 hw => ?_))
  show aW none m_M_behind (d + 1) 26 [(0, ar v0), (1, ai v1), (2, ai v2), (3, ai v3)] [ai r11] h10 0 0 QQ
  refine r_istore (ls2 := [(4, ai r11), (0, ar v0), (1, ai v1), (2, ai v2), (3, ai v3)]) d_M_behind_26 (nle rfl) rfl ?_
  refine r_aload_n (j := 1) d_M_behind_28 rfl ?_
  obtain ⟨q13, hw⟩ := hw
  refine r_getR d_M_behind_29 ok_12 (nle rfl) (nle rfl) rfl lf_M_62 q13 ?_
  refine r_iload (j := 0) d_M_behind_32 rfl ?_
  obtain ⟨q14, hw⟩ := hw
  obtain ⟨q15, hw⟩ := hw
  refine r_iald d_M_behind_34 q14 q15 ?_
  refine r_iconst d_M_behind_35 kc_1 ?_
  refine r_isub d_M_behind_36 ?_
  exact r_ireturn d_M_behind_37.1 rfl (hQ _ _ hw)
set_option maxRecDepth 100000 in
set_option maxHeartbeats 4000000 in
theorem s_M_laysWays_L115 {d : Nat} (hd : 3 ≤ d + 1) {Q : Hp → Prop} {QQ : Option AV → Hp → Prop} (hQ : ∀ h9, Q h9 → QQ none h9) {k73 : Int32 → Hp → Prop} {k84 : Int32 → Hp → Prop} (hk73 : ∀ v2 h9, k73 v2 h9 → aW none m_M_laysWays (d + 1) 73 [(0, ar v0), (2, ai v2)] [] h9 0 0 QQ) (hk84 : ∀ v3 h9, k84 v3 h9 → aW none m_M_laysWays (d + 1) 84 [(0, ar v0), (2, ai v2), (3, ai v3)] [] h9 0 0 QQ) {v0 : Nat} {v2 : Int32} {v3 : Int32} : ∀ (n : Nat) (v4 : Int32) (h : Hp), w_M_laysWays_L115 Q k73 k84 v0 v2 v3 n v4 h → aW none m_M_laysWays (d + 1) 115 [(0, ar v0), (2, ai v2), (3, ai v3), (4, ai v4)] [] h 0 0 QQ := by
  intro n
  induction n with
  | zero => intro v4 h hw; exact hw.elim
  | succ n ih =>
    intro v4 h hw
    unfold w_M_laysWays_L115 at hw
    refine r_iload (j := 3) d_M_laysWays_115 rfl ?_
    refine r_aload_n (j := 0) d_M_laysWays_117 rfl ?_
    obtain ⟨q17, hw⟩ := hw
    refine r_getI d_M_laysWays_118 ok_12 (nle rfl) (nle rfl) rfl lf_M_247 q17 ?_
    refine r_icmp_ge d_M_laysWays_121 (fun w9 => ?_) (fun w9 => ?_)
    · replace hw := hw.1 w9
      refine r_iinc (j := 2) (ls2 := [(3, ai (v3 + (1 : Int32))), (0, ar v0), (2, ai v2), (4, ai v4)]) d_M_laysWays_205 rfl (congrArg (HAdd.hAdd v3) kc_1) (nle rfl) rfl ?_
      refine r_goto d_M_laysWays_208 ?_
      refine r_pick (ls2 := [(0, ar v0), (2, ai v2), (3, ai (v3 + (1 : Int32)))]) [1, 2, 0] rfl ?_
      exact hk84 _ _ hw
    · replace hw := hw.2 w9
      refine r_aload_n (j := 0) d_M_laysWays_124 rfl ?_
      refine r_iload_n (j := 2) d_M_laysWays_125 rfl ?_
      refine r_iload_n (j := 1) d_M_laysWays_126 rfl ?_
      refine r_iload (j := 3) d_M_laysWays_127 rfl ?_
      refine r_callV (av := [ai v3, ai v2, ai v4]) (rest := []) (ci := 12) d_M_laysWays_129 mk_M_behind ll_M_390 im_M_behind se_M_behind rfl (nle rfl) rfl rfl (nle rfl) q17 (s_M_behind (by omega) hw (fun r19 h18 hw => ?_))
      show aW none m_M_laysWays (d + 1) 132 [(0, ar v0), (2, ai v2), (3, ai v3), (4, ai v4)] [ai r19] h18 0 0 QQ
      refine r_istore (ls2 := [(5, ai r19), (0, ar v0), (2, ai v2), (3, ai v3), (4, ai v4)]) d_M_laysWays_132 (nle rfl) rfl ?_
      refine r_iload (j := 0) d_M_laysWays_134 rfl ?_
      refine r_if_lt d_M_laysWays_136 (fun w9 => ?_) (fun w9 => ?_)
      · replace hw := hw.1 w9
        refine r_iinc (j := 4) (ls2 := [(4, ai (v4 + (1 : Int32))), (5, ai r19), (0, ar v0), (2, ai v2), (3, ai v3)]) d_M_laysWays_199 rfl (congrArg (HAdd.hAdd v4) kc_1) (nle rfl) rfl ?_
        refine r_goto d_M_laysWays_202 ?_
        refine r_pick (ls2 := [(0, ar v0), (2, ai v2), (3, ai v3), (4, ai (v4 + (1 : Int32)))]) [2, 3, 4, 0] rfl ?_
        exact ih _ _ hw
      · replace hw := hw.2 w9
        refine r_aload_n (j := 1) d_M_laysWays_139 rfl ?_
        obtain ⟨q20, hw⟩ := hw
        refine r_getR d_M_laysWays_140 ok_12 (nle rfl) (nle rfl) rfl lf_M_65 q20 ?_
        refine r_iload (j := 0) d_M_laysWays_143 rfl ?_
        obtain ⟨q21, hw⟩ := hw
        obtain ⟨q22, hw⟩ := hw
        refine r_lald d_M_laysWays_145 q21 q22 ?_
        refine r_lconst d_M_laysWays_146 kl_0 ?_
        refine r_lcmp d_M_laysWays_147 ?_
        refine r_if_ne d_M_laysWays_148 (fun w9 => ?_) (fun w9 => ?_)
        · replace hw := hw.2 (fun g9 => w9 ((lg_cmp_eq _ _).mpr g9))
          refine r_aload_n (j := 1) d_M_laysWays_154 rfl ?_
          refine r_getR d_M_laysWays_155 ok_12 (nle rfl) (nle rfl) rfl lf_M_65 q20 ?_
          refine r_iload_n (j := 3) d_M_laysWays_158 rfl ?_
          refine r_dup2 d_M_laysWays_159 rfl rfl ?_
          obtain ⟨q23, hw⟩ := hw
          refine r_lald d_M_laysWays_160 q21 q23 ?_
          refine r_aload_n (j := 1) d_M_laysWays_161 rfl ?_
          refine r_getR d_M_laysWays_162 ok_12 (nle rfl) (nle rfl) rfl lf_M_65 q20 ?_
          refine r_iload (j := 0) d_M_laysWays_165 rfl ?_
          refine r_lald d_M_laysWays_167 q21 q22 ?_
          refine r_ladd d_M_laysWays_168 ?_
          refine r_last d_M_laysWays_169 q21 q23 ?_
          refine r_aload_n (j := 1) d_M_laysWays_170 rfl ?_
          refine r_getR d_M_laysWays_171 ok_12 (nle rfl) (nle rfl) rfl lf_M_55 q20 ?_
          refine r_iload_n (j := 3) d_M_laysWays_174 rfl ?_
          refine r_aload_n (j := 1) d_M_laysWays_175 rfl ?_
          refine r_getR d_M_laysWays_176 ok_12 (nle rfl) (nle rfl) rfl lf_M_55 q20 ?_
          refine r_iload_n (j := 3) d_M_laysWays_179 rfl ?_
          obtain ⟨q24, hw⟩ := hw
          obtain ⟨q25, hw⟩ := hw
          refine r_iald d_M_laysWays_180 q24 q25 ?_
          refine r_aload_n (j := 1) d_M_laysWays_181 rfl ?_
          refine r_iload (j := 4) d_M_laysWays_182 rfl ?_
          refine r_callV (av := [ai v4]) (rest := [ai (gI (sL h18 (gR h18 v0 37) (ix v3) ((gL h18 (gR h18 v0 37) (ix v3)) + (gL h18 (gR h18 v0 37) (ix r19)))) (gR h18 v0 34) (ix v3)), ai v3, ar (gR h18 v0 34)]) (ci := 12) d_M_laysWays_184 mk_M_gainOf ll_M_278 im_M_gainOf se_M_gainOf rfl (nle rfl) rfl rfl (nle rfl) q20 (s_M_gainOf  hw (fun r27 h26 hw => ?_))
          show aW none m_M_laysWays (d + 1) 187 [(5, ai r19), (0, ar v0), (2, ai v2), (3, ai v3), (4, ai v4)] [ai r27, ai (gI (sL h18 (gR h18 v0 37) (ix v3) ((gL h18 (gR h18 v0 37) (ix v3)) + (gL h18 (gR h18 v0 37) (ix r19)))) (gR h18 v0 34) (ix v3)), ai v3, ar (gR h18 v0 34)] h26 0 0 QQ
          refine r_aload_n (j := 1) d_M_laysWays_187 rfl ?_
          obtain ⟨q28, hw⟩ := hw
          refine r_getR d_M_laysWays_188 ok_12 (nle rfl) (nle rfl) rfl lf_M_55 q28 ?_
          refine r_iload (j := 0) d_M_laysWays_191 rfl ?_
          obtain ⟨q29, hw⟩ := hw
          obtain ⟨q30, hw⟩ := hw
          refine r_iald d_M_laysWays_193 q29 q30 ?_
          refine r_iadd d_M_laysWays_194 ?_
          refine r_callS (av := [ai (gI (sL h18 (gR h18 v0 37) (ix v3) ((gL h18 (gR h18 v0 37) (ix v3)) + (gL h18 (gR h18 v0 37) (ix r19)))) (gR h18 v0 34) (ix v3)), ai (r27 + (gI h26 (gR h26 v0 34) (ix r19)))]) (rest := [ai v3, ar (gR h18 v0 34)]) d_M_laysWays_195 mk_M_greater ll_M_343 st_M_greater rfl rfl (nle rfl) (s_M_greater  hw (fun r32 h31 hw => ?_))
          show aW none m_M_laysWays (d + 1) 198 [(5, ai r19), (0, ar v0), (2, ai v2), (3, ai v3), (4, ai v4)] [ai r32, ai v3, ar (gR h18 v0 34)] h31 0 0 QQ
          obtain ⟨q33, hw⟩ := hw
          obtain ⟨q34, hw⟩ := hw
          refine r_iast d_M_laysWays_198 q33 q34 ?_
          refine r_iinc (j := 4) (ls2 := [(4, ai (v4 + (1 : Int32))), (5, ai r19), (0, ar v0), (2, ai v2), (3, ai v3)]) d_M_laysWays_199 rfl (congrArg (HAdd.hAdd v4) kc_1) (nle rfl) rfl ?_
          refine r_goto d_M_laysWays_202 ?_
          refine r_pick (ls2 := [(0, ar v0), (2, ai v2), (3, ai v3), (4, ai (v4 + (1 : Int32)))]) [2, 3, 4, 0] rfl ?_
          exact ih _ _ hw
        · replace hw := hw.1 ((lg_cmp_eq _ _).mp w9)
          refine r_goto d_M_laysWays_151 ?_
          refine r_iinc (j := 4) (ls2 := [(4, ai (v4 + (1 : Int32))), (5, ai r19), (0, ar v0), (2, ai v2), (3, ai v3)]) d_M_laysWays_199 rfl (congrArg (HAdd.hAdd v4) kc_1) (nle rfl) rfl ?_
          refine r_goto d_M_laysWays_202 ?_
          refine r_pick (ls2 := [(0, ar v0), (2, ai v2), (3, ai v3), (4, ai (v4 + (1 : Int32)))]) [2, 3, 4, 0] rfl ?_
          exact ih _ _ hw
set_option maxRecDepth 100000 in
set_option maxHeartbeats 4000000 in
theorem s_M_laysWays_L84 {d : Nat} (hd : 3 ≤ d + 1) {Q : Hp → Prop} {QQ : Option AV → Hp → Prop} (hQ : ∀ h9, Q h9 → QQ none h9) {k73 : Int32 → Hp → Prop} (hk73 : ∀ v2 h9, k73 v2 h9 → aW none m_M_laysWays (d + 1) 73 [(0, ar v0), (2, ai v2)] [] h9 0 0 QQ) {v0 : Nat} {v2 : Int32} : ∀ (n : Nat) (v3 : Int32) (h : Hp), w_M_laysWays_L84 Q k73 v0 v2 n v3 h → aW none m_M_laysWays (d + 1) 84 [(0, ar v0), (2, ai v2), (3, ai v3)] [] h 0 0 QQ := by
  intro n
  induction n with
  | zero => intro v3 h hw; exact hw.elim
  | succ n ih =>
    intro v3 h hw
    unfold w_M_laysWays_L84 at hw
    refine r_iload_n (j := 2) d_M_laysWays_84 rfl ?_
    refine r_aload_n (j := 0) d_M_laysWays_85 rfl ?_
    obtain ⟨q10, hw⟩ := hw
    refine r_getR d_M_laysWays_86 ok_12 (nle rfl) (nle rfl) rfl lf_M_58 q10 ?_
    refine r_iload_n (j := 1) d_M_laysWays_89 rfl ?_
    refine r_iconst d_M_laysWays_90 kc_1 ?_
    refine r_iadd d_M_laysWays_91 ?_
    obtain ⟨q11, hw⟩ := hw
    obtain ⟨q12, hw⟩ := hw
    refine r_iald d_M_laysWays_92 q11 q12 ?_
    refine r_icmp_ge d_M_laysWays_93 (fun w9 => ?_) (fun w9 => ?_)
    · replace hw := hw.1 w9
      refine r_iinc (j := 1) (ls2 := [(2, ai (v2 + (-1 : Int32))), (0, ar v0), (3, ai v3)]) d_M_laysWays_211 rfl (congrArg (HAdd.hAdd v2) kc_m1) (nle rfl) rfl ?_
      refine r_goto d_M_laysWays_214 ?_
      refine r_pick (ls2 := [(0, ar v0), (2, ai (v2 + (-1 : Int32)))]) [1, 0] rfl ?_
      exact hk73 _ _ hw
    · replace hw := hw.2 w9
      refine r_aload_n (j := 0) d_M_laysWays_96 rfl ?_
      refine r_getR d_M_laysWays_97 ok_12 (nle rfl) (nle rfl) rfl lf_M_65 q10 ?_
      refine r_iload_n (j := 2) d_M_laysWays_100 rfl ?_
      refine r_lconst d_M_laysWays_101 kl_0 ?_
      obtain ⟨q13, hw⟩ := hw
      obtain ⟨q14, hw⟩ := hw
      refine r_last d_M_laysWays_102 q13 q14 ?_
      refine r_aload_n (j := 0) d_M_laysWays_103 rfl ?_
      refine r_getR d_M_laysWays_104 ok_12 (nle rfl) (nle rfl) rfl lf_M_55 q10 ?_
      refine r_iload_n (j := 2) d_M_laysWays_107 rfl ?_
      refine r_ldcw d_M_laysWays_108 lc_M_389 ?_
      obtain ⟨q15, hw⟩ := hw
      obtain ⟨q16, hw⟩ := hw
      refine r_iast d_M_laysWays_111 q15 q16 ?_
      refine r_iconst d_M_laysWays_112 kc_0 ?_
      refine r_istore (ls2 := [(4, ai (0 : Int32)), (0, ar v0), (2, ai v2), (3, ai v3)]) d_M_laysWays_113 (nle rfl) rfl ?_
      obtain ⟨n35, hw⟩ := hw
      refine r_pick (ls2 := [(0, ar v0), (2, ai v2), (3, ai v3), (4, ai (0 : Int32))]) [1, 2, 3, 0] rfl ?_
      exact s_M_laysWays_L115 hd hQ hk73 ih n35 _ _ hw
set_option maxRecDepth 100000 in
set_option maxHeartbeats 4000000 in
theorem s_M_laysWays_L73 {d : Nat} (hd : 3 ≤ d + 1) {Q : Hp → Prop} {QQ : Option AV → Hp → Prop} (hQ : ∀ h9, Q h9 → QQ none h9) {v0 : Nat} : ∀ (n : Nat) (v2 : Int32) (h : Hp), w_M_laysWays_L73 Q  v0 n v2 h → aW none m_M_laysWays (d + 1) 73 [(0, ar v0), (2, ai v2)] [] h 0 0 QQ := by
  intro n
  induction n with
  | zero => intro v2 h hw; exact hw.elim
  | succ n ih =>
    intro v2 h hw
    unfold w_M_laysWays_L73 at hw
    refine r_iload_n (j := 1) d_M_laysWays_73 rfl ?_
    refine r_if_lt d_M_laysWays_74 (fun w9 => ?_) (fun w9 => ?_)
    · replace hw := hw.1 w9
      exact r_return d_M_laysWays_217.1 rfl (hQ _ hw)
    · replace hw := hw.2 w9
      refine r_aload_n (j := 0) d_M_laysWays_77 rfl ?_
      obtain ⟨q7, hw⟩ := hw
      refine r_getR d_M_laysWays_78 ok_12 (nle rfl) (nle rfl) rfl lf_M_58 q7 ?_
      refine r_iload_n (j := 1) d_M_laysWays_81 rfl ?_
      obtain ⟨q8, hw⟩ := hw
      obtain ⟨q9, hw⟩ := hw
      refine r_iald d_M_laysWays_82 q8 q9 ?_
      refine r_istore_n (ls2 := [(3, ai (gI h (gR h v0 35) (ix v2))), (0, ar v0), (2, ai v2)]) d_M_laysWays_83 (nle rfl) rfl ?_
      obtain ⟨n36, hw⟩ := hw
      refine r_pick (ls2 := [(0, ar v0), (2, ai v2), (3, ai (gI h (gR h v0 35) (ix v2)))]) [1, 2, 0] rfl ?_
      exact s_M_laysWays_L84 hd hQ ih n36 _ _ hw
set_option maxRecDepth 100000 in
set_option maxHeartbeats 4000000 in
theorem s_M_laysWays_L7 {d : Nat} (hd : 3 ≤ d + 1) {Q : Hp → Prop} {QQ : Option AV → Hp → Prop} (hQ : ∀ h9, Q h9 → QQ none h9) {v0 : Nat} {v1 : Int32} : ∀ (n : Nat) (v2 : Int32) (h : Hp), w_M_laysWays_L7 Q  v0 v1 n v2 h → aW none m_M_laysWays (d + 1) 7 [(0, ar v0), (1, ai v1), (2, ai v2)] [] h 0 0 QQ := by
  intro n
  induction n with
  | zero => intro v2 h hw; exact hw.elim
  | succ n ih =>
    intro v2 h hw
    unfold w_M_laysWays_L7 at hw
    refine r_iload_n (j := 2) d_M_laysWays_7 rfl ?_
    refine r_aload_n (j := 0) d_M_laysWays_8 rfl ?_
    obtain ⟨q4, hw⟩ := hw
    refine r_getR d_M_laysWays_9 ok_12 (nle rfl) (nle rfl) rfl lf_M_58 q4 ?_
    refine r_iload_n (j := 1) d_M_laysWays_12 rfl ?_
    refine r_iconst d_M_laysWays_13 kc_1 ?_
    refine r_iadd d_M_laysWays_14 ?_
    obtain ⟨q5, hw⟩ := hw
    obtain ⟨q6, hw⟩ := hw
    refine r_iald d_M_laysWays_15 q5 q6 ?_
    refine r_icmp_ge d_M_laysWays_16 (fun w9 => ?_) (fun w9 => ?_)
    · replace hw := hw.1 w9
      refine r_iload_n (j := 1) d_M_laysWays_69 rfl ?_
      refine r_iconst d_M_laysWays_70 kc_1 ?_
      refine r_isub d_M_laysWays_71 ?_
      refine r_istore_n (ls2 := [(2, ai (v1 - (1 : Int32))), (0, ar v0), (1, ai v1)]) d_M_laysWays_72 (nle rfl) rfl ?_
      obtain ⟨n37, hw⟩ := hw
      refine r_pick (ls2 := [(0, ar v0), (2, ai (v1 - (1 : Int32)))]) [1, 0] rfl ?_
      exact s_M_laysWays_L73 hd hQ  n37 _ _ hw
    · replace hw := hw.2 w9
      refine r_aload_n (j := 0) d_M_laysWays_19 rfl ?_
      refine r_aload_n (j := 0) d_M_laysWays_20 rfl ?_
      refine r_getR d_M_laysWays_21 ok_12 (nle rfl) (nle rfl) rfl lf_M_52 q4 ?_
      refine r_iload_n (j := 2) d_M_laysWays_24 rfl ?_
      obtain ⟨q38, hw⟩ := hw
      obtain ⟨q39, hw⟩ := hw
      refine r_iald d_M_laysWays_25 q38 q39 ?_
      refine r_callV (av := [ai (gI h (gR h v0 33) (ix v2))]) (rest := []) (ci := 12) d_M_laysWays_26 mk_M_unpacks ll_M_383 im_M_unpacks se_M_unpacks rfl (nle rfl) rfl rfl (nle rfl) q4 (s_M_unpacks  hw (fun h40 hw => ?_))
      show aW none m_M_laysWays (d + 1) 29 [(0, ar v0), (1, ai v1), (2, ai v2)] [] h40 0 0 QQ
      refine r_aload_n (j := 0) d_M_laysWays_29 rfl ?_
      obtain ⟨q41, hw⟩ := hw
      refine r_getR d_M_laysWays_30 ok_12 (nle rfl) (nle rfl) rfl lf_M_65 q41 ?_
      refine r_iload_n (j := 2) d_M_laysWays_33 rfl ?_
      refine r_aload_n (j := 0) d_M_laysWays_34 rfl ?_
      refine r_callV (av := []) (rest := [ai v2, ar (gR h40 v0 37)]) (ci := 12) d_M_laysWays_35 mk_M_isNeeded ll_M_386 im_M_isNeeded se_M_isNeeded rfl (nle rfl) rfl rfl (nle rfl) q41 (s_M_isNeeded (by omega) hw (fun r43 h42 hw => ?_))
      show aW none m_M_laysWays (d + 1) 38 [(0, ar v0), (1, ai v1), (2, ai v2)] [ai (b2i r43), ai v2, ar (gR h40 v0 37)] h42 0 0 QQ
      refine r_callS (av := [ai (b2i r43)]) (rest := [ai v2, ar (gR h40 v0 37)]) d_M_laysWays_38 mk_M_truth ll_M_318 st_M_truth rfl rfl (nle rfl) (s_M_truth  hw (fun r45 h44 hw => ?_))
      show aW none m_M_laysWays (d + 1) 41 [(0, ar v0), (1, ai v1), (2, ai v2)] [ai r45, ai v2, ar (gR h40 v0 37)] h44 0 0 QQ
      refine r_i2l d_M_laysWays_41 ?_
      obtain ⟨q46, hw⟩ := hw
      obtain ⟨q47, hw⟩ := hw
      refine r_last d_M_laysWays_42 q46 q47 ?_
      refine r_aload_n (j := 0) d_M_laysWays_43 rfl ?_
      obtain ⟨q48, hw⟩ := hw
      refine r_getR d_M_laysWays_44 ok_12 (nle rfl) (nle rfl) rfl lf_M_55 q48 ?_
      refine r_iload_n (j := 2) d_M_laysWays_47 rfl ?_
      refine r_aload_n (j := 0) d_M_laysWays_48 rfl ?_
      refine r_callV (av := []) (rest := [ai v2, ar (gR h44 v0 34)]) (ci := 12) d_M_laysWays_49 mk_M_isNeeded ll_M_386 im_M_isNeeded se_M_isNeeded rfl (nle rfl) rfl rfl (nle rfl) q48 (s_M_isNeeded (by omega) hw (fun r50 h49 hw => ?_))
      show aW none m_M_laysWays (d + 1) 52 [(0, ar v0), (1, ai v1), (2, ai v2)] [ai (b2i r50), ai v2, ar (gR h44 v0 34)] h49 0 0 QQ
      refine r_if_eq d_M_laysWays_52 (fun w9 => ?_) (fun w9 => ?_)
      · replace hw := hw.1 (b2i_0.mp w9)
        refine r_ldcw d_M_laysWays_59 lc_M_389 ?_
        obtain ⟨q51, hw⟩ := hw
        obtain ⟨q52, hw⟩ := hw
        refine r_iast d_M_laysWays_62 q51 q52 ?_
        refine r_iinc (j := 2) (ls2 := [(2, ai (v2 + (1 : Int32))), (0, ar v0), (1, ai v1)]) d_M_laysWays_63 rfl (congrArg (HAdd.hAdd v2) kc_1) (nle rfl) rfl ?_
        refine r_goto d_M_laysWays_66 ?_
        refine r_pick (ls2 := [(0, ar v0), (1, ai v1), (2, ai (v2 + (1 : Int32)))]) [1, 2, 0] rfl ?_
        exact ih _ _ hw
      · replace hw := hw.2 (fun g9 => w9 (b2i_0.mpr g9))
        refine r_iconst d_M_laysWays_55 kc_0 ?_
        refine r_goto d_M_laysWays_56 ?_
        obtain ⟨q53, hw⟩ := hw
        obtain ⟨q54, hw⟩ := hw
        refine r_iast d_M_laysWays_62 q53 q54 ?_
        refine r_iinc (j := 2) (ls2 := [(2, ai (v2 + (1 : Int32))), (0, ar v0), (1, ai v1)]) d_M_laysWays_63 rfl (congrArg (HAdd.hAdd v2) kc_1) (nle rfl) rfl ?_
        refine r_goto d_M_laysWays_66 ?_
        refine r_pick (ls2 := [(0, ar v0), (1, ai v1), (2, ai (v2 + (1 : Int32)))]) [1, 2, 0] rfl ?_
        exact ih _ _ hw
set_option maxRecDepth 100000 in
set_option maxHeartbeats 4000000 in
theorem s_M_laysWays {d : Nat} (hd : 3 ≤ d) {v0 : Nat} {v1 : Int32} {h : Hp} {Q : Hp → Prop} {QQ : Option AV → Hp → Prop} (hw : w_M_laysWays v0 v1 h Q) (hQ : ∀ h9, Q h9 → QQ none h9) : aCall m_M_laysWays d [ar v0, ai v1] h 0 0 QQ := by
  obtain ⟨d, rfl⟩ : ∃ d9, d = d9 + 1 := ⟨d - 1, by omega⟩
  refine aCall_in pl_M_laysWays (nle rfl) ?_
  show aW none m_M_laysWays (d + 1) 0 [(0, ar v0), (1, ai v1)] [] h 0 0 QQ
  unfold w_M_laysWays at hw
  refine r_aload_n (j := 0) d_M_laysWays_0 rfl ?_
  obtain ⟨q1, hw⟩ := hw
  refine r_getR d_M_laysWays_1 ok_12 (nle rfl) (nle rfl) rfl lf_M_58 q1 ?_
  refine r_iload_n (j := 1) d_M_laysWays_4 rfl ?_
  obtain ⟨q2, hw⟩ := hw
  obtain ⟨q3, hw⟩ := hw
  refine r_iald d_M_laysWays_5 q2 q3 ?_
  refine r_istore_n (ls2 := [(2, ai (gI h (gR h v0 35) (ix v1))), (0, ar v0), (1, ai v1)]) d_M_laysWays_6 (nle rfl) rfl ?_
  obtain ⟨n55, hw⟩ := hw
  refine r_pick (ls2 := [(0, ar v0), (1, ai v1), (2, ai (gI h (gR h v0 35) (ix v1)))]) [1, 2, 0] rfl ?_
  exact s_M_laysWays_L7 hd hQ  n55 _ _ hw
set_option maxRecDepth 100000 in
set_option maxHeartbeats 4000000 in
theorem s_M_laysStrip_B24 {d : Nat} (hd : 4 ≤ d + 1) {Q : Hp → Prop} {QQ : Option AV → Hp → Prop} (hQ : ∀ h9, Q h9 → QQ none h9) {v0 : Nat} {v1 : Int32} {v2 : Int32} {h : Hp} (hw : w_M_laysStrip_B24 Q  v0 v1 v2 h) : aW none m_M_laysStrip (d + 1) 24 [(0, ar v0), (1, ai v1), (2, ai v2)] [] h 0 0 QQ := by
  unfold w_M_laysStrip_B24 at hw
  refine r_aload_n (j := 0) d_M_laysStrip_24 rfl ?_
  refine r_iload_n (j := 1) d_M_laysStrip_25 rfl ?_
  refine r_iload_n (j := 2) d_M_laysStrip_26 rfl ?_
  obtain ⟨q3, hw⟩ := hw
  refine r_callV (av := [ai v1, ai v2]) (rest := []) (ci := 12) d_M_laysStrip_27 mk_M_laysLayers ll_M_399 im_M_laysLayers se_M_laysLayers rfl (nle rfl) rfl rfl (nle rfl) q3 (s_M_laysLayers (by omega) hw (fun h2 hw => ?_))
  show aW none m_M_laysStrip (d + 1) 30 [(0, ar v0), (1, ai v1), (2, ai v2)] [] h2 0 0 QQ
  refine r_aload_n (j := 0) d_M_laysStrip_30 rfl ?_
  refine r_iload_n (j := 1) d_M_laysStrip_31 rfl ?_
  obtain ⟨q5, hw⟩ := hw
  refine r_callV (av := [ai v1]) (rest := []) (ci := 12) d_M_laysStrip_32 mk_M_laysWays ll_M_403 im_M_laysWays se_M_laysWays rfl (nle rfl) rfl rfl (nle rfl) q5 (s_M_laysWays (by omega) hw (fun h4 hw => ?_))
  show aW none m_M_laysStrip (d + 1) 35 [(0, ar v0), (1, ai v1), (2, ai v2)] [] h4 0 0 QQ
  refine r_aload_n (j := 0) d_M_laysStrip_35 rfl ?_
  refine r_iconst d_M_laysStrip_36 kc_1 ?_
  obtain ⟨q6, hw⟩ := hw
  refine r_putZ d_M_laysStrip_37 ok_12 (nle rfl) (nle rfl) rfl lf_M_259 rfl q6 (Or.inr rfl) ?_
  refine r_aload_n (j := 0) d_M_laysStrip_40 rfl ?_
  refine r_iload_n (j := 1) d_M_laysStrip_41 rfl ?_
  refine r_putI d_M_laysStrip_42 ok_12 (nle rfl) (nle rfl) rfl lf_M_393 rfl q6 ?_
  refine r_aload_n (j := 0) d_M_laysStrip_45 rfl ?_
  refine r_iload_n (j := 2) d_M_laysStrip_46 rfl ?_
  refine r_putI d_M_laysStrip_47 ok_12 (nle rfl) (nle rfl) rfl lf_M_396 rfl q6 ?_
  exact r_return d_M_laysStrip_50.1 rfl (hQ _ hw)
set_option maxRecDepth 100000 in
set_option maxHeartbeats 4000000 in
theorem s_M_laysStrip {d : Nat} (hd : 4 ≤ d) {v0 : Nat} {v1 : Int32} {v2 : Int32} {h : Hp} {Q : Hp → Prop} {QQ : Option AV → Hp → Prop} (hw : w_M_laysStrip v0 v1 v2 h Q) (hQ : ∀ h9, Q h9 → QQ none h9) : aCall m_M_laysStrip d [ar v0, ai v1, ai v2] h 0 0 QQ := by
  obtain ⟨d, rfl⟩ : ∃ d9, d = d9 + 1 := ⟨d - 1, by omega⟩
  refine aCall_in pl_M_laysStrip (nle rfl) ?_
  show aW none m_M_laysStrip (d + 1) 0 [(0, ar v0), (1, ai v1), (2, ai v2)] [] h 0 0 QQ
  unfold w_M_laysStrip at hw
  refine r_aload_n (j := 0) d_M_laysStrip_0 rfl ?_
  obtain ⟨q1, hw⟩ := hw
  refine r_getI d_M_laysStrip_1 ok_12 (nle rfl) (nle rfl) rfl lf_M_259 q1 ?_
  refine r_if_eq d_M_laysStrip_4 (fun w9 => ?_) (fun w9 => ?_)
  · replace hw := hw.1 w9
    exact s_M_laysStrip_B24 hd hQ  hw
  · replace hw := hw.2 w9
    refine r_aload_n (j := 0) d_M_laysStrip_7 rfl ?_
    refine r_getI d_M_laysStrip_8 ok_12 (nle rfl) (nle rfl) rfl lf_M_393 q1 ?_
    refine r_iload_n (j := 1) d_M_laysStrip_11 rfl ?_
    refine r_icmp_ne d_M_laysStrip_12 (fun w9 => ?_) (fun w9 => ?_)
    · replace hw := hw.2 w9
      exact s_M_laysStrip_B24 hd hQ  hw
    · replace hw := hw.1 w9
      refine r_aload_n (j := 0) d_M_laysStrip_15 rfl ?_
      refine r_getI d_M_laysStrip_16 ok_12 (nle rfl) (nle rfl) rfl lf_M_396 q1 ?_
      refine r_iload_n (j := 2) d_M_laysStrip_19 rfl ?_
      refine r_icmp_ne d_M_laysStrip_20 (fun w9 => ?_) (fun w9 => ?_)
      · replace hw := hw.2 w9
        exact s_M_laysStrip_B24 hd hQ  hw
      · replace hw := hw.1 w9
        exact r_return d_M_laysStrip_23.1 rfl (hQ _ hw)
set_option maxRecDepth 100000 in
set_option maxHeartbeats 4000000 in
theorem s_M_isStrip {d : Nat} (hd : 1 ≤ d) {v0 : Int32} {v1 : Int32} {h : Hp} {Q : Bool → Hp → Prop} {QQ : Option AV → Hp → Prop} (hw : w_M_isStrip v0 v1 h Q) (hQ : ∀ r9 h9, Q r9 h9 → QQ (some (ai (b2i r9))) h9) : aCall m_M_isStrip d [ai v0, ai v1] h 0 0 QQ := by
  obtain ⟨d, rfl⟩ : ∃ d9, d = d9 + 1 := ⟨d - 1, by omega⟩
  refine aCall_in pl_M_isStrip (nle rfl) ?_
  show aW none m_M_isStrip (d + 1) 0 [(0, ai v0), (1, ai v1)] [] h 0 0 QQ
  unfold w_M_isStrip at hw
  refine r_iload_n (j := 0) d_M_isStrip_0 rfl ?_
  refine r_iconst d_M_isStrip_1 kc_0 ?_
  refine r_bipush d_M_isStrip_2 kb_12 ?_
  refine r_callS (av := [ai v0, ai (0 : Int32), ai (12 : Int32)]) (rest := []) d_M_isStrip_4 mk_M_isIn ll_M_148 st_M_isIn rfl rfl (nle rfl) (s_M_isIn  hw (fun r2 h1 hw => ?_))
  show aW none m_M_isStrip (d + 1) 7 [(0, ai v0), (1, ai v1)] [ai (b2i r2)] h1 0 0 QQ
  refine r_if_eq d_M_isStrip_7 (fun w9 => ?_) (fun w9 => ?_)
  · replace hw := hw.1 (b2i_0.mp w9)
    refine r_iconst d_M_isStrip_24 kc_0 ?_
    exact r_zreturn d_M_isStrip_25.1 rfl (Or.inl rfl) (hQ _ _ hw)
  · replace hw := hw.2 (fun g9 => w9 (b2i_0.mpr g9))
    refine r_iload_n (j := 1) d_M_isStrip_10 rfl ?_
    refine r_iconst d_M_isStrip_11 kc_0 ?_
    refine r_bipush d_M_isStrip_12 kb_12 ?_
    refine r_callS (av := [ai v1, ai (0 : Int32), ai (12 : Int32)]) (rest := []) d_M_isStrip_14 mk_M_isIn ll_M_148 st_M_isIn rfl rfl (nle rfl) (s_M_isIn  hw (fun r4 h3 hw => ?_))
    show aW none m_M_isStrip (d + 1) 17 [(0, ai v0), (1, ai v1)] [ai (b2i r4)] h3 0 0 QQ
    refine r_if_eq d_M_isStrip_17 (fun w9 => ?_) (fun w9 => ?_)
    · replace hw := hw.1 (b2i_0.mp w9)
      refine r_iconst d_M_isStrip_24 kc_0 ?_
      exact r_zreturn d_M_isStrip_25.1 rfl (Or.inl rfl) (hQ _ _ hw)
    · replace hw := hw.2 (fun g9 => w9 (b2i_0.mpr g9))
      refine r_iconst d_M_isStrip_20 kc_1 ?_
      refine r_goto d_M_isStrip_21 ?_
      exact r_zreturn d_M_isStrip_25.1 rfl (Or.inr rfl) (hQ _ _ hw)
set_option maxRecDepth 100000 in
set_option maxHeartbeats 4000000 in
theorem s_M_strip_B45 {d : Nat} (hd : 5 ≤ d + 1) {Q : Int32 → Hp → Prop} {QQ : Option AV → Hp → Prop} (hQ : ∀ r9 h9, Q r9 h9 → QQ (some (ai r9)) h9) {s0 : Int32} {h : Hp} (hw : w_M_strip_B45 Q  s0 h) : aW none m_M_strip (d + 1) 45 [] [ai s0] h 0 0 QQ := by
  unfold w_M_strip_B45 at hw
  refine r_callS (av := [ai s0]) (rest := []) d_M_strip_45 mk_M_truth ll_M_318 st_M_truth rfl rfl (nle rfl) (s_M_truth  hw (fun r12 h11 hw => ?_))
  show aW none m_M_strip (d + 1) 48 [] [ai r12] h11 0 0 QQ
  refine r_goto d_M_strip_48 ?_
  exact r_ireturn d_M_strip_55.1 rfl (hQ _ _ hw)
set_option maxRecDepth 100000 in
set_option maxHeartbeats 4000000 in
theorem s_M_strip {d : Nat} (hd : 5 ≤ d) {v0 : Nat} {v1 : Int32} {v2 : Int32} {v3 : Int32} {h : Hp} {Q : Int32 → Hp → Prop} {QQ : Option AV → Hp → Prop} (hw : w_M_strip v0 v1 v2 v3 h Q) (hQ : ∀ r9 h9, Q r9 h9 → QQ (some (ai r9)) h9) : aCall m_M_strip d [ar v0, ai v1, ai v2, ai v3] h 0 0 QQ := by
  obtain ⟨d, rfl⟩ : ∃ d9, d = d9 + 1 := ⟨d - 1, by omega⟩
  refine aCall_in pl_M_strip (nle rfl) ?_
  show aW none m_M_strip (d + 1) 0 [(0, ar v0), (1, ai v1), (2, ai v2), (3, ai v3)] [] h 0 0 QQ
  unfold w_M_strip at hw
  refine r_iload_n (j := 1) d_M_strip_0 rfl ?_
  refine r_iload_n (j := 2) d_M_strip_1 rfl ?_
  refine r_callS (av := [ai v1, ai v2]) (rest := []) d_M_strip_2 mk_M_isStrip ll_M_406 st_M_isStrip rfl rfl (nle rfl) (s_M_isStrip (by omega) hw (fun r2 h1 hw => ?_))
  show aW none m_M_strip (d + 1) 5 [(0, ar v0), (1, ai v1), (2, ai v2), (3, ai v3)] [ai (b2i r2)] h1 0 0 QQ
  refine r_if_eq d_M_strip_5 (fun w9 => ?_) (fun w9 => ?_)
  · replace hw := hw.1 (b2i_0.mp w9)
    refine r_iconst d_M_strip_17 kc_m1 ?_
    exact r_ireturn d_M_strip_18.1 rfl (hQ _ _ hw)
  · replace hw := hw.2 (fun g9 => w9 (b2i_0.mpr g9))
    refine r_iload_n (j := 3) d_M_strip_8 rfl ?_
    refine r_iconst d_M_strip_9 kc_0 ?_
    refine r_iconst d_M_strip_10 kc_1 ?_
    refine r_callS (av := [ai v3, ai (0 : Int32), ai (1 : Int32)]) (rest := []) d_M_strip_11 mk_M_isIn ll_M_148 st_M_isIn rfl rfl (nle rfl) (s_M_isIn  hw (fun r4 h3 hw => ?_))
    show aW none m_M_strip (d + 1) 14 [(0, ar v0), (1, ai v1), (2, ai v2), (3, ai v3)] [ai (b2i r4)] h3 0 0 QQ
    refine r_if_ne d_M_strip_14 (fun w9 => ?_) (fun w9 => ?_)
    · replace hw := hw.2 (fun g9 => w9 (b2i_0.mpr g9))
      refine r_aload_n (j := 0) d_M_strip_19 rfl ?_
      refine r_iload_n (j := 1) d_M_strip_20 rfl ?_
      refine r_iload_n (j := 2) d_M_strip_21 rfl ?_
      obtain ⟨q6, hw⟩ := hw
      refine r_callV (av := [ai v1, ai v2]) (rest := []) (ci := 12) d_M_strip_22 mk_M_laysStrip ll_M_410 im_M_laysStrip se_M_laysStrip rfl (nle rfl) rfl rfl (nle rfl) q6 (s_M_laysStrip (by omega) hw (fun h5 hw => ?_))
      show aW none m_M_strip (d + 1) 25 [(0, ar v0), (1, ai v1), (2, ai v2), (3, ai v3)] [] h5 0 0 QQ
      refine r_iload_n (j := 3) d_M_strip_25 rfl ?_
      refine r_if_ne d_M_strip_26 (fun w9 => ?_) (fun w9 => ?_)
      · replace hw := hw.2 w9
        refine r_aload_n (j := 0) d_M_strip_51 rfl ?_
        obtain ⟨q7, hw⟩ := hw
        refine r_getI d_M_strip_52 ok_12 (nle rfl) (nle rfl) rfl lf_M_377 q7 ?_
        exact r_ireturn d_M_strip_55.1 rfl (hQ _ _ hw)
      · replace hw := hw.1 w9
        refine r_aload_n (j := 0) d_M_strip_29 rfl ?_
        obtain ⟨q8, hw⟩ := hw
        refine r_getR d_M_strip_30 ok_12 (nle rfl) (nle rfl) rfl lf_M_65 q8 ?_
        refine r_iconst d_M_strip_33 kc_0 ?_
        obtain ⟨q9, hw⟩ := hw
        obtain ⟨q10, hw⟩ := hw
        refine r_lald d_M_strip_34 q9 q10 ?_
        refine r_lconst d_M_strip_35 kl_0 ?_
        refine r_lcmp d_M_strip_36 ?_
        refine r_if_le d_M_strip_37 (fun w9 => ?_) (fun w9 => ?_)
        · replace hw := hw.1 ((lg_cmp_le _ _).mp w9)
          refine r_iconst d_M_strip_44 kc_0 ?_
          refine r_pick (ls2 := []) [] rfl ?_
          exact s_M_strip_B45 hd hQ  hw
        · replace hw := hw.2 (fun g9 => w9 ((lg_cmp_le _ _).mpr g9))
          refine r_iconst d_M_strip_40 kc_1 ?_
          refine r_goto d_M_strip_41 ?_
          refine r_pick (ls2 := []) [] rfl ?_
          exact s_M_strip_B45 hd hQ  hw
    · replace hw := hw.1 (b2i_0.mp w9)
      refine r_iconst d_M_strip_17 kc_m1 ?_
      exact r_ireturn d_M_strip_18.1 rfl (hQ _ _ hw)
set_option maxRecDepth 100000 in
set_option maxHeartbeats 4000000 in
theorem s_M_walks {d : Nat} (hd : 5 ≤ d) {v0 : Nat} {v1 : Int32} {v2 : Int32} {h : Hp} {Q : Int64 → Hp → Prop} {QQ : Option AV → Hp → Prop} (hw : w_M_walks v0 v1 v2 h Q) (hQ : ∀ r9 h9, Q r9 h9 → QQ (some (al r9)) h9) : aCall m_M_walks d [ar v0, ai v1, ai v2] h 0 0 QQ := by
  obtain ⟨d, rfl⟩ : ∃ d9, d = d9 + 1 := ⟨d - 1, by omega⟩
  refine aCall_in pl_M_walks (nle rfl) ?_
  show aW none m_M_walks (d + 1) 0 [(0, ar v0), (1, ai v1), (2, ai v2)] [] h 0 0 QQ
  unfold w_M_walks at hw
  refine r_iload_n (j := 1) d_M_walks_0 rfl ?_
  refine r_iload_n (j := 2) d_M_walks_1 rfl ?_
  refine r_callS (av := [ai v1, ai v2]) (rest := []) d_M_walks_2 mk_M_isStrip ll_M_406 st_M_isStrip rfl rfl (nle rfl) (s_M_isStrip (by omega) hw (fun r2 h1 hw => ?_))
  show aW none m_M_walks (d + 1) 5 [(0, ar v0), (1, ai v1), (2, ai v2)] [ai (b2i r2)] h1 0 0 QQ
  refine r_if_ne d_M_walks_5 (fun w9 => ?_) (fun w9 => ?_)
  · replace hw := hw.2 (fun g9 => w9 (b2i_0.mpr g9))
    refine r_aload_n (j := 0) d_M_walks_12 rfl ?_
    refine r_iload_n (j := 1) d_M_walks_13 rfl ?_
    refine r_iload_n (j := 2) d_M_walks_14 rfl ?_
    obtain ⟨q4, hw⟩ := hw
    refine r_callV (av := [ai v1, ai v2]) (rest := []) (ci := 12) d_M_walks_15 mk_M_laysStrip ll_M_410 im_M_laysStrip se_M_laysStrip rfl (nle rfl) rfl rfl (nle rfl) q4 (s_M_laysStrip (by omega) hw (fun h3 hw => ?_))
    show aW none m_M_walks (d + 1) 18 [(0, ar v0), (1, ai v1), (2, ai v2)] [] h3 0 0 QQ
    refine r_aload_n (j := 0) d_M_walks_18 rfl ?_
    obtain ⟨q5, hw⟩ := hw
    refine r_getR d_M_walks_19 ok_12 (nle rfl) (nle rfl) rfl lf_M_65 q5 ?_
    refine r_iconst d_M_walks_22 kc_0 ?_
    obtain ⟨q6, hw⟩ := hw
    obtain ⟨q7, hw⟩ := hw
    refine r_lald d_M_walks_23 q6 q7 ?_
    exact r_lreturn d_M_walks_24.1 rfl (hQ _ _ hw)
  · replace hw := hw.1 (b2i_0.mp w9)
    refine r_ldc2 d_M_walks_8 lc_M_413 ?_
    exact r_lreturn d_M_walks_11.1 rfl (hQ _ _ hw)
set_option maxRecDepth 100000 in
set_option maxHeartbeats 4000000 in
theorem s_M_best {d : Nat} (hd : 5 ≤ d) {v0 : Nat} {v1 : Int32} {v2 : Int32} {h : Hp} {Q : Int32 → Hp → Prop} {QQ : Option AV → Hp → Prop} (hw : w_M_best v0 v1 v2 h Q) (hQ : ∀ r9 h9, Q r9 h9 → QQ (some (ai r9)) h9) : aCall m_M_best d [ar v0, ai v1, ai v2] h 0 0 QQ := by
  obtain ⟨d, rfl⟩ : ∃ d9, d = d9 + 1 := ⟨d - 1, by omega⟩
  refine aCall_in pl_M_best (nle rfl) ?_
  show aW none m_M_best (d + 1) 0 [(0, ar v0), (1, ai v1), (2, ai v2)] [] h 0 0 QQ
  unfold w_M_best at hw
  refine r_iload_n (j := 1) d_M_best_0 rfl ?_
  refine r_iload_n (j := 2) d_M_best_1 rfl ?_
  refine r_callS (av := [ai v1, ai v2]) (rest := []) d_M_best_2 mk_M_isStrip ll_M_406 st_M_isStrip rfl rfl (nle rfl) (s_M_isStrip (by omega) hw (fun r2 h1 hw => ?_))
  show aW none m_M_best (d + 1) 5 [(0, ar v0), (1, ai v1), (2, ai v2)] [ai (b2i r2)] h1 0 0 QQ
  refine r_if_ne d_M_best_5 (fun w9 => ?_) (fun w9 => ?_)
  · replace hw := hw.2 (fun g9 => w9 (b2i_0.mpr g9))
    refine r_aload_n (j := 0) d_M_best_12 rfl ?_
    refine r_iload_n (j := 1) d_M_best_13 rfl ?_
    refine r_iload_n (j := 2) d_M_best_14 rfl ?_
    obtain ⟨q4, hw⟩ := hw
    refine r_callV (av := [ai v1, ai v2]) (rest := []) (ci := 12) d_M_best_15 mk_M_laysStrip ll_M_410 im_M_laysStrip se_M_laysStrip rfl (nle rfl) rfl rfl (nle rfl) q4 (s_M_laysStrip (by omega) hw (fun h3 hw => ?_))
    show aW none m_M_best (d + 1) 18 [(0, ar v0), (1, ai v1), (2, ai v2)] [] h3 0 0 QQ
    refine r_aload_n (j := 0) d_M_best_18 rfl ?_
    obtain ⟨q5, hw⟩ := hw
    refine r_getR d_M_best_19 ok_12 (nle rfl) (nle rfl) rfl lf_M_65 q5 ?_
    refine r_iconst d_M_best_22 kc_0 ?_
    obtain ⟨q6, hw⟩ := hw
    obtain ⟨q7, hw⟩ := hw
    refine r_lald d_M_best_23 q6 q7 ?_
    refine r_lconst d_M_best_24 kl_0 ?_
    refine r_lcmp d_M_best_25 ?_
    refine r_if_le d_M_best_26 (fun w9 => ?_) (fun w9 => ?_)
    · replace hw := hw.1 ((lg_cmp_le _ _).mp w9)
      refine r_ldcw d_M_best_38 lc_M_277 ?_
      exact r_ireturn d_M_best_41.1 rfl (hQ _ _ hw)
    · replace hw := hw.2 (fun g9 => w9 ((lg_cmp_le _ _).mpr g9))
      refine r_aload_n (j := 0) d_M_best_29 rfl ?_
      refine r_getR d_M_best_30 ok_12 (nle rfl) (nle rfl) rfl lf_M_55 q5 ?_
      refine r_iconst d_M_best_33 kc_0 ?_
      obtain ⟨q8, hw⟩ := hw
      obtain ⟨q9, hw⟩ := hw
      refine r_iald d_M_best_34 q8 q9 ?_
      refine r_goto d_M_best_35 ?_
      exact r_ireturn d_M_best_41.1 rfl (hQ _ _ hw)
  · replace hw := hw.1 (b2i_0.mp w9)
    refine r_ldcw d_M_best_8 lc_M_277 ?_
    exact r_ireturn d_M_best_11.1 rfl (hQ _ _ hw)
set_option maxRecDepth 100000 in
set_option maxHeartbeats 4000000 in
theorem s_M_isBestStep {d : Nat} (hd : 3 ≤ d) {v0 : Nat} {v1 : Int32} {v2 : Int32} {v3 : Int32} {h : Hp} {Q : Bool → Hp → Prop} {QQ : Option AV → Hp → Prop} (hw : w_M_isBestStep v0 v1 v2 v3 h Q) (hQ : ∀ r9 h9, Q r9 h9 → QQ (some (ai (b2i r9))) h9) : aCall m_M_isBestStep d [ar v0, ai v1, ai v2, ai v3] h 0 0 QQ := by
  obtain ⟨d, rfl⟩ : ∃ d9, d = d9 + 1 := ⟨d - 1, by omega⟩
  refine aCall_in pl_M_isBestStep (nle rfl) ?_
  show aW none m_M_isBestStep (d + 1) 0 [(0, ar v0), (1, ai v1), (2, ai v2), (3, ai v3)] [] h 0 0 QQ
  unfold w_M_isBestStep at hw
  refine r_aload_n (j := 0) d_M_isBestStep_0 rfl ?_
  refine r_iload_n (j := 1) d_M_isBestStep_1 rfl ?_
  refine r_iload_n (j := 2) d_M_isBestStep_2 rfl ?_
  refine r_iload_n (j := 3) d_M_isBestStep_3 rfl ?_
  obtain ⟨q3, hw⟩ := hw
  refine r_callV (av := [ai v1, ai v2, ai v3]) (rest := []) (ci := 12) d_M_isBestStep_4 mk_M_behind ll_M_390 im_M_behind se_M_behind rfl (nle rfl) rfl rfl (nle rfl) q3 (s_M_behind (by omega) hw (fun r2 h1 hw => ?_))
  show aW none m_M_isBestStep (d + 1) 7 [(0, ar v0), (1, ai v1), (2, ai v2), (3, ai v3)] [ai r2] h1 0 0 QQ
  refine r_istore (ls2 := [(4, ai r2), (0, ar v0), (1, ai v1), (2, ai v2), (3, ai v3)]) d_M_isBestStep_7 (nle rfl) rfl ?_
  refine r_iload (j := 0) d_M_isBestStep_9 rfl ?_
  refine r_if_lt d_M_isBestStep_11 (fun w9 => ?_) (fun w9 => ?_)
  · replace hw := hw.1 w9
    refine r_iconst d_M_isBestStep_52 kc_0 ?_
    exact r_zreturn d_M_isBestStep_53.1 rfl (Or.inl rfl) (hQ _ _ hw)
  · replace hw := hw.2 w9
    refine r_aload_n (j := 1) d_M_isBestStep_14 rfl ?_
    obtain ⟨q4, hw⟩ := hw
    refine r_getR d_M_isBestStep_15 ok_12 (nle rfl) (nle rfl) rfl lf_M_65 q4 ?_
    refine r_iload (j := 0) d_M_isBestStep_18 rfl ?_
    obtain ⟨q5, hw⟩ := hw
    obtain ⟨q6, hw⟩ := hw
    refine r_lald d_M_isBestStep_20 q5 q6 ?_
    refine r_lconst d_M_isBestStep_21 kl_0 ?_
    refine r_lcmp d_M_isBestStep_22 ?_
    refine r_if_le d_M_isBestStep_23 (fun w9 => ?_) (fun w9 => ?_)
    · replace hw := hw.1 ((lg_cmp_le _ _).mp w9)
      refine r_iconst d_M_isBestStep_52 kc_0 ?_
      exact r_zreturn d_M_isBestStep_53.1 rfl (Or.inl rfl) (hQ _ _ hw)
    · replace hw := hw.2 (fun g9 => w9 ((lg_cmp_le _ _).mpr g9))
      refine r_aload_n (j := 1) d_M_isBestStep_26 rfl ?_
      refine r_iload_n (j := 4) d_M_isBestStep_27 rfl ?_
      refine r_callV (av := [ai v3]) (rest := []) (ci := 12) d_M_isBestStep_28 mk_M_gainOf ll_M_278 im_M_gainOf se_M_gainOf rfl (nle rfl) rfl rfl (nle rfl) q4 (s_M_gainOf  hw (fun r8 h7 hw => ?_))
      show aW none m_M_isBestStep (d + 1) 31 [(4, ai r2), (0, ar v0), (1, ai v1), (2, ai v2), (3, ai v3)] [ai r8] h7 0 0 QQ
      refine r_aload_n (j := 1) d_M_isBestStep_31 rfl ?_
      obtain ⟨q9, hw⟩ := hw
      refine r_getR d_M_isBestStep_32 ok_12 (nle rfl) (nle rfl) rfl lf_M_55 q9 ?_
      refine r_iload (j := 0) d_M_isBestStep_35 rfl ?_
      obtain ⟨q10, hw⟩ := hw
      obtain ⟨q11, hw⟩ := hw
      refine r_iald d_M_isBestStep_37 q10 q11 ?_
      refine r_iadd d_M_isBestStep_38 ?_
      refine r_aload_n (j := 1) d_M_isBestStep_39 rfl ?_
      refine r_getR d_M_isBestStep_40 ok_12 (nle rfl) (nle rfl) rfl lf_M_55 q9 ?_
      refine r_iload_n (j := 2) d_M_isBestStep_43 rfl ?_
      obtain ⟨q12, hw⟩ := hw
      refine r_iald d_M_isBestStep_44 q10 q12 ?_
      refine r_icmp_ne d_M_isBestStep_45 (fun w9 => ?_) (fun w9 => ?_)
      · replace hw := hw.2 w9
        refine r_iconst d_M_isBestStep_52 kc_0 ?_
        exact r_zreturn d_M_isBestStep_53.1 rfl (Or.inl rfl) (hQ _ _ hw)
      · replace hw := hw.1 w9
        refine r_iconst d_M_isBestStep_48 kc_1 ?_
        refine r_goto d_M_isBestStep_49 ?_
        exact r_zreturn d_M_isBestStep_53.1 rfl (Or.inr rfl) (hQ _ _ hw)
set_option maxRecDepth 100000 in
set_option maxHeartbeats 4000000 in
theorem s_M_step_L58 {d : Nat} (hd : 5 ≤ d + 1) {Q : Int32 → Hp → Prop} {QQ : Option AV → Hp → Prop} (hQ : ∀ r9 h9, Q r9 h9 → QQ (some (ai r9)) h9) {k49 : Int32 → Int32 → Int32 → Hp → Prop} (hk49 : ∀ v4 v5 v6 h9, k49 v4 v5 v6 h9 → aW none m_M_step (d + 1) 49 [(0, ar v0), (3, ai v3), (4, ai v4), (5, ai v5), (6, ai v6)] [] h9 0 0 QQ) {v0 : Nat} {v3 : Int32} {v4 : Int32} {v6 : Int32} : ∀ (n : Nat) (v5 : Int32) (h : Hp), w_M_step_L58 Q k49 v0 v3 v4 v6 n v5 h → aW none m_M_step (d + 1) 58 [(0, ar v0), (3, ai v3), (4, ai v4), (5, ai v5), (6, ai v6)] [] h 0 0 QQ := by
  intro n
  induction n with
  | zero => intro v5 h hw; exact hw.elim
  | succ n ih =>
    intro v5 h hw
    unfold w_M_step_L58 at hw
    refine r_aload_n (j := 0) d_M_step_58 rfl ?_
    refine r_iload (j := 2) d_M_step_59 rfl ?_
    refine r_iload (j := 4) d_M_step_61 rfl ?_
    refine r_iload (j := 3) d_M_step_63 rfl ?_
    obtain ⟨q12, hw⟩ := hw
    refine r_callV (av := [ai v4, ai v6, ai v5]) (rest := []) (ci := 12) d_M_step_65 mk_M_isBestStep ll_M_415 im_M_isBestStep se_M_isBestStep rfl (nle rfl) rfl rfl (nle rfl) q12 (s_M_isBestStep (by omega) hw (fun r11 h10 hw => ?_))
    show aW none m_M_step (d + 1) 68 [(0, ar v0), (3, ai v3), (4, ai v4), (5, ai v5), (6, ai v6)] [ai (b2i r11)] h10 0 0 QQ
    refine r_if_ne d_M_step_68 (fun w9 => ?_) (fun w9 => ?_)
    · replace hw := hw.2 (fun g9 => w9 (b2i_0.mpr g9))
      refine r_aload_n (j := 0) d_M_step_77 rfl ?_
      refine r_iload (j := 2) d_M_step_78 rfl ?_
      refine r_iload (j := 4) d_M_step_80 rfl ?_
      refine r_iload (j := 3) d_M_step_82 rfl ?_
      obtain ⟨q15, hw⟩ := hw
      refine r_callV (av := [ai v4, ai v6, ai v5]) (rest := []) (ci := 12) d_M_step_84 mk_M_behind ll_M_390 im_M_behind se_M_behind rfl (nle rfl) rfl rfl (nle rfl) q15 (s_M_behind (by omega) hw (fun r14 h13 hw => ?_))
      show aW none m_M_step (d + 1) 87 [(0, ar v0), (3, ai v3), (4, ai v4), (5, ai v5), (6, ai v6)] [ai r14] h13 0 0 QQ
      refine r_istore (ls2 := [(4, ai r14), (0, ar v0), (3, ai v3), (5, ai v5), (6, ai v6)]) d_M_step_87 (nle rfl) rfl ?_
      refine r_iinc (j := 4) (ls2 := [(6, ai (v6 + (1 : Int32))), (4, ai r14), (0, ar v0), (3, ai v3), (5, ai v5)]) d_M_step_89 rfl (congrArg (HAdd.hAdd v6) kc_1) (nle rfl) rfl ?_
      refine r_goto d_M_step_92 ?_
      refine r_pick (ls2 := [(0, ar v0), (3, ai v3), (4, ai r14), (5, ai v5), (6, ai (v6 + (1 : Int32)))]) [2, 3, 1, 4, 0] rfl ?_
      exact hk49 _ _ _ _ hw
    · replace hw := hw.1 (b2i_0.mp w9)
      refine r_iinc (j := 3) (ls2 := [(5, ai (v5 + (1 : Int32))), (0, ar v0), (3, ai v3), (4, ai v4), (6, ai v6)]) d_M_step_71 rfl (congrArg (HAdd.hAdd v5) kc_1) (nle rfl) rfl ?_
      refine r_goto d_M_step_74 ?_
      refine r_pick (ls2 := [(0, ar v0), (3, ai v3), (4, ai v4), (5, ai (v5 + (1 : Int32))), (6, ai v6)]) [1, 2, 3, 0, 4] rfl ?_
      exact ih _ _ hw
set_option maxRecDepth 100000 in
set_option maxHeartbeats 4000000 in
theorem s_M_step_L49 {d : Nat} (hd : 5 ≤ d + 1) {Q : Int32 → Hp → Prop} {QQ : Option AV → Hp → Prop} (hQ : ∀ r9 h9, Q r9 h9 → QQ (some (ai r9)) h9) {v0 : Nat} {v3 : Int32} : ∀ (n : Nat) (v4 : Int32) (v5 : Int32) (v6 : Int32) (h : Hp), w_M_step_L49 Q  v0 v3 n v4 v5 v6 h → aW none m_M_step (d + 1) 49 [(0, ar v0), (3, ai v3), (4, ai v4), (5, ai v5), (6, ai v6)] [] h 0 0 QQ := by
  intro n
  induction n with
  | zero => intro v4 v5 v6 h hw; exact hw.elim
  | succ n ih =>
    intro v4 v5 v6 h hw
    unfold w_M_step_L49 at hw
    refine r_iload (j := 4) d_M_step_49 rfl ?_
    refine r_iload_n (j := 1) d_M_step_51 rfl ?_
    refine r_icmp_gt d_M_step_52 (fun w9 => ?_) (fun w9 => ?_)
    · replace hw := hw.1 w9
      refine r_iload (j := 3) d_M_step_95 rfl ?_
      exact r_ireturn d_M_step_97.1 rfl (hQ _ _ hw)
    · replace hw := hw.2 w9
      refine r_iconst d_M_step_55 kc_0 ?_
      refine r_istore (ls2 := [(5, ai (0 : Int32)), (0, ar v0), (3, ai v3), (4, ai v4), (6, ai v6)]) d_M_step_56 (nle rfl) rfl ?_
      obtain ⟨n16, hw⟩ := hw
      refine r_pick (ls2 := [(0, ar v0), (3, ai v3), (4, ai v4), (5, ai (0 : Int32)), (6, ai v6)]) [1, 2, 3, 0, 4] rfl ?_
      exact s_M_step_L58 hd hQ ih n16 _ _ hw
set_option maxRecDepth 100000 in
set_option maxHeartbeats 4000000 in
theorem s_M_step {d : Nat} (hd : 5 ≤ d) {v0 : Nat} {v1 : Int32} {v2 : Int32} {v3 : Int32} {h : Hp} {Q : Int32 → Hp → Prop} {QQ : Option AV → Hp → Prop} (hw : w_M_step v0 v1 v2 v3 h Q) (hQ : ∀ r9 h9, Q r9 h9 → QQ (some (ai r9)) h9) : aCall m_M_step d [ar v0, ai v1, ai v2, ai v3] h 0 0 QQ := by
  obtain ⟨d, rfl⟩ : ∃ d9, d = d9 + 1 := ⟨d - 1, by omega⟩
  refine aCall_in pl_M_step (nle rfl) ?_
  show aW none m_M_step (d + 1) 0 [(0, ar v0), (1, ai v1), (2, ai v2), (3, ai v3)] [] h 0 0 QQ
  unfold w_M_step at hw
  refine r_iload_n (j := 1) d_M_step_0 rfl ?_
  refine r_iload_n (j := 2) d_M_step_1 rfl ?_
  refine r_callS (av := [ai v1, ai v2]) (rest := []) d_M_step_2 mk_M_isStrip ll_M_406 st_M_isStrip rfl rfl (nle rfl) (s_M_isStrip (by omega) hw (fun r2 h1 hw => ?_))
  show aW none m_M_step (d + 1) 5 [(0, ar v0), (1, ai v1), (2, ai v2), (3, ai v3)] [ai (b2i r2)] h1 0 0 QQ
  refine r_if_eq d_M_step_5 (fun w9 => ?_) (fun w9 => ?_)
  · replace hw := hw.1 (b2i_0.mp w9)
    refine r_iconst d_M_step_19 kc_m1 ?_
    exact r_ireturn d_M_step_20.1 rfl (hQ _ _ hw)
  · replace hw := hw.2 (fun g9 => w9 (b2i_0.mpr g9))
    refine r_iload_n (j := 3) d_M_step_8 rfl ?_
    refine r_iconst d_M_step_9 kc_0 ?_
    refine r_iload_n (j := 1) d_M_step_10 rfl ?_
    refine r_iconst d_M_step_11 kc_1 ?_
    refine r_isub d_M_step_12 ?_
    refine r_callS (av := [ai v3, ai (0 : Int32), ai (v1 - (1 : Int32))]) (rest := []) d_M_step_13 mk_M_isIn ll_M_148 st_M_isIn rfl rfl (nle rfl) (s_M_isIn  hw (fun r4 h3 hw => ?_))
    show aW none m_M_step (d + 1) 16 [(0, ar v0), (1, ai v1), (2, ai v2), (3, ai v3)] [ai (b2i r4)] h3 0 0 QQ
    refine r_if_ne d_M_step_16 (fun w9 => ?_) (fun w9 => ?_)
    · replace hw := hw.2 (fun g9 => w9 (b2i_0.mpr g9))
      refine r_aload_n (j := 0) d_M_step_21 rfl ?_
      refine r_iload_n (j := 1) d_M_step_22 rfl ?_
      refine r_iload_n (j := 2) d_M_step_23 rfl ?_
      obtain ⟨q6, hw⟩ := hw
      refine r_callV (av := [ai v1, ai v2]) (rest := []) (ci := 12) d_M_step_24 mk_M_laysStrip ll_M_410 im_M_laysStrip se_M_laysStrip rfl (nle rfl) rfl rfl (nle rfl) q6 (s_M_laysStrip (by omega) hw (fun h5 hw => ?_))
      show aW none m_M_step (d + 1) 27 [(0, ar v0), (1, ai v1), (2, ai v2), (3, ai v3)] [] h5 0 0 QQ
      refine r_aload_n (j := 0) d_M_step_27 rfl ?_
      obtain ⟨q7, hw⟩ := hw
      refine r_getR d_M_step_28 ok_12 (nle rfl) (nle rfl) rfl lf_M_65 q7 ?_
      refine r_iconst d_M_step_31 kc_0 ?_
      obtain ⟨q8, hw⟩ := hw
      obtain ⟨q9, hw⟩ := hw
      refine r_lald d_M_step_32 q8 q9 ?_
      refine r_lconst d_M_step_33 kl_0 ?_
      refine r_lcmp d_M_step_34 ?_
      refine r_if_ne d_M_step_35 (fun w9 => ?_) (fun w9 => ?_)
      · replace hw := hw.2 (fun g9 => w9 ((lg_cmp_eq _ _).mpr g9))
        refine r_iconst d_M_step_40 kc_0 ?_
        refine r_istore (ls2 := [(4, ai (0 : Int32)), (0, ar v0), (1, ai v1), (2, ai v2), (3, ai v3)]) d_M_step_41 (nle rfl) rfl ?_
        refine r_iconst d_M_step_43 kc_0 ?_
        refine r_istore (ls2 := [(5, ai (0 : Int32)), (4, ai (0 : Int32)), (0, ar v0), (1, ai v1), (2, ai v2), (3, ai v3)]) d_M_step_44 (nle rfl) rfl ?_
        refine r_iconst d_M_step_46 kc_0 ?_
        refine r_istore (ls2 := [(6, ai (0 : Int32)), (5, ai (0 : Int32)), (4, ai (0 : Int32)), (0, ar v0), (1, ai v1), (2, ai v2), (3, ai v3)]) d_M_step_47 (nle rfl) rfl ?_
        obtain ⟨n17, hw⟩ := hw
        refine r_pick (ls2 := [(0, ar v0), (3, ai v3), (4, ai (0 : Int32)), (5, ai (0 : Int32)), (6, ai (0 : Int32))]) [3, 6, 2, 1, 0] rfl ?_
        exact s_M_step_L49 hd hQ  n17 _ _ _ _ hw
      · replace hw := hw.1 ((lg_cmp_eq _ _).mp w9)
        refine r_iconst d_M_step_38 kc_m1 ?_
        exact r_ireturn d_M_step_39.1 rfl (hQ _ _ hw)
    · replace hw := hw.1 (b2i_0.mp w9)
      refine r_iconst d_M_step_19 kc_m1 ?_
      exact r_ireturn d_M_step_20.1 rfl (hQ _ _ hw)
set_option maxRecDepth 100000 in
set_option maxHeartbeats 4000000 in
theorem s_M_narrow_L22 {d : Nat} (hd : 5 ≤ d + 1) {Q : Int32 → Hp → Prop} {QQ : Option AV → Hp → Prop} (hQ : ∀ r9 h9, Q r9 h9 → QQ (some (ai r9)) h9) {v0 : Nat} {v1 : Int32} : ∀ (n : Nat) (v2 : Int32) (h : Hp), w_M_narrow_L22 Q  v0 v1 n v2 h → aW none m_M_narrow (d + 1) 22 [(0, ar v0), (1, ai v1), (2, ai v2)] [] h 0 0 QQ := by
  intro n
  induction n with
  | zero => intro v2 h hw; exact hw.elim
  | succ n ih =>
    intro v2 h hw
    unfold w_M_narrow_L22 at hw
    refine r_iload_n (j := 2) d_M_narrow_22 rfl ?_
    refine r_bipush d_M_narrow_23 kb_12 ?_
    refine r_icmp_gt d_M_narrow_25 (fun w9 => ?_) (fun w9 => ?_)
    · replace hw := hw.1 w9
      refine r_iconst d_M_narrow_53 kc_m1 ?_
      exact r_ireturn d_M_narrow_54.1 rfl (hQ _ _ hw)
    · replace hw := hw.2 w9
      refine r_aload_n (j := 0) d_M_narrow_28 rfl ?_
      refine r_iload_n (j := 1) d_M_narrow_29 rfl ?_
      refine r_iload_n (j := 2) d_M_narrow_30 rfl ?_
      obtain ⟨q7, hw⟩ := hw
      refine r_callV (av := [ai v1, ai v2]) (rest := []) (ci := 12) d_M_narrow_31 mk_M_laysStrip ll_M_410 im_M_laysStrip se_M_laysStrip rfl (nle rfl) rfl rfl (nle rfl) q7 (s_M_laysStrip (by omega) hw (fun h6 hw => ?_))
      show aW none m_M_narrow (d + 1) 34 [(0, ar v0), (1, ai v1), (2, ai v2)] [] h6 0 0 QQ
      refine r_aload_n (j := 0) d_M_narrow_34 rfl ?_
      obtain ⟨q8, hw⟩ := hw
      refine r_getR d_M_narrow_35 ok_12 (nle rfl) (nle rfl) rfl lf_M_65 q8 ?_
      refine r_iconst d_M_narrow_38 kc_0 ?_
      obtain ⟨q9, hw⟩ := hw
      obtain ⟨q10, hw⟩ := hw
      refine r_lald d_M_narrow_39 q9 q10 ?_
      refine r_lconst d_M_narrow_40 kl_0 ?_
      refine r_lcmp d_M_narrow_41 ?_
      refine r_if_le d_M_narrow_42 (fun w9 => ?_) (fun w9 => ?_)
      · replace hw := hw.1 ((lg_cmp_le _ _).mp w9)
        refine r_iinc (j := 2) (ls2 := [(2, ai (v2 + (1 : Int32))), (0, ar v0), (1, ai v1)]) d_M_narrow_47 rfl (congrArg (HAdd.hAdd v2) kc_1) (nle rfl) rfl ?_
        refine r_goto d_M_narrow_50 ?_
        refine r_pick (ls2 := [(0, ar v0), (1, ai v1), (2, ai (v2 + (1 : Int32)))]) [1, 2, 0] rfl ?_
        exact ih _ _ hw
      · replace hw := hw.2 (fun g9 => w9 ((lg_cmp_le _ _).mpr g9))
        refine r_iload_n (j := 2) d_M_narrow_45 rfl ?_
        exact r_ireturn d_M_narrow_46.1 rfl (hQ _ _ hw)
set_option maxRecDepth 100000 in
set_option maxHeartbeats 4000000 in
theorem s_M_narrow {d : Nat} (hd : 5 ≤ d) {v0 : Nat} {v1 : Int32} {h : Hp} {Q : Int32 → Hp → Prop} {QQ : Option AV → Hp → Prop} (hw : w_M_narrow v0 v1 h Q) (hQ : ∀ r9 h9, Q r9 h9 → QQ (some (ai r9)) h9) : aCall m_M_narrow d [ar v0, ai v1] h 0 0 QQ := by
  obtain ⟨d, rfl⟩ : ∃ d9, d = d9 + 1 := ⟨d - 1, by omega⟩
  refine aCall_in pl_M_narrow (nle rfl) ?_
  show aW none m_M_narrow (d + 1) 0 [(0, ar v0), (1, ai v1)] [] h 0 0 QQ
  unfold w_M_narrow at hw
  refine r_iload_n (j := 1) d_M_narrow_0 rfl ?_
  refine r_iconst d_M_narrow_1 kc_0 ?_
  refine r_bipush d_M_narrow_2 kb_12 ?_
  refine r_callS (av := [ai v1, ai (0 : Int32), ai (12 : Int32)]) (rest := []) d_M_narrow_4 mk_M_isIn ll_M_148 st_M_isIn rfl rfl (nle rfl) (s_M_isIn  hw (fun r2 h1 hw => ?_))
  show aW none m_M_narrow (d + 1) 7 [(0, ar v0), (1, ai v1)] [ai (b2i r2)] h1 0 0 QQ
  refine r_if_eq d_M_narrow_7 (fun w9 => ?_) (fun w9 => ?_)
  · replace hw := hw.1 (b2i_0.mp w9)
    refine r_iconst d_M_narrow_18 kc_m1 ?_
    exact r_ireturn d_M_narrow_19.1 rfl (hQ _ _ hw)
  · replace hw := hw.2 (fun g9 => w9 (b2i_0.mpr g9))
    refine r_aload_n (j := 0) d_M_narrow_10 rfl ?_
    refine r_iload_n (j := 1) d_M_narrow_11 rfl ?_
    obtain ⟨q5, hw⟩ := hw
    refine r_callV (av := [ai v1]) (rest := []) (ci := 12) d_M_narrow_12 mk_M_plansOf ll_M_325 im_M_plansOf se_M_plansOf rfl (nle rfl) rfl rfl (nle rfl) q5 (s_M_plansOf (by omega) hw (fun r4 h3 hw => ?_))
    show aW none m_M_narrow (d + 1) 15 [(0, ar v0), (1, ai v1)] [ai r4] h3 0 0 QQ
    refine r_if_ne d_M_narrow_15 (fun w9 => ?_) (fun w9 => ?_)
    · replace hw := hw.2 w9
      refine r_iconst d_M_narrow_20 kc_0 ?_
      refine r_istore_n (ls2 := [(2, ai (0 : Int32)), (0, ar v0), (1, ai v1)]) d_M_narrow_21 (nle rfl) rfl ?_
      obtain ⟨n11, hw⟩ := hw
      refine r_pick (ls2 := [(0, ar v0), (1, ai v1), (2, ai (0 : Int32))]) [1, 2, 0] rfl ?_
      exact s_M_narrow_L22 hd hQ  n11 _ _ hw
    · replace hw := hw.1 w9
      refine r_iconst d_M_narrow_18 kc_m1 ?_
      exact r_ireturn d_M_narrow_19.1 rfl (hQ _ _ hw)
set_option maxRecDepth 100000 in
set_option maxHeartbeats 4000000 in
theorem s_M_isNear_L5 {d : Nat} (hd : 1 ≤ d + 1) {Q : Bool → Hp → Prop} {QQ : Option AV → Hp → Prop} (hQ : ∀ r9 h9, Q r9 h9 → QQ (some (ai (b2i r9))) h9) {v0 : Nat} {v1 : Int32} {v2 : Int32} : ∀ (n : Nat) (v3 : Int32) (v4 : Int32) (h : Hp), w_M_isNear_L5 Q  v0 v1 v2 n v3 v4 h → aW none m_M_isNear (d + 1) 5 [(0, ar v0), (1, ai v1), (2, ai v2), (3, ai v3), (4, ai v4)] [] h 0 0 QQ := by
  intro n
  induction n with
  | zero => intro v3 v4 h hw; exact hw.elim
  | succ n ih =>
    intro v3 v4 h hw
    unfold w_M_isNear_L5 at hw
    refine r_iload (j := 4) d_M_isNear_5 rfl ?_
    refine r_aload_n (j := 0) d_M_isNear_7 rfl ?_
    obtain ⟨q1, hw⟩ := hw
    refine r_getI d_M_isNear_8 ok_12 (nle rfl) (nle rfl) rfl lf_M_244 q1 ?_
    refine r_icmp_ge d_M_isNear_11 (fun w9 => ?_) (fun w9 => ?_)
    · replace hw := hw.1 w9
      refine r_iload_n (j := 3) d_M_isNear_55 rfl ?_
      obtain ⟨q2, hw⟩ := hw
      exact r_zreturn d_M_isNear_56.1 rfl q2 (by have g9 := hQ _ _ hw; rwa [b2i_i q2] at g9)
    · replace hw := hw.2 w9
      refine r_iload_n (j := 3) d_M_isNear_14 rfl ?_
      refine r_if_eq d_M_isNear_15 (fun w9 => ?_) (fun w9 => ?_)
      · replace hw := hw.1 w9
        refine r_iconst d_M_isNear_47 kc_0 ?_
        refine r_istore_n (ls2 := [(3, ai (0 : Int32)), (0, ar v0), (1, ai v1), (2, ai v2), (4, ai v4)]) d_M_isNear_48 (nle rfl) rfl ?_
        refine r_iinc (j := 4) (ls2 := [(4, ai (v4 + (1 : Int32))), (3, ai (0 : Int32)), (0, ar v0), (1, ai v1), (2, ai v2)]) d_M_isNear_49 rfl (congrArg (HAdd.hAdd v4) kc_1) (nle rfl) rfl ?_
        refine r_goto d_M_isNear_52 ?_
        refine r_pick (ls2 := [(0, ar v0), (1, ai v1), (2, ai v2), (3, ai (0 : Int32)), (4, ai (v4 + (1 : Int32)))]) [2, 3, 4, 1, 0] rfl ?_
        exact ih _ _ _ hw
      · replace hw := hw.2 w9
        refine r_iload_n (j := 1) d_M_isNear_18 rfl ?_
        refine r_aload_n (j := 0) d_M_isNear_19 rfl ?_
        refine r_getR d_M_isNear_20 ok_12 (nle rfl) (nle rfl) rfl lf_M_48 q1 ?_
        refine r_iload (j := 4) d_M_isNear_23 rfl ?_
        obtain ⟨q3, hw⟩ := hw
        obtain ⟨q4, hw⟩ := hw
        refine r_iald d_M_isNear_25 q3 q4 ?_
        refine r_imul d_M_isNear_26 ?_
        refine r_aload_n (j := 0) d_M_isNear_27 rfl ?_
        refine r_iload (j := 4) d_M_isNear_28 rfl ?_
        refine r_callV (av := [ai v4]) (rest := [ai (v1 * (gI h (gR h v0 32) (ix v4)))]) (ci := 12) d_M_isNear_30 mk_M_needOf ll_M_281 im_M_needOf se_M_needOf rfl (nle rfl) rfl rfl (nle rfl) q1 (s_M_needOf  hw (fun r6 h5 hw => ?_))
        show aW none m_M_isNear (d + 1) 33 [(0, ar v0), (1, ai v1), (2, ai v2), (3, ai v3), (4, ai v4)] [ai r6, ai (v1 * (gI h (gR h v0 32) (ix v4)))] h5 0 0 QQ
        refine r_isub d_M_isNear_33 ?_
        refine r_callS (av := [ai ((v1 * (gI h (gR h v0 32) (ix v4))) - r6)]) (rest := []) d_M_isNear_34 mk_M_plus ll_M_296 st_M_plus rfl rfl (nle rfl) (s_M_plus  hw (fun r8 h7 hw => ?_))
        show aW none m_M_isNear (d + 1) 37 [(0, ar v0), (1, ai v1), (2, ai v2), (3, ai v3), (4, ai v4)] [ai r8] h7 0 0 QQ
        refine r_iload_n (j := 2) d_M_isNear_37 rfl ?_
        refine r_iload_n (j := 1) d_M_isNear_38 rfl ?_
        refine r_imul d_M_isNear_39 ?_
        refine r_icmp_gt d_M_isNear_40 (fun w9 => ?_) (fun w9 => ?_)
        · replace hw := hw.1 w9
          refine r_iconst d_M_isNear_47 kc_0 ?_
          refine r_istore_n (ls2 := [(3, ai (0 : Int32)), (0, ar v0), (1, ai v1), (2, ai v2), (4, ai v4)]) d_M_isNear_48 (nle rfl) rfl ?_
          refine r_iinc (j := 4) (ls2 := [(4, ai (v4 + (1 : Int32))), (3, ai (0 : Int32)), (0, ar v0), (1, ai v1), (2, ai v2)]) d_M_isNear_49 rfl (congrArg (HAdd.hAdd v4) kc_1) (nle rfl) rfl ?_
          refine r_goto d_M_isNear_52 ?_
          refine r_pick (ls2 := [(0, ar v0), (1, ai v1), (2, ai v2), (3, ai (0 : Int32)), (4, ai (v4 + (1 : Int32)))]) [2, 3, 4, 1, 0] rfl ?_
          exact ih _ _ _ hw
        · replace hw := hw.2 w9
          refine r_iconst d_M_isNear_43 kc_1 ?_
          refine r_goto d_M_isNear_44 ?_
          refine r_istore_n (ls2 := [(3, ai (1 : Int32)), (0, ar v0), (1, ai v1), (2, ai v2), (4, ai v4)]) d_M_isNear_48 (nle rfl) rfl ?_
          refine r_iinc (j := 4) (ls2 := [(4, ai (v4 + (1 : Int32))), (3, ai (1 : Int32)), (0, ar v0), (1, ai v1), (2, ai v2)]) d_M_isNear_49 rfl (congrArg (HAdd.hAdd v4) kc_1) (nle rfl) rfl ?_
          refine r_goto d_M_isNear_52 ?_
          refine r_pick (ls2 := [(0, ar v0), (1, ai v1), (2, ai v2), (3, ai (1 : Int32)), (4, ai (v4 + (1 : Int32)))]) [2, 3, 4, 1, 0] rfl ?_
          exact ih _ _ _ hw
set_option maxRecDepth 100000 in
set_option maxHeartbeats 4000000 in
theorem s_M_isNear {d : Nat} (hd : 1 ≤ d) {v0 : Nat} {v1 : Int32} {v2 : Int32} {h : Hp} {Q : Bool → Hp → Prop} {QQ : Option AV → Hp → Prop} (hw : w_M_isNear v0 v1 v2 h Q) (hQ : ∀ r9 h9, Q r9 h9 → QQ (some (ai (b2i r9))) h9) : aCall m_M_isNear d [ar v0, ai v1, ai v2] h 0 0 QQ := by
  obtain ⟨d, rfl⟩ : ∃ d9, d = d9 + 1 := ⟨d - 1, by omega⟩
  refine aCall_in pl_M_isNear (nle rfl) ?_
  show aW none m_M_isNear (d + 1) 0 [(0, ar v0), (1, ai v1), (2, ai v2)] [] h 0 0 QQ
  unfold w_M_isNear at hw
  refine r_iconst d_M_isNear_0 kc_1 ?_
  refine r_istore_n (ls2 := [(3, ai (1 : Int32)), (0, ar v0), (1, ai v1), (2, ai v2)]) d_M_isNear_1 (nle rfl) rfl ?_
  refine r_iconst d_M_isNear_2 kc_0 ?_
  refine r_istore (ls2 := [(4, ai (0 : Int32)), (3, ai (1 : Int32)), (0, ar v0), (1, ai v1), (2, ai v2)]) d_M_isNear_3 (nle rfl) rfl ?_
  obtain ⟨n9, hw⟩ := hw
  refine r_pick (ls2 := [(0, ar v0), (1, ai v1), (2, ai v2), (3, ai (1 : Int32)), (4, ai (0 : Int32))]) [2, 3, 4, 1, 0] rfl ?_
  exact s_M_isNear_L5 hd hQ  n9 _ _ _ hw
set_option maxRecDepth 100000 in
set_option maxHeartbeats 4000000 in
theorem s_M_comesTo_L88 {d : Nat} (hd : 2 ≤ d + 1) {Q : Hp → Prop} {QQ : Option AV → Hp → Prop} (hQ : ∀ h9, Q h9 → QQ none h9) {v0 : Nat} {v2 : Int32} : ∀ (n : Nat) (v5 : Int32) (h : Hp), w_M_comesTo_L88 Q  v0 v2 n v5 h → aW none m_M_comesTo (d + 1) 88 [(0, ar v0), (2, ai v2), (5, ai v5)] [] h 0 0 QQ := by
  intro n
  induction n with
  | zero => intro v5 h hw; exact hw.elim
  | succ n ih =>
    intro v5 h hw
    unfold w_M_comesTo_L88 at hw
    refine r_iload (j := 2) d_M_comesTo_88 rfl ?_
    refine r_iconst d_M_comesTo_90 kc_3 ?_
    refine r_icmp_ge d_M_comesTo_91 (fun w9 => ?_) (fun w9 => ?_)
    · replace hw := hw.1 w9
      refine r_aload_n (j := 0) d_M_comesTo_118 rfl ?_
      refine r_iload_n (j := 1) d_M_comesTo_119 rfl ?_
      refine r_iconst d_M_comesTo_120 kc_1 ?_
      refine r_iadd d_M_comesTo_121 ?_
      obtain ⟨q4, hw⟩ := hw
      refine r_putI d_M_comesTo_122 ok_12 (nle rfl) (nle rfl) rfl lf_M_421 rfl q4 ?_
      exact r_return d_M_comesTo_125.1 rfl (hQ _ hw)
    · replace hw := hw.2 w9
      refine r_aload_n (j := 0) d_M_comesTo_94 rfl ?_
      obtain ⟨q5, hw⟩ := hw
      refine r_getR d_M_comesTo_95 ok_12 (nle rfl) (nle rfl) rfl lf_M_68 q5 ?_
      refine r_iconst d_M_comesTo_98 kc_3 ?_
      refine r_iload_n (j := 1) d_M_comesTo_99 rfl ?_
      refine r_imul d_M_comesTo_100 ?_
      refine r_iload (j := 2) d_M_comesTo_101 rfl ?_
      refine r_iadd d_M_comesTo_103 ?_
      refine r_aload_n (j := 0) d_M_comesTo_104 rfl ?_
      refine r_getR d_M_comesTo_105 ok_12 (nle rfl) (nle rfl) rfl lf_M_48 q5 ?_
      refine r_iload (j := 2) d_M_comesTo_108 rfl ?_
      obtain ⟨q6, hw⟩ := hw
      obtain ⟨q7, hw⟩ := hw
      refine r_iald d_M_comesTo_110 q6 q7 ?_
      obtain ⟨q8, hw⟩ := hw
      obtain ⟨q9, hw⟩ := hw
      refine r_iast d_M_comesTo_111 q8 q9 ?_
      refine r_iinc (j := 2) (ls2 := [(5, ai (v5 + (1 : Int32))), (0, ar v0), (2, ai v2)]) d_M_comesTo_112 rfl (congrArg (HAdd.hAdd v5) kc_1) (nle rfl) rfl ?_
      refine r_goto d_M_comesTo_115 ?_
      refine r_pick (ls2 := [(0, ar v0), (2, ai v2), (5, ai (v5 + (1 : Int32)))]) [1, 2, 0] rfl ?_
      exact ih _ _ hw
set_option maxRecDepth 100000 in
set_option maxHeartbeats 4000000 in
theorem s_M_comesTo_L14 {d : Nat} (hd : 2 ≤ d + 1) {Q : Hp → Prop} {QQ : Option AV → Hp → Prop} (hQ : ∀ h9, Q h9 → QQ none h9) {v0 : Nat} {v2 : Int32} : ∀ (n : Nat) (v5 : Int32) (h : Hp), w_M_comesTo_L14 Q  v0 v2 n v5 h → aW none m_M_comesTo (d + 1) 14 [(0, ar v0), (2, ai v2), (5, ai v5)] [] h 0 0 QQ := by
  intro n
  induction n with
  | zero => intro v5 h hw; exact hw.elim
  | succ n ih =>
    intro v5 h hw
    unfold w_M_comesTo_L14 at hw
    refine r_iload (j := 2) d_M_comesTo_14 rfl ?_
    refine r_iload_n (j := 1) d_M_comesTo_16 rfl ?_
    refine r_icmp_ge d_M_comesTo_17 (fun w9 => ?_) (fun w9 => ?_)
    · replace hw := hw.1 w9
      refine r_iconst d_M_comesTo_85 kc_0 ?_
      refine r_istore (ls2 := [(5, ai (0 : Int32)), (0, ar v0), (2, ai v2)]) d_M_comesTo_86 (nle rfl) rfl ?_
      obtain ⟨n10, hw⟩ := hw
      refine r_pick (ls2 := [(0, ar v0), (2, ai v2), (5, ai (0 : Int32))]) [1, 2, 0] rfl ?_
      exact s_M_comesTo_L88 hd hQ  n10 _ _ hw
    · replace hw := hw.2 w9
      refine r_aload_n (j := 0) d_M_comesTo_20 rfl ?_
      obtain ⟨q11, hw⟩ := hw
      refine r_getR d_M_comesTo_21 ok_12 (nle rfl) (nle rfl) rfl lf_M_68 q11 ?_
      refine r_iconst d_M_comesTo_24 kc_3 ?_
      refine r_iload (j := 2) d_M_comesTo_25 rfl ?_
      refine r_imul d_M_comesTo_27 ?_
      obtain ⟨q12, hw⟩ := hw
      obtain ⟨q13, hw⟩ := hw
      refine r_iald d_M_comesTo_28 q12 q13 ?_
      refine r_aload_n (j := 0) d_M_comesTo_29 rfl ?_
      refine r_getR d_M_comesTo_30 ok_12 (nle rfl) (nle rfl) rfl lf_M_48 q11 ?_
      refine r_iconst d_M_comesTo_33 kc_0 ?_
      obtain ⟨q14, hw⟩ := hw
      obtain ⟨q15, hw⟩ := hw
      refine r_iald d_M_comesTo_34 q14 q15 ?_
      refine r_icmp_ne d_M_comesTo_35 (fun w9 => ?_) (fun w9 => ?_)
      · replace hw := hw.2 w9
        refine r_iinc (j := 2) (ls2 := [(5, ai (v5 + (1 : Int32))), (0, ar v0), (2, ai v2)]) d_M_comesTo_79 rfl (congrArg (HAdd.hAdd v5) kc_1) (nle rfl) rfl ?_
        refine r_goto d_M_comesTo_82 ?_
        refine r_pick (ls2 := [(0, ar v0), (2, ai v2), (5, ai (v5 + (1 : Int32)))]) [1, 2, 0] rfl ?_
        exact ih _ _ hw
      · replace hw := hw.1 w9
        refine r_aload_n (j := 0) d_M_comesTo_38 rfl ?_
        refine r_getR d_M_comesTo_39 ok_12 (nle rfl) (nle rfl) rfl lf_M_68 q11 ?_
        refine r_iconst d_M_comesTo_42 kc_3 ?_
        refine r_iload (j := 2) d_M_comesTo_43 rfl ?_
        refine r_imul d_M_comesTo_45 ?_
        refine r_iconst d_M_comesTo_46 kc_1 ?_
        refine r_iadd d_M_comesTo_47 ?_
        obtain ⟨q16, hw⟩ := hw
        refine r_iald d_M_comesTo_48 q12 q16 ?_
        refine r_aload_n (j := 0) d_M_comesTo_49 rfl ?_
        refine r_getR d_M_comesTo_50 ok_12 (nle rfl) (nle rfl) rfl lf_M_48 q11 ?_
        refine r_iconst d_M_comesTo_53 kc_1 ?_
        obtain ⟨q17, hw⟩ := hw
        refine r_iald d_M_comesTo_54 q14 q17 ?_
        refine r_icmp_ne d_M_comesTo_55 (fun w9 => ?_) (fun w9 => ?_)
        · replace hw := hw.2 w9
          refine r_iinc (j := 2) (ls2 := [(5, ai (v5 + (1 : Int32))), (0, ar v0), (2, ai v2)]) d_M_comesTo_79 rfl (congrArg (HAdd.hAdd v5) kc_1) (nle rfl) rfl ?_
          refine r_goto d_M_comesTo_82 ?_
          refine r_pick (ls2 := [(0, ar v0), (2, ai v2), (5, ai (v5 + (1 : Int32)))]) [1, 2, 0] rfl ?_
          exact ih _ _ hw
        · replace hw := hw.1 w9
          refine r_aload_n (j := 0) d_M_comesTo_58 rfl ?_
          refine r_getR d_M_comesTo_59 ok_12 (nle rfl) (nle rfl) rfl lf_M_68 q11 ?_
          refine r_iconst d_M_comesTo_62 kc_3 ?_
          refine r_iload (j := 2) d_M_comesTo_63 rfl ?_
          refine r_imul d_M_comesTo_65 ?_
          refine r_iconst d_M_comesTo_66 kc_2 ?_
          refine r_iadd d_M_comesTo_67 ?_
          obtain ⟨q18, hw⟩ := hw
          refine r_iald d_M_comesTo_68 q12 q18 ?_
          refine r_aload_n (j := 0) d_M_comesTo_69 rfl ?_
          refine r_getR d_M_comesTo_70 ok_12 (nle rfl) (nle rfl) rfl lf_M_48 q11 ?_
          refine r_iconst d_M_comesTo_73 kc_2 ?_
          obtain ⟨q19, hw⟩ := hw
          refine r_iald d_M_comesTo_74 q14 q19 ?_
          refine r_icmp_ne d_M_comesTo_75 (fun w9 => ?_) (fun w9 => ?_)
          · replace hw := hw.2 w9
            refine r_iinc (j := 2) (ls2 := [(5, ai (v5 + (1 : Int32))), (0, ar v0), (2, ai v2)]) d_M_comesTo_79 rfl (congrArg (HAdd.hAdd v5) kc_1) (nle rfl) rfl ?_
            refine r_goto d_M_comesTo_82 ?_
            refine r_pick (ls2 := [(0, ar v0), (2, ai v2), (5, ai (v5 + (1 : Int32)))]) [1, 2, 0] rfl ?_
            exact ih _ _ hw
          · replace hw := hw.1 w9
            exact r_return d_M_comesTo_78.1 rfl (hQ _ hw)
set_option maxRecDepth 100000 in
set_option maxHeartbeats 4000000 in
theorem s_M_comesTo {d : Nat} (hd : 2 ≤ d) {v0 : Nat} {v1 : Int32} {v2 : Int32} {v3 : Int32} {v4 : Int32} {h : Hp} {Q : Hp → Prop} {QQ : Option AV → Hp → Prop} (hw : w_M_comesTo v0 v1 v2 v3 v4 h Q) (hQ : ∀ h9, Q h9 → QQ none h9) : aCall m_M_comesTo d [ar v0, ai v1, ai v2, ai v3, ai v4] h 0 0 QQ := by
  obtain ⟨d, rfl⟩ : ∃ d9, d = d9 + 1 := ⟨d - 1, by omega⟩
  refine aCall_in pl_M_comesTo (nle rfl) ?_
  show aW none m_M_comesTo (d + 1) 0 [(0, ar v0), (1, ai v1), (2, ai v2), (3, ai v3), (4, ai v4)] [] h 0 0 QQ
  unfold w_M_comesTo at hw
  refine r_aload_n (j := 0) d_M_comesTo_0 rfl ?_
  refine r_iload_n (j := 3) d_M_comesTo_1 rfl ?_
  refine r_iload (j := 4) d_M_comesTo_2 rfl ?_
  obtain ⟨q3, hw⟩ := hw
  refine r_callV (av := [ai v3, ai v4]) (rest := []) (ci := 12) d_M_comesTo_4 mk_M_isNear ll_M_418 im_M_isNear se_M_isNear rfl (nle rfl) rfl rfl (nle rfl) q3 (s_M_isNear (by omega) hw (fun r2 h1 hw => ?_))
  show aW none m_M_comesTo (d + 1) 7 [(0, ar v0), (1, ai v1), (2, ai v2), (3, ai v3), (4, ai v4)] [ai (b2i r2)] h1 0 0 QQ
  refine r_if_ne d_M_comesTo_7 (fun w9 => ?_) (fun w9 => ?_)
  · replace hw := hw.2 (fun g9 => w9 (b2i_0.mpr g9))
    refine r_iload_n (j := 1) d_M_comesTo_11 rfl ?_
    refine r_istore (ls2 := [(5, ai v1), (0, ar v0), (1, ai v1), (2, ai v2), (3, ai v3), (4, ai v4)]) d_M_comesTo_12 (nle rfl) rfl ?_
    obtain ⟨n20, hw⟩ := hw
    refine r_pick (ls2 := [(0, ar v0), (2, ai v2), (5, ai v1)]) [1, 3, 0] rfl ?_
    exact s_M_comesTo_L14 hd hQ  n20 _ _ hw
  · replace hw := hw.1 (b2i_0.mp w9)
    exact r_return d_M_comesTo_10.1 rfl (hQ _ hw)
set_option maxRecDepth 100000 in
set_option maxHeartbeats 4000000 in
theorem s_M_laysDoubled_L120 {d : Nat} (hd : 3 ≤ d + 1) {Q : Hp → Prop} {QQ : Option AV → Hp → Prop} (hQ : ∀ h9, Q h9 → QQ none h9) {k66 : Int32 → Hp → Prop} {k99 : Int32 → Hp → Prop} {k110 : Int32 → Hp → Prop} (hk66 : ∀ v3 h9, k66 v3 h9 → aW none m_M_laysDoubled (d + 1) 66 [(0, ar v0), (1, ai v1), (2, ai v2), (3, ai v3)] [] h9 0 0 QQ) (hk99 : ∀ v6 h9, k99 v6 h9 → aW none m_M_laysDoubled (d + 1) 99 [(0, ar v0), (1, ai v1), (2, ai v2), (3, ai v3), (5, ai v5), (6, ai v6)] [] h9 0 0 QQ) (hk110 : ∀ v7 h9, k110 v7 h9 → aW none m_M_laysDoubled (d + 1) 110 [(0, ar v0), (1, ai v1), (2, ai v2), (3, ai v3), (5, ai v5), (6, ai v6), (7, ai v7)] [] h9 0 0 QQ) {v0 : Nat} {v1 : Int32} {v2 : Int32} {v3 : Int32} {v5 : Int32} {v6 : Int32} {v7 : Int32} : ∀ (n : Nat) (v8 : Int32) (h : Hp), w_M_laysDoubled_L120 Q k66 k99 k110 v0 v1 v2 v3 v5 v6 v7 n v8 h → aW none m_M_laysDoubled (d + 1) 120 [(0, ar v0), (1, ai v1), (2, ai v2), (3, ai v3), (5, ai v5), (6, ai v6), (7, ai v7), (8, ai v8)] [] h 0 0 QQ := by
  intro n
  induction n with
  | zero => intro v8 h hw; exact hw.elim
  | succ n ih =>
    intro v8 h hw
    unfold w_M_laysDoubled_L120 at hw
    refine r_iload (j := 7) d_M_laysDoubled_120 rfl ?_
    refine r_iconst d_M_laysDoubled_122 kc_3 ?_
    refine r_icmp_ge d_M_laysDoubled_123 (fun w9 => ?_) (fun w9 => ?_)
    · replace hw := hw.1 w9
      refine r_aload_n (j := 0) d_M_laysDoubled_164 rfl ?_
      refine r_iload (j := 4) d_M_laysDoubled_165 rfl ?_
      refine r_aload_n (j := 0) d_M_laysDoubled_167 rfl ?_
      obtain ⟨q15, hw⟩ := hw
      refine r_getI d_M_laysDoubled_168 ok_12 (nle rfl) (nle rfl) rfl lf_M_421 q15 ?_
      refine r_iconst d_M_laysDoubled_171 kc_1 ?_
      refine r_iload_n (j := 1) d_M_laysDoubled_172 rfl ?_
      refine r_iload_n (j := 3) d_M_laysDoubled_173 rfl ?_
      refine r_isub d_M_laysDoubled_174 ?_
      refine r_ishl d_M_laysDoubled_175 ?_
      refine r_iload_n (j := 2) d_M_laysDoubled_176 rfl ?_
      refine r_callV (av := [ai v5, ai (gI h v0 44), ai (jshl (1 : Int32) (v1 - v3)), ai v2]) (rest := []) (ci := 12) d_M_laysDoubled_177 mk_M_comesTo ll_M_424 im_M_comesTo se_M_comesTo rfl (nle rfl) rfl rfl (nle rfl) q15 (s_M_comesTo (by omega) hw (fun h16 hw => ?_))
      show aW none m_M_laysDoubled (d + 1) 180 [(0, ar v0), (1, ai v1), (2, ai v2), (3, ai v3), (5, ai v5), (6, ai v6), (7, ai v7), (8, ai v8)] [] h16 0 0 QQ
      refine r_iinc (j := 6) (ls2 := [(7, ai (v7 + (1 : Int32))), (0, ar v0), (1, ai v1), (2, ai v2), (3, ai v3), (5, ai v5), (6, ai v6), (8, ai v8)]) d_M_laysDoubled_180 rfl (congrArg (HAdd.hAdd v7) kc_1) (nle rfl) rfl ?_
      refine r_goto d_M_laysDoubled_183 ?_
      refine r_pick (ls2 := [(0, ar v0), (1, ai v1), (2, ai v2), (3, ai v3), (5, ai v5), (6, ai v6), (7, ai (v7 + (1 : Int32)))]) [1, 2, 3, 4, 5, 6, 0] rfl ?_
      exact hk110 _ _ hw
    · replace hw := hw.2 w9
      refine r_aload_n (j := 0) d_M_laysDoubled_126 rfl ?_
      obtain ⟨q17, hw⟩ := hw
      refine r_getR d_M_laysDoubled_127 ok_12 (nle rfl) (nle rfl) rfl lf_M_48 q17 ?_
      refine r_iload (j := 7) d_M_laysDoubled_130 rfl ?_
      refine r_aload_n (j := 0) d_M_laysDoubled_132 rfl ?_
      refine r_getR d_M_laysDoubled_133 ok_12 (nle rfl) (nle rfl) rfl lf_M_68 q17 ?_
      refine r_iconst d_M_laysDoubled_136 kc_3 ?_
      refine r_iload (j := 5) d_M_laysDoubled_137 rfl ?_
      refine r_imul d_M_laysDoubled_139 ?_
      refine r_iload (j := 7) d_M_laysDoubled_140 rfl ?_
      refine r_iadd d_M_laysDoubled_142 ?_
      obtain ⟨q18, hw⟩ := hw
      obtain ⟨q19, hw⟩ := hw
      refine r_iald d_M_laysDoubled_143 q18 q19 ?_
      refine r_aload_n (j := 0) d_M_laysDoubled_144 rfl ?_
      refine r_getR d_M_laysDoubled_145 ok_12 (nle rfl) (nle rfl) rfl lf_M_68 q17 ?_
      refine r_iconst d_M_laysDoubled_148 kc_3 ?_
      refine r_iload (j := 6) d_M_laysDoubled_149 rfl ?_
      refine r_imul d_M_laysDoubled_151 ?_
      refine r_iload (j := 7) d_M_laysDoubled_152 rfl ?_
      refine r_iadd d_M_laysDoubled_154 ?_
      obtain ⟨q20, hw⟩ := hw
      refine r_iald d_M_laysDoubled_155 q18 q20 ?_
      refine r_iadd d_M_laysDoubled_156 ?_
      obtain ⟨q21, hw⟩ := hw
      obtain ⟨q22, hw⟩ := hw
      refine r_iast d_M_laysDoubled_157 q21 q22 ?_
      refine r_iinc (j := 7) (ls2 := [(8, ai (v8 + (1 : Int32))), (0, ar v0), (1, ai v1), (2, ai v2), (3, ai v3), (5, ai v5), (6, ai v6), (7, ai v7)]) d_M_laysDoubled_158 rfl (congrArg (HAdd.hAdd v8) kc_1) (nle rfl) rfl ?_
      refine r_goto d_M_laysDoubled_161 ?_
      refine r_pick (ls2 := [(0, ar v0), (1, ai v1), (2, ai v2), (3, ai v3), (5, ai v5), (6, ai v6), (7, ai v7), (8, ai (v8 + (1 : Int32)))]) [1, 2, 3, 4, 5, 6, 7, 0] rfl ?_
      exact ih _ _ hw
set_option maxRecDepth 100000 in
set_option maxHeartbeats 4000000 in
theorem s_M_laysDoubled_L110 {d : Nat} (hd : 3 ≤ d + 1) {Q : Hp → Prop} {QQ : Option AV → Hp → Prop} (hQ : ∀ h9, Q h9 → QQ none h9) {k66 : Int32 → Hp → Prop} {k99 : Int32 → Hp → Prop} (hk66 : ∀ v3 h9, k66 v3 h9 → aW none m_M_laysDoubled (d + 1) 66 [(0, ar v0), (1, ai v1), (2, ai v2), (3, ai v3)] [] h9 0 0 QQ) (hk99 : ∀ v6 h9, k99 v6 h9 → aW none m_M_laysDoubled (d + 1) 99 [(0, ar v0), (1, ai v1), (2, ai v2), (3, ai v3), (5, ai v5), (6, ai v6)] [] h9 0 0 QQ) {v0 : Nat} {v1 : Int32} {v2 : Int32} {v3 : Int32} {v5 : Int32} {v6 : Int32} : ∀ (n : Nat) (v7 : Int32) (h : Hp), w_M_laysDoubled_L110 Q k66 k99 v0 v1 v2 v3 v5 v6 n v7 h → aW none m_M_laysDoubled (d + 1) 110 [(0, ar v0), (1, ai v1), (2, ai v2), (3, ai v3), (5, ai v5), (6, ai v6), (7, ai v7)] [] h 0 0 QQ := by
  intro n
  induction n with
  | zero => intro v7 h hw; exact hw.elim
  | succ n ih =>
    intro v7 h hw
    unfold w_M_laysDoubled_L110 at hw
    refine r_iload (j := 6) d_M_laysDoubled_110 rfl ?_
    refine r_iload (j := 4) d_M_laysDoubled_112 rfl ?_
    refine r_icmp_ge d_M_laysDoubled_114 (fun w9 => ?_) (fun w9 => ?_)
    · replace hw := hw.1 w9
      refine r_iinc (j := 5) (ls2 := [(6, ai (v6 + (1 : Int32))), (0, ar v0), (1, ai v1), (2, ai v2), (3, ai v3), (5, ai v5), (7, ai v7)]) d_M_laysDoubled_186 rfl (congrArg (HAdd.hAdd v6) kc_1) (nle rfl) rfl ?_
      refine r_goto d_M_laysDoubled_189 ?_
      refine r_pick (ls2 := [(0, ar v0), (1, ai v1), (2, ai v2), (3, ai v3), (5, ai v5), (6, ai (v6 + (1 : Int32)))]) [1, 2, 3, 4, 5, 0] rfl ?_
      exact hk99 _ _ hw
    · replace hw := hw.2 w9
      refine r_iconst d_M_laysDoubled_117 kc_0 ?_
      refine r_istore (ls2 := [(8, ai (0 : Int32)), (0, ar v0), (1, ai v1), (2, ai v2), (3, ai v3), (5, ai v5), (6, ai v6), (7, ai v7)]) d_M_laysDoubled_118 (nle rfl) rfl ?_
      obtain ⟨n23, hw⟩ := hw
      refine r_pick (ls2 := [(0, ar v0), (1, ai v1), (2, ai v2), (3, ai v3), (5, ai v5), (6, ai v6), (7, ai v7), (8, ai (0 : Int32))]) [1, 2, 3, 4, 5, 6, 7, 0] rfl ?_
      exact s_M_laysDoubled_L120 hd hQ hk66 hk99 ih n23 _ _ hw
set_option maxRecDepth 100000 in
set_option maxHeartbeats 4000000 in
theorem s_M_laysDoubled_L99 {d : Nat} (hd : 3 ≤ d + 1) {Q : Hp → Prop} {QQ : Option AV → Hp → Prop} (hQ : ∀ h9, Q h9 → QQ none h9) {k66 : Int32 → Hp → Prop} (hk66 : ∀ v3 h9, k66 v3 h9 → aW none m_M_laysDoubled (d + 1) 66 [(0, ar v0), (1, ai v1), (2, ai v2), (3, ai v3)] [] h9 0 0 QQ) {v0 : Nat} {v1 : Int32} {v2 : Int32} {v3 : Int32} {v5 : Int32} : ∀ (n : Nat) (v6 : Int32) (h : Hp), w_M_laysDoubled_L99 Q k66 v0 v1 v2 v3 v5 n v6 h → aW none m_M_laysDoubled (d + 1) 99 [(0, ar v0), (1, ai v1), (2, ai v2), (3, ai v3), (5, ai v5), (6, ai v6)] [] h 0 0 QQ := by
  intro n
  induction n with
  | zero => intro v6 h hw; exact hw.elim
  | succ n ih =>
    intro v6 h hw
    unfold w_M_laysDoubled_L99 at hw
    refine r_iload (j := 5) d_M_laysDoubled_99 rfl ?_
    refine r_iload (j := 4) d_M_laysDoubled_101 rfl ?_
    refine r_icmp_ge d_M_laysDoubled_103 (fun w9 => ?_) (fun w9 => ?_)
    · replace hw := hw.1 w9
      refine r_iinc (j := 3) (ls2 := [(3, ai (v3 + (1 : Int32))), (0, ar v0), (1, ai v1), (2, ai v2), (5, ai v5), (6, ai v6)]) d_M_laysDoubled_192 rfl (congrArg (HAdd.hAdd v3) kc_1) (nle rfl) rfl ?_
      refine r_goto d_M_laysDoubled_195 ?_
      refine r_pick (ls2 := [(0, ar v0), (1, ai v1), (2, ai v2), (3, ai (v3 + (1 : Int32)))]) [1, 2, 3, 0] rfl ?_
      exact hk66 _ _ hw
    · replace hw := hw.2 w9
      refine r_iload (j := 5) d_M_laysDoubled_106 rfl ?_
      refine r_istore (ls2 := [(7, ai v6), (0, ar v0), (1, ai v1), (2, ai v2), (3, ai v3), (5, ai v5), (6, ai v6)]) d_M_laysDoubled_108 (nle rfl) rfl ?_
      obtain ⟨n24, hw⟩ := hw
      refine r_pick (ls2 := [(0, ar v0), (1, ai v1), (2, ai v2), (3, ai v3), (5, ai v5), (6, ai v6), (7, ai v6)]) [1, 2, 3, 4, 5, 6, 0] rfl ?_
      exact s_M_laysDoubled_L110 hd hQ hk66 ih n24 _ _ hw
set_option maxRecDepth 100000 in
set_option maxHeartbeats 4000000 in
theorem s_M_laysDoubled_L66 {d : Nat} (hd : 3 ≤ d + 1) {Q : Hp → Prop} {QQ : Option AV → Hp → Prop} (hQ : ∀ h9, Q h9 → QQ none h9) {v0 : Nat} {v1 : Int32} {v2 : Int32} : ∀ (n : Nat) (v3 : Int32) (h : Hp), w_M_laysDoubled_L66 Q  v0 v1 v2 n v3 h → aW none m_M_laysDoubled (d + 1) 66 [(0, ar v0), (1, ai v1), (2, ai v2), (3, ai v3)] [] h 0 0 QQ := by
  intro n
  induction n with
  | zero => intro v3 h hw; exact hw.elim
  | succ n ih =>
    intro v3 h hw
    unfold w_M_laysDoubled_L66 at hw
    refine r_iload_n (j := 3) d_M_laysDoubled_66 rfl ?_
    refine r_iload_n (j := 1) d_M_laysDoubled_67 rfl ?_
    refine r_icmp_gt d_M_laysDoubled_68 (fun w9 => ?_) (fun w9 => ?_)
    · replace hw := hw.1 w9
      refine r_aload_n (j := 0) d_M_laysDoubled_198 rfl ?_
      obtain ⟨q8, hw⟩ := hw
      refine r_getR d_M_laysDoubled_199 ok_12 (nle rfl) (nle rfl) rfl lf_M_71 q8 ?_
      refine r_iload_n (j := 1) d_M_laysDoubled_202 rfl ?_
      refine r_iconst d_M_laysDoubled_203 kc_1 ?_
      refine r_iadd d_M_laysDoubled_204 ?_
      refine r_aload_n (j := 0) d_M_laysDoubled_205 rfl ?_
      refine r_getI d_M_laysDoubled_206 ok_12 (nle rfl) (nle rfl) rfl lf_M_421 q8 ?_
      obtain ⟨q9, hw⟩ := hw
      obtain ⟨q10, hw⟩ := hw
      refine r_iast d_M_laysDoubled_209 q9 q10 ?_
      exact r_return d_M_laysDoubled_210.1 rfl (hQ _ hw)
    · replace hw := hw.2 w9
      refine r_aload_n (j := 0) d_M_laysDoubled_71 rfl ?_
      obtain ⟨q11, hw⟩ := hw
      refine r_getR d_M_laysDoubled_72 ok_12 (nle rfl) (nle rfl) rfl lf_M_71 q11 ?_
      refine r_iload_n (j := 3) d_M_laysDoubled_75 rfl ?_
      refine r_iconst d_M_laysDoubled_76 kc_1 ?_
      refine r_isub d_M_laysDoubled_77 ?_
      obtain ⟨q12, hw⟩ := hw
      obtain ⟨q13, hw⟩ := hw
      refine r_iald d_M_laysDoubled_78 q12 q13 ?_
      refine r_istore (ls2 := [(4, ai (gI h (gR h v0 43) (ix (v3 - (1 : Int32))))), (0, ar v0), (1, ai v1), (2, ai v2), (3, ai v3)]) d_M_laysDoubled_79 (nle rfl) rfl ?_
      refine r_aload_n (j := 1) d_M_laysDoubled_81 rfl ?_
      refine r_getI d_M_laysDoubled_82 ok_12 (nle rfl) (nle rfl) rfl lf_M_421 q11 ?_
      refine r_istore (ls2 := [(5, ai (gI h v0 44)), (4, ai (gI h (gR h v0 43) (ix (v3 - (1 : Int32))))), (0, ar v0), (1, ai v1), (2, ai v2), (3, ai v3)]) d_M_laysDoubled_85 (nle rfl) rfl ?_
      refine r_aload_n (j := 2) d_M_laysDoubled_87 rfl ?_
      refine r_getR d_M_laysDoubled_88 ok_12 (nle rfl) (nle rfl) rfl lf_M_71 q11 ?_
      refine r_iload_n (j := 5) d_M_laysDoubled_91 rfl ?_
      refine r_iload (j := 0) d_M_laysDoubled_92 rfl ?_
      obtain ⟨q14, hw⟩ := hw
      refine r_iast d_M_laysDoubled_94 q12 q14 ?_
      refine r_iload (j := 1) d_M_laysDoubled_95 rfl ?_
      refine r_istore (ls2 := [(6, ai (gI h (gR h v0 43) (ix (v3 - (1 : Int32))))), (5, ai (gI h v0 44)), (4, ai (gI h (gR h v0 43) (ix (v3 - (1 : Int32))))), (0, ar v0), (1, ai v1), (2, ai v2), (3, ai v3)]) d_M_laysDoubled_97 (nle rfl) rfl ?_
      obtain ⟨n25, hw⟩ := hw
      refine r_pick (ls2 := [(0, ar v0), (1, ai v1), (2, ai v2), (3, ai v3), (5, ai (gI h v0 44)), (6, ai (gI h (gR h v0 43) (ix (v3 - (1 : Int32)))))]) [3, 4, 5, 6, 1, 0] rfl ?_
      exact s_M_laysDoubled_L99 hd hQ ih n25 _ _ hw
set_option maxRecDepth 100000 in
set_option maxHeartbeats 4000000 in
theorem s_M_laysDoubled_L28 {d : Nat} (hd : 3 ≤ d + 1) {Q : Hp → Prop} {QQ : Option AV → Hp → Prop} (hQ : ∀ h9, Q h9 → QQ none h9) {v0 : Nat} {v1 : Int32} {v2 : Int32} : ∀ (n : Nat) (v3 : Int32) (h : Hp), w_M_laysDoubled_L28 Q  v0 v1 v2 n v3 h → aW none m_M_laysDoubled (d + 1) 28 [(0, ar v0), (1, ai v1), (2, ai v2), (3, ai v3)] [] h 0 0 QQ := by
  intro n
  induction n with
  | zero => intro v3 h hw; exact hw.elim
  | succ n ih =>
    intro v3 h hw
    unfold w_M_laysDoubled_L28 at hw
    refine r_iload_n (j := 3) d_M_laysDoubled_28 rfl ?_
    refine r_aload_n (j := 0) d_M_laysDoubled_29 rfl ?_
    obtain ⟨q7, hw⟩ := hw
    refine r_getI d_M_laysDoubled_30 ok_12 (nle rfl) (nle rfl) rfl lf_M_247 q7 ?_
    refine r_icmp_ge d_M_laysDoubled_33 (fun w9 => ?_) (fun w9 => ?_)
    · replace hw := hw.1 w9
      refine r_iconst d_M_laysDoubled_64 kc_1 ?_
      refine r_istore_n (ls2 := [(3, ai (1 : Int32)), (0, ar v0), (1, ai v1), (2, ai v2)]) d_M_laysDoubled_65 (nle rfl) rfl ?_
      obtain ⟨n26, hw⟩ := hw
      refine r_pick (ls2 := [(0, ar v0), (1, ai v1), (2, ai v2), (3, ai (1 : Int32))]) [1, 2, 3, 0] rfl ?_
      exact s_M_laysDoubled_L66 hd hQ  n26 _ _ hw
    · replace hw := hw.2 w9
      refine r_aload_n (j := 0) d_M_laysDoubled_36 rfl ?_
      refine r_callV (av := []) (rest := []) (ci := 12) d_M_laysDoubled_37 mk_M_noSums ll_M_360 im_M_noSums se_M_noSums rfl (nle rfl) rfl rfl (nle rfl) q7 (s_M_noSums  hw (fun h27 hw => ?_))
      show aW none m_M_laysDoubled (d + 1) 40 [(0, ar v0), (1, ai v1), (2, ai v2), (3, ai v3)] [] h27 0 0 QQ
      refine r_aload_n (j := 0) d_M_laysDoubled_40 rfl ?_
      refine r_iload_n (j := 3) d_M_laysDoubled_41 rfl ?_
      obtain ⟨q29, hw⟩ := hw
      refine r_callV (av := [ai v3]) (rest := []) (ci := 12) d_M_laysDoubled_42 mk_M_adds ll_M_363 im_M_adds se_M_adds rfl (nle rfl) rfl rfl (nle rfl) q29 (s_M_adds (by omega) hw (fun h28 hw => ?_))
      show aW none m_M_laysDoubled (d + 1) 45 [(0, ar v0), (1, ai v1), (2, ai v2), (3, ai v3)] [] h28 0 0 QQ
      refine r_aload_n (j := 0) d_M_laysDoubled_45 rfl ?_
      refine r_iconst d_M_laysDoubled_46 kc_0 ?_
      refine r_aload_n (j := 0) d_M_laysDoubled_47 rfl ?_
      obtain ⟨q30, hw⟩ := hw
      refine r_getI d_M_laysDoubled_48 ok_12 (nle rfl) (nle rfl) rfl lf_M_421 q30 ?_
      refine r_iconst d_M_laysDoubled_51 kc_1 ?_
      refine r_iload_n (j := 1) d_M_laysDoubled_52 rfl ?_
      refine r_ishl d_M_laysDoubled_53 ?_
      refine r_iload_n (j := 2) d_M_laysDoubled_54 rfl ?_
      refine r_callV (av := [ai (0 : Int32), ai (gI h28 v0 44), ai (jshl (1 : Int32) v1), ai v2]) (rest := []) (ci := 12) d_M_laysDoubled_55 mk_M_comesTo ll_M_424 im_M_comesTo se_M_comesTo rfl (nle rfl) rfl rfl (nle rfl) q30 (s_M_comesTo (by omega) hw (fun h31 hw => ?_))
      show aW none m_M_laysDoubled (d + 1) 58 [(0, ar v0), (1, ai v1), (2, ai v2), (3, ai v3)] [] h31 0 0 QQ
      refine r_iinc (j := 3) (ls2 := [(3, ai (v3 + (1 : Int32))), (0, ar v0), (1, ai v1), (2, ai v2)]) d_M_laysDoubled_58 rfl (congrArg (HAdd.hAdd v3) kc_1) (nle rfl) rfl ?_
      refine r_goto d_M_laysDoubled_61 ?_
      refine r_pick (ls2 := [(0, ar v0), (1, ai v1), (2, ai v2), (3, ai (v3 + (1 : Int32)))]) [1, 2, 3, 0] rfl ?_
      exact ih _ _ hw
set_option maxRecDepth 100000 in
set_option maxHeartbeats 4000000 in
theorem s_M_laysDoubled {d : Nat} (hd : 3 ≤ d) {v0 : Nat} {v1 : Int32} {v2 : Int32} {h : Hp} {Q : Hp → Prop} {QQ : Option AV → Hp → Prop} (hw : w_M_laysDoubled v0 v1 v2 h Q) (hQ : ∀ h9, Q h9 → QQ none h9) : aCall m_M_laysDoubled d [ar v0, ai v1, ai v2] h 0 0 QQ := by
  obtain ⟨d, rfl⟩ : ∃ d9, d = d9 + 1 := ⟨d - 1, by omega⟩
  refine aCall_in pl_M_laysDoubled (nle rfl) ?_
  show aW none m_M_laysDoubled (d + 1) 0 [(0, ar v0), (1, ai v1), (2, ai v2)] [] h 0 0 QQ
  unfold w_M_laysDoubled at hw
  refine r_aload_n (j := 0) d_M_laysDoubled_0 rfl ?_
  refine r_iconst d_M_laysDoubled_1 kc_0 ?_
  obtain ⟨q1, hw⟩ := hw
  refine r_putI d_M_laysDoubled_2 ok_12 (nle rfl) (nle rfl) rfl lf_M_421 rfl q1 ?_
  refine r_aload_n (j := 0) d_M_laysDoubled_5 rfl ?_
  refine r_getR d_M_laysDoubled_6 ok_12 (nle rfl) (nle rfl) rfl lf_M_71 q1 ?_
  refine r_iconst d_M_laysDoubled_9 kc_0 ?_
  refine r_iconst d_M_laysDoubled_10 kc_0 ?_
  obtain ⟨q2, hw⟩ := hw
  obtain ⟨q3, hw⟩ := hw
  refine r_iast d_M_laysDoubled_11 q2 q3 ?_
  refine r_aload_n (j := 0) d_M_laysDoubled_12 rfl ?_
  refine r_callV (av := []) (rest := []) (ci := 12) d_M_laysDoubled_13 mk_M_noSums ll_M_360 im_M_noSums se_M_noSums rfl (nle rfl) rfl rfl (nle rfl) q1 (s_M_noSums  hw (fun h4 hw => ?_))
  show aW none m_M_laysDoubled (d + 1) 16 [(0, ar v0), (1, ai v1), (2, ai v2)] [] h4 0 0 QQ
  refine r_aload_n (j := 0) d_M_laysDoubled_16 rfl ?_
  refine r_iconst d_M_laysDoubled_17 kc_0 ?_
  refine r_iconst d_M_laysDoubled_18 kc_0 ?_
  refine r_iconst d_M_laysDoubled_19 kc_1 ?_
  refine r_iload_n (j := 1) d_M_laysDoubled_20 rfl ?_
  refine r_ishl d_M_laysDoubled_21 ?_
  refine r_iload_n (j := 2) d_M_laysDoubled_22 rfl ?_
  obtain ⟨q6, hw⟩ := hw
  refine r_callV (av := [ai (0 : Int32), ai (0 : Int32), ai (jshl (1 : Int32) v1), ai v2]) (rest := []) (ci := 12) d_M_laysDoubled_23 mk_M_comesTo ll_M_424 im_M_comesTo se_M_comesTo rfl (nle rfl) rfl rfl (nle rfl) q6 (s_M_comesTo (by omega) hw (fun h5 hw => ?_))
  show aW none m_M_laysDoubled (d + 1) 26 [(0, ar v0), (1, ai v1), (2, ai v2)] [] h5 0 0 QQ
  refine r_iconst d_M_laysDoubled_26 kc_0 ?_
  refine r_istore_n (ls2 := [(3, ai (0 : Int32)), (0, ar v0), (1, ai v1), (2, ai v2)]) d_M_laysDoubled_27 (nle rfl) rfl ?_
  obtain ⟨n32, hw⟩ := hw
  refine r_pick (ls2 := [(0, ar v0), (1, ai v1), (2, ai v2), (3, ai (0 : Int32))]) [1, 2, 3, 0] rfl ?_
  exact s_M_laysDoubled_L28 hd hQ  n32 _ _ hw
set_option maxRecDepth 100000 in
set_option maxHeartbeats 4000000 in
theorem s_M_isOfLevel_L24 {d : Nat} (hd : 1 ≤ d + 1) {Q : Bool → Hp → Prop} {QQ : Option AV → Hp → Prop} (hQ : ∀ r9 h9, Q r9 h9 → QQ (some (ai (b2i r9))) h9) {k7 : Int32 → Hp → Prop} (hk7 : ∀ v2 h9, k7 v2 h9 → aW none m_M_isOfLevel (d + 1) 7 [(0, ar v0), (1, ai v1), (2, ai v2)] [] h9 0 0 QQ) {v0 : Nat} {v1 : Int32} {v2 : Int32} : ∀ (n : Nat) (v3 : Int32) (v4 : Int32) (h : Hp), w_M_isOfLevel_L24 Q k7 v0 v1 v2 n v3 v4 h → aW none m_M_isOfLevel (d + 1) 24 [(0, ar v0), (1, ai v1), (2, ai v2), (3, ai v3), (4, ai v4)] [] h 0 0 QQ := by
  intro n
  induction n with
  | zero => intro v3 v4 h hw; exact hw.elim
  | succ n ih =>
    intro v3 v4 h hw
    unfold w_M_isOfLevel_L24 at hw
    refine r_iload (j := 4) d_M_isOfLevel_24 rfl ?_
    refine r_aload_n (j := 0) d_M_isOfLevel_26 rfl ?_
    obtain ⟨q7, hw⟩ := hw
    refine r_getI d_M_isOfLevel_27 ok_12 (nle rfl) (nle rfl) rfl lf_M_244 q7 ?_
    refine r_icmp_ge d_M_isOfLevel_30 (fun w9 => ?_) (fun w9 => ?_)
    · replace hw := hw.1 w9
      refine r_iload_n (j := 3) d_M_isOfLevel_69 rfl ?_
      refine r_if_eq d_M_isOfLevel_70 (fun w9 => ?_) (fun w9 => ?_)
      · replace hw := hw.1 w9
        refine r_iinc (j := 2) (ls2 := [(2, ai (v2 + (1 : Int32))), (0, ar v0), (1, ai v1), (3, ai v3), (4, ai v4)]) d_M_isOfLevel_75 rfl (congrArg (HAdd.hAdd v2) kc_1) (nle rfl) rfl ?_
        refine r_goto d_M_isOfLevel_78 ?_
        refine r_pick (ls2 := [(0, ar v0), (1, ai v1), (2, ai (v2 + (1 : Int32)))]) [1, 2, 0] rfl ?_
        exact hk7 _ _ hw
      · replace hw := hw.2 w9
        refine r_iconst d_M_isOfLevel_73 kc_1 ?_
        exact r_zreturn d_M_isOfLevel_74.1 rfl (Or.inr rfl) (hQ _ _ hw)
    · replace hw := hw.2 w9
      refine r_iload_n (j := 3) d_M_isOfLevel_33 rfl ?_
      refine r_if_eq d_M_isOfLevel_34 (fun w9 => ?_) (fun w9 => ?_)
      · replace hw := hw.1 w9
        refine r_iconst d_M_isOfLevel_61 kc_0 ?_
        refine r_istore_n (ls2 := [(3, ai (0 : Int32)), (0, ar v0), (1, ai v1), (2, ai v2), (4, ai v4)]) d_M_isOfLevel_62 (nle rfl) rfl ?_
        refine r_iinc (j := 4) (ls2 := [(4, ai (v4 + (1 : Int32))), (3, ai (0 : Int32)), (0, ar v0), (1, ai v1), (2, ai v2)]) d_M_isOfLevel_63 rfl (congrArg (HAdd.hAdd v4) kc_1) (nle rfl) rfl ?_
        refine r_goto d_M_isOfLevel_66 ?_
        refine r_pick (ls2 := [(0, ar v0), (1, ai v1), (2, ai v2), (3, ai (0 : Int32)), (4, ai (v4 + (1 : Int32)))]) [2, 3, 4, 1, 0] rfl ?_
        exact ih _ _ _ hw
      · replace hw := hw.2 w9
        refine r_aload_n (j := 0) d_M_isOfLevel_37 rfl ?_
        refine r_getR d_M_isOfLevel_38 ok_12 (nle rfl) (nle rfl) rfl lf_M_68 q7 ?_
        refine r_iconst d_M_isOfLevel_41 kc_3 ?_
        refine r_iload_n (j := 2) d_M_isOfLevel_42 rfl ?_
        refine r_imul d_M_isOfLevel_43 ?_
        refine r_iload (j := 4) d_M_isOfLevel_44 rfl ?_
        refine r_iadd d_M_isOfLevel_46 ?_
        obtain ⟨q8, hw⟩ := hw
        obtain ⟨q9, hw⟩ := hw
        refine r_iald d_M_isOfLevel_47 q8 q9 ?_
        refine r_aload_n (j := 0) d_M_isOfLevel_48 rfl ?_
        refine r_iload (j := 4) d_M_isOfLevel_49 rfl ?_
        refine r_callV (av := [ai v4]) (rest := [ai (gI h (gR h v0 42) (ix (((3 : Int32) * v2) + v4)))]) (ci := 12) d_M_isOfLevel_51 mk_M_needOf ll_M_281 im_M_needOf se_M_needOf rfl (nle rfl) rfl rfl (nle rfl) q7 (s_M_needOf  hw (fun r11 h10 hw => ?_))
        show aW none m_M_isOfLevel (d + 1) 54 [(0, ar v0), (1, ai v1), (2, ai v2), (3, ai v3), (4, ai v4)] [ai r11, ai (gI h (gR h v0 42) (ix (((3 : Int32) * v2) + v4)))] h10 0 0 QQ
        refine r_icmp_ne d_M_isOfLevel_54 (fun w9 => ?_) (fun w9 => ?_)
        · replace hw := hw.2 w9
          refine r_iconst d_M_isOfLevel_61 kc_0 ?_
          refine r_istore_n (ls2 := [(3, ai (0 : Int32)), (0, ar v0), (1, ai v1), (2, ai v2), (4, ai v4)]) d_M_isOfLevel_62 (nle rfl) rfl ?_
          refine r_iinc (j := 4) (ls2 := [(4, ai (v4 + (1 : Int32))), (3, ai (0 : Int32)), (0, ar v0), (1, ai v1), (2, ai v2)]) d_M_isOfLevel_63 rfl (congrArg (HAdd.hAdd v4) kc_1) (nle rfl) rfl ?_
          refine r_goto d_M_isOfLevel_66 ?_
          refine r_pick (ls2 := [(0, ar v0), (1, ai v1), (2, ai v2), (3, ai (0 : Int32)), (4, ai (v4 + (1 : Int32)))]) [2, 3, 4, 1, 0] rfl ?_
          exact ih _ _ _ hw
        · replace hw := hw.1 w9
          refine r_iconst d_M_isOfLevel_57 kc_1 ?_
          refine r_goto d_M_isOfLevel_58 ?_
          refine r_istore_n (ls2 := [(3, ai (1 : Int32)), (0, ar v0), (1, ai v1), (2, ai v2), (4, ai v4)]) d_M_isOfLevel_62 (nle rfl) rfl ?_
          refine r_iinc (j := 4) (ls2 := [(4, ai (v4 + (1 : Int32))), (3, ai (1 : Int32)), (0, ar v0), (1, ai v1), (2, ai v2)]) d_M_isOfLevel_63 rfl (congrArg (HAdd.hAdd v4) kc_1) (nle rfl) rfl ?_
          refine r_goto d_M_isOfLevel_66 ?_
          refine r_pick (ls2 := [(0, ar v0), (1, ai v1), (2, ai v2), (3, ai (1 : Int32)), (4, ai (v4 + (1 : Int32)))]) [2, 3, 4, 1, 0] rfl ?_
          exact ih _ _ _ hw
set_option maxRecDepth 100000 in
set_option maxHeartbeats 4000000 in
theorem s_M_isOfLevel_L7 {d : Nat} (hd : 1 ≤ d + 1) {Q : Bool → Hp → Prop} {QQ : Option AV → Hp → Prop} (hQ : ∀ r9 h9, Q r9 h9 → QQ (some (ai (b2i r9))) h9) {v0 : Nat} {v1 : Int32} : ∀ (n : Nat) (v2 : Int32) (h : Hp), w_M_isOfLevel_L7 Q  v0 v1 n v2 h → aW none m_M_isOfLevel (d + 1) 7 [(0, ar v0), (1, ai v1), (2, ai v2)] [] h 0 0 QQ := by
  intro n
  induction n with
  | zero => intro v2 h hw; exact hw.elim
  | succ n ih =>
    intro v2 h hw
    unfold w_M_isOfLevel_L7 at hw
    refine r_iload_n (j := 2) d_M_isOfLevel_7 rfl ?_
    refine r_aload_n (j := 0) d_M_isOfLevel_8 rfl ?_
    obtain ⟨q4, hw⟩ := hw
    refine r_getR d_M_isOfLevel_9 ok_12 (nle rfl) (nle rfl) rfl lf_M_71 q4 ?_
    refine r_iload_n (j := 1) d_M_isOfLevel_12 rfl ?_
    refine r_iconst d_M_isOfLevel_13 kc_1 ?_
    refine r_iadd d_M_isOfLevel_14 ?_
    obtain ⟨q5, hw⟩ := hw
    obtain ⟨q6, hw⟩ := hw
    refine r_iald d_M_isOfLevel_15 q5 q6 ?_
    refine r_icmp_ge d_M_isOfLevel_16 (fun w9 => ?_) (fun w9 => ?_)
    · replace hw := hw.1 w9
      refine r_iconst d_M_isOfLevel_81 kc_0 ?_
      exact r_zreturn d_M_isOfLevel_82.1 rfl (Or.inl rfl) (hQ _ _ hw)
    · replace hw := hw.2 w9
      refine r_iconst d_M_isOfLevel_19 kc_1 ?_
      refine r_istore_n (ls2 := [(3, ai (1 : Int32)), (0, ar v0), (1, ai v1), (2, ai v2)]) d_M_isOfLevel_20 (nle rfl) rfl ?_
      refine r_iconst d_M_isOfLevel_21 kc_0 ?_
      refine r_istore (ls2 := [(4, ai (0 : Int32)), (3, ai (1 : Int32)), (0, ar v0), (1, ai v1), (2, ai v2)]) d_M_isOfLevel_22 (nle rfl) rfl ?_
      obtain ⟨n12, hw⟩ := hw
      refine r_pick (ls2 := [(0, ar v0), (1, ai v1), (2, ai v2), (3, ai (1 : Int32)), (4, ai (0 : Int32))]) [2, 3, 4, 1, 0] rfl ?_
      exact s_M_isOfLevel_L24 hd hQ ih n12 _ _ _ hw
set_option maxRecDepth 100000 in
set_option maxHeartbeats 4000000 in
theorem s_M_isOfLevel {d : Nat} (hd : 1 ≤ d) {v0 : Nat} {v1 : Int32} {h : Hp} {Q : Bool → Hp → Prop} {QQ : Option AV → Hp → Prop} (hw : w_M_isOfLevel v0 v1 h Q) (hQ : ∀ r9 h9, Q r9 h9 → QQ (some (ai (b2i r9))) h9) : aCall m_M_isOfLevel d [ar v0, ai v1] h 0 0 QQ := by
  obtain ⟨d, rfl⟩ : ∃ d9, d = d9 + 1 := ⟨d - 1, by omega⟩
  refine aCall_in pl_M_isOfLevel (nle rfl) ?_
  show aW none m_M_isOfLevel (d + 1) 0 [(0, ar v0), (1, ai v1)] [] h 0 0 QQ
  unfold w_M_isOfLevel at hw
  refine r_aload_n (j := 0) d_M_isOfLevel_0 rfl ?_
  obtain ⟨q1, hw⟩ := hw
  refine r_getR d_M_isOfLevel_1 ok_12 (nle rfl) (nle rfl) rfl lf_M_71 q1 ?_
  refine r_iload_n (j := 1) d_M_isOfLevel_4 rfl ?_
  obtain ⟨q2, hw⟩ := hw
  obtain ⟨q3, hw⟩ := hw
  refine r_iald d_M_isOfLevel_5 q2 q3 ?_
  refine r_istore_n (ls2 := [(2, ai (gI h (gR h v0 43) (ix v1))), (0, ar v0), (1, ai v1)]) d_M_isOfLevel_6 (nle rfl) rfl ?_
  obtain ⟨n13, hw⟩ := hw
  refine r_pick (ls2 := [(0, ar v0), (1, ai v1), (2, ai (gI h (gR h v0 43) (ix v1)))]) [1, 2, 0] rfl ?_
  exact s_M_isOfLevel_L7 hd hQ  n13 _ _ hw
set_option maxRecDepth 100000 in
set_option maxHeartbeats 4000000 in
theorem s_M_doubled_B39 {d : Nat} (hd : 4 ≤ d + 1) {Q : Int32 → Hp → Prop} {QQ : Option AV → Hp → Prop} (hQ : ∀ r9 h9, Q r9 h9 → QQ (some (ai r9)) h9) {v0 : Nat} {v1 : Int32} {v2 : Int32} {v3 : Int32} {h : Hp} (hw : w_M_doubled_B39 Q  v0 v1 v2 v3 h) : aW none m_M_doubled (d + 1) 39 [(0, ar v0), (1, ai v1), (2, ai v2), (3, ai v3)] [] h 0 0 QQ := by
  unfold w_M_doubled_B39 at hw
  refine r_aload_n (j := 0) d_M_doubled_39 rfl ?_
  refine r_iload_n (j := 1) d_M_doubled_40 rfl ?_
  refine r_iload_n (j := 2) d_M_doubled_41 rfl ?_
  obtain ⟨q8, hw⟩ := hw
  refine r_callV (av := [ai v1, ai v2]) (rest := []) (ci := 12) d_M_doubled_42 mk_M_laysDoubled ll_M_428 im_M_laysDoubled se_M_laysDoubled rfl (nle rfl) rfl rfl (nle rfl) q8 (s_M_laysDoubled (by omega) hw (fun h7 hw => ?_))
  show aW none m_M_doubled (d + 1) 45 [(0, ar v0), (1, ai v1), (2, ai v2), (3, ai v3)] [] h7 0 0 QQ
  refine r_iload_n (j := 3) d_M_doubled_45 rfl ?_
  refine r_iconst d_M_doubled_46 kc_5 ?_
  refine r_icmp_ne d_M_doubled_47 (fun w9 => ?_) (fun w9 => ?_)
  · replace hw := hw.2 w9
    refine r_aload_n (j := 0) d_M_doubled_61 rfl ?_
    obtain ⟨q9, hw⟩ := hw
    refine r_getR d_M_doubled_62 ok_12 (nle rfl) (nle rfl) rfl lf_M_71 q9 ?_
    refine r_iload_n (j := 3) d_M_doubled_65 rfl ?_
    refine r_iconst d_M_doubled_66 kc_1 ?_
    refine r_iadd d_M_doubled_67 ?_
    obtain ⟨q10, hw⟩ := hw
    obtain ⟨q11, hw⟩ := hw
    refine r_iald d_M_doubled_68 q10 q11 ?_
    refine r_aload_n (j := 0) d_M_doubled_69 rfl ?_
    refine r_getR d_M_doubled_70 ok_12 (nle rfl) (nle rfl) rfl lf_M_71 q9 ?_
    refine r_iload_n (j := 3) d_M_doubled_73 rfl ?_
    obtain ⟨q12, hw⟩ := hw
    refine r_iald d_M_doubled_74 q10 q12 ?_
    refine r_isub d_M_doubled_75 ?_
    exact r_ireturn d_M_doubled_76.1 rfl (hQ _ _ hw)
  · replace hw := hw.1 w9
    refine r_aload_n (j := 0) d_M_doubled_50 rfl ?_
    refine r_iload_n (j := 1) d_M_doubled_51 rfl ?_
    obtain ⟨q15, hw⟩ := hw
    refine r_callV (av := [ai v1]) (rest := []) (ci := 12) d_M_doubled_52 mk_M_isOfLevel ll_M_431 im_M_isOfLevel se_M_isOfLevel rfl (nle rfl) rfl rfl (nle rfl) q15 (s_M_isOfLevel (by omega) hw (fun r14 h13 hw => ?_))
    show aW none m_M_doubled (d + 1) 55 [(0, ar v0), (1, ai v1), (2, ai v2), (3, ai v3)] [ai (b2i r14)] h13 0 0 QQ
    refine r_callS (av := [ai (b2i r14)]) (rest := []) d_M_doubled_55 mk_M_truth ll_M_318 st_M_truth rfl rfl (nle rfl) (s_M_truth  hw (fun r17 h16 hw => ?_))
    show aW none m_M_doubled (d + 1) 58 [(0, ar v0), (1, ai v1), (2, ai v2), (3, ai v3)] [ai r17] h16 0 0 QQ
    refine r_goto d_M_doubled_58 ?_
    exact r_ireturn d_M_doubled_76.1 rfl (hQ _ _ hw)
set_option maxRecDepth 100000 in
set_option maxHeartbeats 4000000 in
theorem s_M_doubled {d : Nat} (hd : 4 ≤ d) {v0 : Nat} {v1 : Int32} {v2 : Int32} {v3 : Int32} {h : Hp} {Q : Int32 → Hp → Prop} {QQ : Option AV → Hp → Prop} (hw : w_M_doubled v0 v1 v2 v3 h Q) (hQ : ∀ r9 h9, Q r9 h9 → QQ (some (ai r9)) h9) : aCall m_M_doubled d [ar v0, ai v1, ai v2, ai v3] h 0 0 QQ := by
  obtain ⟨d, rfl⟩ : ∃ d9, d = d9 + 1 := ⟨d - 1, by omega⟩
  refine aCall_in pl_M_doubled (nle rfl) ?_
  show aW none m_M_doubled (d + 1) 0 [(0, ar v0), (1, ai v1), (2, ai v2), (3, ai v3)] [] h 0 0 QQ
  unfold w_M_doubled at hw
  refine r_iload_n (j := 1) d_M_doubled_0 rfl ?_
  refine r_iconst d_M_doubled_1 kc_0 ?_
  refine r_iconst d_M_doubled_2 kc_4 ?_
  refine r_callS (av := [ai v1, ai (0 : Int32), ai (4 : Int32)]) (rest := []) d_M_doubled_3 mk_M_isIn ll_M_148 st_M_isIn rfl rfl (nle rfl) (s_M_isIn  hw (fun r2 h1 hw => ?_))
  show aW none m_M_doubled (d + 1) 6 [(0, ar v0), (1, ai v1), (2, ai v2), (3, ai v3)] [ai (b2i r2)] h1 0 0 QQ
  refine r_if_eq d_M_doubled_6 (fun w9 => ?_) (fun w9 => ?_)
  · replace hw := hw.1 (b2i_0.mp w9)
    refine r_iconst d_M_doubled_37 kc_m1 ?_
    exact r_ireturn d_M_doubled_38.1 rfl (hQ _ _ hw)
  · replace hw := hw.2 (fun g9 => w9 (b2i_0.mpr g9))
    refine r_iload_n (j := 2) d_M_doubled_9 rfl ?_
    refine r_iconst d_M_doubled_10 kc_0 ?_
    refine r_iconst d_M_doubled_11 kc_3 ?_
    refine r_callS (av := [ai v2, ai (0 : Int32), ai (3 : Int32)]) (rest := []) d_M_doubled_12 mk_M_isIn ll_M_148 st_M_isIn rfl rfl (nle rfl) (s_M_isIn  hw (fun r4 h3 hw => ?_))
    show aW none m_M_doubled (d + 1) 15 [(0, ar v0), (1, ai v1), (2, ai v2), (3, ai v3)] [ai (b2i r4)] h3 0 0 QQ
    refine r_if_eq d_M_doubled_15 (fun w9 => ?_) (fun w9 => ?_)
    · replace hw := hw.1 (b2i_0.mp w9)
      refine r_iconst d_M_doubled_37 kc_m1 ?_
      exact r_ireturn d_M_doubled_38.1 rfl (hQ _ _ hw)
    · replace hw := hw.2 (fun g9 => w9 (b2i_0.mpr g9))
      refine r_iload_n (j := 3) d_M_doubled_18 rfl ?_
      refine r_iconst d_M_doubled_19 kc_0 ?_
      refine r_iconst d_M_doubled_20 kc_5 ?_
      refine r_callS (av := [ai v3, ai (0 : Int32), ai (5 : Int32)]) (rest := []) d_M_doubled_21 mk_M_isIn ll_M_148 st_M_isIn rfl rfl (nle rfl) (s_M_isIn  hw (fun r6 h5 hw => ?_))
      show aW none m_M_doubled (d + 1) 24 [(0, ar v0), (1, ai v1), (2, ai v2), (3, ai v3)] [ai (b2i r6)] h5 0 0 QQ
      refine r_if_eq d_M_doubled_24 (fun w9 => ?_) (fun w9 => ?_)
      · replace hw := hw.1 (b2i_0.mp w9)
        refine r_iconst d_M_doubled_37 kc_m1 ?_
        exact r_ireturn d_M_doubled_38.1 rfl (hQ _ _ hw)
      · replace hw := hw.2 (fun g9 => w9 (b2i_0.mpr g9))
        refine r_iload_n (j := 3) d_M_doubled_27 rfl ?_
        refine r_iconst d_M_doubled_28 kc_5 ?_
        refine r_icmp_ge d_M_doubled_29 (fun w9 => ?_) (fun w9 => ?_)
        · replace hw := hw.1 w9
          exact s_M_doubled_B39 hd hQ  hw
        · replace hw := hw.2 w9
          refine r_iload_n (j := 3) d_M_doubled_32 rfl ?_
          refine r_iload_n (j := 1) d_M_doubled_33 rfl ?_
          refine r_icmp_le d_M_doubled_34 (fun w9 => ?_) (fun w9 => ?_)
          · replace hw := hw.1 w9
            exact s_M_doubled_B39 hd hQ  hw
          · replace hw := hw.2 w9
            refine r_iconst d_M_doubled_37 kc_m1 ?_
            exact r_ireturn d_M_doubled_38.1 rfl (hQ _ _ hw)
set_option maxRecDepth 100000 in
set_option maxHeartbeats 4000000 in
theorem s_M_common_L28 {d : Nat} {Q : Int64 → Hp → Prop} {QQ : Option AV → Hp → Prop} (hQ : ∀ r9 h9, Q r9 h9 → QQ (some (al r9)) h9) : ∀ (n : Nat) (v4 : Int64) (v6 : Int64) (h : Hp), w_M_common_L28 Q   n v4 v6 h → aW none m_M_common d 28 [(4, al v4), (6, al v6)] [] h 0 0 QQ := by
  intro n
  induction n with
  | zero => intro v4 v6 h hw; exact hw.elim
  | succ n ih =>
    intro v4 v6 h hw
    unfold w_M_common_L28 at hw
    refine r_lload (j := 1) d_M_common_28 rfl ?_
    refine r_lconst d_M_common_30 kl_0 ?_
    refine r_lcmp d_M_common_31 ?_
    refine r_if_eq d_M_common_32 (fun w9 => ?_) (fun w9 => ?_)
    · replace hw := hw.1 ((lg_cmp_eq _ _).mp w9)
      refine r_lload (j := 0) d_M_common_53 rfl ?_
      exact r_lreturn d_M_common_55.1 rfl (hQ _ _ hw)
    · replace hw := hw.2 (fun g9 => w9 ((lg_cmp_eq _ _).mpr g9))
      refine r_lload (j := 0) d_M_common_35 rfl ?_
      refine r_lload (j := 1) d_M_common_37 rfl ?_
      obtain ⟨q1, hw⟩ := hw
      refine r_lrem d_M_common_39 q1 ?_
      refine r_lstore (ls2 := [(8, al (jlrem v4 v6)), (4, al v4), (6, al v6)]) d_M_common_40 (nle rfl) rfl ?_
      refine r_lload (j := 2) d_M_common_42 rfl ?_
      refine r_lstore (ls2 := [(4, al v6), (8, al (jlrem v4 v6)), (6, al v6)]) d_M_common_44 (nle rfl) rfl ?_
      refine r_lload (j := 1) d_M_common_46 rfl ?_
      refine r_lstore (ls2 := [(6, al (jlrem v4 v6)), (4, al v6), (8, al (jlrem v4 v6))]) d_M_common_48 (nle rfl) rfl ?_
      refine r_goto d_M_common_50 ?_
      refine r_pick (ls2 := [(4, al v6), (6, al (jlrem v4 v6))]) [1, 0] rfl ?_
      exact ih _ _ _ hw
set_option maxRecDepth 100000 in
set_option maxHeartbeats 4000000 in
theorem s_M_common_B12 {d : Nat} {Q : Int64 → Hp → Prop} {QQ : Option AV → Hp → Prop} (hQ : ∀ r9 h9, Q r9 h9 → QQ (some (al r9)) h9) {v2 : Int64} {s0 : Int64} {h : Hp} (hw : w_M_common_B12 Q  v2 s0 h) : aW none m_M_common d 12 [(2, al v2)] [al s0] h 0 0 QQ := by
  unfold w_M_common_B12 at hw
  refine r_lstore (ls2 := [(4, al s0), (2, al v2)]) d_M_common_12 (nle rfl) rfl ?_
  refine r_lload_n (j := 1) d_M_common_14 rfl ?_
  refine r_lconst d_M_common_15 kl_0 ?_
  refine r_lcmp d_M_common_16 ?_
  refine r_if_ge d_M_common_17 (fun w9 => ?_) (fun w9 => ?_)
  · replace hw := hw.1 ((lg_cmp_ge _ _).mp w9)
    refine r_lload_n (j := 1) d_M_common_25 rfl ?_
    refine r_lstore (ls2 := [(6, al v2), (4, al s0), (2, al v2)]) d_M_common_26 (nle rfl) rfl ?_
    obtain ⟨n2, hw⟩ := hw
    refine r_pick (ls2 := [(4, al s0), (6, al v2)]) [1, 0] rfl ?_
    exact s_M_common_L28 hQ  n2 _ _ _ hw
  · replace hw := hw.2 (fun g9 => w9 ((lg_cmp_ge _ _).mpr g9))
    refine r_lload_n (j := 1) d_M_common_20 rfl ?_
    refine r_lneg d_M_common_21 ?_
    refine r_goto d_M_common_22 ?_
    refine r_lstore (ls2 := [(6, al (-v2)), (4, al s0), (2, al v2)]) d_M_common_26 (nle rfl) rfl ?_
    obtain ⟨n3, hw⟩ := hw
    refine r_pick (ls2 := [(4, al s0), (6, al (-v2))]) [1, 0] rfl ?_
    exact s_M_common_L28 hQ  n3 _ _ _ hw
set_option maxRecDepth 100000 in
set_option maxHeartbeats 4000000 in
theorem s_M_common {d : Nat} {v0 : Int64} {v2 : Int64} {h : Hp} {Q : Int64 → Hp → Prop} {QQ : Option AV → Hp → Prop} (hw : w_M_common v0 v2 h Q) (hQ : ∀ r9 h9, Q r9 h9 → QQ (some (al r9)) h9) : aCall m_M_common d [al v0, al v2] h 0 0 QQ := by
  refine aCall_in pl_M_common (nle rfl) ?_
  show aW none m_M_common d 0 [(0, al v0), (2, al v2)] [] h 0 0 QQ
  unfold w_M_common at hw
  refine r_lload_n (j := 0) d_M_common_0 rfl ?_
  refine r_lconst d_M_common_1 kl_0 ?_
  refine r_lcmp d_M_common_2 ?_
  refine r_if_ge d_M_common_3 (fun w9 => ?_) (fun w9 => ?_)
  · replace hw := hw.1 ((lg_cmp_ge _ _).mp w9)
    refine r_lload_n (j := 0) d_M_common_11 rfl ?_
    refine r_pick (ls2 := [(2, al v2)]) [1] rfl ?_
    exact s_M_common_B12 hQ  hw
  · replace hw := hw.2 (fun g9 => w9 ((lg_cmp_ge _ _).mpr g9))
    refine r_lload_n (j := 0) d_M_common_6 rfl ?_
    refine r_lneg d_M_common_7 ?_
    refine r_goto d_M_common_8 ?_
    refine r_pick (ls2 := [(2, al v2)]) [1] rfl ?_
    exact s_M_common_B12 hQ  hw
set_option maxRecDepth 100000 in
set_option maxHeartbeats 4000000 in
theorem s_M_pluses {d : Nat} (hd : 1 ≤ d) {v0 : Nat} {v1 : Int64} {v3 : Int64} {h : Hp} {Q : Hp → Prop} {QQ : Option AV → Hp → Prop} (hw : w_M_pluses v0 v1 v3 h Q) (hQ : ∀ h9, Q h9 → QQ none h9) : aCall m_M_pluses d [ar v0, al v1, al v3] h 0 0 QQ := by
  obtain ⟨d, rfl⟩ : ∃ d9, d = d9 + 1 := ⟨d - 1, by omega⟩
  refine aCall_in pl_M_pluses (nle rfl) ?_
  show aW none m_M_pluses (d + 1) 0 [(0, ar v0), (1, al v1), (3, al v3)] [] h 0 0 QQ
  unfold w_M_pluses at hw
  refine r_aload_n (j := 0) d_M_pluses_0 rfl ?_
  obtain ⟨q1, hw⟩ := hw
  refine r_getL d_M_pluses_1 ok_12 (nle rfl) (nle rfl) rfl lf_M_434 q1 ?_
  refine r_lload_n (j := 2) d_M_pluses_4 rfl ?_
  refine r_lmul d_M_pluses_5 ?_
  refine r_lload_n (j := 1) d_M_pluses_6 rfl ?_
  refine r_aload_n (j := 0) d_M_pluses_7 rfl ?_
  refine r_getL d_M_pluses_8 ok_12 (nle rfl) (nle rfl) rfl lf_M_437 q1 ?_
  refine r_lmul d_M_pluses_11 ?_
  refine r_ladd d_M_pluses_12 ?_
  refine r_lstore (ls2 := [(5, al (((gL h v0 52) * v3) + (v1 * (gL h v0 53)))), (0, ar v0), (1, al v1), (3, al v3)]) d_M_pluses_13 (nle rfl) rfl ?_
  refine r_aload_n (j := 1) d_M_pluses_15 rfl ?_
  refine r_getL d_M_pluses_16 ok_12 (nle rfl) (nle rfl) rfl lf_M_437 q1 ?_
  refine r_lload_n (j := 3) d_M_pluses_19 rfl ?_
  refine r_lmul d_M_pluses_20 ?_
  refine r_lstore (ls2 := [(7, al ((gL h v0 53) * v3)), (5, al (((gL h v0 52) * v3) + (v1 * (gL h v0 53)))), (0, ar v0), (1, al v1), (3, al v3)]) d_M_pluses_21 (nle rfl) rfl ?_
  refine r_lload (j := 1) d_M_pluses_23 rfl ?_
  refine r_lload (j := 0) d_M_pluses_25 rfl ?_
  refine r_callS (av := [al (((gL h v0 52) * v3) + (v1 * (gL h v0 53))), al ((gL h v0 53) * v3)]) (rest := []) d_M_pluses_27 mk_M_common ll_M_440 st_M_common rfl rfl (nle rfl) (s_M_common  hw (fun r3 h2 hw => ?_))
  show aW none m_M_pluses (d + 1) 30 [(7, al ((gL h v0 53) * v3)), (5, al (((gL h v0 52) * v3) + (v1 * (gL h v0 53)))), (0, ar v0), (1, al v1), (3, al v3)] [al r3] h2 0 0 QQ
  refine r_lstore (ls2 := [(9, al r3), (7, al ((gL h v0 53) * v3)), (5, al (((gL h v0 52) * v3) + (v1 * (gL h v0 53)))), (0, ar v0), (1, al v1), (3, al v3)]) d_M_pluses_30 (nle rfl) rfl ?_
  refine r_aload_n (j := 3) d_M_pluses_32 rfl ?_
  refine r_lload (j := 2) d_M_pluses_33 rfl ?_
  refine r_lload (j := 0) d_M_pluses_35 rfl ?_
  obtain ⟨q4, hw⟩ := hw
  refine r_ldiv d_M_pluses_37 q4 ?_
  obtain ⟨q5, hw⟩ := hw
  refine r_putL d_M_pluses_38 ok_12 (nle rfl) (nle rfl) rfl lf_M_434 rfl q5 ?_
  refine r_aload_n (j := 3) d_M_pluses_41 rfl ?_
  refine r_lload (j := 1) d_M_pluses_42 rfl ?_
  refine r_lload (j := 0) d_M_pluses_44 rfl ?_
  refine r_ldiv d_M_pluses_46 q4 ?_
  refine r_putL d_M_pluses_47 ok_12 (nle rfl) (nle rfl) rfl lf_M_437 rfl q5 ?_
  exact r_return d_M_pluses_50.1 rfl (hQ _ hw)
set_option maxRecDepth 100000 in
set_option maxHeartbeats 4000000 in
theorem s_M_swapsRows_L2 {d : Nat} {Q : Hp → Prop} {QQ : Option AV → Hp → Prop} (hQ : ∀ h9, Q h9 → QQ none h9) {v0 : Nat} {v1 : Int32} {v2 : Int32} : ∀ (n : Nat) (v3 : Int32) (h : Hp), w_M_swapsRows_L2 Q  v0 v1 v2 n v3 h → aW none m_M_swapsRows d 2 [(0, ar v0), (1, ai v1), (2, ai v2), (3, ai v3)] [] h 0 0 QQ := by
  intro n
  induction n with
  | zero => intro v3 h hw; exact hw.elim
  | succ n ih =>
    intro v3 h hw
    unfold w_M_swapsRows_L2 at hw
    refine r_iload_n (j := 3) d_M_swapsRows_2 rfl ?_
    refine r_iconst d_M_swapsRows_3 kc_5 ?_
    refine r_icmp_ge d_M_swapsRows_4 (fun w9 => ?_) (fun w9 => ?_)
    · replace hw := hw.1 w9
      exact r_return d_M_swapsRows_57.1 rfl (hQ _ hw)
    · replace hw := hw.2 w9
      refine r_aload_n (j := 0) d_M_swapsRows_7 rfl ?_
      obtain ⟨q1, hw⟩ := hw
      refine r_getR d_M_swapsRows_8 ok_12 (nle rfl) (nle rfl) rfl lf_M_74 q1 ?_
      refine r_iconst d_M_swapsRows_11 kc_5 ?_
      refine r_iload_n (j := 1) d_M_swapsRows_12 rfl ?_
      refine r_imul d_M_swapsRows_13 ?_
      refine r_iload_n (j := 3) d_M_swapsRows_14 rfl ?_
      refine r_iadd d_M_swapsRows_15 ?_
      obtain ⟨q2, hw⟩ := hw
      obtain ⟨q3, hw⟩ := hw
      refine r_lald d_M_swapsRows_16 q2 q3 ?_
      refine r_lstore (ls2 := [(4, al (gL h (gR h v0 45) (ix (((5 : Int32) * v1) + v3)))), (0, ar v0), (1, ai v1), (2, ai v2), (3, ai v3)]) d_M_swapsRows_17 (nle rfl) rfl ?_
      refine r_aload_n (j := 1) d_M_swapsRows_19 rfl ?_
      refine r_getR d_M_swapsRows_20 ok_12 (nle rfl) (nle rfl) rfl lf_M_74 q1 ?_
      refine r_iconst d_M_swapsRows_23 kc_5 ?_
      refine r_iload_n (j := 2) d_M_swapsRows_24 rfl ?_
      refine r_imul d_M_swapsRows_25 ?_
      refine r_iload_n (j := 4) d_M_swapsRows_26 rfl ?_
      refine r_iadd d_M_swapsRows_27 ?_
      refine r_aload_n (j := 1) d_M_swapsRows_28 rfl ?_
      refine r_getR d_M_swapsRows_29 ok_12 (nle rfl) (nle rfl) rfl lf_M_74 q1 ?_
      refine r_iconst d_M_swapsRows_32 kc_5 ?_
      refine r_iload_n (j := 3) d_M_swapsRows_33 rfl ?_
      refine r_imul d_M_swapsRows_34 ?_
      refine r_iload_n (j := 4) d_M_swapsRows_35 rfl ?_
      refine r_iadd d_M_swapsRows_36 ?_
      obtain ⟨q4, hw⟩ := hw
      refine r_lald d_M_swapsRows_37 q2 q4 ?_
      refine r_last d_M_swapsRows_38 q2 q3 ?_
      refine r_aload_n (j := 1) d_M_swapsRows_39 rfl ?_
      refine r_getR d_M_swapsRows_40 ok_12 (nle rfl) (nle rfl) rfl lf_M_74 q1 ?_
      refine r_iconst d_M_swapsRows_43 kc_5 ?_
      refine r_iload_n (j := 3) d_M_swapsRows_44 rfl ?_
      refine r_imul d_M_swapsRows_45 ?_
      refine r_iload_n (j := 4) d_M_swapsRows_46 rfl ?_
      refine r_iadd d_M_swapsRows_47 ?_
      refine r_lload (j := 0) d_M_swapsRows_48 rfl ?_
      refine r_last d_M_swapsRows_50 q2 q4 ?_
      refine r_iinc (j := 4) (ls2 := [(3, ai (v3 + (1 : Int32))), (4, al (gL h (gR h v0 45) (ix (((5 : Int32) * v1) + v3)))), (0, ar v0), (1, ai v1), (2, ai v2)]) d_M_swapsRows_51 rfl (congrArg (HAdd.hAdd v3) kc_1) (nle rfl) rfl ?_
      refine r_goto d_M_swapsRows_54 ?_
      refine r_pick (ls2 := [(0, ar v0), (1, ai v1), (2, ai v2), (3, ai (v3 + (1 : Int32)))]) [2, 3, 4, 0] rfl ?_
      exact ih _ _ hw
set_option maxRecDepth 100000 in
set_option maxHeartbeats 4000000 in
theorem s_M_swapsRows {d : Nat} {v0 : Nat} {v1 : Int32} {v2 : Int32} {h : Hp} {Q : Hp → Prop} {QQ : Option AV → Hp → Prop} (hw : w_M_swapsRows v0 v1 v2 h Q) (hQ : ∀ h9, Q h9 → QQ none h9) : aCall m_M_swapsRows d [ar v0, ai v1, ai v2] h 0 0 QQ := by
  refine aCall_in pl_M_swapsRows (nle rfl) ?_
  show aW none m_M_swapsRows d 0 [(0, ar v0), (1, ai v1), (2, ai v2)] [] h 0 0 QQ
  unfold w_M_swapsRows at hw
  refine r_iconst d_M_swapsRows_0 kc_0 ?_
  refine r_istore_n (ls2 := [(3, ai (0 : Int32)), (0, ar v0), (1, ai v1), (2, ai v2)]) d_M_swapsRows_1 (nle rfl) rfl ?_
  obtain ⟨n5, hw⟩ := hw
  refine r_pick (ls2 := [(0, ar v0), (1, ai v1), (2, ai v2), (3, ai (0 : Int32))]) [1, 2, 3, 0] rfl ?_
  exact s_M_swapsRows_L2 hQ  n5 _ _ hw
set_option maxRecDepth 100000 in
set_option maxHeartbeats 4000000 in
theorem s_M_clears_L27 {d : Nat} {Q : Hp → Prop} {QQ : Option AV → Hp → Prop} (hQ : ∀ h9, Q h9 → QQ none h9) {v0 : Nat} {v1 : Int32} {v2 : Int32} {v4 : Int64} {v6 : Int64} : ∀ (n : Nat) (v8 : Int32) (h : Hp), w_M_clears_L27 Q  v0 v1 v2 v4 v6 n v8 h → aW none m_M_clears d 27 [(0, ar v0), (1, ai v1), (2, ai v2), (4, al v4), (6, al v6), (8, ai v8)] [] h 0 0 QQ := by
  intro n
  induction n with
  | zero => intro v8 h hw; exact hw.elim
  | succ n ih =>
    intro v8 h hw
    unfold w_M_clears_L27 at hw
    refine r_iload (j := 5) d_M_clears_27 rfl ?_
    refine r_iconst d_M_clears_29 kc_5 ?_
    refine r_icmp_ge d_M_clears_30 (fun w9 => ?_) (fun w9 => ?_)
    · replace hw := hw.1 w9
      exact r_return d_M_clears_79.1 rfl (hQ _ hw)
    · replace hw := hw.2 w9
      refine r_aload_n (j := 0) d_M_clears_33 rfl ?_
      obtain ⟨q5, hw⟩ := hw
      refine r_getR d_M_clears_34 ok_12 (nle rfl) (nle rfl) rfl lf_M_74 q5 ?_
      refine r_iconst d_M_clears_37 kc_5 ?_
      refine r_iload_n (j := 1) d_M_clears_38 rfl ?_
      refine r_imul d_M_clears_39 ?_
      refine r_iload (j := 5) d_M_clears_40 rfl ?_
      refine r_iadd d_M_clears_42 ?_
      refine r_aload_n (j := 0) d_M_clears_43 rfl ?_
      refine r_getR d_M_clears_44 ok_12 (nle rfl) (nle rfl) rfl lf_M_74 q5 ?_
      refine r_iconst d_M_clears_47 kc_5 ?_
      refine r_iload_n (j := 1) d_M_clears_48 rfl ?_
      refine r_imul d_M_clears_49 ?_
      refine r_iload (j := 5) d_M_clears_50 rfl ?_
      refine r_iadd d_M_clears_52 ?_
      obtain ⟨q6, hw⟩ := hw
      obtain ⟨q7, hw⟩ := hw
      refine r_lald d_M_clears_53 q6 q7 ?_
      refine r_lload (j := 3) d_M_clears_54 rfl ?_
      refine r_lmul d_M_clears_56 ?_
      refine r_aload_n (j := 0) d_M_clears_57 rfl ?_
      refine r_getR d_M_clears_58 ok_12 (nle rfl) (nle rfl) rfl lf_M_74 q5 ?_
      refine r_iconst d_M_clears_61 kc_5 ?_
      refine r_iload_n (j := 2) d_M_clears_62 rfl ?_
      refine r_imul d_M_clears_63 ?_
      refine r_iload (j := 5) d_M_clears_64 rfl ?_
      refine r_iadd d_M_clears_66 ?_
      obtain ⟨q8, hw⟩ := hw
      refine r_lald d_M_clears_67 q6 q8 ?_
      refine r_lload (j := 4) d_M_clears_68 rfl ?_
      refine r_lmul d_M_clears_70 ?_
      refine r_lsub d_M_clears_71 ?_
      refine r_last d_M_clears_72 q6 q7 ?_
      refine r_iinc (j := 5) (ls2 := [(8, ai (v8 + (1 : Int32))), (0, ar v0), (1, ai v1), (2, ai v2), (4, al v4), (6, al v6)]) d_M_clears_73 rfl (congrArg (HAdd.hAdd v8) kc_1) (nle rfl) rfl ?_
      refine r_goto d_M_clears_76 ?_
      refine r_pick (ls2 := [(0, ar v0), (1, ai v1), (2, ai v2), (4, al v4), (6, al v6), (8, ai (v8 + (1 : Int32)))]) [1, 2, 3, 4, 5, 0] rfl ?_
      exact ih _ _ hw
set_option maxRecDepth 100000 in
set_option maxHeartbeats 4000000 in
theorem s_M_clears {d : Nat} {v0 : Nat} {v1 : Int32} {v2 : Int32} {v3 : Int32} {h : Hp} {Q : Hp → Prop} {QQ : Option AV → Hp → Prop} (hw : w_M_clears v0 v1 v2 v3 h Q) (hQ : ∀ h9, Q h9 → QQ none h9) : aCall m_M_clears d [ar v0, ai v1, ai v2, ai v3] h 0 0 QQ := by
  refine aCall_in pl_M_clears (nle rfl) ?_
  show aW none m_M_clears d 0 [(0, ar v0), (1, ai v1), (2, ai v2), (3, ai v3)] [] h 0 0 QQ
  unfold w_M_clears at hw
  refine r_aload_n (j := 0) d_M_clears_0 rfl ?_
  obtain ⟨q1, hw⟩ := hw
  refine r_getR d_M_clears_1 ok_12 (nle rfl) (nle rfl) rfl lf_M_74 q1 ?_
  refine r_iconst d_M_clears_4 kc_5 ?_
  refine r_iload_n (j := 2) d_M_clears_5 rfl ?_
  refine r_imul d_M_clears_6 ?_
  refine r_iload_n (j := 3) d_M_clears_7 rfl ?_
  refine r_iadd d_M_clears_8 ?_
  obtain ⟨q2, hw⟩ := hw
  obtain ⟨q3, hw⟩ := hw
  refine r_lald d_M_clears_9 q2 q3 ?_
  refine r_lstore (ls2 := [(4, al (gL h (gR h v0 45) (ix (((5 : Int32) * v2) + v3)))), (0, ar v0), (1, ai v1), (2, ai v2), (3, ai v3)]) d_M_clears_10 (nle rfl) rfl ?_
  refine r_aload_n (j := 1) d_M_clears_12 rfl ?_
  refine r_getR d_M_clears_13 ok_12 (nle rfl) (nle rfl) rfl lf_M_74 q1 ?_
  refine r_iconst d_M_clears_16 kc_5 ?_
  refine r_iload_n (j := 2) d_M_clears_17 rfl ?_
  refine r_imul d_M_clears_18 ?_
  refine r_iload_n (j := 4) d_M_clears_19 rfl ?_
  refine r_iadd d_M_clears_20 ?_
  obtain ⟨q4, hw⟩ := hw
  refine r_lald d_M_clears_21 q2 q4 ?_
  refine r_lstore (ls2 := [(6, al (gL h (gR h v0 45) (ix (((5 : Int32) * v1) + v3)))), (4, al (gL h (gR h v0 45) (ix (((5 : Int32) * v2) + v3)))), (0, ar v0), (1, ai v1), (2, ai v2), (3, ai v3)]) d_M_clears_22 (nle rfl) rfl ?_
  refine r_iconst d_M_clears_24 kc_0 ?_
  refine r_istore (ls2 := [(8, ai (0 : Int32)), (6, al (gL h (gR h v0 45) (ix (((5 : Int32) * v1) + v3)))), (4, al (gL h (gR h v0 45) (ix (((5 : Int32) * v2) + v3)))), (0, ar v0), (1, ai v1), (2, ai v2), (3, ai v3)]) d_M_clears_25 (nle rfl) rfl ?_
  obtain ⟨n9, hw⟩ := hw
  refine r_pick (ls2 := [(0, ar v0), (1, ai v1), (2, ai v2), (4, al (gL h (gR h v0 45) (ix (((5 : Int32) * v2) + v3)))), (6, al (gL h (gR h v0 45) (ix (((5 : Int32) * v1) + v3)))), (8, ai (0 : Int32))]) [3, 4, 5, 2, 1, 0] rfl ?_
  exact s_M_clears_L27 hQ  n9 _ _ hw
set_option maxRecDepth 100000 in
set_option maxHeartbeats 4000000 in
theorem s_M_comesBy_B393 {d : Nat} (hd : 1 ≤ d + 1) {Q : Bool → Hp → Prop} {QQ : Option AV → Hp → Prop} (hQ : ∀ r9 h9, Q r9 h9 → QQ (some (ai (b2i r9))) h9) {k294 : Int32 → Hp → Prop} (hk294 : ∀ v3 h9, k294 v3 h9 → aW none m_M_comesBy (d + 1) 294 [(0, ar v0), (2, ai v2), (3, ai v3)] [] h9 0 0 QQ) {v0 : Nat} {v2 : Int32} {v3 : Int32} {v6 : Int64} {v8 : Int64} {s0 : Nat} {s1 : Int32} {s2 : Int64} {h : Hp} (hw : w_M_comesBy_B393 Q k294 v0 v2 v3 v6 v8 s0 s1 s2 h) : aW none m_M_comesBy (d + 1) 393 [(0, ar v0), (2, ai v2), (3, ai v3), (6, al v6), (8, al v8)] [ar s0, ai s1, al s2] h 0 0 QQ := by
  unfold w_M_comesBy_B393 at hw
  refine r_lload (j := 4) d_M_comesBy_393 rfl ?_
  obtain ⟨q13, hw⟩ := hw
  refine r_ldiv d_M_comesBy_395 q13 ?_
  obtain ⟨q14, hw⟩ := hw
  obtain ⟨q15, hw⟩ := hw
  refine r_last d_M_comesBy_396 q14 q15 ?_
  refine r_aload_n (j := 0) d_M_comesBy_397 rfl ?_
  obtain ⟨q16, hw⟩ := hw
  refine r_getR d_M_comesBy_398 ok_12 (nle rfl) (nle rfl) rfl lf_M_80 q16 ?_
  refine r_aload_n (j := 0) d_M_comesBy_401 rfl ?_
  refine r_getR d_M_comesBy_402 ok_12 (nle rfl) (nle rfl) rfl lf_M_89 q16 ?_
  refine r_iload_n (j := 2) d_M_comesBy_405 rfl ?_
  obtain ⟨q17, hw⟩ := hw
  obtain ⟨q18, hw⟩ := hw
  refine r_iald d_M_comesBy_406 q17 q18 ?_
  refine r_lload (j := 3) d_M_comesBy_407 rfl ?_
  refine r_lconst d_M_comesBy_409 kl_0 ?_
  refine r_lcmp d_M_comesBy_410 ?_
  refine r_if_ge d_M_comesBy_411 (fun w9 => ?_) (fun w9 => ?_)
  · replace hw := hw.1 ((lg_cmp_ge _ _).mp w9)
    refine r_lload (j := 3) d_M_comesBy_420 rfl ?_
    refine r_lload (j := 4) d_M_comesBy_422 rfl ?_
    refine r_ldiv d_M_comesBy_424 q13 ?_
    obtain ⟨q19, hw⟩ := hw
    obtain ⟨q20, hw⟩ := hw
    refine r_last d_M_comesBy_425 q19 q20 ?_
    refine r_iinc (j := 2) (ls2 := [(3, ai (v3 + (1 : Int32))), (0, ar v0), (2, ai v2), (6, al v6), (8, al v8)]) d_M_comesBy_426 rfl (congrArg (HAdd.hAdd v3) kc_1) (nle rfl) rfl ?_
    refine r_goto d_M_comesBy_429 ?_
    refine r_pick (ls2 := [(0, ar v0), (2, ai v2), (3, ai (v3 + (1 : Int32)))]) [1, 2, 0] rfl ?_
    exact hk294 _ _ hw
  · replace hw := hw.2 (fun g9 => w9 ((lg_cmp_ge _ _).mpr g9))
    refine r_lload (j := 3) d_M_comesBy_414 rfl ?_
    refine r_lneg d_M_comesBy_416 ?_
    refine r_goto d_M_comesBy_417 ?_
    refine r_lload (j := 4) d_M_comesBy_422 rfl ?_
    refine r_ldiv d_M_comesBy_424 q13 ?_
    obtain ⟨q21, hw⟩ := hw
    obtain ⟨q22, hw⟩ := hw
    refine r_last d_M_comesBy_425 q21 q22 ?_
    refine r_iinc (j := 2) (ls2 := [(3, ai (v3 + (1 : Int32))), (0, ar v0), (2, ai v2), (6, al v6), (8, al v8)]) d_M_comesBy_426 rfl (congrArg (HAdd.hAdd v3) kc_1) (nle rfl) rfl ?_
    refine r_goto d_M_comesBy_429 ?_
    refine r_pick (ls2 := [(0, ar v0), (2, ai v2), (3, ai (v3 + (1 : Int32)))]) [1, 2, 0] rfl ?_
    exact hk294 _ _ hw
set_option maxRecDepth 100000 in
set_option maxHeartbeats 4000000 in
theorem s_M_comesBy_B354 {d : Nat} (hd : 1 ≤ d + 1) {Q : Bool → Hp → Prop} {QQ : Option AV → Hp → Prop} (hQ : ∀ r9 h9, Q r9 h9 → QQ (some (ai (b2i r9))) h9) {k294 : Int32 → Hp → Prop} (hk294 : ∀ v3 h9, k294 v3 h9 → aW none m_M_comesBy (d + 1) 294 [(0, ar v0), (2, ai v2), (3, ai v3)] [] h9 0 0 QQ) {v0 : Nat} {v2 : Int32} {v3 : Int32} {v4 : Int64} {v6 : Int64} {s0 : Int32} {s1 : Int32} {h : Hp} (hw : w_M_comesBy_B354 Q k294 v0 v2 v3 v4 v6 s0 s1 h) : aW none m_M_comesBy (d + 1) 354 [(0, ar v0), (2, ai v2), (3, ai v3), (4, al v4), (6, al v6)] [ai s0, ai s1] h 0 0 QQ := by
  unfold w_M_comesBy_B354 at hw
  refine r_icmp_eq d_M_comesBy_354 (fun w9 => ?_) (fun w9 => ?_)
  · replace hw := hw.1 w9
    refine r_lload (j := 3) d_M_comesBy_359 rfl ?_
    refine r_lload (j := 4) d_M_comesBy_361 rfl ?_
    refine r_callS (av := [al v4, al v6]) (rest := []) d_M_comesBy_363 mk_M_common ll_M_440 st_M_common rfl rfl (nle rfl) (s_M_common  hw (fun r9 h8 hw => ?_))
    show aW none m_M_comesBy (d + 1) 366 [(0, ar v0), (2, ai v2), (3, ai v3), (4, al v4), (6, al v6)] [al r9] h8 0 0 QQ
    refine r_lstore (ls2 := [(8, al r9), (0, ar v0), (2, ai v2), (3, ai v3), (4, al v4), (6, al v6)]) d_M_comesBy_366 (nle rfl) rfl ?_
    refine r_aload_n (j := 1) d_M_comesBy_368 rfl ?_
    obtain ⟨q10, hw⟩ := hw
    refine r_getR d_M_comesBy_369 ok_12 (nle rfl) (nle rfl) rfl lf_M_77 q10 ?_
    refine r_aload_n (j := 1) d_M_comesBy_372 rfl ?_
    refine r_getR d_M_comesBy_373 ok_12 (nle rfl) (nle rfl) rfl lf_M_89 q10 ?_
    refine r_iload_n (j := 3) d_M_comesBy_376 rfl ?_
    obtain ⟨q11, hw⟩ := hw
    obtain ⟨q12, hw⟩ := hw
    refine r_iald d_M_comesBy_377 q11 q12 ?_
    refine r_lload (j := 4) d_M_comesBy_378 rfl ?_
    refine r_lconst d_M_comesBy_380 kl_0 ?_
    refine r_lcmp d_M_comesBy_381 ?_
    refine r_if_ge d_M_comesBy_382 (fun w9 => ?_) (fun w9 => ?_)
    · replace hw := hw.1 ((lg_cmp_ge _ _).mp w9)
      refine r_lload (j := 4) d_M_comesBy_391 rfl ?_
      refine r_pick (ls2 := [(0, ar v0), (2, ai v2), (3, ai v3), (6, al v6), (8, al r9)]) [1, 2, 3, 5, 0] rfl ?_
      exact s_M_comesBy_B393 hd hQ hk294 hw
    · replace hw := hw.2 (fun g9 => w9 ((lg_cmp_ge _ _).mpr g9))
      refine r_lload (j := 4) d_M_comesBy_385 rfl ?_
      refine r_lneg d_M_comesBy_387 ?_
      refine r_goto d_M_comesBy_388 ?_
      refine r_pick (ls2 := [(0, ar v0), (2, ai v2), (3, ai v3), (6, al v6), (8, al r9)]) [1, 2, 3, 5, 0] rfl ?_
      exact s_M_comesBy_B393 hd hQ hk294 hw
  · replace hw := hw.2 w9
    refine r_iconst d_M_comesBy_357 kc_0 ?_
    exact r_zreturn d_M_comesBy_358.1 rfl (Or.inl rfl) (hQ _ _ hw)
set_option maxRecDepth 100000 in
set_option maxHeartbeats 4000000 in
theorem s_M_comesBy_B342 {d : Nat} (hd : 1 ≤ d + 1) {Q : Bool → Hp → Prop} {QQ : Option AV → Hp → Prop} (hQ : ∀ r9 h9, Q r9 h9 → QQ (some (ai (b2i r9))) h9) {k294 : Int32 → Hp → Prop} (hk294 : ∀ v3 h9, k294 v3 h9 → aW none m_M_comesBy (d + 1) 294 [(0, ar v0), (2, ai v2), (3, ai v3)] [] h9 0 0 QQ) {v0 : Nat} {v2 : Int32} {v3 : Int32} {v4 : Int64} {v6 : Int64} {s0 : Int32} {h : Hp} (hw : w_M_comesBy_B342 Q k294 v0 v2 v3 v4 v6 s0 h) : aW none m_M_comesBy (d + 1) 342 [(0, ar v0), (2, ai v2), (3, ai v3), (4, al v4), (6, al v6)] [ai s0] h 0 0 QQ := by
  unfold w_M_comesBy_B342 at hw
  refine r_lload (j := 4) d_M_comesBy_342 rfl ?_
  refine r_lconst d_M_comesBy_344 kl_0 ?_
  refine r_lcmp d_M_comesBy_345 ?_
  refine r_if_le d_M_comesBy_346 (fun w9 => ?_) (fun w9 => ?_)
  · replace hw := hw.1 ((lg_cmp_le _ _).mp w9)
    refine r_iconst d_M_comesBy_353 kc_0 ?_
    exact s_M_comesBy_B354 hd hQ hk294 hw
  · replace hw := hw.2 (fun g9 => w9 ((lg_cmp_le _ _).mpr g9))
    refine r_iconst d_M_comesBy_349 kc_1 ?_
    refine r_goto d_M_comesBy_350 ?_
    exact s_M_comesBy_B354 hd hQ hk294 hw
set_option maxRecDepth 100000 in
set_option maxHeartbeats 4000000 in
theorem s_M_comesBy_L294 {d : Nat} (hd : 1 ≤ d + 1) {Q : Bool → Hp → Prop} {QQ : Option AV → Hp → Prop} (hQ : ∀ r9 h9, Q r9 h9 → QQ (some (ai (b2i r9))) h9) {v0 : Nat} {v2 : Int32} : ∀ (n : Nat) (v3 : Int32) (h : Hp), w_M_comesBy_L294 Q  v0 v2 n v3 h → aW none m_M_comesBy (d + 1) 294 [(0, ar v0), (2, ai v2), (3, ai v3)] [] h 0 0 QQ := by
  intro n
  induction n with
  | zero => intro v3 h hw; exact hw.elim
  | succ n ih =>
    intro v3 h hw
    unfold w_M_comesBy_L294 at hw
    refine r_iload_n (j := 2) d_M_comesBy_294 rfl ?_
    refine r_iload_n (j := 1) d_M_comesBy_295 rfl ?_
    refine r_icmp_ge d_M_comesBy_296 (fun w9 => ?_) (fun w9 => ?_)
    · replace hw := hw.1 w9
      refine r_iconst d_M_comesBy_432 kc_1 ?_
      exact r_zreturn d_M_comesBy_433.1 rfl (Or.inr rfl) (hQ _ _ hw)
    · replace hw := hw.2 w9
      refine r_aload_n (j := 0) d_M_comesBy_299 rfl ?_
      obtain ⟨q4, hw⟩ := hw
      refine r_getR d_M_comesBy_300 ok_12 (nle rfl) (nle rfl) rfl lf_M_74 q4 ?_
      refine r_iconst d_M_comesBy_303 kc_5 ?_
      refine r_iload_n (j := 2) d_M_comesBy_304 rfl ?_
      refine r_imul d_M_comesBy_305 ?_
      refine r_iconst d_M_comesBy_306 kc_4 ?_
      refine r_iadd d_M_comesBy_307 ?_
      obtain ⟨q5, hw⟩ := hw
      obtain ⟨q6, hw⟩ := hw
      refine r_lald d_M_comesBy_308 q5 q6 ?_
      refine r_lstore (ls2 := [(4, al (gL h (gR h v0 45) (ix (((5 : Int32) * v3) + (4 : Int32))))), (0, ar v0), (2, ai v2), (3, ai v3)]) d_M_comesBy_309 (nle rfl) rfl ?_
      refine r_aload_n (j := 1) d_M_comesBy_311 rfl ?_
      refine r_getR d_M_comesBy_312 ok_12 (nle rfl) (nle rfl) rfl lf_M_74 q4 ?_
      refine r_iconst d_M_comesBy_315 kc_5 ?_
      refine r_iload_n (j := 3) d_M_comesBy_316 rfl ?_
      refine r_imul d_M_comesBy_317 ?_
      refine r_iload_n (j := 3) d_M_comesBy_318 rfl ?_
      refine r_iadd d_M_comesBy_319 ?_
      obtain ⟨q7, hw⟩ := hw
      refine r_lald d_M_comesBy_320 q5 q7 ?_
      refine r_lstore (ls2 := [(6, al (gL h (gR h v0 45) (ix (((5 : Int32) * v3) + v3)))), (4, al (gL h (gR h v0 45) (ix (((5 : Int32) * v3) + (4 : Int32))))), (0, ar v0), (2, ai v2), (3, ai v3)]) d_M_comesBy_321 (nle rfl) rfl ?_
      refine r_lload (j := 1) d_M_comesBy_323 rfl ?_
      refine r_lconst d_M_comesBy_325 kl_0 ?_
      refine r_lcmp d_M_comesBy_326 ?_
      refine r_if_eq d_M_comesBy_327 (fun w9 => ?_) (fun w9 => ?_)
      · replace hw := hw.1 ((lg_cmp_eq _ _).mp w9)
        refine r_iconst d_M_comesBy_357 kc_0 ?_
        exact r_zreturn d_M_comesBy_358.1 rfl (Or.inl rfl) (hQ _ _ hw)
      · replace hw := hw.2 (fun g9 => w9 ((lg_cmp_eq _ _).mpr g9))
        refine r_lload (j := 1) d_M_comesBy_330 rfl ?_
        refine r_lconst d_M_comesBy_332 kl_0 ?_
        refine r_lcmp d_M_comesBy_333 ?_
        refine r_if_le d_M_comesBy_334 (fun w9 => ?_) (fun w9 => ?_)
        · replace hw := hw.1 ((lg_cmp_le _ _).mp w9)
          refine r_iconst d_M_comesBy_341 kc_0 ?_
          refine r_pick (ls2 := [(0, ar v0), (2, ai v2), (3, ai v3), (4, al (gL h (gR h v0 45) (ix (((5 : Int32) * v3) + (4 : Int32))))), (6, al (gL h (gR h v0 45) (ix (((5 : Int32) * v3) + v3))))]) [2, 3, 4, 1, 0] rfl ?_
          exact s_M_comesBy_B342 hd hQ ih hw
        · replace hw := hw.2 (fun g9 => w9 ((lg_cmp_le _ _).mpr g9))
          refine r_iconst d_M_comesBy_337 kc_1 ?_
          refine r_goto d_M_comesBy_338 ?_
          refine r_pick (ls2 := [(0, ar v0), (2, ai v2), (3, ai v3), (4, al (gL h (gR h v0 45) (ix (((5 : Int32) * v3) + (4 : Int32))))), (6, al (gL h (gR h v0 45) (ix (((5 : Int32) * v3) + v3))))]) [2, 3, 4, 1, 0] rfl ?_
          exact s_M_comesBy_B342 hd hQ ih hw
set_option maxRecDepth 100000 in
set_option maxHeartbeats 4000000 in
theorem s_M_comesBy_L261 {d : Nat} (hd : 1 ≤ d + 1) {Q : Bool → Hp → Prop} {QQ : Option AV → Hp → Prop} (hQ : ∀ r9 h9, Q r9 h9 → QQ (some (ai (b2i r9))) h9) {v0 : Nat} {v2 : Int32} : ∀ (n : Nat) (v3 : Int32) (h : Hp), w_M_comesBy_L261 Q  v0 v2 n v3 h → aW none m_M_comesBy (d + 1) 261 [(0, ar v0), (2, ai v2), (3, ai v3)] [] h 0 0 QQ := by
  intro n
  induction n with
  | zero => intro v3 h hw; exact hw.elim
  | succ n ih =>
    intro v3 h hw
    unfold w_M_comesBy_L261 at hw
    refine r_iload_n (j := 2) d_M_comesBy_261 rfl ?_
    refine r_aload_n (j := 0) d_M_comesBy_262 rfl ?_
    obtain ⟨q3, hw⟩ := hw
    refine r_getI d_M_comesBy_263 ok_12 (nle rfl) (nle rfl) rfl lf_M_244 q3 ?_
    refine r_icmp_ge d_M_comesBy_266 (fun w9 => ?_) (fun w9 => ?_)
    · replace hw := hw.1 w9
      refine r_iconst d_M_comesBy_292 kc_0 ?_
      refine r_istore_n (ls2 := [(3, ai (0 : Int32)), (0, ar v0), (2, ai v2)]) d_M_comesBy_293 (nle rfl) rfl ?_
      obtain ⟨n23, hw⟩ := hw
      refine r_pick (ls2 := [(0, ar v0), (2, ai v2), (3, ai (0 : Int32))]) [1, 2, 0] rfl ?_
      exact s_M_comesBy_L294 hd hQ  n23 _ _ hw
    · replace hw := hw.2 w9
      refine r_aload_n (j := 0) d_M_comesBy_269 rfl ?_
      refine r_getR d_M_comesBy_270 ok_12 (nle rfl) (nle rfl) rfl lf_M_74 q3 ?_
      refine r_iconst d_M_comesBy_273 kc_5 ?_
      refine r_iload_n (j := 2) d_M_comesBy_274 rfl ?_
      refine r_imul d_M_comesBy_275 ?_
      refine r_iconst d_M_comesBy_276 kc_4 ?_
      refine r_iadd d_M_comesBy_277 ?_
      obtain ⟨q24, hw⟩ := hw
      obtain ⟨q25, hw⟩ := hw
      refine r_lald d_M_comesBy_278 q24 q25 ?_
      refine r_lconst d_M_comesBy_279 kl_0 ?_
      refine r_lcmp d_M_comesBy_280 ?_
      refine r_if_eq d_M_comesBy_281 (fun w9 => ?_) (fun w9 => ?_)
      · replace hw := hw.1 ((lg_cmp_eq _ _).mp w9)
        refine r_iinc (j := 2) (ls2 := [(3, ai (v3 + (1 : Int32))), (0, ar v0), (2, ai v2)]) d_M_comesBy_286 rfl (congrArg (HAdd.hAdd v3) kc_1) (nle rfl) rfl ?_
        refine r_goto d_M_comesBy_289 ?_
        refine r_pick (ls2 := [(0, ar v0), (2, ai v2), (3, ai (v3 + (1 : Int32)))]) [1, 2, 0] rfl ?_
        exact ih _ _ hw
      · replace hw := hw.2 (fun g9 => w9 ((lg_cmp_eq _ _).mpr g9))
        refine r_iconst d_M_comesBy_284 kc_0 ?_
        exact r_zreturn d_M_comesBy_285.1 rfl (Or.inl rfl) (hQ _ _ hw)
set_option maxRecDepth 100000 in
set_option maxHeartbeats 4000000 in
theorem s_M_comesBy_L224 {d : Nat} (hd : 1 ≤ d + 1) {Q : Bool → Hp → Prop} {QQ : Option AV → Hp → Prop} (hQ : ∀ r9 h9, Q r9 h9 → QQ (some (ai (b2i r9))) h9) {k164 : Int32 → Hp → Prop} (hk164 : ∀ v3 h9, k164 v3 h9 → aW none m_M_comesBy (d + 1) 164 [(0, ar v0), (2, ai v2), (3, ai v3)] [] h9 0 0 QQ) {v0 : Nat} {v2 : Int32} {v3 : Int32} : ∀ (n : Nat) (v5 : Int32) (h : Hp), w_M_comesBy_L224 Q k164 v0 v2 v3 n v5 h → aW none m_M_comesBy (d + 1) 224 [(0, ar v0), (2, ai v2), (3, ai v3), (5, ai v5)] [] h 0 0 QQ := by
  intro n
  induction n with
  | zero => intro v5 h hw; exact hw.elim
  | succ n ih =>
    intro v5 h hw
    unfold w_M_comesBy_L224 at hw
    refine r_iload (j := 3) d_M_comesBy_224 rfl ?_
    refine r_aload_n (j := 0) d_M_comesBy_226 rfl ?_
    obtain ⟨q30, hw⟩ := hw
    refine r_getI d_M_comesBy_227 ok_12 (nle rfl) (nle rfl) rfl lf_M_244 q30 ?_
    refine r_icmp_ge d_M_comesBy_230 (fun w9 => ?_) (fun w9 => ?_)
    · replace hw := hw.1 w9
      refine r_iinc (j := 2) (ls2 := [(3, ai (v3 + (1 : Int32))), (0, ar v0), (2, ai v2), (5, ai v5)]) d_M_comesBy_253 rfl (congrArg (HAdd.hAdd v3) kc_1) (nle rfl) rfl ?_
      refine r_goto d_M_comesBy_256 ?_
      refine r_pick (ls2 := [(0, ar v0), (2, ai v2), (3, ai (v3 + (1 : Int32)))]) [1, 2, 0] rfl ?_
      exact hk164 _ _ hw
    · replace hw := hw.2 w9
      refine r_iload (j := 3) d_M_comesBy_233 rfl ?_
      refine r_iload_n (j := 2) d_M_comesBy_235 rfl ?_
      refine r_icmp_eq d_M_comesBy_236 (fun w9 => ?_) (fun w9 => ?_)
      · replace hw := hw.1 w9
        refine r_iinc (j := 3) (ls2 := [(5, ai (v5 + (1 : Int32))), (0, ar v0), (2, ai v2), (3, ai v3)]) d_M_comesBy_247 rfl (congrArg (HAdd.hAdd v5) kc_1) (nle rfl) rfl ?_
        refine r_goto d_M_comesBy_250 ?_
        refine r_pick (ls2 := [(0, ar v0), (2, ai v2), (3, ai v3), (5, ai (v5 + (1 : Int32)))]) [1, 2, 3, 0] rfl ?_
        exact ih _ _ hw
      · replace hw := hw.2 w9
        refine r_aload_n (j := 0) d_M_comesBy_239 rfl ?_
        refine r_iload (j := 3) d_M_comesBy_240 rfl ?_
        refine r_iload_n (j := 2) d_M_comesBy_242 rfl ?_
        refine r_iload_n (j := 2) d_M_comesBy_243 rfl ?_
        refine r_callV (av := [ai v5, ai v3, ai v3]) (rest := []) (ci := 12) d_M_comesBy_244 mk_M_clears ll_M_447 im_M_clears se_M_clears rfl (nle rfl) rfl rfl (nle rfl) q30 (s_M_clears  hw (fun h31 hw => ?_))
        show aW none m_M_comesBy (d + 1) 247 [(0, ar v0), (2, ai v2), (3, ai v3), (5, ai v5)] [] h31 0 0 QQ
        refine r_iinc (j := 3) (ls2 := [(5, ai (v5 + (1 : Int32))), (0, ar v0), (2, ai v2), (3, ai v3)]) d_M_comesBy_247 rfl (congrArg (HAdd.hAdd v5) kc_1) (nle rfl) rfl ?_
        refine r_goto d_M_comesBy_250 ?_
        refine r_pick (ls2 := [(0, ar v0), (2, ai v2), (3, ai v3), (5, ai (v5 + (1 : Int32)))]) [1, 2, 3, 0] rfl ?_
        exact ih _ _ hw
set_option maxRecDepth 100000 in
set_option maxHeartbeats 4000000 in
theorem s_M_comesBy_B203 {d : Nat} (hd : 1 ≤ d + 1) {Q : Bool → Hp → Prop} {QQ : Option AV → Hp → Prop} (hQ : ∀ r9 h9, Q r9 h9 → QQ (some (ai (b2i r9))) h9) {k164 : Int32 → Hp → Prop} (hk164 : ∀ v3 h9, k164 v3 h9 → aW none m_M_comesBy (d + 1) 164 [(0, ar v0), (2, ai v2), (3, ai v3)] [] h9 0 0 QQ) {v0 : Nat} {v2 : Int32} {v3 : Int32} {v4 : Int32} {h : Hp} (hw : w_M_comesBy_B203 Q k164 v0 v2 v3 v4 h) : aW none m_M_comesBy (d + 1) 203 [(0, ar v0), (2, ai v2), (3, ai v3), (4, ai v4)] [] h 0 0 QQ := by
  unfold w_M_comesBy_B203 at hw
  refine r_iload (j := 3) d_M_comesBy_203 rfl ?_
  refine r_aload_n (j := 0) d_M_comesBy_205 rfl ?_
  obtain ⟨q28, hw⟩ := hw
  refine r_getI d_M_comesBy_206 ok_12 (nle rfl) (nle rfl) rfl lf_M_244 q28 ?_
  refine r_icmp_ne d_M_comesBy_209 (fun w9 => ?_) (fun w9 => ?_)
  · replace hw := hw.2 w9
    refine r_aload_n (j := 0) d_M_comesBy_214 rfl ?_
    refine r_iload_n (j := 2) d_M_comesBy_215 rfl ?_
    refine r_iload (j := 3) d_M_comesBy_216 rfl ?_
    refine r_callV (av := [ai v3, ai v4]) (rest := []) (ci := 12) d_M_comesBy_218 mk_M_swapsRows ll_M_444 im_M_swapsRows se_M_swapsRows rfl (nle rfl) rfl rfl (nle rfl) q28 (s_M_swapsRows  hw (fun h29 hw => ?_))
    show aW none m_M_comesBy (d + 1) 221 [(0, ar v0), (2, ai v2), (3, ai v3), (4, ai v4)] [] h29 0 0 QQ
    refine r_iconst d_M_comesBy_221 kc_0 ?_
    refine r_istore (ls2 := [(5, ai (0 : Int32)), (0, ar v0), (2, ai v2), (3, ai v3), (4, ai v4)]) d_M_comesBy_222 (nle rfl) rfl ?_
    obtain ⟨n32, hw⟩ := hw
    refine r_pick (ls2 := [(0, ar v0), (2, ai v2), (3, ai v3), (5, ai (0 : Int32))]) [1, 2, 3, 0] rfl ?_
    exact s_M_comesBy_L224 hd hQ hk164 n32 _ _ hw
  · replace hw := hw.1 w9
    refine r_iconst d_M_comesBy_212 kc_0 ?_
    exact r_zreturn d_M_comesBy_213.1 rfl (Or.inl rfl) (hQ _ _ hw)
set_option maxRecDepth 100000 in
set_option maxHeartbeats 4000000 in
theorem s_M_comesBy_L172 {d : Nat} (hd : 1 ≤ d + 1) {Q : Bool → Hp → Prop} {QQ : Option AV → Hp → Prop} (hQ : ∀ r9 h9, Q r9 h9 → QQ (some (ai (b2i r9))) h9) {k164 : Int32 → Hp → Prop} (hk164 : ∀ v3 h9, k164 v3 h9 → aW none m_M_comesBy (d + 1) 164 [(0, ar v0), (2, ai v2), (3, ai v3)] [] h9 0 0 QQ) {v0 : Nat} {v2 : Int32} {v3 : Int32} : ∀ (n : Nat) (v4 : Int32) (h : Hp), w_M_comesBy_L172 Q k164 v0 v2 v3 n v4 h → aW none m_M_comesBy (d + 1) 172 [(0, ar v0), (2, ai v2), (3, ai v3), (4, ai v4)] [] h 0 0 QQ := by
  intro n
  induction n with
  | zero => intro v4 h hw; exact hw.elim
  | succ n ih =>
    intro v4 h hw
    unfold w_M_comesBy_L172 at hw
    refine r_iload (j := 3) d_M_comesBy_172 rfl ?_
    refine r_aload_n (j := 0) d_M_comesBy_174 rfl ?_
    obtain ⟨q27, hw⟩ := hw
    refine r_getI d_M_comesBy_175 ok_12 (nle rfl) (nle rfl) rfl lf_M_244 q27 ?_
    refine r_icmp_ge d_M_comesBy_178 (fun w9 => ?_) (fun w9 => ?_)
    · replace hw := hw.1 w9
      exact s_M_comesBy_B203 hd hQ hk164 hw
    · replace hw := hw.2 w9
      refine r_aload_n (j := 0) d_M_comesBy_181 rfl ?_
      refine r_getR d_M_comesBy_182 ok_12 (nle rfl) (nle rfl) rfl lf_M_74 q27 ?_
      refine r_iconst d_M_comesBy_185 kc_5 ?_
      refine r_iload (j := 3) d_M_comesBy_186 rfl ?_
      refine r_imul d_M_comesBy_188 ?_
      refine r_iload_n (j := 2) d_M_comesBy_189 rfl ?_
      refine r_iadd d_M_comesBy_190 ?_
      obtain ⟨q33, hw⟩ := hw
      obtain ⟨q34, hw⟩ := hw
      refine r_lald d_M_comesBy_191 q33 q34 ?_
      refine r_lconst d_M_comesBy_192 kl_0 ?_
      refine r_lcmp d_M_comesBy_193 ?_
      refine r_if_ne d_M_comesBy_194 (fun w9 => ?_) (fun w9 => ?_)
      · replace hw := hw.2 (fun g9 => w9 ((lg_cmp_eq _ _).mpr g9))
        exact s_M_comesBy_B203 hd hQ hk164 hw
      · replace hw := hw.1 ((lg_cmp_eq _ _).mp w9)
        refine r_iinc (j := 3) (ls2 := [(4, ai (v4 + (1 : Int32))), (0, ar v0), (2, ai v2), (3, ai v3)]) d_M_comesBy_197 rfl (congrArg (HAdd.hAdd v4) kc_1) (nle rfl) rfl ?_
        refine r_goto d_M_comesBy_200 ?_
        refine r_pick (ls2 := [(0, ar v0), (2, ai v2), (3, ai v3), (4, ai (v4 + (1 : Int32)))]) [1, 2, 3, 0] rfl ?_
        exact ih _ _ hw
set_option maxRecDepth 100000 in
set_option maxHeartbeats 4000000 in
theorem s_M_comesBy_L164 {d : Nat} (hd : 1 ≤ d + 1) {Q : Bool → Hp → Prop} {QQ : Option AV → Hp → Prop} (hQ : ∀ r9 h9, Q r9 h9 → QQ (some (ai (b2i r9))) h9) {v0 : Nat} {v2 : Int32} : ∀ (n : Nat) (v3 : Int32) (h : Hp), w_M_comesBy_L164 Q  v0 v2 n v3 h → aW none m_M_comesBy (d + 1) 164 [(0, ar v0), (2, ai v2), (3, ai v3)] [] h 0 0 QQ := by
  intro n
  induction n with
  | zero => intro v3 h hw; exact hw.elim
  | succ n ih =>
    intro v3 h hw
    unfold w_M_comesBy_L164 at hw
    refine r_iload_n (j := 2) d_M_comesBy_164 rfl ?_
    refine r_iload_n (j := 1) d_M_comesBy_165 rfl ?_
    refine r_icmp_ge d_M_comesBy_166 (fun w9 => ?_) (fun w9 => ?_)
    · replace hw := hw.1 w9
      refine r_iload_n (j := 1) d_M_comesBy_259 rfl ?_
      refine r_istore_n (ls2 := [(3, ai v2), (0, ar v0), (2, ai v2)]) d_M_comesBy_260 (nle rfl) rfl ?_
      obtain ⟨n26, hw⟩ := hw
      refine r_pick (ls2 := [(0, ar v0), (2, ai v2), (3, ai v2)]) [1, 2, 0] rfl ?_
      exact s_M_comesBy_L261 hd hQ  n26 _ _ hw
    · replace hw := hw.2 w9
      refine r_iload_n (j := 2) d_M_comesBy_169 rfl ?_
      refine r_istore (ls2 := [(4, ai v3), (0, ar v0), (2, ai v2), (3, ai v3)]) d_M_comesBy_170 (nle rfl) rfl ?_
      obtain ⟨n35, hw⟩ := hw
      refine r_pick (ls2 := [(0, ar v0), (2, ai v2), (3, ai v3), (4, ai v3)]) [1, 2, 3, 0] rfl ?_
      exact s_M_comesBy_L172 hd hQ ih n35 _ _ hw
set_option maxRecDepth 100000 in
set_option maxHeartbeats 4000000 in
theorem s_M_comesBy_L115 {d : Nat} (hd : 1 ≤ d + 1) {Q : Bool → Hp → Prop} {QQ : Option AV → Hp → Prop} (hQ : ∀ r9 h9, Q r9 h9 → QQ (some (ai (b2i r9))) h9) {k65 : Int32 → Hp → Prop} (hk65 : ∀ v3 h9, k65 v3 h9 → aW none m_M_comesBy (d + 1) 65 [(0, ar v0), (2, ai v2), (3, ai v3)] [] h9 0 0 QQ) {v0 : Nat} {v2 : Int32} {v3 : Int32} : ∀ (n : Nat) (v4 : Int32) (h : Hp), w_M_comesBy_L115 Q k65 v0 v2 v3 n v4 h → aW none m_M_comesBy (d + 1) 115 [(0, ar v0), (2, ai v2), (3, ai v3), (4, ai v4)] [] h 0 0 QQ := by
  intro n
  induction n with
  | zero => intro v4 h hw; exact hw.elim
  | succ n ih =>
    intro v4 h hw
    unfold w_M_comesBy_L115 at hw
    refine r_iload (j := 3) d_M_comesBy_115 rfl ?_
    refine r_iconst d_M_comesBy_117 kc_4 ?_
    refine r_icmp_ge d_M_comesBy_118 (fun w9 => ?_) (fun w9 => ?_)
    · replace hw := hw.1 w9
      refine r_aload_n (j := 0) d_M_comesBy_139 rfl ?_
      obtain ⟨q37, hw⟩ := hw
      refine r_getR d_M_comesBy_140 ok_12 (nle rfl) (nle rfl) rfl lf_M_74 q37 ?_
      refine r_iconst d_M_comesBy_143 kc_5 ?_
      refine r_iload_n (j := 2) d_M_comesBy_144 rfl ?_
      refine r_imul d_M_comesBy_145 ?_
      refine r_iconst d_M_comesBy_146 kc_4 ?_
      refine r_iadd d_M_comesBy_147 ?_
      refine r_aload_n (j := 0) d_M_comesBy_148 rfl ?_
      refine r_getR d_M_comesBy_149 ok_12 (nle rfl) (nle rfl) rfl lf_M_92 q37 ?_
      refine r_iload_n (j := 2) d_M_comesBy_152 rfl ?_
      obtain ⟨q38, hw⟩ := hw
      obtain ⟨q39, hw⟩ := hw
      refine r_iald d_M_comesBy_153 q38 q39 ?_
      refine r_i2l d_M_comesBy_154 ?_
      obtain ⟨q40, hw⟩ := hw
      obtain ⟨q41, hw⟩ := hw
      refine r_last d_M_comesBy_155 q40 q41 ?_
      refine r_iinc (j := 2) (ls2 := [(3, ai (v3 + (1 : Int32))), (0, ar v0), (2, ai v2), (4, ai v4)]) d_M_comesBy_156 rfl (congrArg (HAdd.hAdd v3) kc_1) (nle rfl) rfl ?_
      refine r_goto d_M_comesBy_159 ?_
      refine r_pick (ls2 := [(0, ar v0), (2, ai v2), (3, ai (v3 + (1 : Int32)))]) [1, 2, 0] rfl ?_
      exact hk65 _ _ hw
    · replace hw := hw.2 w9
      refine r_aload_n (j := 0) d_M_comesBy_121 rfl ?_
      obtain ⟨q42, hw⟩ := hw
      refine r_getR d_M_comesBy_122 ok_12 (nle rfl) (nle rfl) rfl lf_M_74 q42 ?_
      refine r_iconst d_M_comesBy_125 kc_5 ?_
      refine r_iload_n (j := 2) d_M_comesBy_126 rfl ?_
      refine r_imul d_M_comesBy_127 ?_
      refine r_iload (j := 3) d_M_comesBy_128 rfl ?_
      refine r_iadd d_M_comesBy_130 ?_
      refine r_lconst d_M_comesBy_131 kl_0 ?_
      obtain ⟨q43, hw⟩ := hw
      obtain ⟨q44, hw⟩ := hw
      refine r_last d_M_comesBy_132 q43 q44 ?_
      refine r_iinc (j := 3) (ls2 := [(4, ai (v4 + (1 : Int32))), (0, ar v0), (2, ai v2), (3, ai v3)]) d_M_comesBy_133 rfl (congrArg (HAdd.hAdd v4) kc_1) (nle rfl) rfl ?_
      refine r_goto d_M_comesBy_136 ?_
      refine r_pick (ls2 := [(0, ar v0), (2, ai v2), (3, ai v3), (4, ai (v4 + (1 : Int32)))]) [1, 2, 3, 0] rfl ?_
      exact ih _ _ hw
set_option maxRecDepth 100000 in
set_option maxHeartbeats 4000000 in
theorem s_M_comesBy_L76 {d : Nat} (hd : 1 ≤ d + 1) {Q : Bool → Hp → Prop} {QQ : Option AV → Hp → Prop} (hQ : ∀ r9 h9, Q r9 h9 → QQ (some (ai (b2i r9))) h9) {k65 : Int32 → Hp → Prop} (hk65 : ∀ v3 h9, k65 v3 h9 → aW none m_M_comesBy (d + 1) 65 [(0, ar v0), (2, ai v2), (3, ai v3)] [] h9 0 0 QQ) {v0 : Nat} {v2 : Int32} {v3 : Int32} : ∀ (n : Nat) (v4 : Int32) (h : Hp), w_M_comesBy_L76 Q k65 v0 v2 v3 n v4 h → aW none m_M_comesBy (d + 1) 76 [(0, ar v0), (2, ai v2), (3, ai v3), (4, ai v4)] [] h 0 0 QQ := by
  intro n
  induction n with
  | zero => intro v4 h hw; exact hw.elim
  | succ n ih =>
    intro v4 h hw
    unfold w_M_comesBy_L76 at hw
    refine r_iload (j := 3) d_M_comesBy_76 rfl ?_
    refine r_iload_n (j := 1) d_M_comesBy_78 rfl ?_
    refine r_icmp_ge d_M_comesBy_79 (fun w9 => ?_) (fun w9 => ?_)
    · replace hw := hw.1 w9
      refine r_iload_n (j := 1) d_M_comesBy_112 rfl ?_
      refine r_istore (ls2 := [(4, ai v2), (0, ar v0), (2, ai v2), (3, ai v3)]) d_M_comesBy_113 (nle rfl) rfl ?_
      obtain ⟨n45, hw⟩ := hw
      refine r_pick (ls2 := [(0, ar v0), (2, ai v2), (3, ai v3), (4, ai v2)]) [1, 2, 3, 0] rfl ?_
      exact s_M_comesBy_L115 hd hQ hk65 n45 _ _ hw
    · replace hw := hw.2 w9
      refine r_aload_n (j := 0) d_M_comesBy_82 rfl ?_
      obtain ⟨q46, hw⟩ := hw
      refine r_getR d_M_comesBy_83 ok_12 (nle rfl) (nle rfl) rfl lf_M_74 q46 ?_
      refine r_iconst d_M_comesBy_86 kc_5 ?_
      refine r_iload_n (j := 2) d_M_comesBy_87 rfl ?_
      refine r_imul d_M_comesBy_88 ?_
      refine r_iload (j := 3) d_M_comesBy_89 rfl ?_
      refine r_iadd d_M_comesBy_91 ?_
      refine r_aload_n (j := 0) d_M_comesBy_92 rfl ?_
      refine r_aload_n (j := 0) d_M_comesBy_93 rfl ?_
      refine r_getR d_M_comesBy_94 ok_12 (nle rfl) (nle rfl) rfl lf_M_89 q46 ?_
      refine r_iload (j := 3) d_M_comesBy_97 rfl ?_
      obtain ⟨q47, hw⟩ := hw
      obtain ⟨q48, hw⟩ := hw
      refine r_iald d_M_comesBy_99 q47 q48 ?_
      refine r_iload_n (j := 2) d_M_comesBy_100 rfl ?_
      refine r_callV (av := [ai (gI h (gR h v0 50) (ix v4)), ai v3]) (rest := [ai (((5 : Int32) * v3) + v4), ar (gR h v0 45)]) (ci := 12) d_M_comesBy_101 mk_M_numberOf ll_M_274 im_M_numberOf se_M_numberOf rfl (nle rfl) rfl rfl (nle rfl) q46 (s_M_numberOf  hw (fun r50 h49 hw => ?_))
      show aW none m_M_comesBy (d + 1) 104 [(0, ar v0), (2, ai v2), (3, ai v3), (4, ai v4)] [ai r50, ai (((5 : Int32) * v3) + v4), ar (gR h v0 45)] h49 0 0 QQ
      refine r_i2l d_M_comesBy_104 ?_
      obtain ⟨q51, hw⟩ := hw
      obtain ⟨q52, hw⟩ := hw
      refine r_last d_M_comesBy_105 q51 q52 ?_
      refine r_iinc (j := 3) (ls2 := [(4, ai (v4 + (1 : Int32))), (0, ar v0), (2, ai v2), (3, ai v3)]) d_M_comesBy_106 rfl (congrArg (HAdd.hAdd v4) kc_1) (nle rfl) rfl ?_
      refine r_goto d_M_comesBy_109 ?_
      refine r_pick (ls2 := [(0, ar v0), (2, ai v2), (3, ai v3), (4, ai (v4 + (1 : Int32)))]) [1, 2, 3, 0] rfl ?_
      exact ih _ _ hw
set_option maxRecDepth 100000 in
set_option maxHeartbeats 4000000 in
theorem s_M_comesBy_L65 {d : Nat} (hd : 1 ≤ d + 1) {Q : Bool → Hp → Prop} {QQ : Option AV → Hp → Prop} (hQ : ∀ r9 h9, Q r9 h9 → QQ (some (ai (b2i r9))) h9) {v0 : Nat} {v2 : Int32} : ∀ (n : Nat) (v3 : Int32) (h : Hp), w_M_comesBy_L65 Q  v0 v2 n v3 h → aW none m_M_comesBy (d + 1) 65 [(0, ar v0), (2, ai v2), (3, ai v3)] [] h 0 0 QQ := by
  intro n
  induction n with
  | zero => intro v3 h hw; exact hw.elim
  | succ n ih =>
    intro v3 h hw
    unfold w_M_comesBy_L65 at hw
    refine r_iload_n (j := 2) d_M_comesBy_65 rfl ?_
    refine r_aload_n (j := 0) d_M_comesBy_66 rfl ?_
    obtain ⟨q2, hw⟩ := hw
    refine r_getI d_M_comesBy_67 ok_12 (nle rfl) (nle rfl) rfl lf_M_244 q2 ?_
    refine r_icmp_ge d_M_comesBy_70 (fun w9 => ?_) (fun w9 => ?_)
    · replace hw := hw.1 w9
      refine r_iconst d_M_comesBy_162 kc_0 ?_
      refine r_istore_n (ls2 := [(3, ai (0 : Int32)), (0, ar v0), (2, ai v2)]) d_M_comesBy_163 (nle rfl) rfl ?_
      obtain ⟨n36, hw⟩ := hw
      refine r_pick (ls2 := [(0, ar v0), (2, ai v2), (3, ai (0 : Int32))]) [1, 2, 0] rfl ?_
      exact s_M_comesBy_L164 hd hQ  n36 _ _ hw
    · replace hw := hw.2 w9
      refine r_iconst d_M_comesBy_73 kc_0 ?_
      refine r_istore (ls2 := [(4, ai (0 : Int32)), (0, ar v0), (2, ai v2), (3, ai v3)]) d_M_comesBy_74 (nle rfl) rfl ?_
      obtain ⟨n53, hw⟩ := hw
      refine r_pick (ls2 := [(0, ar v0), (2, ai v2), (3, ai v3), (4, ai (0 : Int32))]) [1, 2, 3, 0] rfl ?_
      exact s_M_comesBy_L76 hd hQ ih n53 _ _ hw
set_option maxRecDepth 100000 in
set_option maxHeartbeats 4000000 in
theorem s_M_comesBy_L4 {d : Nat} (hd : 1 ≤ d + 1) {Q : Bool → Hp → Prop} {QQ : Option AV → Hp → Prop} (hQ : ∀ r9 h9, Q r9 h9 → QQ (some (ai (b2i r9))) h9) {v0 : Nat} {v1 : Int32} : ∀ (n : Nat) (v2 : Int32) (v3 : Int32) (h : Hp), w_M_comesBy_L4 Q  v0 v1 n v2 v3 h → aW none m_M_comesBy (d + 1) 4 [(0, ar v0), (1, ai v1), (2, ai v2), (3, ai v3)] [] h 0 0 QQ := by
  intro n
  induction n with
  | zero => intro v2 v3 h hw; exact hw.elim
  | succ n ih =>
    intro v2 v3 h hw
    unfold w_M_comesBy_L4 at hw
    refine r_iload_n (j := 3) d_M_comesBy_4 rfl ?_
    refine r_aload_n (j := 0) d_M_comesBy_5 rfl ?_
    obtain ⟨q1, hw⟩ := hw
    refine r_getI d_M_comesBy_6 ok_12 (nle rfl) (nle rfl) rfl lf_M_247 q1 ?_
    refine r_icmp_ge d_M_comesBy_9 (fun w9 => ?_) (fun w9 => ?_)
    · replace hw := hw.1 w9
      refine r_iload_n (j := 2) d_M_comesBy_53 rfl ?_
      refine r_aload_n (j := 0) d_M_comesBy_54 rfl ?_
      refine r_getI d_M_comesBy_55 ok_12 (nle rfl) (nle rfl) rfl lf_M_244 q1 ?_
      refine r_icmp_le d_M_comesBy_58 (fun w9 => ?_) (fun w9 => ?_)
      · replace hw := hw.1 w9
        refine r_iconst d_M_comesBy_63 kc_0 ?_
        refine r_istore_n (ls2 := [(3, ai (0 : Int32)), (0, ar v0), (1, ai v1), (2, ai v2)]) d_M_comesBy_64 (nle rfl) rfl ?_
        obtain ⟨n54, hw⟩ := hw
        refine r_pick (ls2 := [(0, ar v0), (2, ai v2), (3, ai (0 : Int32))]) [1, 3, 0] rfl ?_
        exact s_M_comesBy_L65 hd hQ  n54 _ _ hw
      · replace hw := hw.2 w9
        refine r_iconst d_M_comesBy_61 kc_0 ?_
        exact r_zreturn d_M_comesBy_62.1 rfl (Or.inl rfl) (hQ _ _ hw)
    · replace hw := hw.2 w9
      refine r_aload_n (j := 0) d_M_comesBy_12 rfl ?_
      refine r_getR d_M_comesBy_13 ok_12 (nle rfl) (nle rfl) rfl lf_M_77 q1 ?_
      refine r_iload_n (j := 3) d_M_comesBy_16 rfl ?_
      refine r_lconst d_M_comesBy_17 kl_0 ?_
      obtain ⟨q55, hw⟩ := hw
      obtain ⟨q56, hw⟩ := hw
      refine r_last d_M_comesBy_18 q55 q56 ?_
      refine r_aload_n (j := 0) d_M_comesBy_19 rfl ?_
      refine r_getR d_M_comesBy_20 ok_12 (nle rfl) (nle rfl) rfl lf_M_80 q1 ?_
      refine r_iload_n (j := 3) d_M_comesBy_23 rfl ?_
      refine r_lconst d_M_comesBy_24 kl_1 ?_
      obtain ⟨q57, hw⟩ := hw
      obtain ⟨q58, hw⟩ := hw
      refine r_last d_M_comesBy_25 q57 q58 ?_
      refine r_iload_n (j := 1) d_M_comesBy_26 rfl ?_
      refine r_iload_n (j := 3) d_M_comesBy_27 rfl ?_
      refine r_ishr d_M_comesBy_28 ?_
      refine r_iconst d_M_comesBy_29 kc_1 ?_
      refine r_iand d_M_comesBy_30 ?_
      refine r_if_ne d_M_comesBy_31 (fun w9 => ?_) (fun w9 => ?_)
      · replace hw := hw.2 w9
        refine r_aload_n (j := 0) d_M_comesBy_37 rfl ?_
        refine r_getR d_M_comesBy_38 ok_12 (nle rfl) (nle rfl) rfl lf_M_89 q1 ?_
        refine r_iload_n (j := 2) d_M_comesBy_41 rfl ?_
        refine r_iload_n (j := 3) d_M_comesBy_42 rfl ?_
        obtain ⟨q59, hw⟩ := hw
        obtain ⟨q60, hw⟩ := hw
        refine r_iast d_M_comesBy_43 q59 q60 ?_
        refine r_iinc (j := 2) (ls2 := [(2, ai (v2 + (1 : Int32))), (0, ar v0), (1, ai v1), (3, ai v3)]) d_M_comesBy_44 rfl (congrArg (HAdd.hAdd v2) kc_1) (nle rfl) rfl ?_
        refine r_iinc (j := 3) (ls2 := [(3, ai (v3 + (1 : Int32))), (2, ai (v2 + (1 : Int32))), (0, ar v0), (1, ai v1)]) d_M_comesBy_47 rfl (congrArg (HAdd.hAdd v3) kc_1) (nle rfl) rfl ?_
        refine r_goto d_M_comesBy_50 ?_
        refine r_pick (ls2 := [(0, ar v0), (1, ai v1), (2, ai (v2 + (1 : Int32))), (3, ai (v3 + (1 : Int32)))]) [2, 3, 1, 0] rfl ?_
        exact ih _ _ _ hw
      · replace hw := hw.1 w9
        refine r_goto d_M_comesBy_34 ?_
        refine r_iinc (j := 3) (ls2 := [(3, ai (v3 + (1 : Int32))), (0, ar v0), (1, ai v1), (2, ai v2)]) d_M_comesBy_47 rfl (congrArg (HAdd.hAdd v3) kc_1) (nle rfl) rfl ?_
        refine r_goto d_M_comesBy_50 ?_
        refine r_pick (ls2 := [(0, ar v0), (1, ai v1), (2, ai v2), (3, ai (v3 + (1 : Int32)))]) [1, 2, 3, 0] rfl ?_
        exact ih _ _ _ hw
