set_option maxRecDepth 100000 in
set_option maxHeartbeats 4000000 in
theorem s_M_canCome_L4 {d : Nat} (hd : 2 ≤ d + 1) {Q : Bool → Hp → Prop} {QQ : Option AV → Hp → Prop} (hQ : ∀ r9 h9, Q r9 h9 → QQ (some (ai (b2i r9))) h9) {v0 : Nat} : ∀ (n : Nat) (v1 : Int32) (v2 : Int32) (h : Hp), w_M_canCome_L4 Q  v0 n v1 v2 h → aW none m_M_canCome (d + 1) 4 [(0, ar v0), (1, ai v1), (2, ai v2)] [] h 0 0 QQ := by
  intro n
  induction n with
  | zero => intro v1 v2 h hw; exact hw.elim
  | succ n ih =>
    intro v1 v2 h hw
    unfold w_M_canCome_L4 at hw
    refine r_iload_n (j := 2) d_M_canCome_4 rfl ?_
    refine r_aload_n (j := 0) d_M_canCome_5 rfl ?_
    obtain ⟨q1, hw⟩ := hw
    refine r_getI d_M_canCome_6 ok_12 (nle rfl) (nle rfl) rfl lf_M_247 q1 ?_
    refine r_icmp_ge d_M_canCome_9 (fun w9 => ?_) (fun w9 => ?_)
    · replace hw := hw.1 w9
      refine r_iconst d_M_canCome_56 kc_0 ?_
      refine r_istore_n (ls2 := [(2, ai (0 : Int32)), (0, ar v0), (1, ai v1)]) d_M_canCome_57 (nle rfl) rfl ?_
      obtain ⟨n9, hw⟩ := hw
      refine r_pick (ls2 := [(0, ar v0), (1, ai v1), (2, ai (0 : Int32))]) [1, 2, 0] rfl ?_
      exact s_M_canCome_L58 hd hQ  n9 _ _ _ hw
    · replace hw := hw.2 w9
      refine r_iload_n (j := 1) d_M_canCome_12 rfl ?_
      refine r_if_eq d_M_canCome_13 (fun w9 => ?_) (fun w9 => ?_)
      · replace hw := hw.1 w9
        refine r_iconst d_M_canCome_48 kc_0 ?_
        refine r_istore_n (ls2 := [(1, ai (0 : Int32)), (0, ar v0), (2, ai v2)]) d_M_canCome_49 (nle rfl) rfl ?_
        refine r_iinc (j := 2) (ls2 := [(2, ai (v2 + (1 : Int32))), (1, ai (0 : Int32)), (0, ar v0)]) d_M_canCome_50 rfl (congrArg (HAdd.hAdd v2) kc_1) (nle rfl) rfl ?_
        refine r_goto d_M_canCome_53 ?_
        refine r_pick (ls2 := [(0, ar v0), (1, ai (0 : Int32)), (2, ai (v2 + (1 : Int32)))]) [2, 1, 0] rfl ?_
        exact ih _ _ _ hw
      · replace hw := hw.2 w9
        refine r_aload_n (j := 0) d_M_canCome_16 rfl ?_
        refine r_getR d_M_canCome_17 ok_12 (nle rfl) (nle rfl) rfl lf_M_30 q1 ?_
        refine r_bipush d_M_canCome_20 kb_36 ?_
        refine r_iload_n (j := 2) d_M_canCome_22 rfl ?_
        refine r_iadd d_M_canCome_23 ?_
        obtain ⟨q10, hw⟩ := hw
        obtain ⟨q11, hw⟩ := hw
        refine r_iald d_M_canCome_24 q10 q11 ?_
        refine r_aload_n (j := 0) d_M_canCome_25 rfl ?_
        refine r_getR d_M_canCome_26 ok_12 (nle rfl) (nle rfl) rfl lf_M_95 q1 ?_
        refine r_iload_n (j := 2) d_M_canCome_29 rfl ?_
        obtain ⟨q12, hw⟩ := hw
        obtain ⟨q13, hw⟩ := hw
        refine r_iald d_M_canCome_30 q12 q13 ?_
        refine r_isub d_M_canCome_31 ?_
        refine r_aload_n (j := 0) d_M_canCome_32 rfl ?_
        refine r_getR d_M_canCome_33 ok_12 (nle rfl) (nle rfl) rfl lf_M_36 q1 ?_
        refine r_iload_n (j := 2) d_M_canCome_36 rfl ?_
        obtain ⟨q14, hw⟩ := hw
        obtain ⟨q15, hw⟩ := hw
        refine r_iald d_M_canCome_37 q14 q15 ?_
        refine r_iadd d_M_canCome_38 ?_
        refine r_bipush d_M_canCome_39 kb_99 ?_
        refine r_icmp_gt d_M_canCome_41 (fun w9 => ?_) (fun w9 => ?_)
        · replace hw := hw.1 w9
          refine r_iconst d_M_canCome_48 kc_0 ?_
          refine r_istore_n (ls2 := [(1, ai (0 : Int32)), (0, ar v0), (2, ai v2)]) d_M_canCome_49 (nle rfl) rfl ?_
          refine r_iinc (j := 2) (ls2 := [(2, ai (v2 + (1 : Int32))), (1, ai (0 : Int32)), (0, ar v0)]) d_M_canCome_50 rfl (congrArg (HAdd.hAdd v2) kc_1) (nle rfl) rfl ?_
          refine r_goto d_M_canCome_53 ?_
          refine r_pick (ls2 := [(0, ar v0), (1, ai (0 : Int32)), (2, ai (v2 + (1 : Int32)))]) [2, 1, 0] rfl ?_
          exact ih _ _ _ hw
        · replace hw := hw.2 w9
          refine r_iconst d_M_canCome_44 kc_1 ?_
          refine r_goto d_M_canCome_45 ?_
          refine r_istore_n (ls2 := [(1, ai (1 : Int32)), (0, ar v0), (2, ai v2)]) d_M_canCome_49 (nle rfl) rfl ?_
          refine r_iinc (j := 2) (ls2 := [(2, ai (v2 + (1 : Int32))), (1, ai (1 : Int32)), (0, ar v0)]) d_M_canCome_50 rfl (congrArg (HAdd.hAdd v2) kc_1) (nle rfl) rfl ?_
          refine r_goto d_M_canCome_53 ?_
          refine r_pick (ls2 := [(0, ar v0), (1, ai (1 : Int32)), (2, ai (v2 + (1 : Int32)))]) [2, 1, 0] rfl ?_
          exact ih _ _ _ hw
set_option maxRecDepth 100000 in
set_option maxHeartbeats 4000000 in
theorem s_M_canCome {d : Nat} (hd : 2 ≤ d) {v0 : Nat} {h : Hp} {Q : Bool → Hp → Prop} {QQ : Option AV → Hp → Prop} (hw : w_M_canCome v0 h Q) (hQ : ∀ r9 h9, Q r9 h9 → QQ (some (ai (b2i r9))) h9) : aCall m_M_canCome d [ar v0] h 0 0 QQ := by
  obtain ⟨d, rfl⟩ : ∃ d9, d = d9 + 1 := ⟨d - 1, by omega⟩
  refine aCall_in pl_M_canCome (nle rfl) ?_
  show aW none m_M_canCome (d + 1) 0 [(0, ar v0)] [] h 0 0 QQ
  unfold w_M_canCome at hw
  refine r_iconst d_M_canCome_0 kc_1 ?_
  refine r_istore_n (ls2 := [(1, ai (1 : Int32)), (0, ar v0)]) d_M_canCome_1 (nle rfl) rfl ?_
  refine r_iconst d_M_canCome_2 kc_0 ?_
  refine r_istore_n (ls2 := [(2, ai (0 : Int32)), (1, ai (1 : Int32)), (0, ar v0)]) d_M_canCome_3 (nle rfl) rfl ?_
  obtain ⟨n16, hw⟩ := hw
  refine r_pick (ls2 := [(0, ar v0), (1, ai (1 : Int32)), (2, ai (0 : Int32))]) [2, 1, 0] rfl ?_
  exact s_M_canCome_L4 hd hQ  n16 _ _ _ hw
set_option maxRecDepth 100000 in
set_option maxHeartbeats 4000000 in
theorem s_M_keepsExchange_L18 {d : Nat} {Q : Hp → Prop} {QQ : Option AV → Hp → Prop} (hQ : ∀ h9, Q h9 → QQ none h9) {v0 : Nat} : ∀ (n : Nat) (v4 : Int32) (h : Hp), w_M_keepsExchange_L18 Q  v0 n v4 h → aW none m_M_keepsExchange d 18 [(0, ar v0), (4, ai v4)] [] h 0 0 QQ := by
  intro n
  induction n with
  | zero => intro v4 h hw; exact hw.elim
  | succ n ih =>
    intro v4 h hw
    unfold w_M_keepsExchange_L18 at hw
    refine r_iload (j := 1) d_M_keepsExchange_18 rfl ?_
    refine r_bipush d_M_keepsExchange_20 kb_8 ?_
    refine r_icmp_ge d_M_keepsExchange_22 (fun w9 => ?_) (fun w9 => ?_)
    · replace hw := hw.1 w9
      exact r_return d_M_keepsExchange_59.1 rfl (hQ _ hw)
    · replace hw := hw.2 w9
      refine r_aload_n (j := 0) d_M_keepsExchange_25 rfl ?_
      obtain ⟨q2, hw⟩ := hw
      refine r_getR d_M_keepsExchange_26 ok_12 (nle rfl) (nle rfl) rfl lf_M_98 q2 ?_
      refine r_iload (j := 1) d_M_keepsExchange_29 rfl ?_
      refine r_aload_n (j := 0) d_M_keepsExchange_31 rfl ?_
      refine r_getR d_M_keepsExchange_32 ok_12 (nle rfl) (nle rfl) rfl lf_M_95 q2 ?_
      refine r_iload (j := 1) d_M_keepsExchange_35 rfl ?_
      obtain ⟨q3, hw⟩ := hw
      obtain ⟨q4, hw⟩ := hw
      refine r_iald d_M_keepsExchange_37 q3 q4 ?_
      obtain ⟨q5, hw⟩ := hw
      obtain ⟨q6, hw⟩ := hw
      refine r_iast d_M_keepsExchange_38 q5 q6 ?_
      refine r_aload_n (j := 0) d_M_keepsExchange_39 rfl ?_
      refine r_getRb eRI d_M_keepsExchange_40 ok_12 (nle rfl) (nle rfl) rfl lf_M_101 (kt eKI q2) ?_
      refine r_iload (j := 1) d_M_keepsExchange_43 rfl ?_
      refine r_aload_n (j := 0) d_M_keepsExchange_45 rfl ?_
      refine r_getRb eRI d_M_keepsExchange_46 ok_12 (nle rfl) (nle rfl) rfl lf_M_36 (kt eKI q2) ?_
      refine r_iload (j := 1) d_M_keepsExchange_49 rfl ?_
      obtain ⟨q7, hw⟩ := hw
      obtain ⟨q8, hw⟩ := hw
      refine r_iald d_M_keepsExchange_51 (kt eKI q7) (nt eNI q8) ?_
      obtain ⟨q9, hw⟩ := hw
      obtain ⟨q10, hw⟩ := hw
      refine r_iast d_M_keepsExchange_52 (kt eKI q9) (nt eNI q10) ?_
      refine r_iinc (j := 1) (ls2 := [(4, ai (v4 + (1 : Int32))), (0, ar v0)]) d_M_keepsExchange_53 rfl (congrArg (HAdd.hAdd v4) kc_1) (nle rfl) rfl ?_
      refine r_goto d_M_keepsExchange_56 ?_
      refine r_pick (ls2 := [(0, ar v0), (4, ai (v4 + (1 : Int32)))]) [1, 0] rfl ?_
      exact ih _ _ hw
set_option maxRecDepth 100000 in
set_option maxHeartbeats 4000000 in
theorem s_M_keepsExchange {d : Nat} {v0 : Nat} {v1 : Int32} {v2 : Int32} {v3 : Int32} {h : Hp} {Q : Hp → Prop} {QQ : Option AV → Hp → Prop} (hw : w_M_keepsExchange v0 v1 v2 v3 h Q) (hQ : ∀ h9, Q h9 → QQ none h9) : aCall m_M_keepsExchange d [ar v0, ai v1, ai v2, ai v3] h 0 0 QQ := by
  refine aCall_in pl_M_keepsExchange (nle rfl) ?_
  show aW none m_M_keepsExchange d 0 [(0, ar v0), (1, ai v1), (2, ai v2), (3, ai v3)] [] h 0 0 QQ
  unfold w_M_keepsExchange at hw
  refine r_aload_n (j := 0) d_M_keepsExchange_0 rfl ?_
  refine r_iload_n (j := 1) d_M_keepsExchange_1 rfl ?_
  obtain ⟨q1, hw⟩ := hw
  refine r_putI d_M_keepsExchange_2 ok_12 (nle rfl) (nle rfl) rfl lf_M_491 rfl q1 ?_
  refine r_aload_n (j := 0) d_M_keepsExchange_5 rfl ?_
  refine r_iload_n (j := 2) d_M_keepsExchange_6 rfl ?_
  refine r_putI d_M_keepsExchange_7 ok_12 (nle rfl) (nle rfl) rfl lf_M_494 rfl (kt eKI q1) ?_
  refine r_aload_n (j := 0) d_M_keepsExchange_10 rfl ?_
  refine r_iload_n (j := 3) d_M_keepsExchange_11 rfl ?_
  refine r_putI d_M_keepsExchange_12 ok_12 (nle rfl) (nle rfl) rfl lf_M_497 rfl (kt (eKI.trans eKI) q1) ?_
  refine r_iconst d_M_keepsExchange_15 kc_0 ?_
  refine r_istore (ls2 := [(4, ai (0 : Int32)), (0, ar v0), (1, ai v1), (2, ai v2), (3, ai v3)]) d_M_keepsExchange_16 (nle rfl) rfl ?_
  obtain ⟨n11, hw⟩ := hw
  refine r_pick (ls2 := [(0, ar v0), (4, ai (0 : Int32))]) [1, 0] rfl ?_
  exact s_M_keepsExchange_L18 hQ  n11 _ _ hw
set_option maxRecDepth 100000 in
set_option maxHeartbeats 4000000 in
theorem s_M_comesFor_B81 {d : Nat} (hd : 3 ≤ d + 1) {Q : Hp → Prop} {QQ : Option AV → Hp → Prop} (hQ : ∀ h9, Q h9 → QQ none h9) {v0 : Nat} {v1 : Int32} {v2 : Int32} {v3 : Int32} {v4 : Int32} {h : Hp} {k3 : Int32 → Hp → Prop} {k17 : Int32 → Hp → Prop} (hk3 : ∀ v4 h9, k3 v4 h9 → aW none m_M_comesFor (d + 1) 3 [(0, ar v0), (1, ai v1), (2, ai v2), (3, ai v3), (4, ai v4)] [] h9 0 0 QQ) (hk17 : ∀ v5 h9, k17 v5 h9 → aW none m_M_comesFor (d + 1) 17 [(0, ar v0), (1, ai v1), (2, ai v2), (3, ai v3), (4, ai v4), (5, ai v5)] [] h9 0 0 QQ) (hw : w_M_comesFor_B81 Q k3 k17 v0 v1 v2 v3 v4 h) : aW none m_M_comesFor (d + 1) 81 [(0, ar v0), (1, ai v1), (2, ai v2), (3, ai v3), (4, ai v4)] [] h 0 0 QQ := by
  unfold w_M_comesFor_B81 at hw
  refine r_aload_n (j := 0) d_M_comesFor_81 rfl ?_
  obtain ⟨q12, hw⟩ := hw
  refine r_callV (av := []) (rest := []) (ci := 12) d_M_comesFor_82 mk_M_nextPlan ll_M_322 im_M_nextPlan se_M_nextPlan rfl (nle rfl) rfl rfl (nle rfl) q12 (s_M_nextPlan  hw (fun r11 h10 hw => ?_))
  show aW none m_M_comesFor (d + 1) 85 [(0, ar v0), (1, ai v1), (2, ai v2), (3, ai v3), (4, ai v4)] [ai (b2i r11)] h10 0 0 QQ
  refine r_istore (ls2 := [(5, ai (b2i r11)), (0, ar v0), (1, ai v1), (2, ai v2), (3, ai v3), (4, ai v4)]) d_M_comesFor_85 (nle rfl) rfl ?_
  refine r_goto d_M_comesFor_87 ?_
  refine r_pick (ls2 := [(0, ar v0), (1, ai v1), (2, ai v2), (3, ai v3), (4, ai v4), (5, ai (b2i r11))]) [1, 2, 3, 4, 5, 0] rfl ?_
  exact hk17 _ _ hw
set_option maxRecDepth 100000 in
set_option maxHeartbeats 4000000 in
theorem s_M_comesFor_B72 {d : Nat} (hd : 3 ≤ d + 1) {Q : Hp → Prop} {QQ : Option AV → Hp → Prop} (hQ : ∀ h9, Q h9 → QQ none h9) {v0 : Nat} {v1 : Int32} {v2 : Int32} {v3 : Int32} {v4 : Int32} {v6 : Int32} {h : Hp} {k3 : Int32 → Hp → Prop} {k17 : Int32 → Hp → Prop} (hk3 : ∀ v4 h9, k3 v4 h9 → aW none m_M_comesFor (d + 1) 3 [(0, ar v0), (1, ai v1), (2, ai v2), (3, ai v3), (4, ai v4)] [] h9 0 0 QQ) (hk17 : ∀ v5 h9, k17 v5 h9 → aW none m_M_comesFor (d + 1) 17 [(0, ar v0), (1, ai v1), (2, ai v2), (3, ai v3), (4, ai v4), (5, ai v5)] [] h9 0 0 QQ) (hw : w_M_comesFor_B72 Q k3 k17 v0 v1 v2 v3 v4 v6 h) : aW none m_M_comesFor (d + 1) 72 [(0, ar v0), (1, ai v1), (2, ai v2), (3, ai v3), (4, ai v4), (6, ai v6)] [] h 0 0 QQ := by
  unfold w_M_comesFor_B72 at hw
  refine r_aload_n (j := 0) d_M_comesFor_72 rfl ?_
  refine r_iload (j := 5) d_M_comesFor_73 rfl ?_
  refine r_iload_n (j := 2) d_M_comesFor_75 rfl ?_
  refine r_iload (j := 4) d_M_comesFor_76 rfl ?_
  obtain ⟨q15, hw⟩ := hw
  refine r_callV (av := [ai v6, ai v2, ai v4]) (rest := []) (ci := 12) d_M_comesFor_78 mk_M_keepsExchange ll_M_503 im_M_keepsExchange se_M_keepsExchange rfl (nle rfl) rfl rfl (nle rfl) q15 (s_M_keepsExchange  hw (fun h14 hw => ?_))
  show aW none m_M_comesFor (d + 1) 81 [(0, ar v0), (1, ai v1), (2, ai v2), (3, ai v3), (4, ai v4), (6, ai v6)] [] h14 0 0 QQ
  refine r_pick (ls2 := [(0, ar v0), (1, ai v1), (2, ai v2), (3, ai v3), (4, ai v4)]) [0, 1, 2, 3, 4] rfl ?_
  exact s_M_comesFor_B81 hd hQ hk3 hk17 hw
set_option maxRecDepth 100000 in
set_option maxHeartbeats 4000000 in
theorem s_M_comesFor_L17 {d : Nat} (hd : 3 ≤ d + 1) {Q : Hp → Prop} {QQ : Option AV → Hp → Prop} (hQ : ∀ h9, Q h9 → QQ none h9) {v0 : Nat} {v1 : Int32} {v2 : Int32} {v3 : Int32} {v4 : Int32} {k3 : Int32 → Hp → Prop} (hk3 : ∀ v4 h9, k3 v4 h9 → aW none m_M_comesFor (d + 1) 3 [(0, ar v0), (1, ai v1), (2, ai v2), (3, ai v3), (4, ai v4)] [] h9 0 0 QQ) : ∀ (n : Nat) (v5 : Int32) (h : Hp), w_M_comesFor_L17 Q k3 v0 v1 v2 v3 v4 n v5 h → aW none m_M_comesFor (d + 1) 17 [(0, ar v0), (1, ai v1), (2, ai v2), (3, ai v3), (4, ai v4), (5, ai v5)] [] h 0 0 QQ := by
  intro n
  induction n with
  | zero => intro v5 h hw; exact hw.elim
  | succ n ih =>
    intro v5 h hw
    unfold w_M_comesFor_L17 at hw
    refine r_iload (j := 5) d_M_comesFor_17 rfl ?_
    refine r_if_eq d_M_comesFor_19 (fun w9 => ?_) (fun w9 => ?_)
    · replace hw := hw.1 w9
      refine r_iinc (j := 4) (ls2 := [(4, ai (v4 + (1 : Int32))), (0, ar v0), (1, ai v1), (2, ai v2), (3, ai v3), (5, ai v5)]) d_M_comesFor_90 rfl (congrArg (HAdd.hAdd v4) kc_1) (nle rfl) rfl ?_
      refine r_goto d_M_comesFor_93 ?_
      refine r_pick (ls2 := [(0, ar v0), (1, ai v1), (2, ai v2), (3, ai v3), (4, ai (v4 + (1 : Int32)))]) [1, 2, 3, 4, 0] rfl ?_
      exact hk3 _ _ hw
    · replace hw := hw.2 w9
      refine r_aload_n (j := 0) d_M_comesFor_22 rfl ?_
      obtain ⟨q6, hw⟩ := hw
      refine r_callV (av := []) (rest := []) (ci := 12) d_M_comesFor_23 mk_M_planGain ll_M_331 im_M_planGain se_M_planGain rfl (nle rfl) rfl rfl (nle rfl) q6 (s_M_planGain (by omega) hw (fun r5 h4 hw => ?_))
      show aW none m_M_comesFor (d + 1) 26 [(0, ar v0), (1, ai v1), (2, ai v2), (3, ai v3), (4, ai v4), (5, ai v5)] [ai r5] h4 0 0 QQ
      refine r_iload_n (j := 1) d_M_comesFor_26 rfl ?_
      refine r_isub d_M_comesFor_27 ?_
      refine r_istore (ls2 := [(6, ai (r5 - v1)), (0, ar v0), (1, ai v1), (2, ai v2), (3, ai v3), (4, ai v4), (5, ai v5)]) d_M_comesFor_28 (nle rfl) rfl ?_
      refine r_aload_n (j := 1) d_M_comesFor_30 rfl ?_
      obtain ⟨q9, hw⟩ := hw
      refine r_callV (av := []) (rest := []) (ci := 12) d_M_comesFor_31 mk_M_canCome ll_M_500 im_M_canCome se_M_canCome rfl (nle rfl) rfl rfl (nle rfl) q9 (s_M_canCome (by omega) hw (fun r8 h7 hw => ?_))
      show aW none m_M_comesFor (d + 1) 34 [(6, ai (r5 - v1)), (0, ar v0), (1, ai v1), (2, ai v2), (3, ai v3), (4, ai v4), (5, ai v5)] [ai (b2i r8)] h7 0 0 QQ
      refine r_if_eq d_M_comesFor_34 (fun w9 => ?_) (fun w9 => ?_)
      · replace hw := hw.1 (b2i_0.mp w9)
        refine r_pick (ls2 := [(0, ar v0), (1, ai v1), (2, ai v2), (3, ai v3), (4, ai v4)]) [1, 2, 3, 4, 5] rfl ?_
        exact s_M_comesFor_B81 hd hQ hk3 ih hw
      · replace hw := hw.2 (fun g9 => w9 (b2i_0.mpr g9))
        refine r_iload (j := 0) d_M_comesFor_37 rfl ?_
        refine r_aload_n (j := 1) d_M_comesFor_39 rfl ?_
        obtain ⟨q13, hw⟩ := hw
        refine r_getI d_M_comesFor_40 ok_12 (nle rfl) (nle rfl) rfl lf_M_491 q13 ?_
        refine r_icmp_gt d_M_comesFor_43 (fun w9 => ?_) (fun w9 => ?_)
        · replace hw := hw.1 w9
          refine r_pick (ls2 := [(0, ar v0), (1, ai v1), (2, ai v2), (3, ai v3), (4, ai v4), (6, ai (r5 - v1))]) [1, 2, 3, 4, 5, 0] rfl ?_
          exact s_M_comesFor_B72 hd hQ hk3 ih hw
        · replace hw := hw.2 w9
          refine r_iload (j := 0) d_M_comesFor_46 rfl ?_
          refine r_aload_n (j := 1) d_M_comesFor_48 rfl ?_
          refine r_getI d_M_comesFor_49 ok_12 (nle rfl) (nle rfl) rfl lf_M_491 q13 ?_
          refine r_icmp_ne d_M_comesFor_52 (fun w9 => ?_) (fun w9 => ?_)
          · replace hw := hw.2 w9
            refine r_pick (ls2 := [(0, ar v0), (1, ai v1), (2, ai v2), (3, ai v3), (4, ai v4)]) [1, 2, 3, 4, 5] rfl ?_
            exact s_M_comesFor_B81 hd hQ hk3 ih hw
          · replace hw := hw.1 w9
            refine r_aload_n (j := 1) d_M_comesFor_55 rfl ?_
            refine r_getI d_M_comesFor_56 ok_12 (nle rfl) (nle rfl) rfl lf_M_494 q13 ?_
            refine r_iload_n (j := 3) d_M_comesFor_59 rfl ?_
            refine r_icmp_ne d_M_comesFor_60 (fun w9 => ?_) (fun w9 => ?_)
            · replace hw := hw.2 w9
              refine r_pick (ls2 := [(0, ar v0), (1, ai v1), (2, ai v2), (3, ai v3), (4, ai v4)]) [1, 2, 3, 4, 5] rfl ?_
              exact s_M_comesFor_B81 hd hQ hk3 ih hw
            · replace hw := hw.1 w9
              refine r_aload_n (j := 1) d_M_comesFor_63 rfl ?_
              refine r_getI d_M_comesFor_64 ok_12 (nle rfl) (nle rfl) rfl lf_M_497 q13 ?_
              refine r_iload (j := 5) d_M_comesFor_67 rfl ?_
              refine r_icmp_le d_M_comesFor_69 (fun w9 => ?_) (fun w9 => ?_)
              · replace hw := hw.1 w9
                refine r_pick (ls2 := [(0, ar v0), (1, ai v1), (2, ai v2), (3, ai v3), (4, ai v4)]) [1, 2, 3, 4, 5] rfl ?_
                exact s_M_comesFor_B81 hd hQ hk3 ih hw
              · replace hw := hw.2 w9
                refine r_pick (ls2 := [(0, ar v0), (1, ai v1), (2, ai v2), (3, ai v3), (4, ai v4), (6, ai (r5 - v1))]) [1, 2, 3, 4, 5, 0] rfl ?_
                exact s_M_comesFor_B72 hd hQ hk3 ih hw
set_option maxRecDepth 100000 in
set_option maxHeartbeats 4000000 in
theorem s_M_comesFor_L3 {d : Nat} (hd : 3 ≤ d + 1) {Q : Hp → Prop} {QQ : Option AV → Hp → Prop} (hQ : ∀ h9, Q h9 → QQ none h9) {v0 : Nat} {v1 : Int32} {v2 : Int32} {v3 : Int32} : ∀ (n : Nat) (v4 : Int32) (h : Hp), w_M_comesFor_L3 Q  v0 v1 v2 v3 n v4 h → aW none m_M_comesFor (d + 1) 3 [(0, ar v0), (1, ai v1), (2, ai v2), (3, ai v3), (4, ai v4)] [] h 0 0 QQ := by
  intro n
  induction n with
  | zero => intro v4 h hw; exact hw.elim
  | succ n ih =>
    intro v4 h hw
    unfold w_M_comesFor_L3 at hw
    refine r_iload (j := 4) d_M_comesFor_3 rfl ?_
    refine r_iload_n (j := 3) d_M_comesFor_5 rfl ?_
    refine r_icmp_gt d_M_comesFor_6 (fun w9 => ?_) (fun w9 => ?_)
    · replace hw := hw.1 w9
      exact r_return d_M_comesFor_96.1 rfl (hQ _ hw)
    · replace hw := hw.2 w9
      refine r_aload_n (j := 0) d_M_comesFor_9 rfl ?_
      refine r_iload (j := 4) d_M_comesFor_10 rfl ?_
      obtain ⟨q3, hw⟩ := hw
      refine r_callV (av := [ai v4]) (rest := []) (ci := 12) d_M_comesFor_12 mk_M_firstPlan ll_M_312 im_M_firstPlan se_M_firstPlan rfl (nle rfl) rfl rfl (nle rfl) q3 (s_M_firstPlan  hw (fun r2 h1 hw => ?_))
      show aW none m_M_comesFor (d + 1) 15 [(0, ar v0), (1, ai v1), (2, ai v2), (3, ai v3), (4, ai v4)] [ai (b2i r2)] h1 0 0 QQ
      refine r_istore (ls2 := [(5, ai (b2i r2)), (0, ar v0), (1, ai v1), (2, ai v2), (3, ai v3), (4, ai v4)]) d_M_comesFor_15 (nle rfl) rfl ?_
      obtain ⟨n16, hw⟩ := hw
      refine r_pick (ls2 := [(0, ar v0), (1, ai v1), (2, ai v2), (3, ai v3), (4, ai v4), (5, ai (b2i r2))]) [1, 2, 3, 4, 5, 0] rfl ?_
      exact s_M_comesFor_L17 hd hQ ih n16 _ _ hw
set_option maxRecDepth 100000 in
set_option maxHeartbeats 4000000 in
theorem s_M_comesFor {d : Nat} (hd : 3 ≤ d) {v0 : Nat} {v1 : Int32} {v2 : Int32} {v3 : Int32} {h : Hp} {Q : Hp → Prop} {QQ : Option AV → Hp → Prop} (hw : w_M_comesFor v0 v1 v2 v3 h Q) (hQ : ∀ h9, Q h9 → QQ none h9) : aCall m_M_comesFor d [ar v0, ai v1, ai v2, ai v3] h 0 0 QQ := by
  obtain ⟨d, rfl⟩ : ∃ d9, d = d9 + 1 := ⟨d - 1, by omega⟩
  refine aCall_in pl_M_comesFor (nle rfl) ?_
  show aW none m_M_comesFor (d + 1) 0 [(0, ar v0), (1, ai v1), (2, ai v2), (3, ai v3)] [] h 0 0 QQ
  unfold w_M_comesFor at hw
  refine r_iconst d_M_comesFor_0 kc_0 ?_
  refine r_istore (ls2 := [(4, ai (0 : Int32)), (0, ar v0), (1, ai v1), (2, ai v2), (3, ai v3)]) d_M_comesFor_1 (nle rfl) rfl ?_
  obtain ⟨n17, hw⟩ := hw
  refine r_pick (ls2 := [(0, ar v0), (1, ai v1), (2, ai v2), (3, ai v3), (4, ai (0 : Int32))]) [1, 2, 3, 4, 0] rfl ?_
  exact s_M_comesFor_L3 hd hQ  n17 _ _ hw
set_option maxRecDepth 100000 in
set_option maxHeartbeats 4000000 in
theorem s_M_laysExchange_L113 {d : Nat} (hd : 4 ≤ d + 1) {Q : Bool → Hp → Prop} {QQ : Option AV → Hp → Prop} (hQ : ∀ r9 h9, Q r9 h9 → QQ (some (ai (b2i r9))) h9) {v0 : Nat} {v1 : Int32} {v2 : Int32} {k17 : Int32 → Hp → Prop} {k28 : Int32 → Hp → Prop} (hk17 : ∀ v2 h9, k17 v2 h9 → aW none m_M_laysExchange (d + 1) 17 [(0, ar v0), (1, ai v1), (2, ai v2)] [] h9 0 0 QQ) (hk28 : ∀ v3 h9, k28 v3 h9 → aW none m_M_laysExchange (d + 1) 28 [(0, ar v0), (1, ai v1), (2, ai v2), (3, ai v3)] [] h9 0 0 QQ) : ∀ (n : Nat) (v4 : Int32) (h : Hp), w_M_laysExchange_L113 Q k17 k28 v0 v1 v2 n v4 h → aW none m_M_laysExchange (d + 1) 113 [(0, ar v0), (1, ai v1), (2, ai v2), (4, ai v4)] [] h 0 0 QQ := by
  intro n
  induction n with
  | zero => intro v4 h hw; exact hw.elim
  | succ n ih =>
    intro v4 h hw
    unfold w_M_laysExchange_L113 at hw
    refine r_iload (j := 3) d_M_laysExchange_113 rfl ?_
    refine r_bipush d_M_laysExchange_115 kb_8 ?_
    refine r_icmp_ge d_M_laysExchange_117 (fun w9 => ?_) (fun w9 => ?_)
    · replace hw := hw.1 w9
      refine r_aload_n (j := 0) d_M_laysExchange_140 rfl ?_
      obtain ⟨q11, hw⟩ := hw
      refine r_callV (av := []) (rest := []) (ci := 12) d_M_laysExchange_141 mk_M_nextPlan ll_M_322 im_M_nextPlan se_M_nextPlan rfl (nle rfl) rfl rfl (nle rfl) q11 (s_M_nextPlan  hw (fun r10 h9 hw => ?_))
      show aW none m_M_laysExchange (d + 1) 144 [(0, ar v0), (1, ai v1), (2, ai v2), (4, ai v4)] [ai (b2i r10)] h9 0 0 QQ
      refine r_istore_n (ls2 := [(3, ai (b2i r10)), (0, ar v0), (1, ai v1), (2, ai v2), (4, ai v4)]) d_M_laysExchange_144 (nle rfl) rfl ?_
      refine r_goto d_M_laysExchange_145 ?_
      refine r_pick (ls2 := [(0, ar v0), (1, ai v1), (2, ai v2), (3, ai (b2i r10))]) [1, 2, 3, 0] rfl ?_
      exact hk28 _ _ hw
    · replace hw := hw.2 w9
      refine r_aload_n (j := 0) d_M_laysExchange_120 rfl ?_
      obtain ⟨q12, hw⟩ := hw
      refine r_getR d_M_laysExchange_121 ok_12 (nle rfl) (nle rfl) rfl lf_M_36 q12 ?_
      refine r_iload (j := 3) d_M_laysExchange_124 rfl ?_
      refine r_aload_n (j := 0) d_M_laysExchange_126 rfl ?_
      refine r_getR d_M_laysExchange_127 ok_12 (nle rfl) (nle rfl) rfl lf_M_95 q12 ?_
      refine r_iload (j := 3) d_M_laysExchange_130 rfl ?_
      obtain ⟨q13, hw⟩ := hw
      obtain ⟨q14, hw⟩ := hw
      refine r_iald d_M_laysExchange_132 q13 q14 ?_
      obtain ⟨q15, hw⟩ := hw
      obtain ⟨q16, hw⟩ := hw
      refine r_iast d_M_laysExchange_133 q15 q16 ?_
      refine r_iinc (j := 3) (ls2 := [(4, ai (v4 + (1 : Int32))), (0, ar v0), (1, ai v1), (2, ai v2)]) d_M_laysExchange_134 rfl (congrArg (HAdd.hAdd v4) kc_1) (nle rfl) rfl ?_
      refine r_goto d_M_laysExchange_137 ?_
      refine r_pick (ls2 := [(0, ar v0), (1, ai v1), (2, ai v2), (4, ai (v4 + (1 : Int32)))]) [1, 2, 3, 0] rfl ?_
      exact ih _ _ hw
set_option maxRecDepth 100000 in
set_option maxHeartbeats 4000000 in
theorem s_M_laysExchange_L65 {d : Nat} (hd : 4 ≤ d + 1) {Q : Bool → Hp → Prop} {QQ : Option AV → Hp → Prop} (hQ : ∀ r9 h9, Q r9 h9 → QQ (some (ai (b2i r9))) h9) {v0 : Nat} {v1 : Int32} {v2 : Int32} {k17 : Int32 → Hp → Prop} {k28 : Int32 → Hp → Prop} (hk17 : ∀ v2 h9, k17 v2 h9 → aW none m_M_laysExchange (d + 1) 17 [(0, ar v0), (1, ai v1), (2, ai v2)] [] h9 0 0 QQ) (hk28 : ∀ v3 h9, k28 v3 h9 → aW none m_M_laysExchange (d + 1) 28 [(0, ar v0), (1, ai v1), (2, ai v2), (3, ai v3)] [] h9 0 0 QQ) : ∀ (n : Nat) (v4 : Int32) (h : Hp), w_M_laysExchange_L65 Q k17 k28 v0 v1 v2 n v4 h → aW none m_M_laysExchange (d + 1) 65 [(0, ar v0), (1, ai v1), (2, ai v2), (4, ai v4)] [] h 0 0 QQ := by
  intro n
  induction n with
  | zero => intro v4 h hw; exact hw.elim
  | succ n ih =>
    intro v4 h hw
    unfold w_M_laysExchange_L65 at hw
    refine r_iload (j := 3) d_M_laysExchange_65 rfl ?_
    refine r_aload_n (j := 0) d_M_laysExchange_67 rfl ?_
    obtain ⟨q6, hw⟩ := hw
    refine r_getI d_M_laysExchange_68 ok_12 (nle rfl) (nle rfl) rfl lf_M_244 q6 ?_
    refine r_icmp_ge d_M_laysExchange_71 (fun w9 => ?_) (fun w9 => ?_)
    · replace hw := hw.1 w9
      refine r_aload_n (j := 0) d_M_laysExchange_93 rfl ?_
      refine r_callV (av := []) (rest := []) (ci := 12) d_M_laysExchange_94 mk_M_canGo ll_M_506 im_M_canGo se_M_canGo rfl (nle rfl) rfl rfl (nle rfl) q6 (s_M_canGo  hw (fun r8 h7 hw => ?_))
      show aW none m_M_laysExchange (d + 1) 97 [(0, ar v0), (1, ai v1), (2, ai v2), (4, ai v4)] [ai (b2i r8)] h7 0 0 QQ
      refine r_if_eq d_M_laysExchange_97 (fun w9 => ?_) (fun w9 => ?_)
      · replace hw := hw.1 (b2i_0.mp w9)
        refine r_iconst d_M_laysExchange_110 kc_0 ?_
        refine r_istore (ls2 := [(4, ai (0 : Int32)), (0, ar v0), (1, ai v1), (2, ai v2)]) d_M_laysExchange_111 (nle rfl) rfl ?_
        obtain ⟨n17, hw⟩ := hw
        refine r_pick (ls2 := [(0, ar v0), (1, ai v1), (2, ai v2), (4, ai (0 : Int32))]) [1, 2, 3, 0] rfl ?_
        exact s_M_laysExchange_L113 hd hQ hk17 hk28 n17 _ _ hw
      · replace hw := hw.2 (fun g9 => w9 (b2i_0.mpr g9))
        refine r_aload_n (j := 0) d_M_laysExchange_100 rfl ?_
        refine r_aload_n (j := 0) d_M_laysExchange_101 rfl ?_
        obtain ⟨q20, hw⟩ := hw
        refine r_callV (av := []) (rest := [ar v0]) (ci := 12) d_M_laysExchange_102 mk_M_planGain ll_M_331 im_M_planGain se_M_planGain rfl (nle rfl) rfl rfl (nle rfl) q20 (s_M_planGain (by omega) hw (fun r19 h18 hw => ?_))
        show aW none m_M_laysExchange (d + 1) 105 [(0, ar v0), (1, ai v1), (2, ai v2), (4, ai v4)] [ai r19, ar v0] h18 0 0 QQ
        refine r_iload_n (j := 2) d_M_laysExchange_105 rfl ?_
        refine r_iload_n (j := 1) d_M_laysExchange_106 rfl ?_
        obtain ⟨q22, hw⟩ := hw
        refine r_callV (av := [ai r19, ai v2, ai v1]) (rest := []) (ci := 12) d_M_laysExchange_107 mk_M_comesFor ll_M_509 im_M_comesFor se_M_comesFor rfl (nle rfl) rfl rfl (nle rfl) q22 (s_M_comesFor (by omega) hw (fun h21 hw => ?_))
        show aW none m_M_laysExchange (d + 1) 110 [(0, ar v0), (1, ai v1), (2, ai v2), (4, ai v4)] [] h21 0 0 QQ
        refine r_iconst d_M_laysExchange_110 kc_0 ?_
        refine r_istore (ls2 := [(4, ai (0 : Int32)), (0, ar v0), (1, ai v1), (2, ai v2)]) d_M_laysExchange_111 (nle rfl) rfl ?_
        obtain ⟨n23, hw⟩ := hw
        refine r_pick (ls2 := [(0, ar v0), (1, ai v1), (2, ai v2), (4, ai (0 : Int32))]) [1, 2, 3, 0] rfl ?_
        exact s_M_laysExchange_L113 hd hQ hk17 hk28 n23 _ _ hw
    · replace hw := hw.2 w9
      refine r_aload_n (j := 0) d_M_laysExchange_74 rfl ?_
      refine r_getR d_M_laysExchange_75 ok_12 (nle rfl) (nle rfl) rfl lf_M_104 q6 ?_
      refine r_iload (j := 3) d_M_laysExchange_78 rfl ?_
      refine r_aload_n (j := 0) d_M_laysExchange_80 rfl ?_
      refine r_iload (j := 3) d_M_laysExchange_81 rfl ?_
      refine r_callV (av := [ai v4]) (rest := [ai v4, ar (gR h v0 62)]) (ci := 12) d_M_laysExchange_83 mk_M_planSum ll_M_309 im_M_planSum se_M_planSum rfl (nle rfl) rfl rfl (nle rfl) q6 (s_M_planSum (by omega) hw (fun r25 h24 hw => ?_))
      show aW none m_M_laysExchange (d + 1) 86 [(0, ar v0), (1, ai v1), (2, ai v2), (4, ai v4)] [ai r25, ai v4, ar (gR h v0 62)] h24 0 0 QQ
      obtain ⟨q26, hw⟩ := hw
      obtain ⟨q27, hw⟩ := hw
      refine r_iast d_M_laysExchange_86 q26 q27 ?_
      refine r_iinc (j := 3) (ls2 := [(4, ai (v4 + (1 : Int32))), (0, ar v0), (1, ai v1), (2, ai v2)]) d_M_laysExchange_87 rfl (congrArg (HAdd.hAdd v4) kc_1) (nle rfl) rfl ?_
      refine r_goto d_M_laysExchange_90 ?_
      refine r_pick (ls2 := [(0, ar v0), (1, ai v1), (2, ai v2), (4, ai (v4 + (1 : Int32)))]) [1, 2, 3, 0] rfl ?_
      exact ih _ _ hw
set_option maxRecDepth 100000 in
set_option maxHeartbeats 4000000 in
theorem s_M_laysExchange_L35 {d : Nat} (hd : 4 ≤ d + 1) {Q : Bool → Hp → Prop} {QQ : Option AV → Hp → Prop} (hQ : ∀ r9 h9, Q r9 h9 → QQ (some (ai (b2i r9))) h9) {v0 : Nat} {v1 : Int32} {v2 : Int32} {k17 : Int32 → Hp → Prop} {k28 : Int32 → Hp → Prop} (hk17 : ∀ v2 h9, k17 v2 h9 → aW none m_M_laysExchange (d + 1) 17 [(0, ar v0), (1, ai v1), (2, ai v2)] [] h9 0 0 QQ) (hk28 : ∀ v3 h9, k28 v3 h9 → aW none m_M_laysExchange (d + 1) 28 [(0, ar v0), (1, ai v1), (2, ai v2), (3, ai v3)] [] h9 0 0 QQ) : ∀ (n : Nat) (v4 : Int32) (h : Hp), w_M_laysExchange_L35 Q k17 k28 v0 v1 v2 n v4 h → aW none m_M_laysExchange (d + 1) 35 [(0, ar v0), (1, ai v1), (2, ai v2), (4, ai v4)] [] h 0 0 QQ := by
  intro n
  induction n with
  | zero => intro v4 h hw; exact hw.elim
  | succ n ih =>
    intro v4 h hw
    unfold w_M_laysExchange_L35 at hw
    refine r_iload (j := 3) d_M_laysExchange_35 rfl ?_
    refine r_bipush d_M_laysExchange_37 kb_8 ?_
    refine r_icmp_ge d_M_laysExchange_39 (fun w9 => ?_) (fun w9 => ?_)
    · replace hw := hw.1 w9
      refine r_iconst d_M_laysExchange_62 kc_0 ?_
      refine r_istore (ls2 := [(4, ai (0 : Int32)), (0, ar v0), (1, ai v1), (2, ai v2)]) d_M_laysExchange_63 (nle rfl) rfl ?_
      obtain ⟨n28, hw⟩ := hw
      refine r_pick (ls2 := [(0, ar v0), (1, ai v1), (2, ai v2), (4, ai (0 : Int32))]) [1, 2, 3, 0] rfl ?_
      exact s_M_laysExchange_L65 hd hQ hk17 hk28 n28 _ _ hw
    · replace hw := hw.2 w9
      refine r_aload_n (j := 0) d_M_laysExchange_42 rfl ?_
      obtain ⟨q29, hw⟩ := hw
      refine r_getR d_M_laysExchange_43 ok_12 (nle rfl) (nle rfl) rfl lf_M_95 q29 ?_
      refine r_iload (j := 3) d_M_laysExchange_46 rfl ?_
      refine r_aload_n (j := 0) d_M_laysExchange_48 rfl ?_
      refine r_getR d_M_laysExchange_49 ok_12 (nle rfl) (nle rfl) rfl lf_M_36 q29 ?_
      refine r_iload (j := 3) d_M_laysExchange_52 rfl ?_
      obtain ⟨q30, hw⟩ := hw
      obtain ⟨q31, hw⟩ := hw
      refine r_iald d_M_laysExchange_54 q30 q31 ?_
      obtain ⟨q32, hw⟩ := hw
      obtain ⟨q33, hw⟩ := hw
      refine r_iast d_M_laysExchange_55 q32 q33 ?_
      refine r_iinc (j := 3) (ls2 := [(4, ai (v4 + (1 : Int32))), (0, ar v0), (1, ai v1), (2, ai v2)]) d_M_laysExchange_56 rfl (congrArg (HAdd.hAdd v4) kc_1) (nle rfl) rfl ?_
      refine r_goto d_M_laysExchange_59 ?_
      refine r_pick (ls2 := [(0, ar v0), (1, ai v1), (2, ai v2), (4, ai (v4 + (1 : Int32)))]) [1, 2, 3, 0] rfl ?_
      exact ih _ _ hw
set_option maxRecDepth 100000 in
set_option maxHeartbeats 4000000 in
theorem s_M_laysExchange_L28 {d : Nat} (hd : 4 ≤ d + 1) {Q : Bool → Hp → Prop} {QQ : Option AV → Hp → Prop} (hQ : ∀ r9 h9, Q r9 h9 → QQ (some (ai (b2i r9))) h9) {v0 : Nat} {v1 : Int32} {v2 : Int32} {k17 : Int32 → Hp → Prop} (hk17 : ∀ v2 h9, k17 v2 h9 → aW none m_M_laysExchange (d + 1) 17 [(0, ar v0), (1, ai v1), (2, ai v2)] [] h9 0 0 QQ) : ∀ (n : Nat) (v3 : Int32) (h : Hp), w_M_laysExchange_L28 Q k17 v0 v1 v2 n v3 h → aW none m_M_laysExchange (d + 1) 28 [(0, ar v0), (1, ai v1), (2, ai v2), (3, ai v3)] [] h 0 0 QQ := by
  intro n
  induction n with
  | zero => intro v3 h hw; exact hw.elim
  | succ n ih =>
    intro v3 h hw
    unfold w_M_laysExchange_L28 at hw
    refine r_iload_n (j := 3) d_M_laysExchange_28 rfl ?_
    refine r_if_eq d_M_laysExchange_29 (fun w9 => ?_) (fun w9 => ?_)
    · replace hw := hw.1 w9
      refine r_iinc (j := 2) (ls2 := [(2, ai (v2 + (1 : Int32))), (0, ar v0), (1, ai v1), (3, ai v3)]) d_M_laysExchange_148 rfl (congrArg (HAdd.hAdd v2) kc_1) (nle rfl) rfl ?_
      refine r_goto d_M_laysExchange_151 ?_
      refine r_pick (ls2 := [(0, ar v0), (1, ai v1), (2, ai (v2 + (1 : Int32)))]) [1, 2, 0] rfl ?_
      exact hk17 _ _ hw
    · replace hw := hw.2 w9
      refine r_iconst d_M_laysExchange_32 kc_0 ?_
      refine r_istore (ls2 := [(4, ai (0 : Int32)), (0, ar v0), (1, ai v1), (2, ai v2), (3, ai v3)]) d_M_laysExchange_33 (nle rfl) rfl ?_
      obtain ⟨n34, hw⟩ := hw
      refine r_pick (ls2 := [(0, ar v0), (1, ai v1), (2, ai v2), (4, ai (0 : Int32))]) [1, 2, 3, 0] rfl ?_
      exact s_M_laysExchange_L35 hd hQ hk17 ih n34 _ _ hw
set_option maxRecDepth 100000 in
set_option maxHeartbeats 4000000 in
theorem s_M_laysExchange_L17 {d : Nat} (hd : 4 ≤ d + 1) {Q : Bool → Hp → Prop} {QQ : Option AV → Hp → Prop} (hQ : ∀ r9 h9, Q r9 h9 → QQ (some (ai (b2i r9))) h9) {v0 : Nat} {v1 : Int32} : ∀ (n : Nat) (v2 : Int32) (h : Hp), w_M_laysExchange_L17 Q  v0 v1 n v2 h → aW none m_M_laysExchange (d + 1) 17 [(0, ar v0), (1, ai v1), (2, ai v2)] [] h 0 0 QQ := by
  intro n
  induction n with
  | zero => intro v2 h hw; exact hw.elim
  | succ n ih =>
    intro v2 h hw
    unfold w_M_laysExchange_L17 at hw
    refine r_iload_n (j := 2) d_M_laysExchange_17 rfl ?_
    refine r_iload_n (j := 1) d_M_laysExchange_18 rfl ?_
    refine r_icmp_gt d_M_laysExchange_19 (fun w9 => ?_) (fun w9 => ?_)
    · replace hw := hw.1 w9
      refine r_aload_n (j := 0) d_M_laysExchange_154 rfl ?_
      obtain ⟨q2, hw⟩ := hw
      refine r_getI d_M_laysExchange_155 ok_12 (nle rfl) (nle rfl) rfl lf_M_491 q2 ?_
      refine r_if_le d_M_laysExchange_158 (fun w9 => ?_) (fun w9 => ?_)
      · replace hw := hw.1 w9
        refine r_iconst d_M_laysExchange_165 kc_0 ?_
        exact r_zreturn d_M_laysExchange_166.1 rfl (Or.inl rfl) (hQ _ _ hw)
      · replace hw := hw.2 w9
        refine r_iconst d_M_laysExchange_161 kc_1 ?_
        refine r_goto d_M_laysExchange_162 ?_
        exact r_zreturn d_M_laysExchange_166.1 rfl (Or.inr rfl) (hQ _ _ hw)
    · replace hw := hw.2 w9
      refine r_aload_n (j := 0) d_M_laysExchange_22 rfl ?_
      refine r_iload_n (j := 2) d_M_laysExchange_23 rfl ?_
      obtain ⟨q5, hw⟩ := hw
      refine r_callV (av := [ai v2]) (rest := []) (ci := 12) d_M_laysExchange_24 mk_M_firstPlan ll_M_312 im_M_firstPlan se_M_firstPlan rfl (nle rfl) rfl rfl (nle rfl) q5 (s_M_firstPlan  hw (fun r4 h3 hw => ?_))
      show aW none m_M_laysExchange (d + 1) 27 [(0, ar v0), (1, ai v1), (2, ai v2)] [ai (b2i r4)] h3 0 0 QQ
      refine r_istore_n (ls2 := [(3, ai (b2i r4)), (0, ar v0), (1, ai v1), (2, ai v2)]) d_M_laysExchange_27 (nle rfl) rfl ?_
      obtain ⟨n35, hw⟩ := hw
      refine r_pick (ls2 := [(0, ar v0), (1, ai v1), (2, ai v2), (3, ai (b2i r4))]) [1, 2, 3, 0] rfl ?_
      exact s_M_laysExchange_L28 hd hQ ih n35 _ _ hw
set_option maxRecDepth 100000 in
set_option maxHeartbeats 4000000 in
theorem s_M_laysExchange {d : Nat} (hd : 4 ≤ d) {v0 : Nat} {v1 : Int32} {h : Hp} {Q : Bool → Hp → Prop} {QQ : Option AV → Hp → Prop} (hw : w_M_laysExchange v0 v1 h Q) (hQ : ∀ r9 h9, Q r9 h9 → QQ (some (ai (b2i r9))) h9) : aCall m_M_laysExchange d [ar v0, ai v1] h 0 0 QQ := by
  obtain ⟨d, rfl⟩ : ∃ d9, d = d9 + 1 := ⟨d - 1, by omega⟩
  refine aCall_in pl_M_laysExchange (nle rfl) ?_
  show aW none m_M_laysExchange (d + 1) 0 [(0, ar v0), (1, ai v1)] [] h 0 0 QQ
  unfold w_M_laysExchange at hw
  refine r_aload_n (j := 0) d_M_laysExchange_0 rfl ?_
  refine r_iconst d_M_laysExchange_1 kc_0 ?_
  obtain ⟨q1, hw⟩ := hw
  refine r_putI d_M_laysExchange_2 ok_12 (nle rfl) (nle rfl) rfl lf_M_491 rfl q1 ?_
  refine r_aload_n (j := 0) d_M_laysExchange_5 rfl ?_
  refine r_iconst d_M_laysExchange_6 kc_m1 ?_
  refine r_putI d_M_laysExchange_7 ok_12 (nle rfl) (nle rfl) rfl lf_M_494 rfl (kt eKI q1) ?_
  refine r_aload_n (j := 0) d_M_laysExchange_10 rfl ?_
  refine r_iconst d_M_laysExchange_11 kc_m1 ?_
  refine r_putI d_M_laysExchange_12 ok_12 (nle rfl) (nle rfl) rfl lf_M_497 rfl (kt (eKI.trans eKI) q1) ?_
  refine r_iconst d_M_laysExchange_15 kc_0 ?_
  refine r_istore_n (ls2 := [(2, ai (0 : Int32)), (0, ar v0), (1, ai v1)]) d_M_laysExchange_16 (nle rfl) rfl ?_
  obtain ⟨n36, hw⟩ := hw
  refine r_pick (ls2 := [(0, ar v0), (1, ai v1), (2, ai (0 : Int32))]) [1, 2, 0] rfl ?_
  exact s_M_laysExchange_L17 hd hQ  n36 _ _ hw
set_option maxRecDepth 100000 in
set_option maxHeartbeats 4000000 in
theorem s_M_exchange_B25 {d : Nat} (hd : 5 ≤ d + 1) {Q : Int32 → Hp → Prop} {QQ : Option AV → Hp → Prop} (hQ : ∀ r9 h9, Q r9 h9 → QQ (some (ai r9)) h9) {v0 : Nat} {v1 : Int32} {v2 : Int32} {s0 : Int32} {h : Hp} (hw : w_M_exchange_B25 Q  v0 v1 v2 s0 h) : aW none m_M_exchange (d + 1) 25 [(0, ar v0), (1, ai v1), (2, ai v2)] [ai s0] h 0 0 QQ := by
  unfold w_M_exchange_B25 at hw
  refine r_istore_n (ls2 := [(3, ai s0), (0, ar v0), (1, ai v1), (2, ai v2)]) d_M_exchange_25 (nle rfl) rfl ?_
  refine r_iload_n (j := 2) d_M_exchange_26 rfl ?_
  refine r_iconst d_M_exchange_27 kc_1 ?_
  refine r_iconst d_M_exchange_28 kc_3 ?_
  refine r_callS (av := [ai v1, ai (1 : Int32), ai (3 : Int32)]) (rest := []) d_M_exchange_29 mk_M_isIn ll_M_148 st_M_isIn rfl rfl (nle rfl) (s_M_isIn  hw (fun r4 h3 hw => ?_))
  show aW none m_M_exchange (d + 1) 32 [(3, ai s0), (0, ar v0), (1, ai v1), (2, ai v2)] [ai (b2i r4)] h3 0 0 QQ
  refine r_if_eq d_M_exchange_32 (fun w9 => ?_) (fun w9 => ?_)
  · replace hw := hw.1 (b2i_0.mp w9)
    refine r_ldcw d_M_exchange_47 lc_M_277 ?_
    exact r_ireturn d_M_exchange_50.1 rfl (hQ _ _ hw)
  · replace hw := hw.2 (fun g9 => w9 (b2i_0.mpr g9))
    refine r_iload_n (j := 0) d_M_exchange_35 rfl ?_
    refine r_if_eq d_M_exchange_36 (fun w9 => ?_) (fun w9 => ?_)
    · replace hw := hw.1 w9
      refine r_ldcw d_M_exchange_47 lc_M_277 ?_
      exact r_ireturn d_M_exchange_50.1 rfl (hQ _ _ hw)
    · replace hw := hw.2 w9
      refine r_aload_n (j := 1) d_M_exchange_39 rfl ?_
      refine r_iload_n (j := 2) d_M_exchange_40 rfl ?_
      obtain ⟨q7, hw⟩ := hw
      refine r_callV (av := [ai v1]) (rest := []) (ci := 12) d_M_exchange_41 mk_M_laysExchange ll_M_512 im_M_laysExchange se_M_laysExchange rfl (nle rfl) rfl rfl (nle rfl) q7 (s_M_laysExchange (by omega) hw (fun r6 h5 hw => ?_))
      show aW none m_M_exchange (d + 1) 44 [(3, ai s0), (0, ar v0), (1, ai v1), (2, ai v2)] [ai (b2i r6)] h5 0 0 QQ
      refine r_if_ne d_M_exchange_44 (fun w9 => ?_) (fun w9 => ?_)
      · replace hw := hw.2 (fun g9 => w9 (b2i_0.mpr g9))
        refine r_iload_n (j := 3) d_M_exchange_51 rfl ?_
        refine r_if_ne d_M_exchange_52 (fun w9 => ?_) (fun w9 => ?_)
        · replace hw := hw.2 w9
          refine r_iload_n (j := 3) d_M_exchange_62 rfl ?_
          refine r_iconst d_M_exchange_63 kc_1 ?_
          refine r_icmp_ne d_M_exchange_64 (fun w9 => ?_) (fun w9 => ?_)
          · replace hw := hw.2 w9
            refine r_iload_n (j := 3) d_M_exchange_74 rfl ?_
            refine r_iconst d_M_exchange_75 kc_2 ?_
            refine r_icmp_ne d_M_exchange_76 (fun w9 => ?_) (fun w9 => ?_)
            · replace hw := hw.2 w9
              refine r_aload_n (j := 1) d_M_exchange_86 rfl ?_
              obtain ⟨q8, hw⟩ := hw
              refine r_getR d_M_exchange_87 ok_12 (nle rfl) (nle rfl) rfl lf_M_101 q8 ?_
              refine r_iload_n (j := 3) d_M_exchange_90 rfl ?_
              refine r_bipush d_M_exchange_91 kb_10 ?_
              refine r_isub d_M_exchange_93 ?_
              obtain ⟨q9, hw⟩ := hw
              obtain ⟨q10, hw⟩ := hw
              refine r_iald d_M_exchange_94 q9 q10 ?_
              refine r_aload_n (j := 1) d_M_exchange_95 rfl ?_
              refine r_getR d_M_exchange_96 ok_12 (nle rfl) (nle rfl) rfl lf_M_98 q8 ?_
              refine r_iload_n (j := 3) d_M_exchange_99 rfl ?_
              refine r_bipush d_M_exchange_100 kb_10 ?_
              refine r_isub d_M_exchange_102 ?_
              obtain ⟨q11, hw⟩ := hw
              obtain ⟨q12, hw⟩ := hw
              refine r_iald d_M_exchange_103 q11 q12 ?_
              refine r_isub d_M_exchange_104 ?_
              exact r_ireturn d_M_exchange_105.1 rfl (hQ _ _ hw)
            · replace hw := hw.1 w9
              refine r_aload_n (j := 1) d_M_exchange_79 rfl ?_
              obtain ⟨q13, hw⟩ := hw
              refine r_getI d_M_exchange_80 ok_12 (nle rfl) (nle rfl) rfl lf_M_497 q13 ?_
              refine r_goto d_M_exchange_83 ?_
              exact r_ireturn d_M_exchange_105.1 rfl (hQ _ _ hw)
          · replace hw := hw.1 w9
            refine r_aload_n (j := 1) d_M_exchange_67 rfl ?_
            obtain ⟨q14, hw⟩ := hw
            refine r_getI d_M_exchange_68 ok_12 (nle rfl) (nle rfl) rfl lf_M_494 q14 ?_
            refine r_goto d_M_exchange_71 ?_
            exact r_ireturn d_M_exchange_105.1 rfl (hQ _ _ hw)
        · replace hw := hw.1 w9
          refine r_aload_n (j := 1) d_M_exchange_55 rfl ?_
          obtain ⟨q15, hw⟩ := hw
          refine r_getI d_M_exchange_56 ok_12 (nle rfl) (nle rfl) rfl lf_M_491 q15 ?_
          refine r_goto d_M_exchange_59 ?_
          exact r_ireturn d_M_exchange_105.1 rfl (hQ _ _ hw)
      · replace hw := hw.1 (b2i_0.mp w9)
        refine r_ldcw d_M_exchange_47 lc_M_277 ?_
        exact r_ireturn d_M_exchange_50.1 rfl (hQ _ _ hw)
set_option maxRecDepth 100000 in
set_option maxHeartbeats 4000000 in
theorem s_M_exchange_B20 {d : Nat} (hd : 5 ≤ d + 1) {Q : Int32 → Hp → Prop} {QQ : Option AV → Hp → Prop} (hQ : ∀ r9 h9, Q r9 h9 → QQ (some (ai r9)) h9) {v0 : Nat} {v1 : Int32} {v2 : Int32} {h : Hp} (hw : w_M_exchange_B20 Q  v0 v1 v2 h) : aW none m_M_exchange (d + 1) 20 [(0, ar v0), (1, ai v1), (2, ai v2)] [] h 0 0 QQ := by
  unfold w_M_exchange_B20 at hw
  refine r_iconst d_M_exchange_20 kc_1 ?_
  refine r_goto d_M_exchange_21 ?_
  exact s_M_exchange_B25 hd hQ  hw
set_option maxRecDepth 100000 in
set_option maxHeartbeats 4000000 in
theorem s_M_exchange {d : Nat} (hd : 5 ≤ d) {v0 : Nat} {v1 : Int32} {v2 : Int32} {h : Hp} {Q : Int32 → Hp → Prop} {QQ : Option AV → Hp → Prop} (hw : w_M_exchange v0 v1 v2 h Q) (hQ : ∀ r9 h9, Q r9 h9 → QQ (some (ai r9)) h9) : aCall m_M_exchange d [ar v0, ai v1, ai v2] h 0 0 QQ := by
  obtain ⟨d, rfl⟩ : ∃ d9, d = d9 + 1 := ⟨d - 1, by omega⟩
  refine aCall_in pl_M_exchange (nle rfl) ?_
  show aW none m_M_exchange (d + 1) 0 [(0, ar v0), (1, ai v1), (2, ai v2)] [] h 0 0 QQ
  unfold w_M_exchange at hw
  refine r_iload_n (j := 2) d_M_exchange_0 rfl ?_
  refine r_iconst d_M_exchange_1 kc_0 ?_
  refine r_iconst d_M_exchange_2 kc_2 ?_
  refine r_callS (av := [ai v2, ai (0 : Int32), ai (2 : Int32)]) (rest := []) d_M_exchange_3 mk_M_isIn ll_M_148 st_M_isIn rfl rfl (nle rfl) (s_M_isIn  hw (fun r2 h1 hw => ?_))
  show aW none m_M_exchange (d + 1) 6 [(0, ar v0), (1, ai v1), (2, ai v2)] [ai (b2i r2)] h1 0 0 QQ
  refine r_if_ne d_M_exchange_6 (fun w9 => ?_) (fun w9 => ?_)
  · replace hw := hw.2 (fun g9 => w9 (b2i_0.mpr g9))
    exact s_M_exchange_B20 hd hQ  hw
  · replace hw := hw.1 (b2i_0.mp w9)
    refine r_aload_n (j := 0) d_M_exchange_9 rfl ?_
    refine r_iload_n (j := 2) d_M_exchange_10 rfl ?_
    refine r_bipush d_M_exchange_11 kb_10 ?_
    refine r_isub d_M_exchange_13 ?_
    obtain ⟨q18, hw⟩ := hw
    refine r_callV (av := [ai (v2 - (10 : Int32))]) (rest := []) (ci := 12) d_M_exchange_14 mk_M_isColumn ll_M_268 im_M_isColumn se_M_isColumn rfl (nle rfl) rfl rfl (nle rfl) q18 (s_M_isColumn (by omega) hw (fun r17 h16 hw => ?_))
    show aW none m_M_exchange (d + 1) 17 [(0, ar v0), (1, ai v1), (2, ai v2)] [ai (b2i r17)] h16 0 0 QQ
    refine r_if_eq d_M_exchange_17 (fun w9 => ?_) (fun w9 => ?_)
    · replace hw := hw.1 (b2i_0.mp w9)
      refine r_iconst d_M_exchange_24 kc_0 ?_
      exact s_M_exchange_B25 hd hQ  hw
    · replace hw := hw.2 (fun g9 => w9 (b2i_0.mpr g9))
      exact s_M_exchange_B20 hd hQ  hw
set_option maxRecDepth 100000 in
set_option maxHeartbeats 4000000 in
theorem s_M_better_L27 {d : Nat} (hd : 5 ≤ d + 1) {Q : Int32 → Hp → Prop} {QQ : Option AV → Hp → Prop} (hQ : ∀ r9 h9, Q r9 h9 → QQ (some (ai r9)) h9) {v0 : Nat} : ∀ (n : Nat) (v2 : Int32) (h : Hp), w_M_better_L27 Q  v0 n v2 h → aW none m_M_better (d + 1) 27 [(0, ar v0), (2, ai v2)] [] h 0 0 QQ := by
  intro n
  induction n with
  | zero => intro v2 h hw; exact hw.elim
  | succ n ih =>
    intro v2 h hw
    unfold w_M_better_L27 at hw
    refine r_iload_n (j := 1) d_M_better_27 rfl ?_
    refine r_aload_n (j := 0) d_M_better_28 rfl ?_
    obtain ⟨q8, hw⟩ := hw
    refine r_getI d_M_better_29 ok_12 (nle rfl) (nle rfl) rfl lf_M_247 q8 ?_
    refine r_icmp_ge d_M_better_32 (fun w9 => ?_) (fun w9 => ?_)
    · replace hw := hw.1 w9
      refine r_aload_n (j := 0) d_M_better_66 rfl ?_
      refine r_callV (av := []) (rest := []) (ci := 12) d_M_better_67 mk_M_heldGain ll_M_299 im_M_heldGain se_M_heldGain rfl (nle rfl) rfl rfl (nle rfl) q8 (s_M_heldGain (by omega) hw (fun r10 h9 hw => ?_))
      show aW none m_M_better (d + 1) 70 [(0, ar v0), (2, ai v2)] [ai r10] h9 0 0 QQ
      exact r_ireturn d_M_better_70.1 rfl (hQ _ _ hw)
    · replace hw := hw.2 w9
      refine r_aload_n (j := 0) d_M_better_35 rfl ?_
      refine r_getR d_M_better_36 ok_12 (nle rfl) (nle rfl) rfl lf_M_30 q8 ?_
      refine r_bipush d_M_better_39 kb_36 ?_
      refine r_iload_n (j := 1) d_M_better_41 rfl ?_
      refine r_iadd d_M_better_42 ?_
      refine r_dup2 d_M_better_43 rfl rfl ?_
      obtain ⟨q11, hw⟩ := hw
      obtain ⟨q12, hw⟩ := hw
      refine r_iald d_M_better_44 q11 q12 ?_
      refine r_aload_n (j := 0) d_M_better_45 rfl ?_
      refine r_getR d_M_better_46 ok_12 (nle rfl) (nle rfl) rfl lf_M_101 q8 ?_
      refine r_iload_n (j := 1) d_M_better_49 rfl ?_
      obtain ⟨q13, hw⟩ := hw
      obtain ⟨q14, hw⟩ := hw
      refine r_iald d_M_better_50 q13 q14 ?_
      refine r_aload_n (j := 0) d_M_better_51 rfl ?_
      refine r_getR d_M_better_52 ok_12 (nle rfl) (nle rfl) rfl lf_M_98 q8 ?_
      refine r_iload_n (j := 1) d_M_better_55 rfl ?_
      obtain ⟨q15, hw⟩ := hw
      obtain ⟨q16, hw⟩ := hw
      refine r_iald d_M_better_56 q15 q16 ?_
      refine r_isub d_M_better_57 ?_
      refine r_iadd d_M_better_58 ?_
      refine r_iast d_M_better_59 q11 q12 ?_
      refine r_iinc (j := 1) (ls2 := [(2, ai (v2 + (1 : Int32))), (0, ar v0)]) d_M_better_60 rfl (congrArg (HAdd.hAdd v2) kc_1) (nle rfl) rfl ?_
      refine r_goto d_M_better_63 ?_
      refine r_pick (ls2 := [(0, ar v0), (2, ai (v2 + (1 : Int32)))]) [1, 0] rfl ?_
      exact ih _ _ hw
set_option maxRecDepth 100000 in
set_option maxHeartbeats 4000000 in
theorem s_M_better {d : Nat} (hd : 5 ≤ d) {v0 : Nat} {v1 : Int32} {h : Hp} {Q : Int32 → Hp → Prop} {QQ : Option AV → Hp → Prop} (hw : w_M_better v0 v1 h Q) (hQ : ∀ r9 h9, Q r9 h9 → QQ (some (ai r9)) h9) : aCall m_M_better d [ar v0, ai v1] h 0 0 QQ := by
  obtain ⟨d, rfl⟩ : ∃ d9, d = d9 + 1 := ⟨d - 1, by omega⟩
  refine aCall_in pl_M_better (nle rfl) ?_
  show aW none m_M_better (d + 1) 0 [(0, ar v0), (1, ai v1)] [] h 0 0 QQ
  unfold w_M_better at hw
  refine r_iload_n (j := 1) d_M_better_0 rfl ?_
  refine r_iconst d_M_better_1 kc_1 ?_
  refine r_iconst d_M_better_2 kc_3 ?_
  refine r_callS (av := [ai v1, ai (1 : Int32), ai (3 : Int32)]) (rest := []) d_M_better_3 mk_M_isIn ll_M_148 st_M_isIn rfl rfl (nle rfl) (s_M_isIn  hw (fun r2 h1 hw => ?_))
  show aW none m_M_better (d + 1) 6 [(0, ar v0), (1, ai v1)] [ai (b2i r2)] h1 0 0 QQ
  refine r_if_eq d_M_better_6 (fun w9 => ?_) (fun w9 => ?_)
  · replace hw := hw.1 (b2i_0.mp w9)
    refine r_ldcw d_M_better_17 lc_M_277 ?_
    exact r_ireturn d_M_better_20.1 rfl (hQ _ _ hw)
  · replace hw := hw.2 (fun g9 => w9 (b2i_0.mpr g9))
    refine r_aload_n (j := 0) d_M_better_9 rfl ?_
    refine r_iload_n (j := 1) d_M_better_10 rfl ?_
    obtain ⟨q5, hw⟩ := hw
    refine r_callV (av := [ai v1]) (rest := []) (ci := 12) d_M_better_11 mk_M_laysExchange ll_M_512 im_M_laysExchange se_M_laysExchange rfl (nle rfl) rfl rfl (nle rfl) q5 (s_M_laysExchange (by omega) hw (fun r4 h3 hw => ?_))
    show aW none m_M_better (d + 1) 14 [(0, ar v0), (1, ai v1)] [ai (b2i r4)] h3 0 0 QQ
    refine r_if_ne d_M_better_14 (fun w9 => ?_) (fun w9 => ?_)
    · replace hw := hw.2 (fun g9 => w9 (b2i_0.mpr g9))
      refine r_aload_n (j := 0) d_M_better_21 rfl ?_
      obtain ⟨q7, hw⟩ := hw
      refine r_callV (av := []) (rest := []) (ci := 12) d_M_better_22 mk_M_act ll_M_287 im_M_act se_M_act rfl (nle rfl) rfl rfl (nle rfl) q7 (s_M_act  hw (fun h6 hw => ?_))
      show aW none m_M_better (d + 1) 25 [(0, ar v0), (1, ai v1)] [] h6 0 0 QQ
      refine r_iconst d_M_better_25 kc_0 ?_
      refine r_istore_n (ls2 := [(2, ai (0 : Int32)), (0, ar v0), (1, ai v1)]) d_M_better_26 (nle rfl) rfl ?_
      obtain ⟨n17, hw⟩ := hw
      refine r_pick (ls2 := [(0, ar v0), (2, ai (0 : Int32))]) [1, 0] rfl ?_
      exact s_M_better_L27 hd hQ  n17 _ _ hw
    · replace hw := hw.1 (b2i_0.mp w9)
      refine r_ldcw d_M_better_17 lc_M_277 ?_
      exact r_ireturn d_M_better_20.1 rfl (hQ _ _ hw)
set_option maxRecDepth 100000 in
set_option maxHeartbeats 4000000 in
theorem s_M_draws_L19 {d : Nat} (hd : 2 ≤ d + 1) {Q : Hp → Prop} {QQ : Option AV → Hp → Prop} (hQ : ∀ h9, Q h9 → QQ none h9) {v0 : Nat} {v2 : Int32} : ∀ (n : Nat) (v3 : Int32) (v4 : Int32) (h : Hp), w_M_draws_L19 Q  v0 v2 n v3 v4 h → aW none m_M_draws (d + 1) 19 [(0, ar v0), (2, ai v2), (3, ai v3), (4, ai v4)] [] h 0 0 QQ := by
  intro n
  induction n with
  | zero => intro v3 v4 h hw; exact hw.elim
  | succ n ih =>
    intro v3 v4 h hw
    unfold w_M_draws_L19 at hw
    refine r_iload (j := 3) d_M_draws_19 rfl ?_
    refine r_iload_n (j := 1) d_M_draws_21 rfl ?_
    refine r_icmp_gt d_M_draws_22 (fun w9 => ?_) (fun w9 => ?_)
    · replace hw := hw.1 w9
      exact r_return d_M_draws_91.1 rfl (hQ _ hw)
    · replace hw := hw.2 w9
      refine r_sipush d_M_draws_25 ks_137 ?_
      refine r_iload_n (j := 2) d_M_draws_28 rfl ?_
      refine r_imul d_M_draws_29 ?_
      refine r_bipush d_M_draws_30 kb_71 ?_
      refine r_iadd d_M_draws_32 ?_
      refine r_sipush d_M_draws_33 ks_10007 ?_
      refine r_irem d_M_draws_36 (by decide) ?_
      refine r_istore_n (ls2 := [(3, ai (jrem (((137 : Int32) * v3) + (71 : Int32)) (10007 : Int32))), (0, ar v0), (2, ai v2), (4, ai v4)]) d_M_draws_37 (nle rfl) rfl ?_
      refine r_aload_n (j := 1) d_M_draws_38 rfl ?_
      refine r_iload_n (j := 0) d_M_draws_39 rfl ?_
      refine r_aload_n (j := 1) d_M_draws_40 rfl ?_
      obtain ⟨q4, hw⟩ := hw
      refine r_getI d_M_draws_41 ok_12 (nle rfl) (nle rfl) rfl lf_M_247 q4 ?_
      obtain ⟨q5, hw⟩ := hw
      refine r_irem d_M_draws_44 q5 ?_
      refine r_callV (av := [ai (jrem (jrem (((137 : Int32) * v3) + (71 : Int32)) (10007 : Int32)) (gI h v0 18))]) (rest := []) (ci := 12) d_M_draws_45 mk_M_adds ll_M_363 im_M_adds se_M_adds rfl (nle rfl) rfl rfl (nle rfl) q4 (s_M_adds (by omega) hw (fun h6 hw => ?_))
      show aW none m_M_draws (d + 1) 48 [(3, ai (jrem (((137 : Int32) * v3) + (71 : Int32)) (10007 : Int32))), (0, ar v0), (2, ai v2), (4, ai v4)] [] h6 0 0 QQ
      refine r_aload_n (j := 1) d_M_draws_48 rfl ?_
      refine r_dup d_M_draws_49 rfl ?_
      obtain ⟨q7, hw⟩ := hw
      refine r_getI d_M_draws_50 ok_12 (nle rfl) (nle rfl) rfl lf_M_518 q7 ?_
      refine r_aload_n (j := 1) d_M_draws_53 rfl ?_
      refine r_iload_n (j := 0) d_M_draws_54 rfl ?_
      refine r_aload_n (j := 1) d_M_draws_55 rfl ?_
      refine r_getI d_M_draws_56 ok_12 (nle rfl) (nle rfl) rfl lf_M_247 q7 ?_
      obtain ⟨q8, hw⟩ := hw
      refine r_irem d_M_draws_59 q8 ?_
      refine r_callV (av := [ai (jrem (jrem (((137 : Int32) * v3) + (71 : Int32)) (10007 : Int32)) (gI h6 v0 18))]) (rest := [ai (gI h6 v0 67), ar v0]) (ci := 12) d_M_draws_60 mk_M_gainOf ll_M_278 im_M_gainOf se_M_gainOf rfl (nle rfl) rfl rfl (nle rfl) q7 (s_M_gainOf  hw (fun r10 h9 hw => ?_))
      show aW none m_M_draws (d + 1) 63 [(3, ai (jrem (((137 : Int32) * v3) + (71 : Int32)) (10007 : Int32))), (0, ar v0), (2, ai v2), (4, ai v4)] [ai r10, ai (gI h6 v0 67), ar v0] h9 0 0 QQ
      refine r_iadd d_M_draws_63 ?_
      obtain ⟨q11, hw⟩ := hw
      refine r_putI d_M_draws_64 ok_12 (nle rfl) (nle rfl) rfl lf_M_518 rfl q11 ?_
      refine r_aload_n (j := 1) d_M_draws_67 rfl ?_
      refine r_aload_n (j := 1) d_M_draws_68 rfl ?_
      refine r_getI d_M_draws_69 ok_12 (nle rfl) (nle rfl) rfl lf_M_515 (kt eKI q11) ?_
      refine r_aload_n (j := 1) d_M_draws_72 rfl ?_
      refine r_iload (j := 3) d_M_draws_73 rfl ?_
      refine r_iload_n (j := 2) d_M_draws_75 rfl ?_
      refine r_callV (av := [ai v4, ai v2]) (rest := [ai (gI (sI h9 v0 67 ((gI h6 v0 67) + r10)) v0 66), ar v0]) (ci := 12) d_M_draws_76 mk_M_strayNow ll_M_366 im_M_strayNow se_M_strayNow rfl (nle rfl) rfl rfl (nle rfl) (kt eKI q11) (s_M_strayNow (by omega) hw (fun r13 h12 hw => ?_))
      show aW none m_M_draws (d + 1) 79 [(3, ai (jrem (((137 : Int32) * v3) + (71 : Int32)) (10007 : Int32))), (0, ar v0), (2, ai v2), (4, ai v4)] [ai r13, ai (gI (sI h9 v0 67 ((gI h6 v0 67) + r10)) v0 66), ar v0] h12 0 0 QQ
      refine r_callS (av := [ai (gI (sI h9 v0 67 ((gI h6 v0 67) + r10)) v0 66), ai r13]) (rest := [ar v0]) d_M_draws_79 mk_M_greater ll_M_343 st_M_greater rfl rfl (nle rfl) (s_M_greater  hw (fun r15 h14 hw => ?_))
      show aW none m_M_draws (d + 1) 82 [(3, ai (jrem (((137 : Int32) * v3) + (71 : Int32)) (10007 : Int32))), (0, ar v0), (2, ai v2), (4, ai v4)] [ai r15, ar v0] h14 0 0 QQ
      obtain ⟨q16, hw⟩ := hw
      refine r_putI d_M_draws_82 ok_12 (nle rfl) (nle rfl) rfl lf_M_515 rfl q16 ?_
      refine r_iinc (j := 3) (ls2 := [(4, ai (v4 + (1 : Int32))), (3, ai (jrem (((137 : Int32) * v3) + (71 : Int32)) (10007 : Int32))), (0, ar v0), (2, ai v2)]) d_M_draws_85 rfl (congrArg (HAdd.hAdd v4) kc_1) (nle rfl) rfl ?_
      refine r_goto d_M_draws_88 ?_
      refine r_pick (ls2 := [(0, ar v0), (2, ai v2), (3, ai (jrem (((137 : Int32) * v3) + (71 : Int32)) (10007 : Int32))), (4, ai (v4 + (1 : Int32)))]) [2, 3, 1, 0] rfl ?_
      exact ih _ _ _ hw
set_option maxRecDepth 100000 in
set_option maxHeartbeats 4000000 in
theorem s_M_draws {d : Nat} (hd : 2 ≤ d) {v0 : Nat} {v1 : Int32} {v2 : Int32} {h : Hp} {Q : Hp → Prop} {QQ : Option AV → Hp → Prop} (hw : w_M_draws v0 v1 v2 h Q) (hQ : ∀ h9, Q h9 → QQ none h9) : aCall m_M_draws d [ar v0, ai v1, ai v2] h 0 0 QQ := by
  obtain ⟨d, rfl⟩ : ∃ d9, d = d9 + 1 := ⟨d - 1, by omega⟩
  refine aCall_in pl_M_draws (nle rfl) ?_
  show aW none m_M_draws (d + 1) 0 [(0, ar v0), (1, ai v1), (2, ai v2)] [] h 0 0 QQ
  unfold w_M_draws at hw
  refine r_iload_n (j := 1) d_M_draws_0 rfl ?_
  refine r_istore_n (ls2 := [(3, ai v1), (0, ar v0), (1, ai v1), (2, ai v2)]) d_M_draws_1 (nle rfl) rfl ?_
  refine r_aload_n (j := 1) d_M_draws_2 rfl ?_
  obtain ⟨q2, hw⟩ := hw
  refine r_callV (av := []) (rest := []) (ci := 12) d_M_draws_3 mk_M_noSums ll_M_360 im_M_noSums se_M_noSums rfl (nle rfl) rfl rfl (nle rfl) q2 (s_M_noSums  hw (fun h1 hw => ?_))
  show aW none m_M_draws (d + 1) 6 [(3, ai v1), (0, ar v0), (1, ai v1), (2, ai v2)] [] h1 0 0 QQ
  refine r_aload_n (j := 1) d_M_draws_6 rfl ?_
  refine r_iconst d_M_draws_7 kc_0 ?_
  obtain ⟨q3, hw⟩ := hw
  refine r_putI d_M_draws_8 ok_12 (nle rfl) (nle rfl) rfl lf_M_515 rfl q3 ?_
  refine r_aload_n (j := 1) d_M_draws_11 rfl ?_
  refine r_iconst d_M_draws_12 kc_0 ?_
  refine r_putI d_M_draws_13 ok_12 (nle rfl) (nle rfl) rfl lf_M_518 rfl (kt eKI q3) ?_
  refine r_iconst d_M_draws_16 kc_1 ?_
  refine r_istore (ls2 := [(4, ai (1 : Int32)), (3, ai v1), (0, ar v0), (1, ai v1), (2, ai v2)]) d_M_draws_17 (nle rfl) rfl ?_
  obtain ⟨n17, hw⟩ := hw
  refine r_pick (ls2 := [(0, ar v0), (2, ai v2), (3, ai v1), (4, ai (1 : Int32))]) [2, 4, 1, 0] rfl ?_
  exact s_M_draws_L19 hd hQ  n17 _ _ _ hw
set_option maxRecDepth 100000 in
set_option maxHeartbeats 4000000 in
theorem s_M_drawn_L53 {d : Nat} (hd : 3 ≤ d + 1) {Q : Int32 → Hp → Prop} {QQ : Option AV → Hp → Prop} (hQ : ∀ r9 h9, Q r9 h9 → QQ (some (ai r9)) h9) {v0 : Nat} {v3 : Int32} : ∀ (n : Nat) (v4 : Int32) (v5 : Int32) (h : Hp), w_M_drawn_L53 Q  v0 v3 n v4 v5 h → aW none m_M_drawn (d + 1) 53 [(0, ar v0), (3, ai v3), (4, ai v4), (5, ai v5)] [] h 0 0 QQ := by
  intro n
  induction n with
  | zero => intro v4 v5 h hw; exact hw.elim
  | succ n ih =>
    intro v4 v5 h hw
    unfold w_M_drawn_L53 at hw
    refine r_iload (j := 3) d_M_drawn_53 rfl ?_
    refine r_aload_n (j := 0) d_M_drawn_55 rfl ?_
    obtain ⟨q9, hw⟩ := hw
    refine r_getI d_M_drawn_56 ok_12 (nle rfl) (nle rfl) rfl lf_M_244 q9 ?_
    refine r_icmp_ge d_M_drawn_59 (fun w9 => ?_) (fun w9 => ?_)
    · replace hw := hw.1 w9
      refine r_iload_n (j := 1) d_M_drawn_90 rfl ?_
      refine r_if_ne d_M_drawn_91 (fun w9 => ?_) (fun w9 => ?_)
      · replace hw := hw.2 w9
        refine r_iload_n (j := 1) d_M_drawn_101 rfl ?_
        refine r_iconst d_M_drawn_102 kc_1 ?_
        refine r_icmp_ne d_M_drawn_103 (fun w9 => ?_) (fun w9 => ?_)
        · replace hw := hw.2 w9
          refine r_iload (j := 2) d_M_drawn_113 rfl ?_
          exact r_ireturn d_M_drawn_115.1 rfl (hQ _ _ hw)
        · replace hw := hw.1 w9
          refine r_aload_n (j := 0) d_M_drawn_106 rfl ?_
          refine r_getI d_M_drawn_107 ok_12 (nle rfl) (nle rfl) rfl lf_M_518 q9 ?_
          refine r_goto d_M_drawn_110 ?_
          exact r_ireturn d_M_drawn_115.1 rfl (hQ _ _ hw)
      · replace hw := hw.1 w9
        refine r_aload_n (j := 0) d_M_drawn_94 rfl ?_
        refine r_getI d_M_drawn_95 ok_12 (nle rfl) (nle rfl) rfl lf_M_515 q9 ?_
        refine r_goto d_M_drawn_98 ?_
        exact r_ireturn d_M_drawn_115.1 rfl (hQ _ _ hw)
    · replace hw := hw.2 w9
      refine r_iload (j := 2) d_M_drawn_62 rfl ?_
      refine r_aload_n (j := 0) d_M_drawn_64 rfl ?_
      refine r_getR d_M_drawn_65 ok_12 (nle rfl) (nle rfl) rfl lf_M_48 q9 ?_
      refine r_iload (j := 3) d_M_drawn_68 rfl ?_
      obtain ⟨q10, hw⟩ := hw
      obtain ⟨q11, hw⟩ := hw
      refine r_iald d_M_drawn_70 q10 q11 ?_
      refine r_aload_n (j := 0) d_M_drawn_71 rfl ?_
      refine r_iload (j := 3) d_M_drawn_72 rfl ?_
      refine r_callV (av := [ai v5]) (rest := [ai (gI h (gR h v0 32) (ix v5)), ai v4]) (ci := 12) d_M_drawn_74 mk_M_needOf ll_M_281 im_M_needOf se_M_needOf rfl (nle rfl) rfl rfl (nle rfl) q9 (s_M_needOf  hw (fun r13 h12 hw => ?_))
      show aW none m_M_drawn (d + 1) 77 [(0, ar v0), (3, ai v3), (4, ai v4), (5, ai v5)] [ai r13, ai (gI h (gR h v0 32) (ix v5)), ai v4] h12 0 0 QQ
      refine r_isub d_M_drawn_77 ?_
      refine r_callS (av := [ai ((gI h (gR h v0 32) (ix v5)) - r13)]) (rest := [ai v4]) d_M_drawn_78 mk_M_plus ll_M_296 st_M_plus rfl rfl (nle rfl) (s_M_plus  hw (fun r15 h14 hw => ?_))
      show aW none m_M_drawn (d + 1) 81 [(0, ar v0), (3, ai v3), (4, ai v4), (5, ai v5)] [ai r15, ai v4] h14 0 0 QQ
      refine r_iadd d_M_drawn_81 ?_
      refine r_istore (ls2 := [(4, ai (v4 + r15)), (0, ar v0), (3, ai v3), (5, ai v5)]) d_M_drawn_82 (nle rfl) rfl ?_
      refine r_iinc (j := 3) (ls2 := [(5, ai (v5 + (1 : Int32))), (4, ai (v4 + r15)), (0, ar v0), (3, ai v3)]) d_M_drawn_84 rfl (congrArg (HAdd.hAdd v5) kc_1) (nle rfl) rfl ?_
      refine r_goto d_M_drawn_87 ?_
      refine r_pick (ls2 := [(0, ar v0), (3, ai v3), (4, ai (v4 + r15)), (5, ai (v5 + (1 : Int32)))]) [2, 3, 1, 0] rfl ?_
      exact ih _ _ _ hw
set_option maxRecDepth 100000 in
set_option maxHeartbeats 4000000 in
theorem s_M_drawn {d : Nat} (hd : 3 ≤ d) {v0 : Nat} {v1 : Int32} {v2 : Int32} {v3 : Int32} {h : Hp} {Q : Int32 → Hp → Prop} {QQ : Option AV → Hp → Prop} (hw : w_M_drawn v0 v1 v2 v3 h Q) (hQ : ∀ r9 h9, Q r9 h9 → QQ (some (ai r9)) h9) : aCall m_M_drawn d [ar v0, ai v1, ai v2, ai v3] h 0 0 QQ := by
  obtain ⟨d, rfl⟩ : ∃ d9, d = d9 + 1 := ⟨d - 1, by omega⟩
  refine aCall_in pl_M_drawn (nle rfl) ?_
  show aW none m_M_drawn (d + 1) 0 [(0, ar v0), (1, ai v1), (2, ai v2), (3, ai v3)] [] h 0 0 QQ
  unfold w_M_drawn at hw
  refine r_iload_n (j := 1) d_M_drawn_0 rfl ?_
  refine r_iconst d_M_drawn_1 kc_0 ?_
  refine r_sipush d_M_drawn_2 ks_9999 ?_
  refine r_callS (av := [ai v1, ai (0 : Int32), ai (9999 : Int32)]) (rest := []) d_M_drawn_5 mk_M_isIn ll_M_148 st_M_isIn rfl rfl (nle rfl) (s_M_isIn  hw (fun r2 h1 hw => ?_))
  show aW none m_M_drawn (d + 1) 8 [(0, ar v0), (1, ai v1), (2, ai v2), (3, ai v3)] [ai (b2i r2)] h1 0 0 QQ
  refine r_if_eq d_M_drawn_8 (fun w9 => ?_) (fun w9 => ?_)
  · replace hw := hw.1 (b2i_0.mp w9)
    refine r_ldcw d_M_drawn_37 lc_M_277 ?_
    exact r_ireturn d_M_drawn_40.1 rfl (hQ _ _ hw)
  · replace hw := hw.2 (fun g9 => w9 (b2i_0.mpr g9))
    refine r_iload_n (j := 2) d_M_drawn_11 rfl ?_
    refine r_iconst d_M_drawn_12 kc_0 ?_
    refine r_bipush d_M_drawn_13 kb_12 ?_
    refine r_callS (av := [ai v2, ai (0 : Int32), ai (12 : Int32)]) (rest := []) d_M_drawn_15 mk_M_isIn ll_M_148 st_M_isIn rfl rfl (nle rfl) (s_M_isIn  hw (fun r4 h3 hw => ?_))
    show aW none m_M_drawn (d + 1) 18 [(0, ar v0), (1, ai v1), (2, ai v2), (3, ai v3)] [ai (b2i r4)] h3 0 0 QQ
    refine r_if_eq d_M_drawn_18 (fun w9 => ?_) (fun w9 => ?_)
    · replace hw := hw.1 (b2i_0.mp w9)
      refine r_ldcw d_M_drawn_37 lc_M_277 ?_
      exact r_ireturn d_M_drawn_40.1 rfl (hQ _ _ hw)
    · replace hw := hw.2 (fun g9 => w9 (b2i_0.mpr g9))
      refine r_iload_n (j := 3) d_M_drawn_21 rfl ?_
      refine r_iconst d_M_drawn_22 kc_0 ?_
      refine r_iconst d_M_drawn_23 kc_2 ?_
      refine r_callS (av := [ai v3, ai (0 : Int32), ai (2 : Int32)]) (rest := []) d_M_drawn_24 mk_M_isIn ll_M_148 st_M_isIn rfl rfl (nle rfl) (s_M_isIn  hw (fun r6 h5 hw => ?_))
      show aW none m_M_drawn (d + 1) 27 [(0, ar v0), (1, ai v1), (2, ai v2), (3, ai v3)] [ai (b2i r6)] h5 0 0 QQ
      refine r_if_eq d_M_drawn_27 (fun w9 => ?_) (fun w9 => ?_)
      · replace hw := hw.1 (b2i_0.mp w9)
        refine r_ldcw d_M_drawn_37 lc_M_277 ?_
        exact r_ireturn d_M_drawn_40.1 rfl (hQ _ _ hw)
      · replace hw := hw.2 (fun g9 => w9 (b2i_0.mpr g9))
        refine r_aload_n (j := 0) d_M_drawn_30 rfl ?_
        obtain ⟨q7, hw⟩ := hw
        refine r_getI d_M_drawn_31 ok_12 (nle rfl) (nle rfl) rfl lf_M_247 q7 ?_
        refine r_if_ne d_M_drawn_34 (fun w9 => ?_) (fun w9 => ?_)
        · replace hw := hw.2 w9
          refine r_aload_n (j := 0) d_M_drawn_41 rfl ?_
          refine r_iload_n (j := 1) d_M_drawn_42 rfl ?_
          refine r_iload_n (j := 2) d_M_drawn_43 rfl ?_
          refine r_callV (av := [ai v1, ai v2]) (rest := []) (ci := 12) d_M_drawn_44 mk_M_draws ll_M_521 im_M_draws se_M_draws rfl (nle rfl) rfl rfl (nle rfl) q7 (s_M_draws (by omega) hw (fun h8 hw => ?_))
          show aW none m_M_drawn (d + 1) 47 [(0, ar v0), (1, ai v1), (2, ai v2), (3, ai v3)] [] h8 0 0 QQ
          refine r_iconst d_M_drawn_47 kc_0 ?_
          refine r_istore (ls2 := [(4, ai (0 : Int32)), (0, ar v0), (1, ai v1), (2, ai v2), (3, ai v3)]) d_M_drawn_48 (nle rfl) rfl ?_
          refine r_iconst d_M_drawn_50 kc_0 ?_
          refine r_istore (ls2 := [(5, ai (0 : Int32)), (4, ai (0 : Int32)), (0, ar v0), (1, ai v1), (2, ai v2), (3, ai v3)]) d_M_drawn_51 (nle rfl) rfl ?_
          obtain ⟨n16, hw⟩ := hw
          refine r_pick (ls2 := [(0, ar v0), (3, ai v3), (4, ai (0 : Int32)), (5, ai (0 : Int32))]) [2, 5, 1, 0] rfl ?_
          exact s_M_drawn_L53 hd hQ  n16 _ _ _ hw
        · replace hw := hw.1 w9
          refine r_ldcw d_M_drawn_37 lc_M_277 ?_
          exact r_ireturn d_M_drawn_40.1 rfl (hQ _ _ hw)
set_option maxRecDepth 100000 in
set_option maxHeartbeats 4000000 in
theorem s_M_chance_B52 {d : Nat} (hd : 3 ≤ d + 1) {Q : Int32 → Hp → Prop} {QQ : Option AV → Hp → Prop} (hQ : ∀ r9 h9, Q r9 h9 → QQ (some (ai r9)) h9) {v0 : Nat} {v1 : Int32} {v2 : Int32} {v4 : Int32} {s0 : Int32} {s1 : Int32} {h : Hp} {k22 : Int32 → Int32 → Hp → Prop} (hk22 : ∀ v3 v4 h9, k22 v3 v4 h9 → aW none m_M_chance (d + 1) 22 [(0, ar v0), (1, ai v1), (2, ai v2), (3, ai v3), (4, ai v4)] [] h9 0 0 QQ) (hw : w_M_chance_B52 Q k22 v0 v1 v2 v4 s0 s1 h) : aW none m_M_chance (d + 1) 52 [(0, ar v0), (1, ai v1), (2, ai v2), (4, ai v4)] [ai s1, ai s0] h 0 0 QQ := by
  unfold w_M_chance_B52 at hw
  refine r_callS (av := [ai s1]) (rest := [ai s0]) d_M_chance_52 mk_M_truth ll_M_318 st_M_truth rfl rfl (nle rfl) (s_M_truth  hw (fun r8 h7 hw => ?_))
  show aW none m_M_chance (d + 1) 55 [(0, ar v0), (1, ai v1), (2, ai v2), (4, ai v4)] [ai r8, ai s0] h7 0 0 QQ
  refine r_iadd d_M_chance_55 ?_
  refine r_istore_n (ls2 := [(3, ai (s0 + r8)), (0, ar v0), (1, ai v1), (2, ai v2), (4, ai v4)]) d_M_chance_56 (nle rfl) rfl ?_
  refine r_iinc (j := 4) (ls2 := [(4, ai (v4 + (1 : Int32))), (3, ai (s0 + r8)), (0, ar v0), (1, ai v1), (2, ai v2)]) d_M_chance_57 rfl (congrArg (HAdd.hAdd v4) kc_1) (nle rfl) rfl ?_
  refine r_goto d_M_chance_60 ?_
  refine r_pick (ls2 := [(0, ar v0), (1, ai v1), (2, ai v2), (3, ai (s0 + r8)), (4, ai (v4 + (1 : Int32)))]) [2, 3, 4, 1, 0] rfl ?_
  exact hk22 _ _ _ hw
set_option maxRecDepth 100000 in
set_option maxHeartbeats 4000000 in
theorem s_M_chance_L22 {d : Nat} (hd : 3 ≤ d + 1) {Q : Int32 → Hp → Prop} {QQ : Option AV → Hp → Prop} (hQ : ∀ r9 h9, Q r9 h9 → QQ (some (ai r9)) h9) {v0 : Nat} {v1 : Int32} {v2 : Int32} : ∀ (n : Nat) (v3 : Int32) (v4 : Int32) (h : Hp), w_M_chance_L22 Q  v0 v1 v2 n v3 v4 h → aW none m_M_chance (d + 1) 22 [(0, ar v0), (1, ai v1), (2, ai v2), (3, ai v3), (4, ai v4)] [] h 0 0 QQ := by
  intro n
  induction n with
  | zero => intro v3 v4 h hw; exact hw.elim
  | succ n ih =>
    intro v3 v4 h hw
    unfold w_M_chance_L22 at hw
    refine r_iload (j := 4) d_M_chance_22 rfl ?_
    refine r_bipush d_M_chance_24 kb_100 ?_
    refine r_icmp_ge d_M_chance_26 (fun w9 => ?_) (fun w9 => ?_)
    · replace hw := hw.1 w9
      refine r_iload_n (j := 3) d_M_chance_63 rfl ?_
      exact r_ireturn d_M_chance_64.1 rfl (hQ _ _ hw)
    · replace hw := hw.2 w9
      refine r_aload_n (j := 0) d_M_chance_29 rfl ?_
      refine r_iload (j := 4) d_M_chance_30 rfl ?_
      refine r_iload_n (j := 1) d_M_chance_32 rfl ?_
      obtain ⟨q5, hw⟩ := hw
      refine r_callV (av := [ai v4, ai v1]) (rest := []) (ci := 12) d_M_chance_33 mk_M_draws ll_M_521 im_M_draws se_M_draws rfl (nle rfl) rfl rfl (nle rfl) q5 (s_M_draws (by omega) hw (fun h4 hw => ?_))
      show aW none m_M_chance (d + 1) 36 [(0, ar v0), (1, ai v1), (2, ai v2), (3, ai v3), (4, ai v4)] [] h4 0 0 QQ
      refine r_iload_n (j := 3) d_M_chance_36 rfl ?_
      refine r_aload_n (j := 0) d_M_chance_37 rfl ?_
      obtain ⟨q6, hw⟩ := hw
      refine r_getI d_M_chance_38 ok_12 (nle rfl) (nle rfl) rfl lf_M_515 q6 ?_
      refine r_iload_n (j := 2) d_M_chance_41 rfl ?_
      refine r_iload_n (j := 1) d_M_chance_42 rfl ?_
      refine r_imul d_M_chance_43 ?_
      refine r_icmp_gt d_M_chance_44 (fun w9 => ?_) (fun w9 => ?_)
      · replace hw := hw.1 w9
        refine r_iconst d_M_chance_51 kc_0 ?_
        refine r_pick (ls2 := [(0, ar v0), (1, ai v1), (2, ai v2), (4, ai v4)]) [0, 1, 2, 4] rfl ?_
        exact s_M_chance_B52 hd hQ ih hw
      · replace hw := hw.2 w9
        refine r_iconst d_M_chance_47 kc_1 ?_
        refine r_goto d_M_chance_48 ?_
        refine r_pick (ls2 := [(0, ar v0), (1, ai v1), (2, ai v2), (4, ai v4)]) [0, 1, 2, 4] rfl ?_
        exact s_M_chance_B52 hd hQ ih hw
set_option maxRecDepth 100000 in
set_option maxHeartbeats 4000000 in
theorem s_M_chance {d : Nat} (hd : 3 ≤ d) {v0 : Nat} {v1 : Int32} {v2 : Int32} {h : Hp} {Q : Int32 → Hp → Prop} {QQ : Option AV → Hp → Prop} (hw : w_M_chance v0 v1 v2 h Q) (hQ : ∀ r9 h9, Q r9 h9 → QQ (some (ai r9)) h9) : aCall m_M_chance d [ar v0, ai v1, ai v2] h 0 0 QQ := by
  obtain ⟨d, rfl⟩ : ∃ d9, d = d9 + 1 := ⟨d - 1, by omega⟩
  refine aCall_in pl_M_chance (nle rfl) ?_
  show aW none m_M_chance (d + 1) 0 [(0, ar v0), (1, ai v1), (2, ai v2)] [] h 0 0 QQ
  unfold w_M_chance at hw
  refine r_iload_n (j := 1) d_M_chance_0 rfl ?_
  refine r_iload_n (j := 2) d_M_chance_1 rfl ?_
  refine r_callS (av := [ai v1, ai v2]) (rest := []) d_M_chance_2 mk_M_isStrip ll_M_406 st_M_isStrip rfl rfl (nle rfl) (s_M_isStrip (by omega) hw (fun r2 h1 hw => ?_))
  show aW none m_M_chance (d + 1) 5 [(0, ar v0), (1, ai v1), (2, ai v2)] [ai (b2i r2)] h1 0 0 QQ
  refine r_if_eq d_M_chance_5 (fun w9 => ?_) (fun w9 => ?_)
  · replace hw := hw.1 (b2i_0.mp w9)
    refine r_iconst d_M_chance_15 kc_m1 ?_
    exact r_ireturn d_M_chance_16.1 rfl (hQ _ _ hw)
  · replace hw := hw.2 (fun g9 => w9 (b2i_0.mpr g9))
    refine r_aload_n (j := 0) d_M_chance_8 rfl ?_
    obtain ⟨q3, hw⟩ := hw
    refine r_getI d_M_chance_9 ok_12 (nle rfl) (nle rfl) rfl lf_M_247 q3 ?_
    refine r_if_ne d_M_chance_12 (fun w9 => ?_) (fun w9 => ?_)
    · replace hw := hw.2 w9
      refine r_iconst d_M_chance_17 kc_0 ?_
      refine r_istore_n (ls2 := [(3, ai (0 : Int32)), (0, ar v0), (1, ai v1), (2, ai v2)]) d_M_chance_18 (nle rfl) rfl ?_
      refine r_iconst d_M_chance_19 kc_0 ?_
      refine r_istore (ls2 := [(4, ai (0 : Int32)), (3, ai (0 : Int32)), (0, ar v0), (1, ai v1), (2, ai v2)]) d_M_chance_20 (nle rfl) rfl ?_
      obtain ⟨n9, hw⟩ := hw
      refine r_pick (ls2 := [(0, ar v0), (1, ai v1), (2, ai v2), (3, ai (0 : Int32)), (4, ai (0 : Int32))]) [2, 3, 4, 1, 0] rfl ?_
      exact s_M_chance_L22 hd hQ  n9 _ _ _ hw
    · replace hw := hw.1 w9
      refine r_iconst d_M_chance_15 kc_m1 ?_
      exact r_ireturn d_M_chance_16.1 rfl (hQ _ _ hw)
set_option maxRecDepth 100000 in
set_option maxHeartbeats 4000000 in
theorem s_M_isFar {d : Nat} (hd : 1 ≤ d) {v0 : Int32} {h : Hp} {Q : Bool → Hp → Prop} {QQ : Option AV → Hp → Prop} (hw : w_M_isFar v0 h Q) (hQ : ∀ r9 h9, Q r9 h9 → QQ (some (ai (b2i r9))) h9) : aCall m_M_isFar d [ai v0] h 0 0 QQ := by
  obtain ⟨d, rfl⟩ : ∃ d9, d = d9 + 1 := ⟨d - 1, by omega⟩
  refine aCall_in pl_M_isFar (nle rfl) ?_
  show aW none m_M_isFar (d + 1) 0 [(0, ai v0)] [] h 0 0 QQ
  unfold w_M_isFar at hw
  refine r_iload_n (j := 0) d_M_isFar_0 rfl ?_
  refine r_bipush d_M_isFar_1 kb_m80 ?_
  refine r_bipush d_M_isFar_3 kb_80 ?_
  refine r_callS (av := [ai v0, ai (-80 : Int32), ai (80 : Int32)]) (rest := []) d_M_isFar_5 mk_M_isIn ll_M_148 st_M_isIn rfl rfl (nle rfl) (s_M_isIn  hw (fun r2 h1 hw => ?_))
  show aW none m_M_isFar (d + 1) 8 [(0, ai v0)] [ai (b2i r2)] h1 0 0 QQ
  exact r_zreturn d_M_isFar_8.1 rfl (b2i_B _) (hQ _ _ hw)
