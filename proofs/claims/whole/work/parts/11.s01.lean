set_option maxRecDepth 100000 in
set_option maxHeartbeats 4000000 in
theorem s_Ps_isOutOfReach {d : Nat} {v0 : Nat} {v1 : Int32} {v2 : Int32} {h : Hp} {Q : Bool → Hp → Prop} {QQ : Option AV → Hp → Prop} (hw : w_Ps_isOutOfReach v0 v1 v2 h Q) (hQ : ∀ r9 h9, Q r9 h9 → QQ (some (ai (b2i r9))) h9) : aCall m_Ps_isOutOfReach d [ar v0, ai v1, ai v2] h 0 0 QQ := by
  refine aCall_in pl_Ps_isOutOfReach (nle rfl) ?_
  show aW none m_Ps_isOutOfReach d 0 [(0, ar v0), (1, ai v1), (2, ai v2)] [] h 0 0 QQ
  unfold w_Ps_isOutOfReach at hw
  refine r_iconst d_Ps_isOutOfReach_0 kc_0 ?_
  refine r_istore_n (ls2 := [(3, ai (0 : Int32)), (0, ar v0), (1, ai v1), (2, ai v2)]) d_Ps_isOutOfReach_1 (nle rfl) rfl ?_
  obtain ⟨n8, hw⟩ := hw
  refine r_pick (ls2 := [(0, ar v0), (1, ai v1), (2, ai v2), (3, ai (0 : Int32))]) [1, 2, 3, 0] rfl ?_
  exact s_Ps_isOutOfReach_L2 hQ  n8 _ _ hw
set_option maxRecDepth 100000 in
set_option maxHeartbeats 4000000 in
theorem s_Ps_shiftRest_L2 {d : Nat} {Q : Hp → Prop} {QQ : Option AV → Hp → Prop} (hQ : ∀ h9, Q h9 → QQ none h9) {v0 : Nat} {v1 : Int32} {v2 : Int32} : ∀ (n : Nat) (v3 : Int32) (h : Hp), w_Ps_shiftRest_L2 Q  v0 v1 v2 n v3 h → aW none m_Ps_shiftRest d 2 [(0, ar v0), (1, ai v1), (2, ai v2), (3, ai v3)] [] h 0 0 QQ := by
  intro n
  induction n with
  | zero => intro v3 h hw; exact hw.elim
  | succ n ih =>
    intro v3 h hw
    unfold w_Ps_shiftRest_L2 at hw
    refine r_iload_n (j := 3) d_Ps_shiftRest_2 rfl ?_
    refine r_iconst d_Ps_shiftRest_3 kc_3 ?_
    refine r_icmp_ge d_Ps_shiftRest_4 (fun w9 => ?_) (fun w9 => ?_)
    · replace hw := hw.1 w9
      exact r_return d_Ps_shiftRest_34.1 rfl (hQ _ hw)
    · replace hw := hw.2 w9
      refine r_aload_n (j := 0) d_Ps_shiftRest_7 rfl ?_
      obtain ⟨q1, hw⟩ := hw
      refine r_getR d_Ps_shiftRest_8 ok_7 (nle rfl) (nle rfl) rfl lf_Ps_9 q1 ?_
      refine r_iload_n (j := 3) d_Ps_shiftRest_11 rfl ?_
      refine r_dup2 d_Ps_shiftRest_12 rfl rfl ?_
      obtain ⟨q2, hw⟩ := hw
      obtain ⟨q3, hw⟩ := hw
      refine r_iald d_Ps_shiftRest_13 q2 q3 ?_
      refine r_iload_n (j := 2) d_Ps_shiftRest_14 rfl ?_
      refine r_aload_n (j := 0) d_Ps_shiftRest_15 rfl ?_
      refine r_getR d_Ps_shiftRest_16 ok_7 (nle rfl) (nle rfl) rfl lf_Ps_21 q1 ?_
      refine r_iload_n (j := 1) d_Ps_shiftRest_19 rfl ?_
      refine r_iconst d_Ps_shiftRest_20 kc_3 ?_
      refine r_imul d_Ps_shiftRest_21 ?_
      refine r_iload_n (j := 3) d_Ps_shiftRest_22 rfl ?_
      refine r_iadd d_Ps_shiftRest_23 ?_
      obtain ⟨q4, hw⟩ := hw
      obtain ⟨q5, hw⟩ := hw
      refine r_iald d_Ps_shiftRest_24 q4 q5 ?_
      refine r_imul d_Ps_shiftRest_25 ?_
      refine r_iadd d_Ps_shiftRest_26 ?_
      refine r_iast d_Ps_shiftRest_27 q2 q3 ?_
      refine r_iinc (j := 3) (ls2 := [(3, ai (v3 + (1 : Int32))), (0, ar v0), (1, ai v1), (2, ai v2)]) d_Ps_shiftRest_28 rfl (congrArg (HAdd.hAdd v3) kc_1) (nle rfl) rfl ?_
      refine r_goto d_Ps_shiftRest_31 ?_
      refine r_pick (ls2 := [(0, ar v0), (1, ai v1), (2, ai v2), (3, ai (v3 + (1 : Int32)))]) [1, 2, 3, 0] rfl ?_
      exact ih _ _ hw
set_option maxRecDepth 100000 in
set_option maxHeartbeats 4000000 in
theorem s_Ps_shiftRest {d : Nat} {v0 : Nat} {v1 : Int32} {v2 : Int32} {h : Hp} {Q : Hp → Prop} {QQ : Option AV → Hp → Prop} (hw : w_Ps_shiftRest v0 v1 v2 h Q) (hQ : ∀ h9, Q h9 → QQ none h9) : aCall m_Ps_shiftRest d [ar v0, ai v1, ai v2] h 0 0 QQ := by
  refine aCall_in pl_Ps_shiftRest (nle rfl) ?_
  show aW none m_Ps_shiftRest d 0 [(0, ar v0), (1, ai v1), (2, ai v2)] [] h 0 0 QQ
  unfold w_Ps_shiftRest at hw
  refine r_iconst d_Ps_shiftRest_0 kc_0 ?_
  refine r_istore_n (ls2 := [(3, ai (0 : Int32)), (0, ar v0), (1, ai v1), (2, ai v2)]) d_Ps_shiftRest_1 (nle rfl) rfl ?_
  obtain ⟨n6, hw⟩ := hw
  refine r_pick (ls2 := [(0, ar v0), (1, ai v1), (2, ai v2), (3, ai (0 : Int32))]) [1, 2, 3, 0] rfl ?_
  exact s_Ps_shiftRest_L2 hQ  n6 _ _ hw
set_option maxRecDepth 100000 in
set_option maxHeartbeats 4000000 in
theorem s_Ps_share_L23 {d : Nat} (hd : 6 ≤ d + 1) {wr : Nat → Int32 → Int32 → Int32 → Hp → (Hp → Prop) → Prop} {Q : Hp → Prop} {QQ : Option AV → Hp → Prop} (hwr : ∀ {a0 : Nat} {a1 a2 a3 : Int32} {h8 : Hp} {Q8 : Hp → Prop} {QQ8 : Option AV → Hp → Prop}, wr a0 a1 a2 a3 h8 Q8 → (∀ h9, Q8 h9 → QQ8 none h9) → aCall m_Ps_choose d [ar a0, ai a1, ai a2, ai a3] h8 0 0 QQ8) (hQ : ∀ h9, Q h9 → QQ none h9) {v0 : Nat} {v1 : Int32} {v2 : Int32} {v3 : Int32} {v4 : Int32} : ∀ (n : Nat) (v5 : Int32) (h : Hp), w_Ps_share_L23 wr Q  v0 v1 v2 v3 v4 n v5 h → aW none m_Ps_share (d + 1) 23 [(0, ar v0), (1, ai v1), (2, ai v2), (3, ai v3), (4, ai v4), (5, ai v5)] [] h 0 0 QQ := by
  intro n
  induction n with
  | zero => intro v5 h hw; exact hw.elim
  | succ n ih =>
    intro v5 h hw
    unfold w_Ps_share_L23 at hw
    refine r_iload (j := 5) d_Ps_share_23 rfl ?_
    refine r_iload (j := 4) d_Ps_share_25 rfl ?_
    refine r_icmp_lt d_Ps_share_27 (fun w9 => ?_) (fun w9 => ?_)
    · replace hw := hw.1 w9
      exact r_return d_Ps_share_94.1 rfl (hQ _ hw)
    · replace hw := hw.2 w9
      refine r_aload_n (j := 0) d_Ps_share_30 rfl ?_
      obtain ⟨q3, hw⟩ := hw
      refine r_getI d_Ps_share_31 ok_7 (nle rfl) (nle rfl) rfl lf_Ps_38 q3 ?_
      refine r_aload_n (j := 0) d_Ps_share_34 rfl ?_
      refine r_getI d_Ps_share_35 ok_7 (nle rfl) (nle rfl) rfl lf_Ps_34 q3 ?_
      refine r_icmp_ge d_Ps_share_38 (fun w9 => ?_) (fun w9 => ?_)
      · replace hw := hw.1 w9
        exact r_return d_Ps_share_94.1 rfl (hQ _ hw)
      · replace hw := hw.2 w9
        refine r_aload_n (j := 0) d_Ps_share_41 rfl ?_
        refine r_getR d_Ps_share_42 ok_7 (nle rfl) (nle rfl) rfl lf_Ps_15 q3 ?_
        refine r_iload_n (j := 1) d_Ps_share_45 rfl ?_
        refine r_iload (j := 5) d_Ps_share_46 rfl ?_
        obtain ⟨q4, hw⟩ := hw
        obtain ⟨q5, hw⟩ := hw
        refine r_iast d_Ps_share_48 q4 q5 ?_
        refine r_aload_n (j := 0) d_Ps_share_49 rfl ?_
        refine r_iload_n (j := 1) d_Ps_share_50 rfl ?_
        refine r_iload (j := 5) d_Ps_share_51 rfl ?_
        refine r_ineg d_Ps_share_53 ?_
        refine r_callV (av := [ai v1, ai (-v5)]) (rest := []) (ci := 7) d_Ps_share_54 mk_Ps_shiftRest ll_Ps_86 im_Ps_shiftRest se_Ps_shiftRest rfl (nle rfl) rfl rfl (nle rfl) q3 (s_Ps_shiftRest  hw (fun h6 hw => ?_))
        show aW none m_Ps_share (d + 1) 57 [(0, ar v0), (1, ai v1), (2, ai v2), (3, ai v3), (4, ai v4), (5, ai v5)] [] h6 0 0 QQ
        refine r_aload_n (j := 0) d_Ps_share_57 rfl ?_
        refine r_iload_n (j := 1) d_Ps_share_58 rfl ?_
        refine r_iconst d_Ps_share_59 kc_1 ?_
        refine r_iadd d_Ps_share_60 ?_
        refine r_iload_n (j := 2) d_Ps_share_61 rfl ?_
        refine r_iload (j := 5) d_Ps_share_62 rfl ?_
        refine r_isub d_Ps_share_64 ?_
        refine r_iload_n (j := 3) d_Ps_share_65 rfl ?_
        refine r_iload (j := 5) d_Ps_share_66 rfl ?_
        refine r_aload_n (j := 0) d_Ps_share_68 rfl ?_
        obtain ⟨q7, hw⟩ := hw
        refine r_getR d_Ps_share_69 ok_7 (nle rfl) (nle rfl) rfl lf_Ps_30 q7 ?_
        refine r_iload_n (j := 1) d_Ps_share_72 rfl ?_
        obtain ⟨q10, hw⟩ := hw
        refine r_callV (av := [ai v1]) (rest := [ai v5, ai v3, ai (v2 - v5), ai (v1 + (1 : Int32)), ar v0]) (ci := 1) d_Ps_share_73 mk_Co_gainOf ll_Ps_89 im_Co_gainOf se_Co_gainOf rfl (nle rfl) rfl rfl (nle rfl) q10 (s_Co_gainOf  hw (fun r9 h8 hw => ?_))
        show aW none m_Ps_share (d + 1) 76 [(0, ar v0), (1, ai v1), (2, ai v2), (3, ai v3), (4, ai v4), (5, ai v5)] [ai r9, ai v5, ai v3, ai (v2 - v5), ai (v1 + (1 : Int32)), ar v0] h8 0 0 QQ
        refine r_imul d_Ps_share_76 ?_
        refine r_iadd d_Ps_share_77 ?_
        obtain ⟨q12, hw⟩ := hw
        refine r_callV (av := [ai (v1 + (1 : Int32)), ai (v2 - v5), ai (v3 + (v5 * r9))]) (rest := []) (ci := 7) d_Ps_share_78 mk_Ps_choose ll_Ps_59 im_Ps_choose se_Ps_choose rfl (nle rfl) rfl rfl (nle rfl) q12 (hwr hw (fun h11 hw => ?_))
        show aW none m_Ps_share (d + 1) 81 [(0, ar v0), (1, ai v1), (2, ai v2), (3, ai v3), (4, ai v4), (5, ai v5)] [] h11 0 0 QQ
        refine r_aload_n (j := 0) d_Ps_share_81 rfl ?_
        refine r_iload_n (j := 1) d_Ps_share_82 rfl ?_
        refine r_iload (j := 5) d_Ps_share_83 rfl ?_
        obtain ⟨q14, hw⟩ := hw
        refine r_callV (av := [ai v1, ai v5]) (rest := []) (ci := 7) d_Ps_share_85 mk_Ps_shiftRest ll_Ps_86 im_Ps_shiftRest se_Ps_shiftRest rfl (nle rfl) rfl rfl (nle rfl) q14 (s_Ps_shiftRest  hw (fun h13 hw => ?_))
        show aW none m_Ps_share (d + 1) 88 [(0, ar v0), (1, ai v1), (2, ai v2), (3, ai v3), (4, ai v4), (5, ai v5)] [] h13 0 0 QQ
        refine r_iinc (j := 5) (ls2 := [(5, ai (v5 + (-1 : Int32))), (0, ar v0), (1, ai v1), (2, ai v2), (3, ai v3), (4, ai v4)]) d_Ps_share_88 rfl (congrArg (HAdd.hAdd v5) kc_m1) (nle rfl) rfl ?_
        refine r_goto d_Ps_share_91 ?_
        refine r_pick (ls2 := [(0, ar v0), (1, ai v1), (2, ai v2), (3, ai v3), (4, ai v4), (5, ai (v5 + (-1 : Int32)))]) [1, 2, 3, 4, 5, 0] rfl ?_
        exact ih _ _ hw
set_option maxRecDepth 100000 in
set_option maxHeartbeats 4000000 in
theorem s_Ps_share {d : Nat} (hd : 6 ≤ d + 1) {wr : Nat → Int32 → Int32 → Int32 → Hp → (Hp → Prop) → Prop} {v0 : Nat} {v1 : Int32} {v2 : Int32} {v3 : Int32} {h : Hp} {Q : Hp → Prop} {QQ : Option AV → Hp → Prop} (hwr : ∀ {a0 : Nat} {a1 a2 a3 : Int32} {h8 : Hp} {Q8 : Hp → Prop} {QQ8 : Option AV → Hp → Prop}, wr a0 a1 a2 a3 h8 Q8 → (∀ h9, Q8 h9 → QQ8 none h9) → aCall m_Ps_choose d [ar a0, ai a1, ai a2, ai a3] h8 0 0 QQ8) (hw : w_Ps_share wr v0 v1 v2 v3 h Q) (hQ : ∀ h9, Q h9 → QQ none h9) : aCall m_Ps_share (d + 1) [ar v0, ai v1, ai v2, ai v3] h 0 0 QQ := by
  refine aCall_in pl_Ps_share (nle rfl) ?_
  show aW none m_Ps_share (d + 1) 0 [(0, ar v0), (1, ai v1), (2, ai v2), (3, ai v3)] [] h 0 0 QQ
  unfold w_Ps_share at hw
  refine r_iload_n (j := 1) d_Ps_share_0 rfl ?_
  refine r_aload_n (j := 0) d_Ps_share_1 rfl ?_
  obtain ⟨q1, hw⟩ := hw
  refine r_getR d_Ps_share_2 ok_7 (nle rfl) (nle rfl) rfl lf_Ps_30 q1 ?_
  obtain ⟨q2, hw⟩ := hw
  refine r_getI d_Ps_share_5 ok_1 (nle rfl) (nle rfl) rfl lf_Ps_50 q2 ?_
  refine r_iconst d_Ps_share_8 kc_1 ?_
  refine r_isub d_Ps_share_9 ?_
  refine r_icmp_ne d_Ps_share_10 (fun w9 => ?_) (fun w9 => ?_)
  · replace hw := hw.2 w9
    refine r_iconst d_Ps_share_17 kc_0 ?_
    refine r_istore (ls2 := [(4, ai (0 : Int32)), (0, ar v0), (1, ai v1), (2, ai v2), (3, ai v3)]) d_Ps_share_18 (nle rfl) rfl ?_
    refine r_iload_n (j := 3) d_Ps_share_20 rfl ?_
    refine r_istore (ls2 := [(5, ai v2), (4, ai (0 : Int32)), (0, ar v0), (1, ai v1), (2, ai v2), (3, ai v3)]) d_Ps_share_21 (nle rfl) rfl ?_
    obtain ⟨n15, hw⟩ := hw
    refine r_pick (ls2 := [(0, ar v0), (1, ai v1), (2, ai v2), (3, ai v3), (4, ai (0 : Int32)), (5, ai v2)]) [2, 3, 4, 5, 1, 0] rfl ?_
    exact s_Ps_share_L23 hd hwr hQ  n15 _ _ hw
  · replace hw := hw.1 w9
    refine r_iload_n (j := 2) d_Ps_share_13 rfl ?_
    refine r_goto d_Ps_share_14 ?_
    refine r_istore (ls2 := [(4, ai v2), (0, ar v0), (1, ai v1), (2, ai v2), (3, ai v3)]) d_Ps_share_18 (nle rfl) rfl ?_
    refine r_iload_n (j := 3) d_Ps_share_20 rfl ?_
    refine r_istore (ls2 := [(5, ai v2), (4, ai v2), (0, ar v0), (1, ai v1), (2, ai v2), (3, ai v3)]) d_Ps_share_21 (nle rfl) rfl ?_
    obtain ⟨n16, hw⟩ := hw
    refine r_pick (ls2 := [(0, ar v0), (1, ai v1), (2, ai v2), (3, ai v3), (4, ai v2), (5, ai v2)]) [2, 3, 4, 5, 1, 0] rfl ?_
    exact s_Ps_share_L23 hd hwr hQ  n16 _ _ hw
set_option maxRecDepth 100000 in
set_option maxHeartbeats 4000000 in
theorem s_Ps_take_B26 {d : Nat} (hd : 1 ≤ d + 1) {Q : Hp → Prop} {QQ : Option AV → Hp → Prop} (hQ : ∀ h9, Q h9 → QQ none h9) {v0 : Nat} {v1 : Int32} {h : Hp} (hw : w_Ps_take_B26 Q  v0 v1 h) : aW none m_Ps_take (d + 1) 26 [(0, ar v0), (1, ai v1)] [] h 0 0 QQ := by
  unfold w_Ps_take_B26 at hw
  refine r_aload_n (j := 0) d_Ps_take_26 rfl ?_
  refine r_iload_n (j := 1) d_Ps_take_27 rfl ?_
  obtain ⟨q2, hw⟩ := hw
  refine r_putI d_Ps_take_28 ok_7 (nle rfl) (nle rfl) rfl lf_Ps_41 rfl q2 ?_
  refine r_aload_n (j := 0) d_Ps_take_31 rfl ?_
  refine r_getR d_Ps_take_32 ok_7 (nle rfl) (nle rfl) rfl lf_Ps_15 q2 ?_
  refine r_iconst d_Ps_take_35 kc_0 ?_
  refine r_aload_n (j := 0) d_Ps_take_36 rfl ?_
  refine r_getR d_Ps_take_37 ok_7 (nle rfl) (nle rfl) rfl lf_Ps_18 q2 ?_
  refine r_iconst d_Ps_take_40 kc_0 ?_
  refine r_bipush d_Ps_take_41 kb_8 ?_
  obtain ⟨q3, hw⟩ := hw
  obtain ⟨q4, hw⟩ := hw
  obtain ⟨q5, hw⟩ := hw
  obtain ⟨q6, hw⟩ := hw
  refine r_copy d_Ps_take_43 ll_Ps_44 cp_1 cp_2 cp_3 (nle rfl) q3 q4 (by decide) (by decide) (by decide) q5 q6 ?_
  exact r_return d_Ps_take_46.1 rfl (hQ _ hw)
set_option maxRecDepth 100000 in
set_option maxHeartbeats 4000000 in
theorem s_Ps_take {d : Nat} (hd : 1 ≤ d) {v0 : Nat} {v1 : Int32} {h : Hp} {Q : Hp → Prop} {QQ : Option AV → Hp → Prop} (hw : w_Ps_take v0 v1 h Q) (hQ : ∀ h9, Q h9 → QQ none h9) : aCall m_Ps_take d [ar v0, ai v1] h 0 0 QQ := by
  obtain ⟨d, rfl⟩ : ∃ d9, d = d9 + 1 := ⟨d - 1, by omega⟩
  refine aCall_in pl_Ps_take (nle rfl) ?_
  show aW none m_Ps_take (d + 1) 0 [(0, ar v0), (1, ai v1)] [] h 0 0 QQ
  unfold w_Ps_take at hw
  refine r_aload_n (j := 0) d_Ps_take_0 rfl ?_
  refine r_dup d_Ps_take_1 rfl ?_
  obtain ⟨q1, hw⟩ := hw
  refine r_getI d_Ps_take_2 ok_7 (nle rfl) (nle rfl) rfl lf_Ps_38 q1 ?_
  refine r_iconst d_Ps_take_5 kc_1 ?_
  refine r_iadd d_Ps_take_6 ?_
  refine r_putI d_Ps_take_7 ok_7 (nle rfl) (nle rfl) rfl lf_Ps_38 rfl q1 ?_
  refine r_aload_n (j := 0) d_Ps_take_10 rfl ?_
  refine r_getI d_Ps_take_11 ok_7 (nle rfl) (nle rfl) rfl lf_Ps_38 q1 ?_
  refine r_iconst d_Ps_take_14 kc_1 ?_
  refine r_icmp_eq d_Ps_take_15 (fun w9 => ?_) (fun w9 => ?_)
  · replace hw := hw.1 w9
    exact s_Ps_take_B26 hd hQ  hw
  · replace hw := hw.2 w9
    refine r_iload_n (j := 1) d_Ps_take_18 rfl ?_
    refine r_aload_n (j := 0) d_Ps_take_19 rfl ?_
    refine r_getI d_Ps_take_20 ok_7 (nle rfl) (nle rfl) rfl lf_Ps_41 q1 ?_
    refine r_icmp_le d_Ps_take_23 (fun w9 => ?_) (fun w9 => ?_)
    · replace hw := hw.1 w9
      exact r_return d_Ps_take_46.1 rfl (hQ _ hw)
    · replace hw := hw.2 w9
      exact s_Ps_take_B26 hd hQ  hw
set_option maxRecDepth 100000 in
set_option maxHeartbeats 4000000 in
theorem s_Ps_choose {d : Nat} (hd : 6 ≤ d + 1) {wr : Nat → Int32 → Int32 → Int32 → Hp → (Hp → Prop) → Prop} {v0 : Nat} {v1 : Int32} {v2 : Int32} {v3 : Int32} {h : Hp} {Q : Hp → Prop} {QQ : Option AV → Hp → Prop} (hwr : ∀ {a0 : Nat} {a1 a2 a3 : Int32} {h8 : Hp} {Q8 : Hp → Prop} {QQ8 : Option AV → Hp → Prop}, wr a0 a1 a2 a3 h8 Q8 → (∀ h9, Q8 h9 → QQ8 none h9) → aCall m_Ps_share d [ar a0, ai a1, ai a2, ai a3] h8 0 0 QQ8) (hw : w_Ps_choose wr v0 v1 v2 v3 h Q) (hQ : ∀ h9, Q h9 → QQ none h9) : aCall m_Ps_choose (d + 1) [ar v0, ai v1, ai v2, ai v3] h 0 0 QQ := by
  refine aCall_in pl_Ps_choose (nle rfl) ?_
  show aW none m_Ps_choose (d + 1) 0 [(0, ar v0), (1, ai v1), (2, ai v2), (3, ai v3)] [] h 0 0 QQ
  unfold w_Ps_choose at hw
  refine r_iload_n (j := 1) d_Ps_choose_0 rfl ?_
  refine r_aload_n (j := 0) d_Ps_choose_1 rfl ?_
  obtain ⟨q1, hw⟩ := hw
  refine r_getR d_Ps_choose_2 ok_7 (nle rfl) (nle rfl) rfl lf_Ps_30 q1 ?_
  obtain ⟨q2, hw⟩ := hw
  refine r_getI d_Ps_choose_5 ok_1 (nle rfl) (nle rfl) rfl lf_Ps_50 q2 ?_
  refine r_icmp_lt d_Ps_choose_8 (fun w9 => ?_) (fun w9 => ?_)
  · replace hw := hw.1 w9
    refine r_aload_n (j := 0) d_Ps_choose_48 rfl ?_
    refine r_iload_n (j := 1) d_Ps_choose_49 rfl ?_
    refine r_iload_n (j := 2) d_Ps_choose_50 rfl ?_
    refine r_callV (av := [ai v1, ai v2]) (rest := []) (ci := 7) d_Ps_choose_51 mk_Ps_isOutOfReach ll_Ps_79 im_Ps_isOutOfReach se_Ps_isOutOfReach rfl (nle rfl) rfl rfl (nle rfl) q1 (s_Ps_isOutOfReach  hw (fun r4 h3 hw => ?_))
    show aW none m_Ps_choose (d + 1) 54 [(0, ar v0), (1, ai v1), (2, ai v2), (3, ai v3)] [ai (b2i r4)] h3 0 0 QQ
    refine r_if_ne d_Ps_choose_54 (fun w9 => ?_) (fun w9 => ?_)
    · replace hw := hw.2 (fun g9 => w9 (b2i_0.mpr g9))
      exact r_return d_Ps_choose_64.1 rfl (hQ _ hw)
    · replace hw := hw.1 (b2i_0.mp w9)
      refine r_aload_n (j := 0) d_Ps_choose_57 rfl ?_
      refine r_iload_n (j := 1) d_Ps_choose_58 rfl ?_
      refine r_iload_n (j := 2) d_Ps_choose_59 rfl ?_
      refine r_iload_n (j := 3) d_Ps_choose_60 rfl ?_
      obtain ⟨q6, hw⟩ := hw
      refine r_callV (av := [ai v1, ai v2, ai v3]) (rest := []) (ci := 7) d_Ps_choose_61 mk_Ps_share ll_Ps_83 im_Ps_share se_Ps_share rfl (nle rfl) rfl rfl (nle rfl) q6 (hwr hw (fun h5 hw => ?_))
      show aW none m_Ps_choose (d + 1) 64 [(0, ar v0), (1, ai v1), (2, ai v2), (3, ai v3)] [] h5 0 0 QQ
      exact r_return d_Ps_choose_64.1 rfl (hQ _ hw)
  · replace hw := hw.2 w9
    refine r_iload_n (j := 2) d_Ps_choose_11 rfl ?_
    refine r_if_ne d_Ps_choose_12 (fun w9 => ?_) (fun w9 => ?_)
    · replace hw := hw.2 w9
      exact r_return d_Ps_choose_47.1 rfl (hQ _ hw)
    · replace hw := hw.1 w9
      refine r_aload_n (j := 0) d_Ps_choose_15 rfl ?_
      refine r_getR d_Ps_choose_16 ok_7 (nle rfl) (nle rfl) rfl lf_Ps_9 q1 ?_
      refine r_iconst d_Ps_choose_19 kc_0 ?_
      obtain ⟨q7, hw⟩ := hw
      obtain ⟨q8, hw⟩ := hw
      refine r_iald d_Ps_choose_20 q7 q8 ?_
      refine r_if_ne d_Ps_choose_21 (fun w9 => ?_) (fun w9 => ?_)
      · replace hw := hw.2 w9
        exact r_return d_Ps_choose_47.1 rfl (hQ _ hw)
      · replace hw := hw.1 w9
        refine r_aload_n (j := 0) d_Ps_choose_24 rfl ?_
        refine r_getR d_Ps_choose_25 ok_7 (nle rfl) (nle rfl) rfl lf_Ps_9 q1 ?_
        refine r_iconst d_Ps_choose_28 kc_1 ?_
        obtain ⟨q9, hw⟩ := hw
        refine r_iald d_Ps_choose_29 q7 q9 ?_
        refine r_if_ne d_Ps_choose_30 (fun w9 => ?_) (fun w9 => ?_)
        · replace hw := hw.2 w9
          exact r_return d_Ps_choose_47.1 rfl (hQ _ hw)
        · replace hw := hw.1 w9
          refine r_aload_n (j := 0) d_Ps_choose_33 rfl ?_
          refine r_getR d_Ps_choose_34 ok_7 (nle rfl) (nle rfl) rfl lf_Ps_9 q1 ?_
          refine r_iconst d_Ps_choose_37 kc_2 ?_
          obtain ⟨q10, hw⟩ := hw
          refine r_iald d_Ps_choose_38 q7 q10 ?_
          refine r_if_ne d_Ps_choose_39 (fun w9 => ?_) (fun w9 => ?_)
          · replace hw := hw.2 w9
            exact r_return d_Ps_choose_47.1 rfl (hQ _ hw)
          · replace hw := hw.1 w9
            refine r_aload_n (j := 0) d_Ps_choose_42 rfl ?_
            refine r_iload_n (j := 3) d_Ps_choose_43 rfl ?_
            refine r_callV (av := [ai v3]) (rest := []) (ci := 7) d_Ps_choose_44 mk_Ps_take ll_Ps_75 im_Ps_take se_Ps_take rfl (nle rfl) rfl rfl (nle rfl) q1 (s_Ps_take (by omega) hw (fun h11 hw => ?_))
            show aW none m_Ps_choose (d + 1) 47 [(0, ar v0), (1, ai v1), (2, ai v2), (3, ai v3)] [] h11 0 0 QQ
            exact r_return d_Ps_choose_47.1 rfl (hQ _ hw)
set_option maxRecDepth 100000 in
set_option maxHeartbeats 4000000 in
theorem s_Ps_chn : ∀ (n : Nat) {d : Nat} (hd : 2 * n + 8 ≤ d) {a0 : Nat} {a1 a2 a3 : Int32} {h : Hp} {Q : Hp → Prop} {QQ : Option AV → Hp → Prop} (hw : w_Ps_ch n a0 a1 a2 a3 h Q) (hQ : ∀ h9, Q h9 → QQ none h9), aCall m_Ps_choose d [ar a0, ai a1, ai a2, ai a3] h 0 0 QQ := by
  intro n
  induction n with
  | zero => intro d hd a0 a1 a2 a3 h Q QQ hw hQ; exact hw.elim
  | succ n ih =>
    intro d hd a0 a1 a2 a3 h Q QQ hw hQ
    obtain ⟨d, rfl⟩ : ∃ d9, d = d9 + 2 := ⟨d - 2, by omega⟩
    unfold w_Ps_ch at hw
    exact s_Ps_choose (d := d + 1) (by omega) (fun hw hQ => s_Ps_share (d := d) (by omega) (fun hw hQ => ih (by omega) hw hQ) hw hQ) hw hQ
theorem s_Ps_ch {d : Nat} (hd : 60 ≤ d) {a0 : Nat} {a1 a2 a3 : Int32} {h : Hp} {Q : Hp → Prop} {QQ : Option AV → Hp → Prop} (hw : w_Ps_ch 12 a0 a1 a2 a3 h Q) (hQ : ∀ h9, Q h9 → QQ none h9) : aCall m_Ps_choose d [ar a0, ai a1, ai a2, ai a3] h 0 0 QQ := s_Ps_chn 12 (by omega) hw hQ
set_option maxRecDepth 100000 in
set_option maxHeartbeats 4000000 in
theorem s_JM_min {d : Nat} {v0 : Int32} {v1 : Int32} {h : Hp} {Q : Int32 → Hp → Prop} {QQ : Option AV → Hp → Prop} (hw : w_JM_min v0 v1 h Q) (hQ : ∀ r9 h9, Q r9 h9 → QQ (some (ai r9)) h9) : aCall m_JM_min d [ai v0, ai v1] h 0 0 QQ := by
  refine aCall_in pl_JM_min (nle rfl) ?_
  show aW none m_JM_min d 0 [(0, ai v0), (1, ai v1)] [] h 0 0 QQ
  unfold w_JM_min at hw
  refine r_iload_n (j := 0) d_JM_min_0 rfl ?_
  refine r_iload_n (j := 1) d_JM_min_1 rfl ?_
  refine r_icmp_gt d_JM_min_2 (fun w9 => ?_) (fun w9 => ?_)
  · replace hw := hw.1 w9
    refine r_iload_n (j := 1) d_JM_min_9 rfl ?_
    exact r_ireturn d_JM_min_10.1 rfl (hQ _ _ hw)
  · replace hw := hw.2 w9
    refine r_iload_n (j := 0) d_JM_min_5 rfl ?_
    refine r_goto d_JM_min_6 ?_
    exact r_ireturn d_JM_min_10.1 rfl (hQ _ _ hw)
set_option maxRecDepth 100000 in
set_option maxHeartbeats 4000000 in
theorem s_Ps_takeNumbers_B86 {d : Nat} (hd : 1 ≤ d + 1) {Q : Hp → Prop} {QQ : Option AV → Hp → Prop} (hQ : ∀ h9, Q h9 → QQ none h9) {k2 : Int32 → Hp → Prop} (hk2 : ∀ v3 h9, k2 v3 h9 → aW none m_Ps_takeNumbers (d + 1) 2 [(0, ar v0), (1, ai v1), (2, ai v2), (3, ai v3)] [] h9 0 0 QQ) {v0 : Nat} {v1 : Int32} {v2 : Int32} {v3 : Int32} {v4 : Int32} {v5 : Int32} {v6 : Int32} {s0 : Nat} {s1 : Int32} {s2 : Int32} {h : Hp} (hw : w_Ps_takeNumbers_B86 Q k2 v0 v1 v2 v3 v4 v5 v6 s0 s1 s2 h) : aW none m_Ps_takeNumbers (d + 1) 86 [(0, ar v0), (1, ai v1), (2, ai v2), (3, ai v3), (4, ai v4), (5, ai v5), (6, ai v6)] [ar s0, ai s1, ai s2] h 0 0 QQ := by
  unfold w_Ps_takeNumbers_B86 at hw
  obtain ⟨q14, hw⟩ := hw
  obtain ⟨q15, hw⟩ := hw
  refine r_iast d_Ps_takeNumbers_86 q14 q15 ?_
  refine r_aload_n (j := 0) d_Ps_takeNumbers_87 rfl ?_
  obtain ⟨q16, hw⟩ := hw
  refine r_getR d_Ps_takeNumbers_88 ok_7 (nle rfl) (nle rfl) rfl lf_Ps_27 q16 ?_
  refine r_iload (j := 4) d_Ps_takeNumbers_91 rfl ?_
  refine r_iload (j := 6) d_Ps_takeNumbers_93 rfl ?_
  refine r_if_eq d_Ps_takeNumbers_95 (fun w9 => ?_) (fun w9 => ?_)
  · replace hw := hw.1 w9
    refine r_iload (j := 5) d_Ps_takeNumbers_103 rfl ?_
    refine r_aload_n (j := 0) d_Ps_takeNumbers_105 rfl ?_
    refine r_getR d_Ps_takeNumbers_106 ok_7 (nle rfl) (nle rfl) rfl lf_Ps_27 q16 ?_
    refine r_iload (j := 4) d_Ps_takeNumbers_109 rfl ?_
    refine r_iconst d_Ps_takeNumbers_111 kc_3 ?_
    refine r_iadd d_Ps_takeNumbers_112 ?_
    obtain ⟨q17, hw⟩ := hw
    obtain ⟨q18, hw⟩ := hw
    refine r_iald d_Ps_takeNumbers_113 q17 q18 ?_
    refine r_callS (av := [ai v5, ai (gI (sI h s0 (ix s1) s2) (gR h v0 5) (ix (v4 + (3 : Int32))))]) (rest := [ai v4, ar (gR h v0 5)]) d_Ps_takeNumbers_114 mk_JM_max ll_Ps_72 st_JM_max rfl rfl (nle rfl) (s_JM_max  hw (fun r20 h19 hw => ?_))
    show aW none m_Ps_takeNumbers (d + 1) 117 [(0, ar v0), (1, ai v1), (2, ai v2), (3, ai v3), (4, ai v4), (5, ai v5), (6, ai v6)] [ai r20, ai v4, ar (gR h v0 5)] h19 0 0 QQ
    obtain ⟨q21, hw⟩ := hw
    obtain ⟨q22, hw⟩ := hw
    refine r_iast d_Ps_takeNumbers_117 q21 q22 ?_
    refine r_iinc (j := 3) (ls2 := [(3, ai (v3 + (1 : Int32))), (0, ar v0), (1, ai v1), (2, ai v2), (4, ai v4), (5, ai v5), (6, ai v6)]) d_Ps_takeNumbers_118 rfl (congrArg (HAdd.hAdd v3) kc_1) (nle rfl) rfl ?_
    refine r_goto d_Ps_takeNumbers_121 ?_
    refine r_pick (ls2 := [(0, ar v0), (1, ai v1), (2, ai v2), (3, ai (v3 + (1 : Int32)))]) [1, 2, 3, 0] rfl ?_
    exact hk2 _ _ hw
  · replace hw := hw.2 w9
    refine r_iload (j := 5) d_Ps_takeNumbers_98 rfl ?_
    refine r_goto d_Ps_takeNumbers_100 ?_
    obtain ⟨q23, hw⟩ := hw
    obtain ⟨q24, hw⟩ := hw
    refine r_iast d_Ps_takeNumbers_117 q23 q24 ?_
    refine r_iinc (j := 3) (ls2 := [(3, ai (v3 + (1 : Int32))), (0, ar v0), (1, ai v1), (2, ai v2), (4, ai v4), (5, ai v5), (6, ai v6)]) d_Ps_takeNumbers_118 rfl (congrArg (HAdd.hAdd v3) kc_1) (nle rfl) rfl ?_
    refine r_goto d_Ps_takeNumbers_121 ?_
    refine r_pick (ls2 := [(0, ar v0), (1, ai v1), (2, ai v2), (3, ai (v3 + (1 : Int32)))]) [1, 2, 3, 0] rfl ?_
    exact hk2 _ _ hw
set_option maxRecDepth 100000 in
set_option maxHeartbeats 4000000 in
theorem s_Ps_takeNumbers_B45 {d : Nat} (hd : 1 ≤ d + 1) {Q : Hp → Prop} {QQ : Option AV → Hp → Prop} (hQ : ∀ h9, Q h9 → QQ none h9) {k2 : Int32 → Hp → Prop} (hk2 : ∀ v3 h9, k2 v3 h9 → aW none m_Ps_takeNumbers (d + 1) 2 [(0, ar v0), (1, ai v1), (2, ai v2), (3, ai v3)] [] h9 0 0 QQ) {v0 : Nat} {v1 : Int32} {v2 : Int32} {v3 : Int32} {v4 : Int32} {v5 : Int32} {s0 : Int32} {h : Hp} (hw : w_Ps_takeNumbers_B45 Q k2 v0 v1 v2 v3 v4 v5 s0 h) : aW none m_Ps_takeNumbers (d + 1) 45 [(0, ar v0), (1, ai v1), (2, ai v2), (3, ai v3), (4, ai v4), (5, ai v5)] [ai s0] h 0 0 QQ := by
  unfold w_Ps_takeNumbers_B45 at hw
  refine r_istore (ls2 := [(6, ai s0), (0, ar v0), (1, ai v1), (2, ai v2), (3, ai v3), (4, ai v4), (5, ai v5)]) d_Ps_takeNumbers_45 (nle rfl) rfl ?_
  refine r_aload_n (j := 1) d_Ps_takeNumbers_47 rfl ?_
  obtain ⟨q7, hw⟩ := hw
  refine r_getR d_Ps_takeNumbers_48 ok_7 (nle rfl) (nle rfl) rfl lf_Ps_21 q7 ?_
  refine r_iload (j := 5) d_Ps_takeNumbers_51 rfl ?_
  refine r_iload (j := 6) d_Ps_takeNumbers_53 rfl ?_
  obtain ⟨q8, hw⟩ := hw
  obtain ⟨q9, hw⟩ := hw
  refine r_iast d_Ps_takeNumbers_55 q8 q9 ?_
  refine r_aload_n (j := 1) d_Ps_takeNumbers_56 rfl ?_
  refine r_getR d_Ps_takeNumbers_57 ok_7 (nle rfl) (nle rfl) rfl lf_Ps_24 q7 ?_
  refine r_iload (j := 5) d_Ps_takeNumbers_60 rfl ?_
  refine r_iload (j := 0) d_Ps_takeNumbers_62 rfl ?_
  refine r_if_eq d_Ps_takeNumbers_64 (fun w9 => ?_) (fun w9 => ?_)
  · replace hw := hw.1 w9
    refine r_iload (j := 6) d_Ps_takeNumbers_72 rfl ?_
    refine r_aload_n (j := 1) d_Ps_takeNumbers_74 rfl ?_
    refine r_getR d_Ps_takeNumbers_75 ok_7 (nle rfl) (nle rfl) rfl lf_Ps_24 q7 ?_
    refine r_iload (j := 5) d_Ps_takeNumbers_78 rfl ?_
    refine r_iconst d_Ps_takeNumbers_80 kc_3 ?_
    refine r_iadd d_Ps_takeNumbers_81 ?_
    obtain ⟨q10, hw⟩ := hw
    obtain ⟨q11, hw⟩ := hw
    refine r_iald d_Ps_takeNumbers_82 q10 q11 ?_
    refine r_callS (av := [ai v5, ai (gI (sI h (gR h v0 3) (ix v4) v5) (gR h v0 4) (ix (v4 + (3 : Int32))))]) (rest := [ai v4, ar (gR h v0 4)]) d_Ps_takeNumbers_83 mk_JM_min ll_Ps_67 st_JM_min rfl rfl (nle rfl) (s_JM_min  hw (fun r13 h12 hw => ?_))
    show aW none m_Ps_takeNumbers (d + 1) 86 [(6, ai s0), (0, ar v0), (1, ai v1), (2, ai v2), (3, ai v3), (4, ai v4), (5, ai v5)] [ai r13, ai v4, ar (gR h v0 4)] h12 0 0 QQ
    refine r_pick (ls2 := [(0, ar v0), (1, ai v1), (2, ai v2), (3, ai v3), (4, ai v4), (5, ai v5), (6, ai s0)]) [1, 2, 3, 4, 5, 6, 0] rfl ?_
    exact s_Ps_takeNumbers_B86 hd hQ hk2 hw
  · replace hw := hw.2 w9
    refine r_iload (j := 6) d_Ps_takeNumbers_67 rfl ?_
    refine r_goto d_Ps_takeNumbers_69 ?_
    refine r_pick (ls2 := [(0, ar v0), (1, ai v1), (2, ai v2), (3, ai v3), (4, ai v4), (5, ai v5), (6, ai s0)]) [1, 2, 3, 4, 5, 6, 0] rfl ?_
    exact s_Ps_takeNumbers_B86 hd hQ hk2 hw
set_option maxRecDepth 100000 in
set_option maxHeartbeats 4000000 in
theorem s_Ps_takeNumbers_L2 {d : Nat} (hd : 1 ≤ d + 1) {Q : Hp → Prop} {QQ : Option AV → Hp → Prop} (hQ : ∀ h9, Q h9 → QQ none h9) {v0 : Nat} {v1 : Int32} {v2 : Int32} : ∀ (n : Nat) (v3 : Int32) (h : Hp), w_Ps_takeNumbers_L2 Q  v0 v1 v2 n v3 h → aW none m_Ps_takeNumbers (d + 1) 2 [(0, ar v0), (1, ai v1), (2, ai v2), (3, ai v3)] [] h 0 0 QQ := by
  intro n
  induction n with
  | zero => intro v3 h hw; exact hw.elim
  | succ n ih =>
    intro v3 h hw
    unfold w_Ps_takeNumbers_L2 at hw
    refine r_iload_n (j := 3) d_Ps_takeNumbers_2 rfl ?_
    refine r_iconst d_Ps_takeNumbers_3 kc_3 ?_
    refine r_icmp_ge d_Ps_takeNumbers_4 (fun w9 => ?_) (fun w9 => ?_)
    · replace hw := hw.1 w9
      exact r_return d_Ps_takeNumbers_124.1 rfl (hQ _ hw)
    · replace hw := hw.2 w9
      refine r_iload_n (j := 1) d_Ps_takeNumbers_7 rfl ?_
      refine r_iconst d_Ps_takeNumbers_8 kc_3 ?_
      refine r_imul d_Ps_takeNumbers_9 ?_
      refine r_iload_n (j := 3) d_Ps_takeNumbers_10 rfl ?_
      refine r_iadd d_Ps_takeNumbers_11 ?_
      refine r_istore (ls2 := [(4, ai ((v1 * (3 : Int32)) + v3)), (0, ar v0), (1, ai v1), (2, ai v2), (3, ai v3)]) d_Ps_takeNumbers_12 (nle rfl) rfl ?_
      refine r_iload_n (j := 3) d_Ps_takeNumbers_14 rfl ?_
      refine r_aload_n (j := 1) d_Ps_takeNumbers_15 rfl ?_
      obtain ⟨q1, hw⟩ := hw
      refine r_getR d_Ps_takeNumbers_16 ok_7 (nle rfl) (nle rfl) rfl lf_Ps_30 q1 ?_
      refine r_iload_n (j := 2) d_Ps_takeNumbers_19 rfl ?_
      refine r_iload_n (j := 4) d_Ps_takeNumbers_20 rfl ?_
      obtain ⟨q4, hw⟩ := hw
      refine r_callV (av := [ai v1, ai v3]) (rest := [ai v2]) (ci := 1) d_Ps_takeNumbers_21 mk_Co_numberOf ll_Ps_63 im_Co_numberOf se_Co_numberOf rfl (nle rfl) rfl rfl (nle rfl) q4 (s_Co_numberOf  hw (fun r3 h2 hw => ?_))
      show aW none m_Ps_takeNumbers (d + 1) 24 [(4, ai ((v1 * (3 : Int32)) + v3)), (0, ar v0), (1, ai v1), (2, ai v2), (3, ai v3)] [ai r3, ai v2] h2 0 0 QQ
      refine r_imul d_Ps_takeNumbers_24 ?_
      refine r_istore (ls2 := [(5, ai (v2 * r3)), (4, ai ((v1 * (3 : Int32)) + v3)), (0, ar v0), (1, ai v1), (2, ai v2), (3, ai v3)]) d_Ps_takeNumbers_25 (nle rfl) rfl ?_
      refine r_iload_n (j := 3) d_Ps_takeNumbers_27 rfl ?_
      refine r_iconst d_Ps_takeNumbers_28 kc_1 ?_
      refine r_iadd d_Ps_takeNumbers_29 ?_
      refine r_aload_n (j := 2) d_Ps_takeNumbers_30 rfl ?_
      obtain ⟨q5, hw⟩ := hw
      refine r_getR d_Ps_takeNumbers_31 ok_7 (nle rfl) (nle rfl) rfl lf_Ps_30 q5 ?_
      obtain ⟨q6, hw⟩ := hw
      refine r_getI d_Ps_takeNumbers_34 ok_1 (nle rfl) (nle rfl) rfl lf_Ps_50 q6 ?_
      refine r_icmp_lt d_Ps_takeNumbers_37 (fun w9 => ?_) (fun w9 => ?_)
      · replace hw := hw.1 w9
        refine r_iconst d_Ps_takeNumbers_44 kc_0 ?_
        refine r_pick (ls2 := [(0, ar v0), (1, ai v1), (2, ai v2), (3, ai v3), (4, ai ((v1 * (3 : Int32)) + v3)), (5, ai (v2 * r3))]) [2, 3, 4, 5, 1, 0] rfl ?_
        exact s_Ps_takeNumbers_B45 hd hQ ih hw
      · replace hw := hw.2 w9
        refine r_iconst d_Ps_takeNumbers_40 kc_1 ?_
        refine r_goto d_Ps_takeNumbers_41 ?_
        refine r_pick (ls2 := [(0, ar v0), (1, ai v1), (2, ai v2), (3, ai v3), (4, ai ((v1 * (3 : Int32)) + v3)), (5, ai (v2 * r3))]) [2, 3, 4, 5, 1, 0] rfl ?_
        exact s_Ps_takeNumbers_B45 hd hQ ih hw
set_option maxRecDepth 100000 in
set_option maxHeartbeats 4000000 in
theorem s_Ps_takeNumbers {d : Nat} (hd : 1 ≤ d) {v0 : Nat} {v1 : Int32} {v2 : Int32} {h : Hp} {Q : Hp → Prop} {QQ : Option AV → Hp → Prop} (hw : w_Ps_takeNumbers v0 v1 v2 h Q) (hQ : ∀ h9, Q h9 → QQ none h9) : aCall m_Ps_takeNumbers d [ar v0, ai v1, ai v2] h 0 0 QQ := by
  obtain ⟨d, rfl⟩ : ∃ d9, d = d9 + 1 := ⟨d - 1, by omega⟩
  refine aCall_in pl_Ps_takeNumbers (nle rfl) ?_
  show aW none m_Ps_takeNumbers (d + 1) 0 [(0, ar v0), (1, ai v1), (2, ai v2)] [] h 0 0 QQ
  unfold w_Ps_takeNumbers at hw
  refine r_iconst d_Ps_takeNumbers_0 kc_0 ?_
  refine r_istore_n (ls2 := [(3, ai (0 : Int32)), (0, ar v0), (1, ai v1), (2, ai v2)]) d_Ps_takeNumbers_1 (nle rfl) rfl ?_
  obtain ⟨n25, hw⟩ := hw
  refine r_pick (ls2 := [(0, ar v0), (1, ai v1), (2, ai v2), (3, ai (0 : Int32))]) [1, 2, 3, 0] rfl ?_
  exact s_Ps_takeNumbers_L2 hd hQ  n25 _ _ hw
set_option maxRecDepth 100000 in
set_option maxHeartbeats 4000000 in
theorem s_Ps_run_B60 {d : Nat} (hd : 61 ≤ d + 1) {Q : Hp → Prop} {QQ : Option AV → Hp → Prop} (hQ : ∀ h9, Q h9 → QQ none h9) {k41 : Int32 → Hp → Prop} (hk41 : ∀ v6 h9, k41 v6 h9 → aW none m_Ps_run (d + 1) 41 [(0, ar v0), (2, ai v2), (3, ai v3), (6, ai v6)] [] h9 0 0 QQ) {v0 : Nat} {v2 : Int32} {v3 : Int32} {v6 : Int32} {s0 : Nat} {s1 : Int32} {s2 : Int32} {h : Hp} (hw : w_Ps_run_B60 Q k41 v0 v2 v3 v6 s0 s1 s2 h) : aW none m_Ps_run (d + 1) 60 [(0, ar v0), (2, ai v2), (3, ai v3), (6, ai v6)] [ar s0, ai s1, ai s2] h 0 0 QQ := by
  unfold w_Ps_run_B60 at hw
  obtain ⟨q11, hw⟩ := hw
  refine r_callV (av := [ai s1, ai s2]) (rest := []) (ci := 7) d_Ps_run_60 mk_Ps_takeNumbers ll_Ps_55 im_Ps_takeNumbers se_Ps_takeNumbers rfl (nle rfl) rfl rfl (nle rfl) q11 (s_Ps_takeNumbers (by omega) hw (fun h10 hw => ?_))
  show aW none m_Ps_run (d + 1) 63 [(0, ar v0), (2, ai v2), (3, ai v3), (6, ai v6)] [] h10 0 0 QQ
  refine r_iinc (j := 3) (ls2 := [(6, ai (v6 + (-1 : Int32))), (0, ar v0), (2, ai v2), (3, ai v3)]) d_Ps_run_63 rfl (congrArg (HAdd.hAdd v6) kc_m1) (nle rfl) rfl ?_
  refine r_goto d_Ps_run_66 ?_
  refine r_pick (ls2 := [(0, ar v0), (2, ai v2), (3, ai v3), (6, ai (v6 + (-1 : Int32)))]) [1, 2, 3, 0] rfl ?_
  exact hk41 _ _ hw
set_option maxRecDepth 100000 in
set_option maxHeartbeats 4000000 in
theorem s_Ps_run_L41 {d : Nat} (hd : 61 ≤ d + 1) {Q : Hp → Prop} {QQ : Option AV → Hp → Prop} (hQ : ∀ h9, Q h9 → QQ none h9) {v0 : Nat} {v2 : Int32} {v3 : Int32} : ∀ (n : Nat) (v6 : Int32) (h : Hp), w_Ps_run_L41 Q  v0 v2 v3 n v6 h → aW none m_Ps_run (d + 1) 41 [(0, ar v0), (2, ai v2), (3, ai v3), (6, ai v6)] [] h 0 0 QQ := by
  intro n
  induction n with
  | zero => intro v6 h hw; exact hw.elim
  | succ n ih =>
    intro v6 h hw
    unfold w_Ps_run_L41 at hw
    refine r_iload (j := 3) d_Ps_run_41 rfl ?_
    refine r_if_lt d_Ps_run_43 (fun w9 => ?_) (fun w9 => ?_)
    · replace hw := hw.1 w9
      refine r_aload_n (j := 0) d_Ps_run_69 rfl ?_
      refine r_iconst d_Ps_run_70 kc_0 ?_
      refine r_iload_n (j := 2) d_Ps_run_71 rfl ?_
      refine r_iconst d_Ps_run_72 kc_0 ?_
      obtain ⟨q9, hw⟩ := hw
      refine r_callV (av := [ai (0 : Int32), ai v3, ai (0 : Int32)]) (rest := []) (ci := 7) d_Ps_run_73 mk_Ps_choose ll_Ps_59 im_Ps_choose se_Ps_choose rfl (nle rfl) rfl rfl (nle rfl) q9 (s_Ps_ch (by omega) hw (fun h8 hw => ?_))
      show aW none m_Ps_run (d + 1) 76 [(0, ar v0), (2, ai v2), (3, ai v3), (6, ai v6)] [] h8 0 0 QQ
      exact r_return d_Ps_run_76.1 rfl (hQ _ hw)
    · replace hw := hw.2 w9
      refine r_aload_n (j := 0) d_Ps_run_46 rfl ?_
      refine r_iload (j := 3) d_Ps_run_47 rfl ?_
      refine r_iload (j := 3) d_Ps_run_49 rfl ?_
      refine r_iload_n (j := 1) d_Ps_run_51 rfl ?_
      refine r_icmp_ne d_Ps_run_52 (fun w9 => ?_) (fun w9 => ?_)
      · replace hw := hw.2 w9
        refine r_iconst d_Ps_run_59 kc_1 ?_
        exact s_Ps_run_B60 hd hQ ih hw
      · replace hw := hw.1 w9
        refine r_iconst d_Ps_run_55 kc_m1 ?_
        refine r_goto d_Ps_run_56 ?_
        exact s_Ps_run_B60 hd hQ ih hw
set_option maxRecDepth 100000 in
set_option maxHeartbeats 4000000 in
theorem s_Ps_run {d : Nat} (hd : 61 ≤ d) {v0 : Nat} {v1 : Nat} {v2 : Int32} {v3 : Int32} {v4 : Nat} {v5 : Int32} {h : Hp} {Q : Hp → Prop} {QQ : Option AV → Hp → Prop} (hw : w_Ps_run v0 v1 v2 v3 v4 v5 h Q) (hQ : ∀ h9, Q h9 → QQ none h9) : aCall m_Ps_run d [ar v0, ar v1, ai v2, ai v3, ar v4, ai v5] h 0 0 QQ := by
  obtain ⟨d, rfl⟩ : ∃ d9, d = d9 + 1 := ⟨d - 1, by omega⟩
  refine aCall_in pl_Ps_run (nle rfl) ?_
  show aW none m_Ps_run (d + 1) 0 [(0, ar v0), (1, ar v1), (2, ai v2), (3, ai v3), (4, ar v4), (5, ai v5)] [] h 0 0 QQ
  unfold w_Ps_run at hw
  refine r_aload_n (j := 0) d_Ps_run_0 rfl ?_
  refine r_aload_n (j := 1) d_Ps_run_1 rfl ?_
  obtain ⟨q1, hw⟩ := hw
  obtain ⟨q2, hw⟩ := hw
  refine r_putR d_Ps_run_2 ok_7 (nle rfl) (nle rfl) rfl lf_Ps_30 rfl q1 q2 ?_
  refine r_aload_n (j := 0) d_Ps_run_5 rfl ?_
  refine r_iload (j := 5) d_Ps_run_6 rfl ?_
  refine r_putI d_Ps_run_8 ok_7 (nle rfl) (nle rfl) rfl lf_Ps_34 rfl q1 ?_
  refine r_aload_n (j := 0) d_Ps_run_11 rfl ?_
  refine r_iconst d_Ps_run_12 kc_0 ?_
  refine r_putI d_Ps_run_13 ok_7 (nle rfl) (nle rfl) rfl lf_Ps_38 rfl q1 ?_
  refine r_aload_n (j := 0) d_Ps_run_16 rfl ?_
  refine r_iconst d_Ps_run_17 kc_0 ?_
  refine r_putI d_Ps_run_18 ok_7 (nle rfl) (nle rfl) rfl lf_Ps_41 rfl q1 ?_
  refine r_aload (j := 4) d_Ps_run_21 rfl ?_
  refine r_iconst d_Ps_run_23 kc_0 ?_
  refine r_aload_n (j := 0) d_Ps_run_24 rfl ?_
  refine r_getR d_Ps_run_25 ok_7 (nle rfl) (nle rfl) rfl lf_Ps_9 q1 ?_
  refine r_iconst d_Ps_run_28 kc_0 ?_
  refine r_iconst d_Ps_run_29 kc_3 ?_
  obtain ⟨q3, hw⟩ := hw
  obtain ⟨q4, hw⟩ := hw
  obtain ⟨q5, hw⟩ := hw
  obtain ⟨q6, hw⟩ := hw
  refine r_copy d_Ps_run_30 ll_Ps_44 cp_1 cp_2 cp_3 (nle rfl) q3 q4 (by decide) (by decide) (by decide) q5 q6 ?_
  refine r_aload_n (j := 1) d_Ps_run_33 rfl ?_
  obtain ⟨q7, hw⟩ := hw
  refine r_getI d_Ps_run_34 ok_1 (nle rfl) (nle rfl) rfl lf_Ps_50 q7 ?_
  refine r_iconst d_Ps_run_37 kc_1 ?_
  refine r_isub d_Ps_run_38 ?_
  refine r_istore (ls2 := [(6, ai ((gI (sA (sI (sI (sI (sR h v0 6 v1) v0 7 v5) v0 8 (0 : Int32)) v0 9 (0 : Int32)) (gR (sI (sI (sI (sR h v0 6 v1) v0 7 v5) v0 8 (0 : Int32)) v0 9 (0 : Int32)) v0 0) (va_cpy (gI (sI (sI (sI (sR h v0 6 v1) v0 7 v5) v0 8 (0 : Int32)) v0 9 (0 : Int32)) v4) (gI (sI (sI (sI (sR h v0 6 v1) v0 7 v5) v0 8 (0 : Int32)) v0 9 (0 : Int32)) (gR (sI (sI (sI (sR h v0 6 v1) v0 7 v5) v0 8 (0 : Int32)) v0 9 (0 : Int32)) v0 0)) (ix (0 : Int32)) (ix (0 : Int32)) (ix (3 : Int32)))) v1 2) - (1 : Int32))), (0, ar v0), (1, ar v1), (2, ai v2), (3, ai v3), (4, ar v4), (5, ai v5)]) d_Ps_run_39 (nle rfl) rfl ?_
  obtain ⟨n12, hw⟩ := hw
  refine r_pick (ls2 := [(0, ar v0), (2, ai v2), (3, ai v3), (6, ai ((gI (sA (sI (sI (sI (sR h v0 6 v1) v0 7 v5) v0 8 (0 : Int32)) v0 9 (0 : Int32)) (gR (sI (sI (sI (sR h v0 6 v1) v0 7 v5) v0 8 (0 : Int32)) v0 9 (0 : Int32)) v0 0) (va_cpy (gI (sI (sI (sI (sR h v0 6 v1) v0 7 v5) v0 8 (0 : Int32)) v0 9 (0 : Int32)) v4) (gI (sI (sI (sI (sR h v0 6 v1) v0 7 v5) v0 8 (0 : Int32)) v0 9 (0 : Int32)) (gR (sI (sI (sI (sR h v0 6 v1) v0 7 v5) v0 8 (0 : Int32)) v0 9 (0 : Int32)) v0 0)) (ix (0 : Int32)) (ix (0 : Int32)) (ix (3 : Int32)))) v1 2) - (1 : Int32)))]) [1, 3, 4, 0] rfl ?_
  exact s_Ps_run_L41 hd hQ  n12 _ _ hw
set_option maxRecDepth 100000 in
set_option maxHeartbeats 4000000 in
theorem s_Kn_tell_B62 {d : Nat} (hd : 62 ≤ d + 1) {Q : Int32 → Hp → Prop} {QQ : Option AV → Hp → Prop} (hQ : ∀ r9 h9, Q r9 h9 → QQ (some (ai r9)) h9) {k17 : Int32 → Int32 → Hp → Prop} (hk17 : ∀ v4 v5 h9, k17 v4 v5 h9 → aW none m_Kn_tell (d + 1) 17 [(0, ar v0), (1, ai v1), (2, ar v2), (3, ai v3), (4, ai v4), (5, ai v5)] [] h9 0 0 QQ) {v0 : Nat} {v1 : Int32} {v2 : Nat} {v3 : Int32} {v4 : Int32} {v5 : Int32} {s0 : Int32} {h : Hp} (hw : w_Kn_tell_B62 Q k17 v0 v1 v2 v3 v4 v5 s0 h) : aW none m_Kn_tell (d + 1) 62 [(0, ar v0), (1, ai v1), (2, ar v2), (3, ai v3), (4, ai v4), (5, ai v5)] [ai s0] h 0 0 QQ := by
  unfold w_Kn_tell_B62 at hw
  refine r_iload_n (j := 3) d_Kn_tell_62 rfl ?_
  refine r_icmp_ne d_Kn_tell_63 (fun w9 => ?_) (fun w9 => ?_)
  · replace hw := hw.2 w9
    refine r_iinc (j := 5) (ls2 := [(5, ai (v5 + (1 : Int32))), (0, ar v0), (1, ai v1), (2, ar v2), (3, ai v3), (4, ai v4)]) d_Kn_tell_75 rfl (congrArg (HAdd.hAdd v5) kc_1) (nle rfl) rfl ?_
    refine r_goto d_Kn_tell_78 ?_
    refine r_pick (ls2 := [(0, ar v0), (1, ai v1), (2, ar v2), (3, ai v3), (4, ai v4), (5, ai (v5 + (1 : Int32)))]) [1, 2, 3, 4, 5, 0] rfl ?_
    exact hk17 _ _ _ hw
  · replace hw := hw.1 w9
    refine r_iload (j := 4) d_Kn_tell_66 rfl ?_
    refine r_iconst d_Kn_tell_68 kc_1 ?_
    refine r_iload (j := 5) d_Kn_tell_69 rfl ?_
    refine r_ishl d_Kn_tell_71 ?_
    refine r_ior d_Kn_tell_72 ?_
    refine r_istore (ls2 := [(4, ai (v4 ||| (jshl (1 : Int32) v5))), (0, ar v0), (1, ai v1), (2, ar v2), (3, ai v3), (5, ai v5)]) d_Kn_tell_73 (nle rfl) rfl ?_
    refine r_iinc (j := 5) (ls2 := [(5, ai (v5 + (1 : Int32))), (4, ai (v4 ||| (jshl (1 : Int32) v5))), (0, ar v0), (1, ai v1), (2, ar v2), (3, ai v3)]) d_Kn_tell_75 rfl (congrArg (HAdd.hAdd v5) kc_1) (nle rfl) rfl ?_
    refine r_goto d_Kn_tell_78 ?_
    refine r_pick (ls2 := [(0, ar v0), (1, ai v1), (2, ar v2), (3, ai v3), (4, ai (v4 ||| (jshl (1 : Int32) v5))), (5, ai (v5 + (1 : Int32)))]) [2, 3, 4, 5, 1, 0] rfl ?_
    exact hk17 _ _ _ hw
set_option maxRecDepth 100000 in
set_option maxHeartbeats 4000000 in
theorem s_Kn_tell_L17 {d : Nat} (hd : 62 ≤ d + 1) {Q : Int32 → Hp → Prop} {QQ : Option AV → Hp → Prop} (hQ : ∀ r9 h9, Q r9 h9 → QQ (some (ai r9)) h9) {v0 : Nat} {v1 : Int32} {v2 : Nat} {v3 : Int32} : ∀ (n : Nat) (v4 : Int32) (v5 : Int32) (h : Hp), w_Kn_tell_L17 Q  v0 v1 v2 v3 n v4 v5 h → aW none m_Kn_tell (d + 1) 17 [(0, ar v0), (1, ai v1), (2, ar v2), (3, ai v3), (4, ai v4), (5, ai v5)] [] h 0 0 QQ := by
  intro n
  induction n with
  | zero => intro v4 v5 h hw; exact hw.elim
  | succ n ih =>
    intro v4 v5 h hw
    unfold w_Kn_tell_L17 at hw
    refine r_iload (j := 5) d_Kn_tell_17 rfl ?_
    refine r_aload_n (j := 0) d_Kn_tell_19 rfl ?_
    obtain ⟨q2, hw⟩ := hw
    refine r_getR d_Kn_tell_20 ok_5 (nle rfl) (nle rfl) rfl lf_Kn_24 q2 ?_
    obtain ⟨q3, hw⟩ := hw
    refine r_getI d_Kn_tell_23 ok_1 (nle rfl) (nle rfl) rfl lf_Kn_36 q3 ?_
    refine r_icmp_gt d_Kn_tell_26 (fun w9 => ?_) (fun w9 => ?_)
    · replace hw := hw.1 w9
      refine r_aload_n (j := 0) d_Kn_tell_81 rfl ?_
      refine r_getR d_Kn_tell_82 ok_5 (nle rfl) (nle rfl) rfl lf_Kn_11 q2 ?_
      refine r_aload_n (j := 0) d_Kn_tell_85 rfl ?_
      refine r_getI d_Kn_tell_86 ok_5 (nle rfl) (nle rfl) rfl lf_Kn_32 q2 ?_
      refine r_iload (j := 4) d_Kn_tell_89 rfl ?_
      obtain ⟨q4, hw⟩ := hw
      obtain ⟨q5, hw⟩ := hw
      refine r_iast d_Kn_tell_91 q4 q5 ?_
      refine r_aload_n (j := 0) d_Kn_tell_92 rfl ?_
      refine r_getR d_Kn_tell_93 ok_5 (nle rfl) (nle rfl) rfl lf_Kn_15 q2 ?_
      refine r_aload_n (j := 0) d_Kn_tell_96 rfl ?_
      refine r_getI d_Kn_tell_97 ok_5 (nle rfl) (nle rfl) rfl lf_Kn_32 q2 ?_
      refine r_aload_n (j := 0) d_Kn_tell_100 rfl ?_
      refine r_getI d_Kn_tell_101 ok_5 (nle rfl) (nle rfl) rfl lf_Kn_48 q2 ?_
      obtain ⟨q6, hw⟩ := hw
      obtain ⟨q7, hw⟩ := hw
      refine r_iast d_Kn_tell_104 q6 q7 ?_
      refine r_aload_n (j := 0) d_Kn_tell_105 rfl ?_
      refine r_getR d_Kn_tell_106 ok_5 (nle rfl) (nle rfl) rfl lf_Kn_18 q2 ?_
      refine r_aload_n (j := 0) d_Kn_tell_109 rfl ?_
      refine r_getI d_Kn_tell_110 ok_5 (nle rfl) (nle rfl) rfl lf_Kn_32 q2 ?_
      refine r_iconst d_Kn_tell_113 kc_m1 ?_
      obtain ⟨q8, hw⟩ := hw
      obtain ⟨q9, hw⟩ := hw
      refine r_iast d_Kn_tell_114 q8 q9 ?_
      refine r_aload_n (j := 0) d_Kn_tell_115 rfl ?_
      refine r_dup d_Kn_tell_116 rfl ?_
      refine r_getI d_Kn_tell_117 ok_5 (nle rfl) (nle rfl) rfl lf_Kn_32 q2 ?_
      refine r_iconst d_Kn_tell_120 kc_1 ?_
      refine r_iadd d_Kn_tell_121 ?_
      refine r_putI d_Kn_tell_122 ok_5 (nle rfl) (nle rfl) rfl lf_Kn_32 rfl q2 ?_
      refine r_aload_n (j := 0) d_Kn_tell_125 rfl ?_
      refine r_getI d_Kn_tell_126 ok_5 (nle rfl) (nle rfl) rfl lf_Kn_32 q2 ?_
      refine r_iconst d_Kn_tell_129 kc_1 ?_
      refine r_isub d_Kn_tell_130 ?_
      exact r_ireturn d_Kn_tell_131.1 rfl (hQ _ _ hw)
    · replace hw := hw.2 w9
      refine r_aload_n (j := 0) d_Kn_tell_29 rfl ?_
      refine r_getR d_Kn_tell_30 ok_5 (nle rfl) (nle rfl) rfl lf_Kn_28 q2 ?_
      refine r_aload_n (j := 0) d_Kn_tell_33 rfl ?_
      refine r_getR d_Kn_tell_34 ok_5 (nle rfl) (nle rfl) rfl lf_Kn_24 q2 ?_
      refine r_iload (j := 5) d_Kn_tell_37 rfl ?_
      refine r_iconst d_Kn_tell_39 kc_1 ?_
      refine r_isub d_Kn_tell_40 ?_
      refine r_iload_n (j := 1) d_Kn_tell_41 rfl ?_
      refine r_aload_n (j := 2) d_Kn_tell_42 rfl ?_
      refine r_iconst d_Kn_tell_43 kc_1 ?_
      obtain ⟨q11, hw⟩ := hw
      refine r_callV (av := [ar (gR h v0 0), ai (v5 - (1 : Int32)), ai v1, ar v2, ai (1 : Int32)]) (rest := []) (ci := 7) d_Kn_tell_44 mk_Ps_run ll_Kn_39 im_Ps_run se_Ps_run rfl (nle rfl) rfl rfl (nle rfl) q11 (s_Ps_run (by omega) hw (fun h10 hw => ?_))
      show aW none m_Kn_tell (d + 1) 47 [(0, ar v0), (1, ai v1), (2, ar v2), (3, ai v3), (4, ai v4), (5, ai v5)] [] h10 0 0 QQ
      refine r_aload_n (j := 0) d_Kn_tell_47 rfl ?_
      obtain ⟨q12, hw⟩ := hw
      refine r_getR d_Kn_tell_48 ok_5 (nle rfl) (nle rfl) rfl lf_Kn_28 q12 ?_
      obtain ⟨q13, hw⟩ := hw
      refine r_getI d_Kn_tell_51 ok_7 (nle rfl) (nle rfl) rfl lf_Kn_45 q13 ?_
      refine r_if_le d_Kn_tell_54 (fun w9 => ?_) (fun w9 => ?_)
      · replace hw := hw.1 w9
        refine r_iconst d_Kn_tell_61 kc_0 ?_
        exact s_Kn_tell_B62 hd hQ ih hw
      · replace hw := hw.2 w9
        refine r_iconst d_Kn_tell_57 kc_1 ?_
        refine r_goto d_Kn_tell_58 ?_
        exact s_Kn_tell_B62 hd hQ ih hw
set_option maxRecDepth 100000 in
set_option maxHeartbeats 4000000 in
theorem s_Kn_tell {d : Nat} (hd : 62 ≤ d) {v0 : Nat} {v1 : Int32} {v2 : Nat} {v3 : Int32} {h : Hp} {Q : Int32 → Hp → Prop} {QQ : Option AV → Hp → Prop} (hw : w_Kn_tell v0 v1 v2 v3 h Q) (hQ : ∀ r9 h9, Q r9 h9 → QQ (some (ai r9)) h9) : aCall m_Kn_tell d [ar v0, ai v1, ar v2, ai v3] h 0 0 QQ := by
  obtain ⟨d, rfl⟩ : ∃ d9, d = d9 + 1 := ⟨d - 1, by omega⟩
  refine aCall_in pl_Kn_tell (nle rfl) ?_
  show aW none m_Kn_tell (d + 1) 0 [(0, ar v0), (1, ai v1), (2, ar v2), (3, ai v3)] [] h 0 0 QQ
  unfold w_Kn_tell at hw
  refine r_aload_n (j := 0) d_Kn_tell_0 rfl ?_
  obtain ⟨q1, hw⟩ := hw
  refine r_getI d_Kn_tell_1 ok_5 (nle rfl) (nle rfl) rfl lf_Kn_32 q1 ?_
  refine r_bipush d_Kn_tell_4 kb_20 ?_
  refine r_icmp_lt d_Kn_tell_6 (fun w9 => ?_) (fun w9 => ?_)
  · replace hw := hw.1 w9
    refine r_iconst d_Kn_tell_11 kc_0 ?_
    refine r_istore (ls2 := [(4, ai (0 : Int32)), (0, ar v0), (1, ai v1), (2, ar v2), (3, ai v3)]) d_Kn_tell_12 (nle rfl) rfl ?_
    refine r_iconst d_Kn_tell_14 kc_0 ?_
    refine r_istore (ls2 := [(5, ai (0 : Int32)), (4, ai (0 : Int32)), (0, ar v0), (1, ai v1), (2, ar v2), (3, ai v3)]) d_Kn_tell_15 (nle rfl) rfl ?_
    obtain ⟨n14, hw⟩ := hw
    refine r_pick (ls2 := [(0, ar v0), (1, ai v1), (2, ar v2), (3, ai v3), (4, ai (0 : Int32)), (5, ai (0 : Int32))]) [2, 3, 4, 5, 1, 0] rfl ?_
    exact s_Kn_tell_L17 hd hQ  n14 _ _ _ hw
  · replace hw := hw.2 w9
    refine r_iconst d_Kn_tell_9 kc_m1 ?_
    exact r_ireturn d_Kn_tell_10.1 rfl (hQ _ _ hw)
set_option maxRecDepth 100000 in
set_option maxHeartbeats 4000000 in
theorem s_Kn_takeAway {d : Nat} {v0 : Nat} {v1 : Int32} {h : Hp} {Q : Bool → Hp → Prop} {QQ : Option AV → Hp → Prop} (hw : w_Kn_takeAway v0 v1 h Q) (hQ : ∀ r9 h9, Q r9 h9 → QQ (some (ai (b2i r9))) h9) : aCall m_Kn_takeAway d [ar v0, ai v1] h 0 0 QQ := by
  refine aCall_in pl_Kn_takeAway (nle rfl) ?_
  show aW none m_Kn_takeAway d 0 [(0, ar v0), (1, ai v1)] [] h 0 0 QQ
  unfold w_Kn_takeAway at hw
  refine r_iload_n (j := 1) d_Kn_takeAway_0 rfl ?_
  refine r_if_lt d_Kn_takeAway_1 (fun w9 => ?_) (fun w9 => ?_)
  · replace hw := hw.1 w9
    refine r_iconst d_Kn_takeAway_22 kc_0 ?_
    exact r_zreturn d_Kn_takeAway_23.1 rfl (Or.inl rfl) (hQ _ _ hw)
  · replace hw := hw.2 w9
    refine r_iload_n (j := 1) d_Kn_takeAway_4 rfl ?_
    refine r_aload_n (j := 0) d_Kn_takeAway_5 rfl ?_
    obtain ⟨q1, hw⟩ := hw
    refine r_getI d_Kn_takeAway_6 ok_5 (nle rfl) (nle rfl) rfl lf_Kn_32 q1 ?_
    refine r_icmp_ge d_Kn_takeAway_9 (fun w9 => ?_) (fun w9 => ?_)
    · replace hw := hw.1 w9
      refine r_iconst d_Kn_takeAway_22 kc_0 ?_
      exact r_zreturn d_Kn_takeAway_23.1 rfl (Or.inl rfl) (hQ _ _ hw)
    · replace hw := hw.2 w9
      refine r_aload_n (j := 0) d_Kn_takeAway_12 rfl ?_
      refine r_getR d_Kn_takeAway_13 ok_5 (nle rfl) (nle rfl) rfl lf_Kn_18 q1 ?_
      refine r_iload_n (j := 1) d_Kn_takeAway_16 rfl ?_
      obtain ⟨q2, hw⟩ := hw
      obtain ⟨q3, hw⟩ := hw
      refine r_iald d_Kn_takeAway_17 q2 q3 ?_
      refine r_iconst d_Kn_takeAway_18 kc_m1 ?_
      refine r_icmp_eq d_Kn_takeAway_19 (fun w9 => ?_) (fun w9 => ?_)
      · replace hw := hw.1 w9
        refine r_aload_n (j := 0) d_Kn_takeAway_24 rfl ?_
        refine r_getR d_Kn_takeAway_25 ok_5 (nle rfl) (nle rfl) rfl lf_Kn_18 q1 ?_
        refine r_iload_n (j := 1) d_Kn_takeAway_28 rfl ?_
        refine r_aload_n (j := 0) d_Kn_takeAway_29 rfl ?_
        refine r_getI d_Kn_takeAway_30 ok_5 (nle rfl) (nle rfl) rfl lf_Kn_48 q1 ?_
        refine r_iast d_Kn_takeAway_33 q2 q3 ?_
        refine r_iconst d_Kn_takeAway_34 kc_1 ?_
        exact r_zreturn d_Kn_takeAway_35.1 rfl (Or.inr rfl) (hQ _ _ hw)
      · replace hw := hw.2 w9
        refine r_iconst d_Kn_takeAway_22 kc_0 ?_
        exact r_zreturn d_Kn_takeAway_23.1 rfl (Or.inl rfl) (hQ _ _ hw)
set_option maxRecDepth 100000 in
set_option maxHeartbeats 4000000 in
theorem s_Kn_fitting_B73 {d : Nat} (hd : 2 ≤ d + 1) {Q : Int32 → Hp → Prop} {QQ : Option AV → Hp → Prop} (hQ : ∀ r9 h9, Q r9 h9 → QQ (some (ai r9)) h9) {k40 : Int32 → Int32 → Hp → Prop} (hk40 : ∀ v2 v3 h9, k40 v2 v3 h9 → aW none m_Kn_fitting (d + 1) 40 [(0, ar v0), (1, ai v1), (2, ai v2), (3, ai v3)] [] h9 0 0 QQ) {v0 : Nat} {v1 : Int32} {v2 : Int32} {v3 : Int32} {s0 : Int32} {h : Hp} (hw : w_Kn_fitting_B73 Q k40 v0 v1 v2 v3 s0 h) : aW none m_Kn_fitting (d + 1) 73 [(0, ar v0), (1, ai v1), (2, ai v2), (3, ai v3)] [ai s0] h 0 0 QQ := by
  unfold w_Kn_fitting_B73 at hw
  refine r_istore (ls2 := [(4, ai s0), (0, ar v0), (1, ai v1), (2, ai v2), (3, ai v3)]) d_Kn_fitting_73 (nle rfl) rfl ?_
  refine r_aload_n (j := 1) d_Kn_fitting_75 rfl ?_
  obtain ⟨q6, hw⟩ := hw
  refine r_getR d_Kn_fitting_76 ok_5 (nle rfl) (nle rfl) rfl lf_Kn_15 q6 ?_
  refine r_iload_n (j := 4) d_Kn_fitting_79 rfl ?_
  obtain ⟨q7, hw⟩ := hw
  obtain ⟨q8, hw⟩ := hw
  refine r_iald d_Kn_fitting_80 q7 q8 ?_
  refine r_iload_n (j := 2) d_Kn_fitting_81 rfl ?_
  refine r_icmp_gt d_Kn_fitting_82 (fun w9 => ?_) (fun w9 => ?_)
  · replace hw := hw.1 w9
    refine r_iinc (j := 4) (ls2 := [(3, ai (v3 + (1 : Int32))), (4, ai s0), (0, ar v0), (1, ai v1), (2, ai v2)]) d_Kn_fitting_99 rfl (congrArg (HAdd.hAdd v3) kc_1) (nle rfl) rfl ?_
    refine r_goto d_Kn_fitting_102 ?_
    refine r_pick (ls2 := [(0, ar v0), (1, ai v1), (2, ai v2), (3, ai (v3 + (1 : Int32)))]) [2, 3, 4, 0] rfl ?_
    exact hk40 _ _ _ hw
  · replace hw := hw.2 w9
    refine r_iload (j := 0) d_Kn_fitting_85 rfl ?_
    refine r_if_ne d_Kn_fitting_87 (fun w9 => ?_) (fun w9 => ?_)
    · replace hw := hw.2 w9
      refine r_iinc (j := 4) (ls2 := [(3, ai (v3 + (1 : Int32))), (4, ai s0), (0, ar v0), (1, ai v1), (2, ai v2)]) d_Kn_fitting_99 rfl (congrArg (HAdd.hAdd v3) kc_1) (nle rfl) rfl ?_
      refine r_goto d_Kn_fitting_102 ?_
      refine r_pick (ls2 := [(0, ar v0), (1, ai v1), (2, ai v2), (3, ai (v3 + (1 : Int32)))]) [2, 3, 4, 0] rfl ?_
      exact hk40 _ _ _ hw
    · replace hw := hw.1 w9
      refine r_iload_n (j := 3) d_Kn_fitting_90 rfl ?_
      refine r_aload_n (j := 1) d_Kn_fitting_91 rfl ?_
      refine r_getR d_Kn_fitting_92 ok_5 (nle rfl) (nle rfl) rfl lf_Kn_11 q6 ?_
      refine r_iload_n (j := 4) d_Kn_fitting_95 rfl ?_
      obtain ⟨q9, hw⟩ := hw
      obtain ⟨q10, hw⟩ := hw
      refine r_iald d_Kn_fitting_96 q9 q10 ?_
      refine r_iand d_Kn_fitting_97 ?_
      refine r_istore_n (ls2 := [(2, ai (v2 &&& (gI h (gR h v0 2) (ix v3)))), (4, ai s0), (0, ar v0), (1, ai v1), (3, ai v3)]) d_Kn_fitting_98 (nle rfl) rfl ?_
      refine r_iinc (j := 4) (ls2 := [(3, ai (v3 + (1 : Int32))), (2, ai (v2 &&& (gI h (gR h v0 2) (ix v3)))), (4, ai s0), (0, ar v0), (1, ai v1)]) d_Kn_fitting_99 rfl (congrArg (HAdd.hAdd v3) kc_1) (nle rfl) rfl ?_
      refine r_goto d_Kn_fitting_102 ?_
      refine r_pick (ls2 := [(0, ar v0), (1, ai v1), (2, ai (v2 &&& (gI h (gR h v0 2) (ix v3)))), (3, ai (v3 + (1 : Int32)))]) [3, 4, 1, 0] rfl ?_
      exact hk40 _ _ _ hw
set_option maxRecDepth 100000 in
set_option maxHeartbeats 4000000 in
theorem s_Kn_fitting_B72 {d : Nat} (hd : 2 ≤ d + 1) {Q : Int32 → Hp → Prop} {QQ : Option AV → Hp → Prop} (hQ : ∀ r9 h9, Q r9 h9 → QQ (some (ai r9)) h9) {k40 : Int32 → Int32 → Hp → Prop} (hk40 : ∀ v2 v3 h9, k40 v2 v3 h9 → aW none m_Kn_fitting (d + 1) 40 [(0, ar v0), (1, ai v1), (2, ai v2), (3, ai v3)] [] h9 0 0 QQ) {v0 : Nat} {v1 : Int32} {v2 : Int32} {v3 : Int32} {h : Hp} (hw : w_Kn_fitting_B72 Q k40 v0 v1 v2 v3 h) : aW none m_Kn_fitting (d + 1) 72 [(0, ar v0), (1, ai v1), (2, ai v2), (3, ai v3)] [] h 0 0 QQ := by
  unfold w_Kn_fitting_B72 at hw
  refine r_iconst d_Kn_fitting_72 kc_0 ?_
  exact s_Kn_fitting_B73 hd hQ hk40 hw
set_option maxRecDepth 100000 in
set_option maxHeartbeats 4000000 in
theorem s_Kn_fitting_L40 {d : Nat} (hd : 2 ≤ d + 1) {Q : Int32 → Hp → Prop} {QQ : Option AV → Hp → Prop} (hQ : ∀ r9 h9, Q r9 h9 → QQ (some (ai r9)) h9) {v0 : Nat} {v1 : Int32} : ∀ (n : Nat) (v2 : Int32) (v3 : Int32) (h : Hp), w_Kn_fitting_L40 Q  v0 v1 n v2 v3 h → aW none m_Kn_fitting (d + 1) 40 [(0, ar v0), (1, ai v1), (2, ai v2), (3, ai v3)] [] h 0 0 QQ := by
  intro n
  induction n with
  | zero => intro v2 v3 h hw; exact hw.elim
  | succ n ih =>
    intro v2 v3 h hw
    unfold w_Kn_fitting_L40 at hw
    refine r_iload_n (j := 3) d_Kn_fitting_40 rfl ?_
    refine r_aload_n (j := 0) d_Kn_fitting_41 rfl ?_
    obtain ⟨q3, hw⟩ := hw
    refine r_getI d_Kn_fitting_42 ok_5 (nle rfl) (nle rfl) rfl lf_Kn_32 q3 ?_
    refine r_icmp_ge d_Kn_fitting_45 (fun w9 => ?_) (fun w9 => ?_)
    · replace hw := hw.1 w9
      refine r_iload_n (j := 2) d_Kn_fitting_105 rfl ?_
      exact r_ireturn d_Kn_fitting_106.1 rfl (hQ _ _ hw)
    · replace hw := hw.2 w9
      refine r_aload_n (j := 0) d_Kn_fitting_48 rfl ?_
      refine r_getR d_Kn_fitting_49 ok_5 (nle rfl) (nle rfl) rfl lf_Kn_18 q3 ?_
      refine r_iload_n (j := 3) d_Kn_fitting_52 rfl ?_
      obtain ⟨q4, hw⟩ := hw
      obtain ⟨q5, hw⟩ := hw
      refine r_iald d_Kn_fitting_53 q4 q5 ?_
      refine r_iconst d_Kn_fitting_54 kc_m1 ?_
      refine r_icmp_eq d_Kn_fitting_55 (fun w9 => ?_) (fun w9 => ?_)
      · replace hw := hw.1 w9
        exact s_Kn_fitting_B72 hd hQ ih hw
      · replace hw := hw.2 w9
        refine r_aload_n (j := 0) d_Kn_fitting_58 rfl ?_
        refine r_getR d_Kn_fitting_59 ok_5 (nle rfl) (nle rfl) rfl lf_Kn_18 q3 ?_
        refine r_iload_n (j := 3) d_Kn_fitting_62 rfl ?_
        refine r_iald d_Kn_fitting_63 q4 q5 ?_
        refine r_iload_n (j := 1) d_Kn_fitting_64 rfl ?_
        refine r_icmp_gt d_Kn_fitting_65 (fun w9 => ?_) (fun w9 => ?_)
        · replace hw := hw.1 w9
          exact s_Kn_fitting_B72 hd hQ ih hw
        · replace hw := hw.2 w9
          refine r_iconst d_Kn_fitting_68 kc_1 ?_
          refine r_goto d_Kn_fitting_69 ?_
          exact s_Kn_fitting_B73 hd hQ ih hw
set_option maxRecDepth 100000 in
set_option maxHeartbeats 4000000 in
theorem s_Kn_fitting_L4 {d : Nat} (hd : 2 ≤ d + 1) {Q : Int32 → Hp → Prop} {QQ : Option AV → Hp → Prop} (hQ : ∀ r9 h9, Q r9 h9 → QQ (some (ai r9)) h9) {v0 : Nat} {v1 : Int32} : ∀ (n : Nat) (v2 : Int32) (v3 : Int32) (h : Hp), w_Kn_fitting_L4 Q  v0 v1 n v2 v3 h → aW none m_Kn_fitting (d + 1) 4 [(0, ar v0), (1, ai v1), (2, ai v2), (3, ai v3)] [] h 0 0 QQ := by
  intro n
  induction n with
  | zero => intro v2 v3 h hw; exact hw.elim
  | succ n ih =>
    intro v2 v3 h hw
    unfold w_Kn_fitting_L4 at hw
    refine r_iload_n (j := 3) d_Kn_fitting_4 rfl ?_
    refine r_aload_n (j := 0) d_Kn_fitting_5 rfl ?_
    obtain ⟨q1, hw⟩ := hw
    refine r_getR d_Kn_fitting_6 ok_5 (nle rfl) (nle rfl) rfl lf_Kn_24 q1 ?_
    obtain ⟨q2, hw⟩ := hw
    refine r_getI d_Kn_fitting_9 ok_1 (nle rfl) (nle rfl) rfl lf_Kn_36 q2 ?_
    refine r_icmp_ge d_Kn_fitting_12 (fun w9 => ?_) (fun w9 => ?_)
    · replace hw := hw.1 w9
      refine r_iconst d_Kn_fitting_38 kc_0 ?_
      refine r_istore_n (ls2 := [(3, ai (0 : Int32)), (0, ar v0), (1, ai v1), (2, ai v2)]) d_Kn_fitting_39 (nle rfl) rfl ?_
      obtain ⟨n11, hw⟩ := hw
      refine r_pick (ls2 := [(0, ar v0), (1, ai v1), (2, ai v2), (3, ai (0 : Int32))]) [1, 2, 3, 0] rfl ?_
      exact s_Kn_fitting_L40 hd hQ  n11 _ _ _ hw
    · replace hw := hw.2 w9
      refine r_aload_n (j := 0) d_Kn_fitting_15 rfl ?_
      refine r_getR d_Kn_fitting_16 ok_5 (nle rfl) (nle rfl) rfl lf_Kn_24 q1 ?_
      refine r_iload_n (j := 3) d_Kn_fitting_19 rfl ?_
      refine r_callV (av := [ai v3]) (rest := []) (ci := 1) d_Kn_fitting_20 mk_Co_isNothing ll_Kn_51 im_Co_isNothing se_Co_isNothing rfl (nle rfl) rfl rfl (nle rfl) q2 (s_Co_isNothing (by omega) hw (fun r13 h12 hw => ?_))
      show aW none m_Kn_fitting (d + 1) 23 [(0, ar v0), (1, ai v1), (2, ai v2), (3, ai v3)] [ai (b2i r13)] h12 0 0 QQ
      refine r_if_ne d_Kn_fitting_23 (fun w9 => ?_) (fun w9 => ?_)
      · replace hw := hw.2 (fun g9 => w9 (b2i_0.mpr g9))
        refine r_iinc (j := 3) (ls2 := [(3, ai (v3 + (1 : Int32))), (0, ar v0), (1, ai v1), (2, ai v2)]) d_Kn_fitting_32 rfl (congrArg (HAdd.hAdd v3) kc_1) (nle rfl) rfl ?_
        refine r_goto d_Kn_fitting_35 ?_
        refine r_pick (ls2 := [(0, ar v0), (1, ai v1), (2, ai v2), (3, ai (v3 + (1 : Int32)))]) [1, 2, 3, 0] rfl ?_
        exact ih _ _ _ hw
      · replace hw := hw.1 (b2i_0.mp w9)
        refine r_iload_n (j := 2) d_Kn_fitting_26 rfl ?_
        refine r_iconst d_Kn_fitting_27 kc_2 ?_
        refine r_iload_n (j := 3) d_Kn_fitting_28 rfl ?_
        refine r_ishl d_Kn_fitting_29 ?_
        refine r_ior d_Kn_fitting_30 ?_
        refine r_istore_n (ls2 := [(2, ai (v2 ||| (jshl (2 : Int32) v3))), (0, ar v0), (1, ai v1), (3, ai v3)]) d_Kn_fitting_31 (nle rfl) rfl ?_
        refine r_iinc (j := 3) (ls2 := [(3, ai (v3 + (1 : Int32))), (2, ai (v2 ||| (jshl (2 : Int32) v3))), (0, ar v0), (1, ai v1)]) d_Kn_fitting_32 rfl (congrArg (HAdd.hAdd v3) kc_1) (nle rfl) rfl ?_
        refine r_goto d_Kn_fitting_35 ?_
        refine r_pick (ls2 := [(0, ar v0), (1, ai v1), (2, ai (v2 ||| (jshl (2 : Int32) v3))), (3, ai (v3 + (1 : Int32)))]) [2, 3, 1, 0] rfl ?_
        exact ih _ _ _ hw
set_option maxRecDepth 100000 in
set_option maxHeartbeats 4000000 in
theorem s_Kn_fitting {d : Nat} (hd : 2 ≤ d) {v0 : Nat} {v1 : Int32} {h : Hp} {Q : Int32 → Hp → Prop} {QQ : Option AV → Hp → Prop} (hw : w_Kn_fitting v0 v1 h Q) (hQ : ∀ r9 h9, Q r9 h9 → QQ (some (ai r9)) h9) : aCall m_Kn_fitting d [ar v0, ai v1] h 0 0 QQ := by
  obtain ⟨d, rfl⟩ : ∃ d9, d = d9 + 1 := ⟨d - 1, by omega⟩
  refine aCall_in pl_Kn_fitting (nle rfl) ?_
  show aW none m_Kn_fitting (d + 1) 0 [(0, ar v0), (1, ai v1)] [] h 0 0 QQ
  unfold w_Kn_fitting at hw
  refine r_iconst d_Kn_fitting_0 kc_1 ?_
  refine r_istore_n (ls2 := [(2, ai (1 : Int32)), (0, ar v0), (1, ai v1)]) d_Kn_fitting_1 (nle rfl) rfl ?_
  refine r_iconst d_Kn_fitting_2 kc_0 ?_
  refine r_istore_n (ls2 := [(3, ai (0 : Int32)), (2, ai (1 : Int32)), (0, ar v0), (1, ai v1)]) d_Kn_fitting_3 (nle rfl) rfl ?_
  obtain ⟨n14, hw⟩ := hw
  refine r_pick (ls2 := [(0, ar v0), (1, ai v1), (2, ai (1 : Int32)), (3, ai (0 : Int32))]) [2, 3, 1, 0] rfl ?_
  exact s_Kn_fitting_L4 hd hQ  n14 _ _ _ hw
set_option maxRecDepth 100000 in
set_option maxHeartbeats 4000000 in
theorem s_Kn_shiftRow_L8 {d : Nat} (hd : 1 ≤ d + 1) {Q : Hp → Prop} {QQ : Option AV → Hp → Prop} (hQ : ∀ h9, Q h9 → QQ none h9) {v0 : Nat} {v1 : Int32} {v2 : Int32} {v3 : Int32} {v4 : Int32} : ∀ (n : Nat) (v5 : Int32) (h : Hp), w_Kn_shiftRow_L8 Q  v0 v1 v2 v3 v4 n v5 h → aW none m_Kn_shiftRow (d + 1) 8 [(0, ar v0), (1, ai v1), (2, ai v2), (3, ai v3), (4, ai v4), (5, ai v5)] [] h 0 0 QQ := by
  intro n
  induction n with
  | zero => intro v5 h hw; exact hw.elim
  | succ n ih =>
    intro v5 h hw
    unfold w_Kn_shiftRow_L8 at hw
    refine r_iload (j := 5) d_Kn_shiftRow_8 rfl ?_
    refine r_bipush d_Kn_shiftRow_10 kb_81 ?_
    refine r_icmp_ge d_Kn_shiftRow_12 (fun w9 => ?_) (fun w9 => ?_)
    · replace hw := hw.1 w9
      exact r_return d_Kn_shiftRow_56.1 rfl (hQ _ hw)
    · replace hw := hw.2 w9
      refine r_iload (j := 5) d_Kn_shiftRow_15 rfl ?_
      refine r_iload_n (j := 3) d_Kn_shiftRow_17 rfl ?_
      refine r_iadd d_Kn_shiftRow_18 ?_
      refine r_bipush d_Kn_shiftRow_19 kb_81 ?_
      refine r_icmp_ge d_Kn_shiftRow_21 (fun w9 => ?_) (fun w9 => ?_)
      · replace hw := hw.1 w9
        exact r_return d_Kn_shiftRow_56.1 rfl (hQ _ hw)
      · replace hw := hw.2 w9
        refine r_aload_n (j := 0) d_Kn_shiftRow_24 rfl ?_
        obtain ⟨q3, hw⟩ := hw
        refine r_getR d_Kn_shiftRow_25 ok_5 (nle rfl) (nle rfl) rfl lf_Kn_21 q3 ?_
        refine r_iload_n (j := 2) d_Kn_shiftRow_28 rfl ?_
        refine r_iload (j := 5) d_Kn_shiftRow_29 rfl ?_
        refine r_iadd d_Kn_shiftRow_31 ?_
        refine r_iload_n (j := 3) d_Kn_shiftRow_32 rfl ?_
        refine r_iadd d_Kn_shiftRow_33 ?_
        refine r_dup2 d_Kn_shiftRow_34 rfl rfl ?_
        obtain ⟨q4, hw⟩ := hw
        obtain ⟨q5, hw⟩ := hw
        refine r_iald d_Kn_shiftRow_35 q4 q5 ?_
        refine r_aload_n (j := 0) d_Kn_shiftRow_36 rfl ?_
        refine r_getR d_Kn_shiftRow_37 ok_5 (nle rfl) (nle rfl) rfl lf_Kn_21 q3 ?_
        refine r_iload_n (j := 1) d_Kn_shiftRow_40 rfl ?_
        refine r_iload (j := 5) d_Kn_shiftRow_41 rfl ?_
        refine r_iadd d_Kn_shiftRow_43 ?_
        obtain ⟨q6, hw⟩ := hw
        refine r_iald d_Kn_shiftRow_44 q4 q6 ?_
        refine r_iload (j := 4) d_Kn_shiftRow_45 rfl ?_
        refine r_iand d_Kn_shiftRow_47 ?_
        refine r_ior d_Kn_shiftRow_48 ?_
        refine r_iast d_Kn_shiftRow_49 q4 q5 ?_
        refine r_iinc (j := 5) (ls2 := [(5, ai (v5 + (1 : Int32))), (0, ar v0), (1, ai v1), (2, ai v2), (3, ai v3), (4, ai v4)]) d_Kn_shiftRow_50 rfl (congrArg (HAdd.hAdd v5) kc_1) (nle rfl) rfl ?_
        refine r_goto d_Kn_shiftRow_53 ?_
        refine r_pick (ls2 := [(0, ar v0), (1, ai v1), (2, ai v2), (3, ai v3), (4, ai v4), (5, ai (v5 + (1 : Int32)))]) [1, 2, 3, 4, 5, 0] rfl ?_
        exact ih _ _ hw
set_option maxRecDepth 100000 in
set_option maxHeartbeats 4000000 in
theorem s_Kn_shiftRow {d : Nat} (hd : 1 ≤ d) {v0 : Nat} {v1 : Int32} {v2 : Int32} {v3 : Int32} {v4 : Int32} {h : Hp} {Q : Hp → Prop} {QQ : Option AV → Hp → Prop} (hw : w_Kn_shiftRow v0 v1 v2 v3 v4 h Q) (hQ : ∀ h9, Q h9 → QQ none h9) : aCall m_Kn_shiftRow d [ar v0, ai v1, ai v2, ai v3, ai v4] h 0 0 QQ := by
  obtain ⟨d, rfl⟩ : ∃ d9, d = d9 + 1 := ⟨d - 1, by omega⟩
  refine aCall_in pl_Kn_shiftRow (nle rfl) ?_
  show aW none m_Kn_shiftRow (d + 1) 0 [(0, ar v0), (1, ai v1), (2, ai v2), (3, ai v3), (4, ai v4)] [] h 0 0 QQ
  unfold w_Kn_shiftRow at hw
  refine r_iconst d_Kn_shiftRow_0 kc_0 ?_
  refine r_iload_n (j := 3) d_Kn_shiftRow_1 rfl ?_
  refine r_ineg d_Kn_shiftRow_2 ?_
  refine r_callS (av := [ai (0 : Int32), ai (-v3)]) (rest := []) d_Kn_shiftRow_3 mk_JM_max ll_Kn_67 st_JM_max rfl rfl (nle rfl) (s_JM_max  hw (fun r2 h1 hw => ?_))
  show aW none m_Kn_shiftRow (d + 1) 6 [(0, ar v0), (1, ai v1), (2, ai v2), (3, ai v3), (4, ai v4)] [ai r2] h1 0 0 QQ
  refine r_istore (ls2 := [(5, ai r2), (0, ar v0), (1, ai v1), (2, ai v2), (3, ai v3), (4, ai v4)]) d_Kn_shiftRow_6 (nle rfl) rfl ?_
  obtain ⟨n7, hw⟩ := hw
  refine r_pick (ls2 := [(0, ar v0), (1, ai v1), (2, ai v2), (3, ai v3), (4, ai v4), (5, ai r2)]) [1, 2, 3, 4, 5, 0] rfl ?_
  exact s_Kn_shiftRow_L8 hd hQ  n7 _ _ hw
set_option maxRecDepth 100000 in
set_option maxHeartbeats 4000000 in
theorem s_Kn_reachRow_L62 {d : Nat} (hd : 2 ≤ d + 1) {Q : Int32 → Hp → Prop} {QQ : Option AV → Hp → Prop} (hQ : ∀ r9 h9, Q r9 h9 → QQ (some (ai r9)) h9) {k20 : Int32 → Int32 → Hp → Prop} (hk20 : ∀ v2 v3 h9, k20 v2 v3 h9 → aW none m_Kn_reachRow (d + 1) 20 [(0, ar v0), (1, ai v1), (2, ai v2), (3, ai v3)] [] h9 0 0 QQ) {v0 : Nat} {v1 : Int32} {v2 : Int32} {v3 : Int32} {v4 : Int32} : ∀ (n : Nat) (v5 : Int32) (h : Hp), w_Kn_reachRow_L62 Q k20 v0 v1 v2 v3 v4 n v5 h → aW none m_Kn_reachRow (d + 1) 62 [(0, ar v0), (1, ai v1), (2, ai v2), (3, ai v3), (4, ai v4), (5, ai v5)] [] h 0 0 QQ := by
  intro n
  induction n with
  | zero => intro v5 h hw; exact hw.elim
  | succ n ih =>
    intro v5 h hw
    unfold w_Kn_reachRow_L62 at hw
    refine r_iload (j := 5) d_Kn_reachRow_62 rfl ?_
    refine r_aload_n (j := 0) d_Kn_reachRow_64 rfl ?_
    obtain ⟨q6, hw⟩ := hw
    refine r_getR d_Kn_reachRow_65 ok_5 (nle rfl) (nle rfl) rfl lf_Kn_24 q6 ?_
    obtain ⟨q7, hw⟩ := hw
    refine r_getI d_Kn_reachRow_68 ok_1 (nle rfl) (nle rfl) rfl lf_Kn_36 q7 ?_
    refine r_icmp_ge d_Kn_reachRow_71 (fun w9 => ?_) (fun w9 => ?_)
    · replace hw := hw.1 w9
      refine r_iload (j := 4) d_Kn_reachRow_123 rfl ?_
      refine r_istore_n (ls2 := [(2, ai v4), (0, ar v0), (1, ai v1), (3, ai v3), (4, ai v4), (5, ai v5)]) d_Kn_reachRow_125 (nle rfl) rfl ?_
      refine r_iinc (j := 3) (ls2 := [(3, ai (v3 + (1 : Int32))), (2, ai v4), (0, ar v0), (1, ai v1), (4, ai v4), (5, ai v5)]) d_Kn_reachRow_126 rfl (congrArg (HAdd.hAdd v3) kc_1) (nle rfl) rfl ?_
      refine r_goto d_Kn_reachRow_129 ?_
      refine r_pick (ls2 := [(0, ar v0), (1, ai v1), (2, ai v4), (3, ai (v3 + (1 : Int32)))]) [2, 3, 1, 0] rfl ?_
      exact hk20 _ _ _ hw
    · replace hw := hw.2 w9
      refine r_iconst d_Kn_reachRow_74 kc_2 ?_
      refine r_iload (j := 5) d_Kn_reachRow_75 rfl ?_
      refine r_ishl d_Kn_reachRow_77 ?_
      refine r_istore (ls2 := [(6, ai (jshl (2 : Int32) v5)), (0, ar v0), (1, ai v1), (2, ai v2), (3, ai v3), (4, ai v4), (5, ai v5)]) d_Kn_reachRow_78 (nle rfl) rfl ?_
      refine r_aload_n (j := 1) d_Kn_reachRow_80 rfl ?_
      refine r_getR d_Kn_reachRow_81 ok_5 (nle rfl) (nle rfl) rfl lf_Kn_24 q6 ?_
      refine r_iload (j := 6) d_Kn_reachRow_84 rfl ?_
      refine r_iconst d_Kn_reachRow_86 kc_0 ?_
      refine r_callV (av := [ai v5, ai (0 : Int32)]) (rest := []) (ci := 1) d_Kn_reachRow_87 mk_Co_numberOf ll_Kn_82 im_Co_numberOf se_Co_numberOf rfl (nle rfl) rfl rfl (nle rfl) q7 (s_Co_numberOf  hw (fun r9 h8 hw => ?_))
      show aW none m_Kn_reachRow (d + 1) 90 [(6, ai (jshl (2 : Int32) v5)), (0, ar v0), (1, ai v1), (2, ai v2), (3, ai v3), (4, ai v4), (5, ai v5)] [ai r9] h8 0 0 QQ
      refine r_istore (ls2 := [(7, ai r9), (6, ai (jshl (2 : Int32) v5)), (0, ar v0), (1, ai v1), (2, ai v2), (3, ai v3), (4, ai v4), (5, ai v5)]) d_Kn_reachRow_90 (nle rfl) rfl ?_
      refine r_aload_n (j := 2) d_Kn_reachRow_92 rfl ?_
      refine r_iload_n (j := 4) d_Kn_reachRow_93 rfl ?_
      refine r_iload (j := 6) d_Kn_reachRow_94 rfl ?_
      refine r_iload (j := 0) d_Kn_reachRow_96 rfl ?_
      refine r_iload (j := 1) d_Kn_reachRow_98 rfl ?_
      refine r_iconst d_Kn_reachRow_100 kc_m1 ?_
      refine r_ixor d_Kn_reachRow_101 ?_
      obtain ⟨q11, hw⟩ := hw
      refine r_callV (av := [ai v2, ai v4, ai r9, ai ((jshl (2 : Int32) v5) ^^^ (-1 : Int32))]) (rest := []) (ci := 5) d_Kn_reachRow_102 mk_Kn_shiftRow ll_Kn_85 im_Kn_shiftRow se_Kn_shiftRow rfl (nle rfl) rfl rfl (nle rfl) q11 (s_Kn_shiftRow (by omega) hw (fun h10 hw => ?_))
      show aW none m_Kn_reachRow (d + 1) 105 [(7, ai r9), (6, ai (jshl (2 : Int32) v5)), (0, ar v0), (1, ai v1), (2, ai v2), (3, ai v3), (4, ai v4), (5, ai v5)] [] h10 0 0 QQ
      refine r_aload_n (j := 2) d_Kn_reachRow_105 rfl ?_
      refine r_iload_n (j := 4) d_Kn_reachRow_106 rfl ?_
      refine r_iload (j := 6) d_Kn_reachRow_107 rfl ?_
      refine r_iload (j := 0) d_Kn_reachRow_109 rfl ?_
      refine r_ineg d_Kn_reachRow_111 ?_
      refine r_iload (j := 1) d_Kn_reachRow_112 rfl ?_
      obtain ⟨q13, hw⟩ := hw
      refine r_callV (av := [ai v2, ai v4, ai (-r9), ai (jshl (2 : Int32) v5)]) (rest := []) (ci := 5) d_Kn_reachRow_114 mk_Kn_shiftRow ll_Kn_85 im_Kn_shiftRow se_Kn_shiftRow rfl (nle rfl) rfl rfl (nle rfl) q13 (s_Kn_shiftRow (by omega) hw (fun h12 hw => ?_))
      show aW none m_Kn_reachRow (d + 1) 117 [(7, ai r9), (6, ai (jshl (2 : Int32) v5)), (0, ar v0), (1, ai v1), (2, ai v2), (3, ai v3), (4, ai v4), (5, ai v5)] [] h12 0 0 QQ
      refine r_iinc (j := 7) (ls2 := [(5, ai (v5 + (1 : Int32))), (7, ai r9), (6, ai (jshl (2 : Int32) v5)), (0, ar v0), (1, ai v1), (2, ai v2), (3, ai v3), (4, ai v4)]) d_Kn_reachRow_117 rfl (congrArg (HAdd.hAdd v5) kc_1) (nle rfl) rfl ?_
      refine r_goto d_Kn_reachRow_120 ?_
      refine r_pick (ls2 := [(0, ar v0), (1, ai v1), (2, ai v2), (3, ai v3), (4, ai v4), (5, ai (v5 + (1 : Int32)))]) [3, 4, 5, 6, 7, 0] rfl ?_
      exact ih _ _ hw
set_option maxRecDepth 100000 in
set_option maxHeartbeats 4000000 in
theorem s_Kn_reachRow_L35 {d : Nat} (hd : 2 ≤ d + 1) {Q : Int32 → Hp → Prop} {QQ : Option AV → Hp → Prop} (hQ : ∀ r9 h9, Q r9 h9 → QQ (some (ai r9)) h9) {k20 : Int32 → Int32 → Hp → Prop} (hk20 : ∀ v2 v3 h9, k20 v2 v3 h9 → aW none m_Kn_reachRow (d + 1) 20 [(0, ar v0), (1, ai v1), (2, ai v2), (3, ai v3)] [] h9 0 0 QQ) {v0 : Nat} {v1 : Int32} {v2 : Int32} {v3 : Int32} {v4 : Int32} : ∀ (n : Nat) (v5 : Int32) (h : Hp), w_Kn_reachRow_L35 Q k20 v0 v1 v2 v3 v4 n v5 h → aW none m_Kn_reachRow (d + 1) 35 [(0, ar v0), (1, ai v1), (2, ai v2), (3, ai v3), (4, ai v4), (5, ai v5)] [] h 0 0 QQ := by
  intro n
  induction n with
  | zero => intro v5 h hw; exact hw.elim
  | succ n ih =>
    intro v5 h hw
    unfold w_Kn_reachRow_L35 at hw
    refine r_iload (j := 5) d_Kn_reachRow_35 rfl ?_
    refine r_iload (j := 4) d_Kn_reachRow_37 rfl ?_
    refine r_bipush d_Kn_reachRow_39 kb_81 ?_
    refine r_iadd d_Kn_reachRow_41 ?_
    refine r_icmp_ge d_Kn_reachRow_42 (fun w9 => ?_) (fun w9 => ?_)
    · replace hw := hw.1 w9
      refine r_iconst d_Kn_reachRow_59 kc_0 ?_
      refine r_istore (ls2 := [(5, ai (0 : Int32)), (0, ar v0), (1, ai v1), (2, ai v2), (3, ai v3), (4, ai v4)]) d_Kn_reachRow_60 (nle rfl) rfl ?_
      obtain ⟨n14, hw⟩ := hw
      refine r_pick (ls2 := [(0, ar v0), (1, ai v1), (2, ai v2), (3, ai v3), (4, ai v4), (5, ai (0 : Int32))]) [1, 2, 3, 4, 5, 0] rfl ?_
      exact s_Kn_reachRow_L62 hd hQ hk20 n14 _ _ hw
    · replace hw := hw.2 w9
      refine r_aload_n (j := 0) d_Kn_reachRow_45 rfl ?_
      obtain ⟨q15, hw⟩ := hw
      refine r_getR d_Kn_reachRow_46 ok_5 (nle rfl) (nle rfl) rfl lf_Kn_21 q15 ?_
      refine r_iload (j := 5) d_Kn_reachRow_49 rfl ?_
      refine r_iconst d_Kn_reachRow_51 kc_0 ?_
      obtain ⟨q16, hw⟩ := hw
      obtain ⟨q17, hw⟩ := hw
      refine r_iast d_Kn_reachRow_52 q16 q17 ?_
      refine r_iinc (j := 5) (ls2 := [(5, ai (v5 + (1 : Int32))), (0, ar v0), (1, ai v1), (2, ai v2), (3, ai v3), (4, ai v4)]) d_Kn_reachRow_53 rfl (congrArg (HAdd.hAdd v5) kc_1) (nle rfl) rfl ?_
      refine r_goto d_Kn_reachRow_56 ?_
      refine r_pick (ls2 := [(0, ar v0), (1, ai v1), (2, ai v2), (3, ai v3), (4, ai v4), (5, ai (v5 + (1 : Int32)))]) [1, 2, 3, 4, 5, 0] rfl ?_
      exact ih _ _ hw
set_option maxRecDepth 100000 in
set_option maxHeartbeats 4000000 in
theorem s_Kn_reachRow_L20 {d : Nat} (hd : 2 ≤ d + 1) {Q : Int32 → Hp → Prop} {QQ : Option AV → Hp → Prop} (hQ : ∀ r9 h9, Q r9 h9 → QQ (some (ai r9)) h9) {v0 : Nat} {v1 : Int32} : ∀ (n : Nat) (v2 : Int32) (v3 : Int32) (h : Hp), w_Kn_reachRow_L20 Q  v0 v1 n v2 v3 h → aW none m_Kn_reachRow (d + 1) 20 [(0, ar v0), (1, ai v1), (2, ai v2), (3, ai v3)] [] h 0 0 QQ := by
  intro n
  induction n with
  | zero => intro v2 v3 h hw; exact hw.elim
  | succ n ih =>
    intro v2 v3 h hw
    unfold w_Kn_reachRow_L20 at hw
    refine r_iload_n (j := 3) d_Kn_reachRow_20 rfl ?_
    refine r_iload_n (j := 1) d_Kn_reachRow_21 rfl ?_
    refine r_icmp_ge d_Kn_reachRow_22 (fun w9 => ?_) (fun w9 => ?_)
    · replace hw := hw.1 w9
      refine r_iload_n (j := 2) d_Kn_reachRow_132 rfl ?_
      exact r_ireturn d_Kn_reachRow_133.1 rfl (hQ _ _ hw)
    · replace hw := hw.2 w9
      refine r_bipush d_Kn_reachRow_25 kb_81 ?_
      refine r_iload_n (j := 2) d_Kn_reachRow_27 rfl ?_
      refine r_isub d_Kn_reachRow_28 ?_
      refine r_istore (ls2 := [(4, ai ((81 : Int32) - v2)), (0, ar v0), (1, ai v1), (2, ai v2), (3, ai v3)]) d_Kn_reachRow_29 (nle rfl) rfl ?_
      refine r_iload (j := 0) d_Kn_reachRow_31 rfl ?_
      refine r_istore (ls2 := [(5, ai ((81 : Int32) - v2)), (4, ai ((81 : Int32) - v2)), (0, ar v0), (1, ai v1), (2, ai v2), (3, ai v3)]) d_Kn_reachRow_33 (nle rfl) rfl ?_
      obtain ⟨n18, hw⟩ := hw
      refine r_pick (ls2 := [(0, ar v0), (1, ai v1), (2, ai v2), (3, ai v3), (4, ai ((81 : Int32) - v2)), (5, ai ((81 : Int32) - v2))]) [2, 3, 4, 5, 1, 0] rfl ?_
      exact s_Kn_reachRow_L35 hd hQ ih n18 _ _ hw
set_option maxRecDepth 100000 in
set_option maxHeartbeats 4000000 in
theorem s_Kn_reachRow {d : Nat} (hd : 2 ≤ d) {v0 : Nat} {v1 : Int32} {h : Hp} {Q : Int32 → Hp → Prop} {QQ : Option AV → Hp → Prop} (hw : w_Kn_reachRow v0 v1 h Q) (hQ : ∀ r9 h9, Q r9 h9 → QQ (some (ai r9)) h9) : aCall m_Kn_reachRow d [ar v0, ai v1] h 0 0 QQ := by
  obtain ⟨d, rfl⟩ : ∃ d9, d = d9 + 1 := ⟨d - 1, by omega⟩
  refine aCall_in pl_Kn_reachRow (nle rfl) ?_
  show aW none m_Kn_reachRow (d + 1) 0 [(0, ar v0), (1, ai v1)] [] h 0 0 QQ
  unfold w_Kn_reachRow at hw
  refine r_aload_n (j := 0) d_Kn_reachRow_0 rfl ?_
  obtain ⟨q1, hw⟩ := hw
  refine r_getR d_Kn_reachRow_1 ok_5 (nle rfl) (nle rfl) rfl lf_Kn_21 q1 ?_
  refine r_iconst d_Kn_reachRow_4 kc_0 ?_
  refine r_callS (av := [ar (gR h v0 5), ai (0 : Int32)]) (rest := []) d_Kn_reachRow_5 mk_JA_fill_IIV ll_Kn_76 st_JA_fill_IIV rfl rfl (nle rfl) (s_JA_fill_IIV  hw (fun h2 hw => ?_))
  show aW none m_Kn_reachRow (d + 1) 8 [(0, ar v0), (1, ai v1)] [] h2 0 0 QQ
  refine r_aload_n (j := 0) d_Kn_reachRow_8 rfl ?_
  obtain ⟨q3, hw⟩ := hw
  refine r_getR d_Kn_reachRow_9 ok_5 (nle rfl) (nle rfl) rfl lf_Kn_21 q3 ?_
  refine r_bipush d_Kn_reachRow_12 kb_40 ?_
  refine r_iconst d_Kn_reachRow_14 kc_m1 ?_
  obtain ⟨q4, hw⟩ := hw
  obtain ⟨q5, hw⟩ := hw
  refine r_iast d_Kn_reachRow_15 q4 q5 ?_
  refine r_iconst d_Kn_reachRow_16 kc_0 ?_
  refine r_istore_n (ls2 := [(2, ai (0 : Int32)), (0, ar v0), (1, ai v1)]) d_Kn_reachRow_17 (nle rfl) rfl ?_
  refine r_iconst d_Kn_reachRow_18 kc_0 ?_
  refine r_istore_n (ls2 := [(3, ai (0 : Int32)), (2, ai (0 : Int32)), (0, ar v0), (1, ai v1)]) d_Kn_reachRow_19 (nle rfl) rfl ?_
  obtain ⟨n19, hw⟩ := hw
  refine r_pick (ls2 := [(0, ar v0), (1, ai v1), (2, ai (0 : Int32)), (3, ai (0 : Int32))]) [2, 3, 1, 0] rfl ?_
  exact s_Kn_reachRow_L20 hd hQ  n19 _ _ _ hw
set_option maxRecDepth 100000 in
set_option maxHeartbeats 4000000 in
theorem s_Kn_chooseAsk_L24 {d : Nat} (hd : 3 ≤ d + 1) {Q : Hp → Prop} {QQ : Option AV → Hp → Prop} (hQ : ∀ h9, Q h9 → QQ none h9) {v0 : Nat} {v2 : Int32} {v3 : Int32} {v4 : Int32} : ∀ (n : Nat) (v5 : Int32) (h : Hp), w_Kn_chooseAsk_L24 Q  v0 v2 v3 v4 n v5 h → aW none m_Kn_chooseAsk (d + 1) 24 [(0, ar v0), (2, ai v2), (3, ai v3), (4, ai v4), (5, ai v5)] [] h 0 0 QQ := by
  intro n
  induction n with
  | zero => intro v5 h hw; exact hw.elim
  | succ n ih =>
    intro v5 h hw
    unfold w_Kn_chooseAsk_L24 at hw
    refine r_iload (j := 4) d_Kn_chooseAsk_24 rfl ?_
    refine r_bipush d_Kn_chooseAsk_26 kb_20 ?_
    refine r_icmp_gt d_Kn_chooseAsk_28 (fun w9 => ?_) (fun w9 => ?_)
    · replace hw := hw.1 w9
      exact r_return d_Kn_chooseAsk_89.1 rfl (hQ _ hw)
    · replace hw := hw.2 w9
      refine r_aload_n (j := 0) d_Kn_chooseAsk_31 rfl ?_
      obtain ⟨q7, hw⟩ := hw
      refine r_getR d_Kn_chooseAsk_32 ok_5 (nle rfl) (nle rfl) rfl lf_Kn_21 q7 ?_
      refine r_iload_n (j := 2) d_Kn_chooseAsk_35 rfl ?_
      refine r_bipush d_Kn_chooseAsk_36 kb_40 ?_
      refine r_iadd d_Kn_chooseAsk_38 ?_
      refine r_iload (j := 4) d_Kn_chooseAsk_39 rfl ?_
      refine r_iadd d_Kn_chooseAsk_41 ?_
      obtain ⟨q8, hw⟩ := hw
      obtain ⟨q9, hw⟩ := hw
      refine r_iald d_Kn_chooseAsk_42 q8 q9 ?_
      refine r_iload_n (j := 1) d_Kn_chooseAsk_43 rfl ?_
      refine r_iand d_Kn_chooseAsk_44 ?_
      refine r_callS (av := [ai ((gI h (gR h v0 5) (ix ((v3 + (40 : Int32)) + v5))) &&& v2)]) (rest := []) d_Kn_chooseAsk_45 mk_JI_bitCount ll_Kn_59 st_JI_bitCount rfl rfl (nle rfl) (s_JI_bitCount  hw (fun r11 h10 hw => ?_))
      show aW none m_Kn_chooseAsk (d + 1) 48 [(0, ar v0), (2, ai v2), (3, ai v3), (4, ai v4), (5, ai v5)] [ai r11] h10 0 0 QQ
      refine r_istore (ls2 := [(6, ai r11), (0, ar v0), (2, ai v2), (3, ai v3), (4, ai v4), (5, ai v5)]) d_Kn_chooseAsk_48 (nle rfl) rfl ?_
      refine r_iload (j := 0) d_Kn_chooseAsk_50 rfl ?_
      refine r_iload (j := 4) d_Kn_chooseAsk_52 rfl ?_
      refine r_iload (j := 0) d_Kn_chooseAsk_54 rfl ?_
      refine r_isub d_Kn_chooseAsk_56 ?_
      refine r_callS (av := [ai r11, ai (v4 - r11)]) (rest := []) d_Kn_chooseAsk_57 mk_JM_max ll_Kn_67 st_JM_max rfl rfl (nle rfl) (s_JM_max  hw (fun r13 h12 hw => ?_))
      show aW none m_Kn_chooseAsk (d + 1) 60 [(6, ai r11), (0, ar v0), (2, ai v2), (3, ai v3), (4, ai v4), (5, ai v5)] [ai r13] h12 0 0 QQ
      refine r_istore (ls2 := [(7, ai r13), (6, ai r11), (0, ar v0), (2, ai v2), (3, ai v3), (4, ai v4), (5, ai v5)]) d_Kn_chooseAsk_60 (nle rfl) rfl ?_
      refine r_iload (j := 0) d_Kn_chooseAsk_62 rfl ?_
      refine r_aload_n (j := 2) d_Kn_chooseAsk_64 rfl ?_
      obtain ⟨q14, hw⟩ := hw
      refine r_getI d_Kn_chooseAsk_65 ok_5 (nle rfl) (nle rfl) rfl lf_Kn_64 q14 ?_
      refine r_icmp_ge d_Kn_chooseAsk_68 (fun w9 => ?_) (fun w9 => ?_)
      · replace hw := hw.1 w9
        refine r_iinc (j := 6) (ls2 := [(5, ai (v5 + (1 : Int32))), (7, ai r13), (6, ai r11), (0, ar v0), (2, ai v2), (3, ai v3), (4, ai v4)]) d_Kn_chooseAsk_83 rfl (congrArg (HAdd.hAdd v5) kc_1) (nle rfl) rfl ?_
        refine r_goto d_Kn_chooseAsk_86 ?_
        refine r_pick (ls2 := [(0, ar v0), (2, ai v2), (3, ai v3), (4, ai v4), (5, ai (v5 + (1 : Int32)))]) [3, 4, 5, 6, 0] rfl ?_
        exact ih _ _ hw
      · replace hw := hw.2 w9
        refine r_aload_n (j := 2) d_Kn_chooseAsk_71 rfl ?_
        refine r_iload (j := 0) d_Kn_chooseAsk_72 rfl ?_
        refine r_putI d_Kn_chooseAsk_74 ok_5 (nle rfl) (nle rfl) rfl lf_Kn_64 rfl q14 ?_
        refine r_aload_n (j := 2) d_Kn_chooseAsk_77 rfl ?_
        refine r_iload (j := 6) d_Kn_chooseAsk_78 rfl ?_
        refine r_putI d_Kn_chooseAsk_80 ok_5 (nle rfl) (nle rfl) rfl lf_Kn_73 rfl q14 ?_
        refine r_iinc (j := 6) (ls2 := [(5, ai (v5 + (1 : Int32))), (7, ai r13), (6, ai r11), (0, ar v0), (2, ai v2), (3, ai v3), (4, ai v4)]) d_Kn_chooseAsk_83 rfl (congrArg (HAdd.hAdd v5) kc_1) (nle rfl) rfl ?_
        refine r_goto d_Kn_chooseAsk_86 ?_
        refine r_pick (ls2 := [(0, ar v0), (2, ai v2), (3, ai v3), (4, ai v4), (5, ai (v5 + (1 : Int32)))]) [3, 4, 5, 6, 0] rfl ?_
        exact ih _ _ hw
set_option maxRecDepth 100000 in
set_option maxHeartbeats 4000000 in
theorem s_Kn_chooseAsk {d : Nat} (hd : 3 ≤ d) {v0 : Nat} {v1 : Int32} {v2 : Int32} {h : Hp} {Q : Hp → Prop} {QQ : Option AV → Hp → Prop} (hw : w_Kn_chooseAsk v0 v1 v2 h Q) (hQ : ∀ h9, Q h9 → QQ none h9) : aCall m_Kn_chooseAsk d [ar v0, ai v1, ai v2] h 0 0 QQ := by
  obtain ⟨d, rfl⟩ : ∃ d9, d = d9 + 1 := ⟨d - 1, by omega⟩
  refine aCall_in pl_Kn_chooseAsk (nle rfl) ?_
  show aW none m_Kn_chooseAsk (d + 1) 0 [(0, ar v0), (1, ai v1), (2, ai v2)] [] h 0 0 QQ
  unfold w_Kn_chooseAsk at hw
  refine r_aload_n (j := 0) d_Kn_chooseAsk_0 rfl ?_
  refine r_iload_n (j := 1) d_Kn_chooseAsk_1 rfl ?_
  obtain ⟨q3, hw⟩ := hw
  refine r_callV (av := [ai v1]) (rest := []) (ci := 5) d_Kn_chooseAsk_2 mk_Kn_reachRow ll_Kn_55 im_Kn_reachRow se_Kn_reachRow rfl (nle rfl) rfl rfl (nle rfl) q3 (s_Kn_reachRow (by omega) hw (fun r2 h1 hw => ?_))
  show aW none m_Kn_chooseAsk (d + 1) 5 [(0, ar v0), (1, ai v1), (2, ai v2)] [ai r2] h1 0 0 QQ
  refine r_istore_n (ls2 := [(3, ai r2), (0, ar v0), (1, ai v1), (2, ai v2)]) d_Kn_chooseAsk_5 (nle rfl) rfl ?_
  refine r_iload_n (j := 3) d_Kn_chooseAsk_6 rfl ?_
  refine r_callS (av := [ai v2]) (rest := []) d_Kn_chooseAsk_7 mk_JI_bitCount ll_Kn_59 st_JI_bitCount rfl rfl (nle rfl) (s_JI_bitCount  hw (fun r5 h4 hw => ?_))
  show aW none m_Kn_chooseAsk (d + 1) 10 [(3, ai r2), (0, ar v0), (1, ai v1), (2, ai v2)] [ai r5] h4 0 0 QQ
  refine r_istore (ls2 := [(4, ai r5), (3, ai r2), (0, ar v0), (1, ai v1), (2, ai v2)]) d_Kn_chooseAsk_10 (nle rfl) rfl ?_
  refine r_aload_n (j := 2) d_Kn_chooseAsk_12 rfl ?_
  refine r_iload (j := 0) d_Kn_chooseAsk_13 rfl ?_
  refine r_iconst d_Kn_chooseAsk_15 kc_1 ?_
  refine r_iadd d_Kn_chooseAsk_16 ?_
  obtain ⟨q6, hw⟩ := hw
  refine r_putI d_Kn_chooseAsk_17 ok_5 (nle rfl) (nle rfl) rfl lf_Kn_64 rfl q6 ?_
  refine r_bipush d_Kn_chooseAsk_20 kb_m20 ?_
  refine r_istore (ls2 := [(5, ai (-20 : Int32)), (4, ai r5), (3, ai r2), (0, ar v0), (1, ai v1), (2, ai v2)]) d_Kn_chooseAsk_22 (nle rfl) rfl ?_
  obtain ⟨n15, hw⟩ := hw
  refine r_pick (ls2 := [(0, ar v0), (2, ai v2), (3, ai r2), (4, ai r5), (5, ai (-20 : Int32))]) [3, 5, 2, 1, 0] rfl ?_
  exact s_Kn_chooseAsk_L24 hd hQ  n15 _ _ hw
set_option maxRecDepth 100000 in
set_option maxHeartbeats 4000000 in
theorem s_Op_init {d : Nat} (hd : 1 ≤ d) {v0 : Nat} {v1 : Nat} {v2 : Nat} {bc bs : Nat} {h : Hp} {Q : Hp → Prop} {QQ : Option AV → Hp → Prop} (hw : w_Op_init bc bs v0 v1 v2 h Q) (hQ : ∀ h9, Q h9 → QQ none h9) : aCall m_Op_init d [ar v0, ar v1, ar v2] h bc bs QQ := by
  obtain ⟨d, rfl⟩ : ∃ d9, d = d9 + 1 := ⟨d - 1, by omega⟩
  refine aCall_in pl_Op_init (nle rfl) ?_
  show aW none m_Op_init (d + 1) 0 [(0, ar v0), (1, ar v1), (2, ar v2)] [] h bc bs QQ
  unfold w_Op_init at hw
  refine r_aload_n (j := 0) d_Op_init_0 rfl ?_
  obtain ⟨q1, hw⟩ := hw
  refine r_objInit d_Op_init_1 ll_Op_3 oi_1 oi_2 (nle rfl) q1 ?_
  refine r_aload_n (j := 0) d_Op_init_4 rfl ?_
  refine r_bipush d_Op_init_5 kb_8 ?_
  obtain ⟨q2, hw⟩ := hw
  obtain ⟨q3, hw⟩ := hw
  obtain ⟨q4, hw⟩ := hw
  obtain ⟨b5, t6, u8, u9, u6, u7, hw⟩ := hw
  subst u8 u9
  refine r_newI d_Op_init_7 ac_I u6 rfl u7 (refB_r q2 refB_n) (refL_r q2 (refL_r q4 (refL_r q3 refL_n))) ?_
  generalize e8 : nw h 20 (ix (8 : Int32)) = h7 at hw ⊢
  generalize e7 : gX h = a8 at hw ⊢
  replace hw := hw a8 h7 e7.symm e8.symm
  obtain ⟨q9, hw⟩ := hw
  obtain ⟨q10, hw⟩ := hw
  refine r_putFR d_Op_init_9 ok_6 (nle rfl) (nle rfl) rfl lf_Op_9 rfl rfl rfl q9 q10 ?_
  refine r_aload_n (j := 0) d_Op_init_12 rfl ?_
  refine r_bipush d_Op_init_13 kb_8 ?_
  obtain ⟨q11, hw⟩ := hw
  obtain ⟨q12, hw⟩ := hw
  obtain ⟨q13, hw⟩ := hw
  obtain ⟨b14, t15, u8, u9, u6, u7, hw⟩ := hw
  subst u8 u9
  refine r_newI d_Op_init_15 ac_I u6 rfl u7 (refB_r q11 refB_n) (refL_r q11 (refL_r q13 (refL_r q12 refL_n))) ?_
  generalize e8 : nw (sR h7 v0 2 a8) 20 (ix (8 : Int32)) = h16 at hw ⊢
  generalize e7 : gX (sR h7 v0 2 a8) = a17 at hw ⊢
  replace hw := hw a17 h16 e7.symm e8.symm
  obtain ⟨q18, hw⟩ := hw
  obtain ⟨q19, hw⟩ := hw
  refine r_putFR d_Op_init_17 ok_6 (nle rfl) (nle rfl) rfl lf_Op_15 rfl rfl rfl q18 q19 ?_
  refine r_aload_n (j := 0) d_Op_init_20 rfl ?_
  refine r_bipush d_Op_init_21 kb_12 ?_
  obtain ⟨q20, hw⟩ := hw
  obtain ⟨q21, hw⟩ := hw
  obtain ⟨q22, hw⟩ := hw
  obtain ⟨b23, t24, u8, u9, u6, u7, hw⟩ := hw
  subst u8 u9
  refine r_newI d_Op_init_23 ac_I u6 rfl u7 (refB_r q20 refB_n) (refL_r q20 (refL_r q22 (refL_r q21 refL_n))) ?_
  generalize e8 : nw (sR h16 v0 3 a17) 20 (ix (12 : Int32)) = h25 at hw ⊢
  generalize e7 : gX (sR h16 v0 3 a17) = a26 at hw ⊢
  replace hw := hw a26 h25 e7.symm e8.symm
  obtain ⟨q27, hw⟩ := hw
  obtain ⟨q28, hw⟩ := hw
  refine r_putFR d_Op_init_25 ok_6 (nle rfl) (nle rfl) rfl lf_Op_18 rfl rfl rfl q27 q28 ?_
  refine r_aload_n (j := 0) d_Op_init_28 rfl ?_
  refine r_iconst d_Op_init_29 kc_3 ?_
  obtain ⟨q29, hw⟩ := hw
  obtain ⟨q30, hw⟩ := hw
  obtain ⟨q31, hw⟩ := hw
  obtain ⟨b32, t33, u8, u9, u6, u7, hw⟩ := hw
  subst u8 u9
  refine r_newI d_Op_init_30 ac_I u6 rfl u7 (refB_r q29 refB_n) (refL_r q29 (refL_r q31 (refL_r q30 refL_n))) ?_
  generalize e8 : nw (sR h25 v0 4 a26) 20 (ix (3 : Int32)) = h34 at hw ⊢
  generalize e7 : gX (sR h25 v0 4 a26) = a35 at hw ⊢
  replace hw := hw a35 h34 e7.symm e8.symm
  obtain ⟨q36, hw⟩ := hw
  obtain ⟨q37, hw⟩ := hw
  refine r_putFR d_Op_init_32 ok_6 (nle rfl) (nle rfl) rfl lf_Op_21 rfl rfl rfl q36 q37 ?_
  refine r_aload_n (j := 0) d_Op_init_35 rfl ?_
  refine r_sipush d_Op_init_36 ks_1296 ?_
  obtain ⟨q38, hw⟩ := hw
  obtain ⟨q39, hw⟩ := hw
  obtain ⟨q40, hw⟩ := hw
  obtain ⟨b41, t42, u8, u9, u6, u7, hw⟩ := hw
  subst u8 u9
  refine r_newI d_Op_init_39 ac_I u6 rfl u7 (refB_r q38 refB_n) (refL_r q38 (refL_r q40 (refL_r q39 refL_n))) ?_
  generalize e8 : nw (sR h34 v0 5 a35) 20 (ix (1296 : Int32)) = h43 at hw ⊢
  generalize e7 : gX (sR h34 v0 5 a35) = a44 at hw ⊢
  replace hw := hw a44 h43 e7.symm e8.symm
  obtain ⟨q45, hw⟩ := hw
  obtain ⟨q46, hw⟩ := hw
  refine r_putFR d_Op_init_41 ok_6 (nle rfl) (nle rfl) rfl lf_Op_24 rfl rfl rfl q45 q46 ?_
  refine r_aload_n (j := 0) d_Op_init_44 rfl ?_
  refine r_aload_n (j := 1) d_Op_init_45 rfl ?_
  obtain ⟨q47, hw⟩ := hw
  refine r_putFR d_Op_init_46 ok_6 (nle rfl) (nle rfl) rfl lf_Op_27 rfl rfl rfl q45 q47 ?_
  refine r_aload_n (j := 0) d_Op_init_49 rfl ?_
  refine r_aload_n (j := 2) d_Op_init_50 rfl ?_
  obtain ⟨q48, hw⟩ := hw
  refine r_putFR d_Op_init_51 ok_6 (nle rfl) (nle rfl) rfl lf_Op_31 rfl rfl rfl q45 q48 ?_
  exact r_return d_Op_init_54.1 rfl (hQ _ hw)
set_option maxRecDepth 100000 in
set_option maxHeartbeats 4000000 in
theorem s_Op_takenAt {d : Nat} {v0 : Nat} {v1 : Int32} {v2 : Int32} {h : Hp} {Q : Int32 → Hp → Prop} {QQ : Option AV → Hp → Prop} (hw : w_Op_takenAt v0 v1 v2 h Q) (hQ : ∀ r9 h9, Q r9 h9 → QQ (some (ai r9)) h9) : aCall m_Op_takenAt d [ar v0, ai v1, ai v2] h 0 0 QQ := by
  refine aCall_in pl_Op_takenAt (nle rfl) ?_
  show aW none m_Op_takenAt d 0 [(0, ar v0), (1, ai v1), (2, ai v2)] [] h 0 0 QQ
  unfold w_Op_takenAt at hw
  refine r_aload_n (j := 0) d_Op_takenAt_0 rfl ?_
  obtain ⟨q1, hw⟩ := hw
  refine r_getR d_Op_takenAt_1 ok_6 (nle rfl) (nle rfl) rfl lf_Op_15 q1 ?_
  refine r_iload_n (j := 2) d_Op_takenAt_4 rfl ?_
  obtain ⟨q2, hw⟩ := hw
  obtain ⟨q3, hw⟩ := hw
  refine r_iald d_Op_takenAt_5 q2 q3 ?_
  refine r_iconst d_Op_takenAt_6 kc_1 ?_
  refine r_icmp_ge d_Op_takenAt_7 (fun w9 => ?_) (fun w9 => ?_)
  · replace hw := hw.1 w9
    refine r_iload_n (j := 1) d_Op_takenAt_14 rfl ?_
    refine r_aload_n (j := 0) d_Op_takenAt_15 rfl ?_
    refine r_getR d_Op_takenAt_16 ok_6 (nle rfl) (nle rfl) rfl lf_Op_15 q1 ?_
    refine r_iload_n (j := 2) d_Op_takenAt_19 rfl ?_
    refine r_iald d_Op_takenAt_20 q2 q3 ?_
    obtain ⟨q4, hw⟩ := hw
    refine r_idiv d_Op_takenAt_21 q4 ?_
    refine r_aload_n (j := 0) d_Op_takenAt_22 rfl ?_
    refine r_getR d_Op_takenAt_23 ok_6 (nle rfl) (nle rfl) rfl lf_Op_9 q1 ?_
    refine r_iload_n (j := 2) d_Op_takenAt_26 rfl ?_
    obtain ⟨q5, hw⟩ := hw
    obtain ⟨q6, hw⟩ := hw
    refine r_iald d_Op_takenAt_27 q5 q6 ?_
    refine r_iconst d_Op_takenAt_28 kc_1 ?_
    refine r_iadd d_Op_takenAt_29 ?_
    obtain ⟨q7, hw⟩ := hw
    refine r_irem d_Op_takenAt_30 q7 ?_
    exact r_ireturn d_Op_takenAt_31.1 rfl (hQ _ _ hw)
  · replace hw := hw.2 w9
    refine r_iconst d_Op_takenAt_10 kc_0 ?_
    refine r_goto d_Op_takenAt_11 ?_
    exact r_ireturn d_Op_takenAt_31.1 rfl (hQ _ _ hw)
set_option maxRecDepth 100000 in
set_option maxHeartbeats 4000000 in
theorem s_Op_firstWithin_L2 {d : Nat} (hd : 1 ≤ d + 1) {Q : Int32 → Hp → Prop} {QQ : Option AV → Hp → Prop} (hQ : ∀ r9 h9, Q r9 h9 → QQ (some (ai r9)) h9) {v0 : Nat} {v1 : Int32} : ∀ (n : Nat) (v2 : Int32) (h : Hp), w_Op_firstWithin_L2 Q  v0 v1 n v2 h → aW none m_Op_firstWithin (d + 1) 2 [(0, ar v0), (1, ai v1), (2, ai v2)] [] h 0 0 QQ := by
  intro n
  induction n with
  | zero => intro v2 h hw; exact hw.elim
  | succ n ih =>
    intro v2 h hw
    unfold w_Op_firstWithin_L2 at hw
    refine r_iload_n (j := 2) d_Op_firstWithin_2 rfl ?_
    refine r_aload_n (j := 0) d_Op_firstWithin_3 rfl ?_
    obtain ⟨q1, hw⟩ := hw
    refine r_getR d_Op_firstWithin_4 ok_6 (nle rfl) (nle rfl) rfl lf_Op_27 q1 ?_
    obtain ⟨q2, hw⟩ := hw
    refine r_getI d_Op_firstWithin_7 ok_1 (nle rfl) (nle rfl) rfl lf_Op_100 q2 ?_
    refine r_icmp_ge d_Op_firstWithin_10 (fun w9 => ?_) (fun w9 => ?_)
    · replace hw := hw.1 w9
      refine r_iconst d_Op_firstWithin_56 kc_0 ?_
      exact r_ireturn d_Op_firstWithin_57.1 rfl (hQ _ _ hw)
    · replace hw := hw.2 w9
      refine r_aload_n (j := 0) d_Op_firstWithin_13 rfl ?_
      refine r_iload_n (j := 1) d_Op_firstWithin_14 rfl ?_
      refine r_iload_n (j := 2) d_Op_firstWithin_15 rfl ?_
      refine r_callV (av := [ai v1, ai v2]) (rest := []) (ci := 6) d_Op_firstWithin_16 mk_Op_takenAt ll_Op_127 im_Op_takenAt se_Op_takenAt rfl (nle rfl) rfl rfl (nle rfl) q1 (s_Op_takenAt  hw (fun r4 h3 hw => ?_))
      show aW none m_Op_firstWithin (d + 1) 19 [(0, ar v0), (1, ai v1), (2, ai v2)] [ai r4] h3 0 0 QQ
      refine r_aload_n (j := 0) d_Op_firstWithin_19 rfl ?_
      obtain ⟨q5, hw⟩ := hw
      refine r_getR d_Op_firstWithin_20 ok_6 (nle rfl) (nle rfl) rfl lf_Op_9 q5 ?_
      refine r_iload_n (j := 2) d_Op_firstWithin_23 rfl ?_
      obtain ⟨q6, hw⟩ := hw
      obtain ⟨q7, hw⟩ := hw
      refine r_iald d_Op_firstWithin_24 q6 q7 ?_
      refine r_icmp_ge d_Op_firstWithin_25 (fun w9 => ?_) (fun w9 => ?_)
      · replace hw := hw.1 w9
        refine r_iinc (j := 2) (ls2 := [(2, ai (v2 + (1 : Int32))), (0, ar v0), (1, ai v1)]) d_Op_firstWithin_50 rfl (congrArg (HAdd.hAdd v2) kc_1) (nle rfl) rfl ?_
        refine r_goto d_Op_firstWithin_53 ?_
        refine r_pick (ls2 := [(0, ar v0), (1, ai v1), (2, ai (v2 + (1 : Int32)))]) [1, 2, 0] rfl ?_
        exact ih _ _ hw
      · replace hw := hw.2 w9
        refine r_aload_n (j := 0) d_Op_firstWithin_28 rfl ?_
        refine r_getR d_Op_firstWithin_29 ok_6 (nle rfl) (nle rfl) rfl lf_Op_24 q5 ?_
        refine r_iload_n (j := 1) d_Op_firstWithin_32 rfl ?_
        refine r_aload_n (j := 0) d_Op_firstWithin_33 rfl ?_
        refine r_getR d_Op_firstWithin_34 ok_6 (nle rfl) (nle rfl) rfl lf_Op_15 q5 ?_
        refine r_iload_n (j := 2) d_Op_firstWithin_37 rfl ?_
        obtain ⟨q8, hw⟩ := hw
        obtain ⟨q9, hw⟩ := hw
        refine r_iald d_Op_firstWithin_38 q8 q9 ?_
        refine r_iadd d_Op_firstWithin_39 ?_
        obtain ⟨q10, hw⟩ := hw
        obtain ⟨q11, hw⟩ := hw
        refine r_iald d_Op_firstWithin_40 q10 q11 ?_
        refine r_aload_n (j := 0) d_Op_firstWithin_41 rfl ?_
        refine r_getI d_Op_firstWithin_42 ok_6 (nle rfl) (nle rfl) rfl lf_Op_115 q5 ?_
        refine r_icmp_gt d_Op_firstWithin_45 (fun w9 => ?_) (fun w9 => ?_)
        · replace hw := hw.1 w9
          refine r_iinc (j := 2) (ls2 := [(2, ai (v2 + (1 : Int32))), (0, ar v0), (1, ai v1)]) d_Op_firstWithin_50 rfl (congrArg (HAdd.hAdd v2) kc_1) (nle rfl) rfl ?_
          refine r_goto d_Op_firstWithin_53 ?_
          refine r_pick (ls2 := [(0, ar v0), (1, ai v1), (2, ai (v2 + (1 : Int32)))]) [1, 2, 0] rfl ?_
          exact ih _ _ hw
        · replace hw := hw.2 w9
          refine r_iload_n (j := 2) d_Op_firstWithin_48 rfl ?_
          exact r_ireturn d_Op_firstWithin_49.1 rfl (hQ _ _ hw)
set_option maxRecDepth 100000 in
set_option maxHeartbeats 4000000 in
theorem s_Op_firstWithin {d : Nat} (hd : 1 ≤ d) {v0 : Nat} {v1 : Int32} {h : Hp} {Q : Int32 → Hp → Prop} {QQ : Option AV → Hp → Prop} (hw : w_Op_firstWithin v0 v1 h Q) (hQ : ∀ r9 h9, Q r9 h9 → QQ (some (ai r9)) h9) : aCall m_Op_firstWithin d [ar v0, ai v1] h 0 0 QQ := by
  obtain ⟨d, rfl⟩ : ∃ d9, d = d9 + 1 := ⟨d - 1, by omega⟩
  refine aCall_in pl_Op_firstWithin (nle rfl) ?_
  show aW none m_Op_firstWithin (d + 1) 0 [(0, ar v0), (1, ai v1)] [] h 0 0 QQ
  unfold w_Op_firstWithin at hw
  refine r_iconst d_Op_firstWithin_0 kc_0 ?_
  refine r_istore_n (ls2 := [(2, ai (0 : Int32)), (0, ar v0), (1, ai v1)]) d_Op_firstWithin_1 (nle rfl) rfl ?_
  obtain ⟨n12, hw⟩ := hw
  refine r_pick (ls2 := [(0, ar v0), (1, ai v1), (2, ai (0 : Int32))]) [1, 2, 0] rfl ?_
  exact s_Op_firstWithin_L2 hd hQ  n12 _ _ hw
set_option maxRecDepth 100000 in
set_option maxHeartbeats 4000000 in
theorem s_Op_leastBehind_L4 {d : Nat} (hd : 1 ≤ d + 1) {Q : Int32 → Hp → Prop} {QQ : Option AV → Hp → Prop} (hQ : ∀ r9 h9, Q r9 h9 → QQ (some (ai r9)) h9) {v0 : Nat} {v1 : Int32} : ∀ (n : Nat) (v2 : Int32) (v3 : Int32) (h : Hp), w_Op_leastBehind_L4 Q  v0 v1 n v2 v3 h → aW none m_Op_leastBehind (d + 1) 4 [(0, ar v0), (1, ai v1), (2, ai v2), (3, ai v3)] [] h 0 0 QQ := by
  intro n
  induction n with
  | zero => intro v2 v3 h hw; exact hw.elim
  | succ n ih =>
    intro v2 v3 h hw
    unfold w_Op_leastBehind_L4 at hw
    refine r_iload_n (j := 3) d_Op_leastBehind_4 rfl ?_
    refine r_aload_n (j := 0) d_Op_leastBehind_5 rfl ?_
    obtain ⟨q1, hw⟩ := hw
    refine r_getR d_Op_leastBehind_6 ok_6 (nle rfl) (nle rfl) rfl lf_Op_27 q1 ?_
    obtain ⟨q2, hw⟩ := hw
    refine r_getI d_Op_leastBehind_9 ok_1 (nle rfl) (nle rfl) rfl lf_Op_100 q2 ?_
    refine r_icmp_ge d_Op_leastBehind_12 (fun w9 => ?_) (fun w9 => ?_)
    · replace hw := hw.1 w9
      refine r_iload_n (j := 2) d_Op_leastBehind_68 rfl ?_
      exact r_ireturn d_Op_leastBehind_69.1 rfl (hQ _ _ hw)
    · replace hw := hw.2 w9
      refine r_aload_n (j := 0) d_Op_leastBehind_15 rfl ?_
      refine r_iload_n (j := 1) d_Op_leastBehind_16 rfl ?_
      refine r_iload_n (j := 3) d_Op_leastBehind_17 rfl ?_
      refine r_callV (av := [ai v1, ai v3]) (rest := []) (ci := 6) d_Op_leastBehind_18 mk_Op_takenAt ll_Op_127 im_Op_takenAt se_Op_takenAt rfl (nle rfl) rfl rfl (nle rfl) q1 (s_Op_takenAt  hw (fun r4 h3 hw => ?_))
      show aW none m_Op_leastBehind (d + 1) 21 [(0, ar v0), (1, ai v1), (2, ai v2), (3, ai v3)] [ai r4] h3 0 0 QQ
      refine r_aload_n (j := 0) d_Op_leastBehind_21 rfl ?_
      obtain ⟨q5, hw⟩ := hw
      refine r_getR d_Op_leastBehind_22 ok_6 (nle rfl) (nle rfl) rfl lf_Op_9 q5 ?_
      refine r_iload_n (j := 3) d_Op_leastBehind_25 rfl ?_
      obtain ⟨q6, hw⟩ := hw
      obtain ⟨q7, hw⟩ := hw
      refine r_iald d_Op_leastBehind_26 q6 q7 ?_
      refine r_icmp_ge d_Op_leastBehind_27 (fun w9 => ?_) (fun w9 => ?_)
      · replace hw := hw.1 w9
        refine r_iinc (j := 3) (ls2 := [(3, ai (v3 + (1 : Int32))), (0, ar v0), (1, ai v1), (2, ai v2)]) d_Op_leastBehind_62 rfl (congrArg (HAdd.hAdd v3) kc_1) (nle rfl) rfl ?_
        refine r_goto d_Op_leastBehind_65 ?_
        refine r_pick (ls2 := [(0, ar v0), (1, ai v1), (2, ai v2), (3, ai (v3 + (1 : Int32)))]) [1, 2, 3, 0] rfl ?_
        exact ih _ _ _ hw
      · replace hw := hw.2 w9
        refine r_aload_n (j := 0) d_Op_leastBehind_30 rfl ?_
        refine r_getR d_Op_leastBehind_31 ok_6 (nle rfl) (nle rfl) rfl lf_Op_24 q5 ?_
        refine r_iload_n (j := 1) d_Op_leastBehind_34 rfl ?_
        refine r_aload_n (j := 0) d_Op_leastBehind_35 rfl ?_
        refine r_getR d_Op_leastBehind_36 ok_6 (nle rfl) (nle rfl) rfl lf_Op_15 q5 ?_
        refine r_iload_n (j := 3) d_Op_leastBehind_39 rfl ?_
        obtain ⟨q8, hw⟩ := hw
        obtain ⟨q9, hw⟩ := hw
        refine r_iald d_Op_leastBehind_40 q8 q9 ?_
        refine r_iadd d_Op_leastBehind_41 ?_
        obtain ⟨q10, hw⟩ := hw
        obtain ⟨q11, hw⟩ := hw
        refine r_iald d_Op_leastBehind_42 q10 q11 ?_
        refine r_istore (ls2 := [(4, ai (gI h3 (gR h3 v0 6) (ix (v1 + (gI h3 (gR h3 v0 3) (ix v3)))))), (0, ar v0), (1, ai v1), (2, ai v2), (3, ai v3)]) d_Op_leastBehind_43 (nle rfl) rfl ?_
        refine r_iload_n (j := 3) d_Op_leastBehind_45 rfl ?_
        refine r_iconst d_Op_leastBehind_46 kc_m1 ?_
        refine r_icmp_ne d_Op_leastBehind_47 (fun w9 => ?_) (fun w9 => ?_)
        · replace hw := hw.2 w9
          refine r_iload_n (j := 3) d_Op_leastBehind_55 rfl ?_
          refine r_iload (j := 0) d_Op_leastBehind_56 rfl ?_
          refine r_callS (av := [ai v2, ai (gI h3 (gR h3 v0 6) (ix (v1 + (gI h3 (gR h3 v0 3) (ix v3)))))]) (rest := []) d_Op_leastBehind_58 mk_JM_min ll_Op_138 st_JM_min rfl rfl (nle rfl) (s_JM_min  hw (fun r13 h12 hw => ?_))
          show aW none m_Op_leastBehind (d + 1) 61 [(4, ai (gI h3 (gR h3 v0 6) (ix (v1 + (gI h3 (gR h3 v0 3) (ix v3)))))), (0, ar v0), (1, ai v1), (2, ai v2), (3, ai v3)] [ai r13] h12 0 0 QQ
          refine r_istore_n (ls2 := [(2, ai r13), (4, ai (gI h3 (gR h3 v0 6) (ix (v1 + (gI h3 (gR h3 v0 3) (ix v3)))))), (0, ar v0), (1, ai v1), (3, ai v3)]) d_Op_leastBehind_61 (nle rfl) rfl ?_
          refine r_iinc (j := 4) (ls2 := [(3, ai (v3 + (1 : Int32))), (2, ai r13), (4, ai (gI h3 (gR h3 v0 6) (ix (v1 + (gI h3 (gR h3 v0 3) (ix v3)))))), (0, ar v0), (1, ai v1)]) d_Op_leastBehind_62 rfl (congrArg (HAdd.hAdd v3) kc_1) (nle rfl) rfl ?_
          refine r_goto d_Op_leastBehind_65 ?_
          refine r_pick (ls2 := [(0, ar v0), (1, ai v1), (2, ai r13), (3, ai (v3 + (1 : Int32)))]) [3, 4, 1, 0] rfl ?_
          exact ih _ _ _ hw
        · replace hw := hw.1 w9
          refine r_iload (j := 0) d_Op_leastBehind_50 rfl ?_
          refine r_goto d_Op_leastBehind_52 ?_
          refine r_istore_n (ls2 := [(2, ai (gI h3 (gR h3 v0 6) (ix (v1 + (gI h3 (gR h3 v0 3) (ix v3)))))), (4, ai (gI h3 (gR h3 v0 6) (ix (v1 + (gI h3 (gR h3 v0 3) (ix v3)))))), (0, ar v0), (1, ai v1), (3, ai v3)]) d_Op_leastBehind_61 (nle rfl) rfl ?_
          refine r_iinc (j := 4) (ls2 := [(3, ai (v3 + (1 : Int32))), (2, ai (gI h3 (gR h3 v0 6) (ix (v1 + (gI h3 (gR h3 v0 3) (ix v3)))))), (4, ai (gI h3 (gR h3 v0 6) (ix (v1 + (gI h3 (gR h3 v0 3) (ix v3)))))), (0, ar v0), (1, ai v1)]) d_Op_leastBehind_62 rfl (congrArg (HAdd.hAdd v3) kc_1) (nle rfl) rfl ?_
          refine r_goto d_Op_leastBehind_65 ?_
          refine r_pick (ls2 := [(0, ar v0), (1, ai v1), (2, ai (gI h3 (gR h3 v0 6) (ix (v1 + (gI h3 (gR h3 v0 3) (ix v3)))))), (3, ai (v3 + (1 : Int32)))]) [3, 4, 1, 0] rfl ?_
          exact ih _ _ _ hw
set_option maxRecDepth 100000 in
set_option maxHeartbeats 4000000 in
theorem s_Op_leastBehind {d : Nat} (hd : 1 ≤ d) {v0 : Nat} {v1 : Int32} {h : Hp} {Q : Int32 → Hp → Prop} {QQ : Option AV → Hp → Prop} (hw : w_Op_leastBehind v0 v1 h Q) (hQ : ∀ r9 h9, Q r9 h9 → QQ (some (ai r9)) h9) : aCall m_Op_leastBehind d [ar v0, ai v1] h 0 0 QQ := by
  obtain ⟨d, rfl⟩ : ∃ d9, d = d9 + 1 := ⟨d - 1, by omega⟩
  refine aCall_in pl_Op_leastBehind (nle rfl) ?_
  show aW none m_Op_leastBehind (d + 1) 0 [(0, ar v0), (1, ai v1)] [] h 0 0 QQ
  unfold w_Op_leastBehind at hw
  refine r_iconst d_Op_leastBehind_0 kc_m1 ?_
  refine r_istore_n (ls2 := [(2, ai (-1 : Int32)), (0, ar v0), (1, ai v1)]) d_Op_leastBehind_1 (nle rfl) rfl ?_
  refine r_iconst d_Op_leastBehind_2 kc_0 ?_
  refine r_istore_n (ls2 := [(3, ai (0 : Int32)), (2, ai (-1 : Int32)), (0, ar v0), (1, ai v1)]) d_Op_leastBehind_3 (nle rfl) rfl ?_
  obtain ⟨n14, hw⟩ := hw
  refine r_pick (ls2 := [(0, ar v0), (1, ai v1), (2, ai (-1 : Int32)), (3, ai (0 : Int32))]) [2, 3, 1, 0] rfl ?_
  exact s_Op_leastBehind_L4 hd hQ  n14 _ _ _ hw
set_option maxRecDepth 100000 in
set_option maxHeartbeats 4000000 in
theorem s_Op_strayAtPart_L12 {d : Nat} (hd : 2 ≤ d + 1) {Q : Int32 → Hp → Prop} {QQ : Option AV → Hp → Prop} (hQ : ∀ r9 h9, Q r9 h9 → QQ (some (ai r9)) h9) {v0 : Nat} {v1 : Int32} : ∀ (n : Nat) (v2 : Int32) (v3 : Int32) (h : Hp), w_Op_strayAtPart_L12 Q  v0 v1 n v2 v3 h → aW none m_Op_strayAtPart (d + 1) 12 [(0, ar v0), (1, ai v1), (2, ai v2), (3, ai v3)] [] h 0 0 QQ := by
  intro n
  induction n with
  | zero => intro v2 v3 h hw; exact hw.elim
  | succ n ih =>
    intro v2 v3 h hw
    unfold w_Op_strayAtPart_L12 at hw
    refine r_iload_n (j := 3) d_Op_strayAtPart_12 rfl ?_
    refine r_aload_n (j := 0) d_Op_strayAtPart_13 rfl ?_
    obtain ⟨q3, hw⟩ := hw
    refine r_getR d_Op_strayAtPart_14 ok_6 (nle rfl) (nle rfl) rfl lf_Op_27 q3 ?_
    obtain ⟨q4, hw⟩ := hw
    refine r_getI d_Op_strayAtPart_17 ok_1 (nle rfl) (nle rfl) rfl lf_Op_100 q4 ?_
    refine r_icmp_ge d_Op_strayAtPart_20 (fun w9 => ?_) (fun w9 => ?_)
    · replace hw := hw.1 w9
      refine r_aload_n (j := 0) d_Op_strayAtPart_56 rfl ?_
      refine r_getR d_Op_strayAtPart_57 ok_6 (nle rfl) (nle rfl) rfl lf_Op_27 q3 ?_
      refine r_aload_n (j := 0) d_Op_strayAtPart_60 rfl ?_
      refine r_getR d_Op_strayAtPart_61 ok_6 (nle rfl) (nle rfl) rfl lf_Op_21 q3 ?_
      refine r_aload_n (j := 0) d_Op_strayAtPart_64 rfl ?_
      refine r_getI d_Op_strayAtPart_65 ok_6 (nle rfl) (nle rfl) rfl lf_Op_85 q3 ?_
      refine r_iload_n (j := 2) d_Op_strayAtPart_68 rfl ?_
      refine r_callV (av := [ar (gR h v0 5), ai (gI h v0 12), ai v2]) (rest := []) (ci := 1) d_Op_strayAtPart_69 mk_Co_strayAt ll_Op_134 im_Co_strayAt se_Co_strayAt rfl (nle rfl) rfl rfl (nle rfl) q4 (s_Co_strayAt (by omega) hw (fun r6 h5 hw => ?_))
      show aW none m_Op_strayAtPart (d + 1) 72 [(0, ar v0), (1, ai v1), (2, ai v2), (3, ai v3)] [ai r6] h5 0 0 QQ
      exact r_ireturn d_Op_strayAtPart_72.1 rfl (hQ _ _ hw)
    · replace hw := hw.2 w9
      refine r_aload_n (j := 0) d_Op_strayAtPart_23 rfl ?_
      refine r_iload_n (j := 1) d_Op_strayAtPart_24 rfl ?_
      refine r_iload_n (j := 3) d_Op_strayAtPart_25 rfl ?_
      refine r_callV (av := [ai v1, ai v3]) (rest := []) (ci := 6) d_Op_strayAtPart_26 mk_Op_takenAt ll_Op_127 im_Op_takenAt se_Op_takenAt rfl (nle rfl) rfl rfl (nle rfl) q3 (s_Op_takenAt  hw (fun r8 h7 hw => ?_))
      show aW none m_Op_strayAtPart (d + 1) 29 [(0, ar v0), (1, ai v1), (2, ai v2), (3, ai v3)] [ai r8] h7 0 0 QQ
      refine r_istore (ls2 := [(4, ai r8), (0, ar v0), (1, ai v1), (2, ai v2), (3, ai v3)]) d_Op_strayAtPart_29 (nle rfl) rfl ?_
      refine r_aload_n (j := 1) d_Op_strayAtPart_31 rfl ?_
      obtain ⟨q9, hw⟩ := hw
      refine r_getR d_Op_strayAtPart_32 ok_6 (nle rfl) (nle rfl) rfl lf_Op_27 q9 ?_
      refine r_aload_n (j := 1) d_Op_strayAtPart_35 rfl ?_
      refine r_getR d_Op_strayAtPart_36 ok_6 (nle rfl) (nle rfl) rfl lf_Op_21 q9 ?_
      refine r_iload_n (j := 4) d_Op_strayAtPart_39 rfl ?_
      refine r_iload (j := 0) d_Op_strayAtPart_40 rfl ?_
      obtain ⟨q11, hw⟩ := hw
      refine r_callV (av := [ar (gR h7 v0 5), ai v3, ai r8]) (rest := []) (ci := 1) d_Op_strayAtPart_42 mk_Co_addTo ll_Op_130 im_Co_addTo se_Co_addTo rfl (nle rfl) rfl rfl (nle rfl) q11 (s_Co_addTo (by omega) hw (fun h10 hw => ?_))
      show aW none m_Op_strayAtPart (d + 1) 45 [(4, ai r8), (0, ar v0), (1, ai v1), (2, ai v2), (3, ai v3)] [] h10 0 0 QQ
      refine r_iload_n (j := 3) d_Op_strayAtPart_45 rfl ?_
      refine r_iload (j := 0) d_Op_strayAtPart_46 rfl ?_
      refine r_iadd d_Op_strayAtPart_48 ?_
      refine r_istore_n (ls2 := [(2, ai (v2 + r8)), (4, ai r8), (0, ar v0), (1, ai v1), (3, ai v3)]) d_Op_strayAtPart_49 (nle rfl) rfl ?_
      refine r_iinc (j := 4) (ls2 := [(3, ai (v3 + (1 : Int32))), (2, ai (v2 + r8)), (4, ai r8), (0, ar v0), (1, ai v1)]) d_Op_strayAtPart_50 rfl (congrArg (HAdd.hAdd v3) kc_1) (nle rfl) rfl ?_
      refine r_goto d_Op_strayAtPart_53 ?_
      refine r_pick (ls2 := [(0, ar v0), (1, ai v1), (2, ai (v2 + r8)), (3, ai (v3 + (1 : Int32)))]) [3, 4, 1, 0] rfl ?_
      exact ih _ _ _ hw
set_option maxRecDepth 100000 in
set_option maxHeartbeats 4000000 in
theorem s_Op_strayAtPart {d : Nat} (hd : 2 ≤ d) {v0 : Nat} {v1 : Int32} {h : Hp} {Q : Int32 → Hp → Prop} {QQ : Option AV → Hp → Prop} (hw : w_Op_strayAtPart v0 v1 h Q) (hQ : ∀ r9 h9, Q r9 h9 → QQ (some (ai r9)) h9) : aCall m_Op_strayAtPart d [ar v0, ai v1] h 0 0 QQ := by
  obtain ⟨d, rfl⟩ : ∃ d9, d = d9 + 1 := ⟨d - 1, by omega⟩
  refine aCall_in pl_Op_strayAtPart (nle rfl) ?_
  show aW none m_Op_strayAtPart (d + 1) 0 [(0, ar v0), (1, ai v1)] [] h 0 0 QQ
  unfold w_Op_strayAtPart at hw
  refine r_aload_n (j := 0) d_Op_strayAtPart_0 rfl ?_
  obtain ⟨q1, hw⟩ := hw
  refine r_getR d_Op_strayAtPart_1 ok_6 (nle rfl) (nle rfl) rfl lf_Op_21 q1 ?_
  refine r_iconst d_Op_strayAtPart_4 kc_0 ?_
  refine r_callS (av := [ar (gR h v0 5), ai (0 : Int32)]) (rest := []) d_Op_strayAtPart_5 mk_JA_fill_IIV ll_Op_121 st_JA_fill_IIV rfl rfl (nle rfl) (s_JA_fill_IIV  hw (fun h2 hw => ?_))
  show aW none m_Op_strayAtPart (d + 1) 8 [(0, ar v0), (1, ai v1)] [] h2 0 0 QQ
  refine r_iconst d_Op_strayAtPart_8 kc_0 ?_
  refine r_istore_n (ls2 := [(2, ai (0 : Int32)), (0, ar v0), (1, ai v1)]) d_Op_strayAtPart_9 (nle rfl) rfl ?_
  refine r_iconst d_Op_strayAtPart_10 kc_0 ?_
  refine r_istore_n (ls2 := [(3, ai (0 : Int32)), (2, ai (0 : Int32)), (0, ar v0), (1, ai v1)]) d_Op_strayAtPart_11 (nle rfl) rfl ?_
  obtain ⟨n12, hw⟩ := hw
  refine r_pick (ls2 := [(0, ar v0), (1, ai v1), (2, ai (0 : Int32)), (3, ai (0 : Int32))]) [2, 3, 1, 0] rfl ?_
  exact s_Op_strayAtPart_L12 hd hQ  n12 _ _ _ hw
set_option maxRecDepth 100000 in
set_option maxHeartbeats 4000000 in
theorem s_Op_findOrder_L112 {d : Nat} (hd : 3 ≤ d + 1) {Q : Hp → Prop} {QQ : Option AV → Hp → Prop} (hQ : ∀ h9, Q h9 → QQ none h9) {v0 : Nat} : ∀ (n : Nat) (v1 : Int32) (v2 : Int32) (h : Hp), w_Op_findOrder_L112 Q  v0 n v1 v2 h → aW none m_Op_findOrder (d + 1) 112 [(0, ar v0), (1, ai v1), (2, ai v2)] [] h 0 0 QQ := by
  intro n
  induction n with
  | zero => intro v1 v2 h hw; exact hw.elim
  | succ n ih =>
    intro v1 v2 h hw
    unfold w_Op_findOrder_L112 at hw
    refine r_iload_n (j := 2) d_Op_findOrder_112 rfl ?_
    refine r_aload_n (j := 0) d_Op_findOrder_113 rfl ?_
    obtain ⟨q7, hw⟩ := hw
    refine r_getI d_Op_findOrder_114 ok_6 (nle rfl) (nle rfl) rfl lf_Op_85 q7 ?_
    refine r_icmp_ge d_Op_findOrder_117 (fun w9 => ?_) (fun w9 => ?_)
    · replace hw := hw.1 w9
      exact r_return d_Op_findOrder_151.1 rfl (hQ _ hw)
    · replace hw := hw.2 w9
      refine r_aload_n (j := 0) d_Op_findOrder_120 rfl ?_
      refine r_getR d_Op_findOrder_121 ok_6 (nle rfl) (nle rfl) rfl lf_Op_18 q7 ?_
      refine r_iload_n (j := 2) d_Op_findOrder_124 rfl ?_
      refine r_aload_n (j := 0) d_Op_findOrder_125 rfl ?_
      refine r_iload_n (j := 1) d_Op_findOrder_126 rfl ?_
      refine r_callV (av := [ai v1]) (rest := [ai v2, ar (gR h v0 4)]) (ci := 6) d_Op_findOrder_127 mk_Op_firstWithin ll_Op_118 im_Op_firstWithin se_Op_firstWithin rfl (nle rfl) rfl rfl (nle rfl) q7 (s_Op_firstWithin (by omega) hw (fun r9 h8 hw => ?_))
      show aW none m_Op_findOrder (d + 1) 130 [(0, ar v0), (1, ai v1), (2, ai v2)] [ai r9, ai v2, ar (gR h v0 4)] h8 0 0 QQ
      obtain ⟨q10, hw⟩ := hw
      obtain ⟨q11, hw⟩ := hw
      refine r_iast d_Op_findOrder_130 q10 q11 ?_
      refine r_iload_n (j := 1) d_Op_findOrder_131 rfl ?_
      refine r_aload_n (j := 0) d_Op_findOrder_132 rfl ?_
      obtain ⟨q12, hw⟩ := hw
      refine r_getR d_Op_findOrder_133 ok_6 (nle rfl) (nle rfl) rfl lf_Op_15 q12 ?_
      refine r_aload_n (j := 0) d_Op_findOrder_136 rfl ?_
      refine r_getR d_Op_findOrder_137 ok_6 (nle rfl) (nle rfl) rfl lf_Op_18 q12 ?_
      refine r_iload_n (j := 2) d_Op_findOrder_140 rfl ?_
      obtain ⟨q13, hw⟩ := hw
      obtain ⟨q14, hw⟩ := hw
      refine r_iald d_Op_findOrder_141 q13 q14 ?_
      obtain ⟨q15, hw⟩ := hw
      obtain ⟨q16, hw⟩ := hw
      refine r_iald d_Op_findOrder_142 q15 q16 ?_
      refine r_iadd d_Op_findOrder_143 ?_
      refine r_istore_n (ls2 := [(1, ai (v1 + (gI (sI h8 (gR h v0 4) (ix v2) r9) (gR h8 v0 3) (ix (gI (sI h8 (gR h v0 4) (ix v2) r9) (gR h8 v0 4) (ix v2)))))), (0, ar v0), (2, ai v2)]) d_Op_findOrder_144 (nle rfl) rfl ?_
      refine r_iinc (j := 2) (ls2 := [(2, ai (v2 + (1 : Int32))), (1, ai (v1 + (gI (sI h8 (gR h v0 4) (ix v2) r9) (gR h8 v0 3) (ix (gI (sI h8 (gR h v0 4) (ix v2) r9) (gR h8 v0 4) (ix v2)))))), (0, ar v0)]) d_Op_findOrder_145 rfl (congrArg (HAdd.hAdd v2) kc_1) (nle rfl) rfl ?_
      refine r_goto d_Op_findOrder_148 ?_
      refine r_pick (ls2 := [(0, ar v0), (1, ai (v1 + (gI (sI h8 (gR h v0 4) (ix v2) r9) (gR h8 v0 3) (ix (gI (sI h8 (gR h v0 4) (ix v2) r9) (gR h8 v0 4) (ix v2)))))), (2, ai (v2 + (1 : Int32)))]) [2, 1, 0] rfl ?_
      exact ih _ _ _ hw
set_option maxRecDepth 100000 in
set_option maxHeartbeats 4000000 in
theorem s_Op_findOrder_L69 {d : Nat} (hd : 3 ≤ d + 1) {Q : Hp → Prop} {QQ : Option AV → Hp → Prop} (hQ : ∀ h9, Q h9 → QQ none h9) {v0 : Nat} : ∀ (n : Nat) (v1 : Int32) (h : Hp), w_Op_findOrder_L69 Q  v0 n v1 h → aW none m_Op_findOrder (d + 1) 69 [(0, ar v0), (1, ai v1)] [] h 0 0 QQ := by
  intro n
  induction n with
  | zero => intro v1 h hw; exact hw.elim
  | succ n ih =>
    intro v1 h hw
    unfold w_Op_findOrder_L69 at hw
    refine r_iload_n (j := 1) d_Op_findOrder_69 rfl ?_
    refine r_if_lt d_Op_findOrder_70 (fun w9 => ?_) (fun w9 => ?_)
    · replace hw := hw.1 w9
      refine r_aload_n (j := 0) d_Op_findOrder_98 rfl ?_
      refine r_aload_n (j := 0) d_Op_findOrder_99 rfl ?_
      obtain ⟨q4, hw⟩ := hw
      refine r_getR d_Op_findOrder_100 ok_6 (nle rfl) (nle rfl) rfl lf_Op_24 q4 ?_
      refine r_iconst d_Op_findOrder_103 kc_0 ?_
      obtain ⟨q5, hw⟩ := hw
      obtain ⟨q6, hw⟩ := hw
      refine r_iald d_Op_findOrder_104 q5 q6 ?_
      refine r_putI d_Op_findOrder_105 ok_6 (nle rfl) (nle rfl) rfl lf_Op_115 rfl q4 ?_
      refine r_iconst d_Op_findOrder_108 kc_0 ?_
      refine r_istore_n (ls2 := [(1, ai (0 : Int32)), (0, ar v0)]) d_Op_findOrder_109 (nle rfl) rfl ?_
      refine r_iconst d_Op_findOrder_110 kc_0 ?_
      refine r_istore_n (ls2 := [(2, ai (0 : Int32)), (1, ai (0 : Int32)), (0, ar v0)]) d_Op_findOrder_111 (nle rfl) rfl ?_
      obtain ⟨n17, hw⟩ := hw
      refine r_pick (ls2 := [(0, ar v0), (1, ai (0 : Int32)), (2, ai (0 : Int32))]) [2, 1, 0] rfl ?_
      exact s_Op_findOrder_L112 hd hQ  n17 _ _ _ hw
    · replace hw := hw.2 w9
      refine r_aload_n (j := 0) d_Op_findOrder_73 rfl ?_
      obtain ⟨q18, hw⟩ := hw
      refine r_getR d_Op_findOrder_74 ok_6 (nle rfl) (nle rfl) rfl lf_Op_24 q18 ?_
      refine r_iload_n (j := 1) d_Op_findOrder_77 rfl ?_
      refine r_aload_n (j := 0) d_Op_findOrder_78 rfl ?_
      refine r_iload_n (j := 1) d_Op_findOrder_79 rfl ?_
      refine r_callV (av := [ai v1]) (rest := [ai v1, ar (gR h v0 6)]) (ci := 6) d_Op_findOrder_80 mk_Op_strayAtPart ll_Op_103 im_Op_strayAtPart se_Op_strayAtPart rfl (nle rfl) rfl rfl (nle rfl) q18 (s_Op_strayAtPart (by omega) hw (fun r20 h19 hw => ?_))
      show aW none m_Op_findOrder (d + 1) 83 [(0, ar v0), (1, ai v1)] [ai r20, ai v1, ar (gR h v0 6)] h19 0 0 QQ
      refine r_aload_n (j := 0) d_Op_findOrder_83 rfl ?_
      refine r_iload_n (j := 1) d_Op_findOrder_84 rfl ?_
      obtain ⟨q23, hw⟩ := hw
      refine r_callV (av := [ai v1]) (rest := [ai r20, ai v1, ar (gR h v0 6)]) (ci := 6) d_Op_findOrder_85 mk_Op_leastBehind ll_Op_106 im_Op_leastBehind se_Op_leastBehind rfl (nle rfl) rfl rfl (nle rfl) q23 (s_Op_leastBehind (by omega) hw (fun r22 h21 hw => ?_))
      show aW none m_Op_findOrder (d + 1) 88 [(0, ar v0), (1, ai v1)] [ai r22, ai r20, ai v1, ar (gR h v0 6)] h21 0 0 QQ
      refine r_callS (av := [ai r20, ai r22]) (rest := [ai v1, ar (gR h v0 6)]) d_Op_findOrder_88 mk_JM_max ll_Op_109 st_JM_max rfl rfl (nle rfl) (s_JM_max  hw (fun r25 h24 hw => ?_))
      show aW none m_Op_findOrder (d + 1) 91 [(0, ar v0), (1, ai v1)] [ai r25, ai v1, ar (gR h v0 6)] h24 0 0 QQ
      obtain ⟨q26, hw⟩ := hw
      obtain ⟨q27, hw⟩ := hw
      refine r_iast d_Op_findOrder_91 q26 q27 ?_
      refine r_iinc (j := 1) (ls2 := [(1, ai (v1 + (-1 : Int32))), (0, ar v0)]) d_Op_findOrder_92 rfl (congrArg (HAdd.hAdd v1) kc_m1) (nle rfl) rfl ?_
      refine r_goto d_Op_findOrder_95 ?_
      refine r_pick (ls2 := [(0, ar v0), (1, ai (v1 + (-1 : Int32)))]) [1, 0] rfl ?_
      exact ih _ _ hw
set_option maxRecDepth 100000 in
set_option maxHeartbeats 4000000 in
theorem s_Op_findOrder_L7 {d : Nat} (hd : 3 ≤ d + 1) {Q : Hp → Prop} {QQ : Option AV → Hp → Prop} (hQ : ∀ h9, Q h9 → QQ none h9) {v0 : Nat} : ∀ (n : Nat) (v1 : Int32) (h : Hp), w_Op_findOrder_L7 Q  v0 n v1 h → aW none m_Op_findOrder (d + 1) 7 [(0, ar v0), (1, ai v1)] [] h 0 0 QQ := by
  intro n
  induction n with
  | zero => intro v1 h hw; exact hw.elim
  | succ n ih =>
    intro v1 h hw
    unfold w_Op_findOrder_L7 at hw
    refine r_iload_n (j := 1) d_Op_findOrder_7 rfl ?_
    refine r_aload_n (j := 0) d_Op_findOrder_8 rfl ?_
    obtain ⟨q2, hw⟩ := hw
    refine r_getR d_Op_findOrder_9 ok_6 (nle rfl) (nle rfl) rfl lf_Op_27 q2 ?_
    obtain ⟨q3, hw⟩ := hw
    refine r_getI d_Op_findOrder_12 ok_1 (nle rfl) (nle rfl) rfl lf_Op_100 q3 ?_
    refine r_icmp_ge d_Op_findOrder_15 (fun w9 => ?_) (fun w9 => ?_)
    · replace hw := hw.1 w9
      refine r_aload_n (j := 0) d_Op_findOrder_51 rfl ?_
      refine r_getI d_Op_findOrder_52 ok_6 (nle rfl) (nle rfl) rfl lf_Op_97 q2 ?_
      refine r_sipush d_Op_findOrder_55 ks_1296 ?_
      refine r_icmp_le d_Op_findOrder_58 (fun w9 => ?_) (fun w9 => ?_)
      · replace hw := hw.1 w9
        refine r_aload_n (j := 0) d_Op_findOrder_62 rfl ?_
        refine r_getI d_Op_findOrder_63 ok_6 (nle rfl) (nle rfl) rfl lf_Op_97 q2 ?_
        refine r_iconst d_Op_findOrder_66 kc_1 ?_
        refine r_isub d_Op_findOrder_67 ?_
        refine r_istore_n (ls2 := [(1, ai ((gI h v0 7) - (1 : Int32))), (0, ar v0)]) d_Op_findOrder_68 (nle rfl) rfl ?_
        obtain ⟨n28, hw⟩ := hw
        refine r_pick (ls2 := [(0, ar v0), (1, ai ((gI h v0 7) - (1 : Int32)))]) [1, 0] rfl ?_
        exact s_Op_findOrder_L69 hd hQ  n28 _ _ hw
      · replace hw := hw.2 w9
        exact r_return d_Op_findOrder_61.1 rfl (hQ _ hw)
    · replace hw := hw.2 w9
      refine r_aload_n (j := 0) d_Op_findOrder_18 rfl ?_
      refine r_getR d_Op_findOrder_19 ok_6 (nle rfl) (nle rfl) rfl lf_Op_15 q2 ?_
      refine r_iload_n (j := 1) d_Op_findOrder_22 rfl ?_
      refine r_aload_n (j := 0) d_Op_findOrder_23 rfl ?_
      refine r_getI d_Op_findOrder_24 ok_6 (nle rfl) (nle rfl) rfl lf_Op_97 q2 ?_
      obtain ⟨q29, hw⟩ := hw
      obtain ⟨q30, hw⟩ := hw
      refine r_iast d_Op_findOrder_27 q29 q30 ?_
      refine r_aload_n (j := 0) d_Op_findOrder_28 rfl ?_
      refine r_dup d_Op_findOrder_29 rfl ?_
      refine r_getI d_Op_findOrder_30 ok_6 (nle rfl) (nle rfl) rfl lf_Op_97 q2 ?_
      refine r_aload_n (j := 0) d_Op_findOrder_33 rfl ?_
      refine r_getR d_Op_findOrder_34 ok_6 (nle rfl) (nle rfl) rfl lf_Op_9 q2 ?_
      refine r_iload_n (j := 1) d_Op_findOrder_37 rfl ?_
      obtain ⟨q31, hw⟩ := hw
      obtain ⟨q32, hw⟩ := hw
      refine r_iald d_Op_findOrder_38 q31 q32 ?_
      refine r_iconst d_Op_findOrder_39 kc_1 ?_
      refine r_iadd d_Op_findOrder_40 ?_
      refine r_imul d_Op_findOrder_41 ?_
      refine r_putI d_Op_findOrder_42 ok_6 (nle rfl) (nle rfl) rfl lf_Op_97 rfl q2 ?_
      refine r_iinc (j := 1) (ls2 := [(1, ai (v1 + (1 : Int32))), (0, ar v0)]) d_Op_findOrder_45 rfl (congrArg (HAdd.hAdd v1) kc_1) (nle rfl) rfl ?_
      refine r_goto d_Op_findOrder_48 ?_
      refine r_pick (ls2 := [(0, ar v0), (1, ai (v1 + (1 : Int32)))]) [1, 0] rfl ?_
      exact ih _ _ hw
set_option maxRecDepth 100000 in
set_option maxHeartbeats 4000000 in
theorem s_Op_findOrder {d : Nat} (hd : 3 ≤ d) {v0 : Nat} {h : Hp} {Q : Hp → Prop} {QQ : Option AV → Hp → Prop} (hw : w_Op_findOrder v0 h Q) (hQ : ∀ h9, Q h9 → QQ none h9) : aCall m_Op_findOrder d [ar v0] h 0 0 QQ := by
  obtain ⟨d, rfl⟩ : ∃ d9, d = d9 + 1 := ⟨d - 1, by omega⟩
  refine aCall_in pl_Op_findOrder (nle rfl) ?_
  show aW none m_Op_findOrder (d + 1) 0 [(0, ar v0)] [] h 0 0 QQ
  unfold w_Op_findOrder at hw
  refine r_aload_n (j := 0) d_Op_findOrder_0 rfl ?_
  refine r_iconst d_Op_findOrder_1 kc_1 ?_
  obtain ⟨q1, hw⟩ := hw
  refine r_putI d_Op_findOrder_2 ok_6 (nle rfl) (nle rfl) rfl lf_Op_97 rfl q1 ?_
  refine r_iconst d_Op_findOrder_5 kc_0 ?_
  refine r_istore_n (ls2 := [(1, ai (0 : Int32)), (0, ar v0)]) d_Op_findOrder_6 (nle rfl) rfl ?_
  obtain ⟨n33, hw⟩ := hw
  refine r_pick (ls2 := [(0, ar v0), (1, ai (0 : Int32))]) [1, 0] rfl ?_
  exact s_Op_findOrder_L7 hd hQ  n33 _ _ hw
set_option maxRecDepth 100000 in
set_option maxHeartbeats 4000000 in
theorem s_Op_findPlan_B95 {d : Nat} (hd : 62 ≤ d + 1) {Q : Hp → Prop} {QQ : Option AV → Hp → Prop} (hQ : ∀ h9, Q h9 → QQ none h9) {k7 : Int32 → Hp → Prop} (hk7 : ∀ v1 h9, k7 v1 h9 → aW none m_Op_findPlan (d + 1) 7 [(0, ar v0), (1, ai v1)] [] h9 0 0 QQ) {v0 : Nat} {v1 : Int32} {h : Hp} (hw : w_Op_findPlan_B95 Q k7 v0 v1 h) : aW none m_Op_findPlan (d + 1) 95 [(0, ar v0), (1, ai v1)] [] h 0 0 QQ := by
  unfold w_Op_findPlan_B95 at hw
  refine r_aload_n (j := 0) d_Op_findPlan_95 rfl ?_
  refine r_iconst d_Op_findPlan_96 kc_1 ?_
  obtain ⟨q11, hw⟩ := hw
  refine r_putZ d_Op_findPlan_97 ok_6 (nle rfl) (nle rfl) rfl lf_Op_51 rfl q11 (Or.inr rfl) ?_
  refine r_aload_n (j := 0) d_Op_findPlan_100 rfl ?_
  refine r_aload_n (j := 0) d_Op_findPlan_101 rfl ?_
  refine r_getR d_Op_findPlan_102 ok_6 (nle rfl) (nle rfl) rfl lf_Op_31 q11 ?_
  obtain ⟨q12, hw⟩ := hw
  refine r_getI d_Op_findPlan_105 ok_7 (nle rfl) (nle rfl) rfl lf_Op_81 q12 ?_
  refine r_putI d_Op_findPlan_108 ok_6 (nle rfl) (nle rfl) rfl lf_Op_84 rfl q11 ?_
  refine r_aload_n (j := 0) d_Op_findPlan_111 rfl ?_
  refine r_iload_n (j := 1) d_Op_findPlan_112 rfl ?_
  refine r_putI d_Op_findPlan_113 ok_6 (nle rfl) (nle rfl) rfl lf_Op_85 rfl q11 ?_
  refine r_aload_n (j := 0) d_Op_findPlan_116 rfl ?_
  refine r_getR d_Op_findPlan_117 ok_6 (nle rfl) (nle rfl) rfl lf_Op_31 q11 ?_
  refine r_getR d_Op_findPlan_120 ok_7 (nle rfl) (nle rfl) rfl lf_Op_88 q12 ?_
  refine r_iconst d_Op_findPlan_123 kc_0 ?_
  refine r_aload_n (j := 0) d_Op_findPlan_124 rfl ?_
  refine r_getR d_Op_findPlan_125 ok_6 (nle rfl) (nle rfl) rfl lf_Op_9 q11 ?_
  refine r_iconst d_Op_findPlan_128 kc_0 ?_
  refine r_bipush d_Op_findPlan_129 kb_8 ?_
  obtain ⟨q13, hw⟩ := hw
  obtain ⟨q14, hw⟩ := hw
  obtain ⟨q15, hw⟩ := hw
  obtain ⟨q16, hw⟩ := hw
  refine r_copy d_Op_findPlan_131 ll_Op_91 cp_1 cp_2 cp_3 (nle rfl) q13 q14 (by decide) (by decide) (by decide) q15 q16 ?_
  refine r_iinc (j := 1) (ls2 := [(1, ai (v1 + (1 : Int32))), (0, ar v0)]) d_Op_findPlan_134 rfl (congrArg (HAdd.hAdd v1) kc_1) (nle rfl) rfl ?_
  refine r_goto d_Op_findPlan_137 ?_
  refine r_pick (ls2 := [(0, ar v0), (1, ai (v1 + (1 : Int32)))]) [1, 0] rfl ?_
  exact hk7 _ _ hw
set_option maxRecDepth 100000 in
set_option maxHeartbeats 4000000 in
theorem s_Op_findPlan_L20 {d : Nat} (hd : 62 ≤ d + 1) {Q : Hp → Prop} {QQ : Option AV → Hp → Prop} (hQ : ∀ h9, Q h9 → QQ none h9) {k7 : Int32 → Hp → Prop} (hk7 : ∀ v1 h9, k7 v1 h9 → aW none m_Op_findPlan (d + 1) 7 [(0, ar v0), (1, ai v1)] [] h9 0 0 QQ) {v0 : Nat} {v1 : Int32} : ∀ (n : Nat) (v2 : Int32) (h : Hp), w_Op_findPlan_L20 Q k7 v0 v1 n v2 h → aW none m_Op_findPlan (d + 1) 20 [(0, ar v0), (1, ai v1), (2, ai v2)] [] h 0 0 QQ := by
  intro n
  induction n with
  | zero => intro v2 h hw; exact hw.elim
  | succ n ih =>
    intro v2 h hw
    unfold w_Op_findPlan_L20 at hw
    refine r_iload_n (j := 2) d_Op_findPlan_20 rfl ?_
    refine r_iconst d_Op_findPlan_21 kc_3 ?_
    refine r_icmp_ge d_Op_findPlan_22 (fun w9 => ?_) (fun w9 => ?_)
    · replace hw := hw.1 w9
      refine r_aload_n (j := 0) d_Op_findPlan_45 rfl ?_
      obtain ⟨q6, hw⟩ := hw
      refine r_getR d_Op_findPlan_46 ok_6 (nle rfl) (nle rfl) rfl lf_Op_31 q6 ?_
      refine r_aload_n (j := 0) d_Op_findPlan_49 rfl ?_
      refine r_getR d_Op_findPlan_50 ok_6 (nle rfl) (nle rfl) rfl lf_Op_27 q6 ?_
      refine r_iconst d_Op_findPlan_53 kc_m1 ?_
      refine r_iload_n (j := 1) d_Op_findPlan_54 rfl ?_
      refine r_aload_n (j := 0) d_Op_findPlan_55 rfl ?_
      refine r_getR d_Op_findPlan_56 ok_6 (nle rfl) (nle rfl) rfl lf_Op_21 q6 ?_
      refine r_ldc d_Op_findPlan_59 lc_Op_73 ?_
      obtain ⟨q8, hw⟩ := hw
      refine r_callV (av := [ar (gR h v0 0), ai (-1 : Int32), ai v1, ar (gR h v0 5), ai (1000000 : Int32)]) (rest := []) (ci := 7) d_Op_findPlan_61 mk_Ps_run ll_Op_74 im_Ps_run se_Ps_run rfl (nle rfl) rfl rfl (nle rfl) q8 (s_Ps_run (by omega) hw (fun h7 hw => ?_))
      show aW none m_Op_findPlan (d + 1) 64 [(0, ar v0), (1, ai v1), (2, ai v2)] [] h7 0 0 QQ
      refine r_aload_n (j := 0) d_Op_findPlan_64 rfl ?_
      obtain ⟨q9, hw⟩ := hw
      refine r_getR d_Op_findPlan_65 ok_6 (nle rfl) (nle rfl) rfl lf_Op_31 q9 ?_
      obtain ⟨q10, hw⟩ := hw
      refine r_getI d_Op_findPlan_68 ok_7 (nle rfl) (nle rfl) rfl lf_Op_78 q10 ?_
      refine r_if_le d_Op_findPlan_71 (fun w9 => ?_) (fun w9 => ?_)
      · replace hw := hw.1 w9
        refine r_iinc (j := 1) (ls2 := [(1, ai (v1 + (1 : Int32))), (0, ar v0), (2, ai v2)]) d_Op_findPlan_134 rfl (congrArg (HAdd.hAdd v1) kc_1) (nle rfl) rfl ?_
        refine r_goto d_Op_findPlan_137 ?_
        refine r_pick (ls2 := [(0, ar v0), (1, ai (v1 + (1 : Int32)))]) [1, 0] rfl ?_
        exact hk7 _ _ hw
      · replace hw := hw.2 w9
        refine r_aload_n (j := 0) d_Op_findPlan_74 rfl ?_
        refine r_getI d_Op_findPlan_75 ok_6 (nle rfl) (nle rfl) rfl lf_Op_51 q9 ?_
        refine r_if_eq d_Op_findPlan_78 (fun w9 => ?_) (fun w9 => ?_)
        · replace hw := hw.1 w9
          refine r_pick (ls2 := [(0, ar v0), (1, ai v1)]) [0, 1] rfl ?_
          exact s_Op_findPlan_B95 hd hQ hk7 hw
        · replace hw := hw.2 w9
          refine r_aload_n (j := 0) d_Op_findPlan_81 rfl ?_
          refine r_getR d_Op_findPlan_82 ok_6 (nle rfl) (nle rfl) rfl lf_Op_31 q9 ?_
          refine r_getI d_Op_findPlan_85 ok_7 (nle rfl) (nle rfl) rfl lf_Op_81 q10 ?_
          refine r_aload_n (j := 0) d_Op_findPlan_88 rfl ?_
          refine r_getI d_Op_findPlan_89 ok_6 (nle rfl) (nle rfl) rfl lf_Op_84 q9 ?_
          refine r_icmp_le d_Op_findPlan_92 (fun w9 => ?_) (fun w9 => ?_)
          · replace hw := hw.1 w9
            refine r_iinc (j := 1) (ls2 := [(1, ai (v1 + (1 : Int32))), (0, ar v0), (2, ai v2)]) d_Op_findPlan_134 rfl (congrArg (HAdd.hAdd v1) kc_1) (nle rfl) rfl ?_
            refine r_goto d_Op_findPlan_137 ?_
            refine r_pick (ls2 := [(0, ar v0), (1, ai (v1 + (1 : Int32)))]) [1, 0] rfl ?_
            exact hk7 _ _ hw
          · replace hw := hw.2 w9
            refine r_pick (ls2 := [(0, ar v0), (1, ai v1)]) [0, 1] rfl ?_
            exact s_Op_findPlan_B95 hd hQ hk7 hw
    · replace hw := hw.2 w9
      refine r_aload_n (j := 0) d_Op_findPlan_25 rfl ?_
      obtain ⟨q17, hw⟩ := hw
      refine r_getR d_Op_findPlan_26 ok_6 (nle rfl) (nle rfl) rfl lf_Op_21 q17 ?_
      refine r_iload_n (j := 2) d_Op_findPlan_29 rfl ?_
      refine r_aload_n (j := 0) d_Op_findPlan_30 rfl ?_
      refine r_getR d_Op_findPlan_31 ok_6 (nle rfl) (nle rfl) rfl lf_Op_27 q17 ?_
      refine r_iload_n (j := 2) d_Op_findPlan_34 rfl ?_
      obtain ⟨q20, hw⟩ := hw
      refine r_callV (av := [ai v2]) (rest := [ai v2, ar (gR h v0 5)]) (ci := 1) d_Op_findPlan_35 mk_Co_needOf ll_Op_67 im_Co_needOf se_Co_needOf rfl (nle rfl) rfl rfl (nle rfl) q20 (s_Co_needOf  hw (fun r19 h18 hw => ?_))
      show aW none m_Op_findPlan (d + 1) 38 [(0, ar v0), (1, ai v1), (2, ai v2)] [ai r19, ai v2, ar (gR h v0 5)] h18 0 0 QQ
      obtain ⟨q21, hw⟩ := hw
      obtain ⟨q22, hw⟩ := hw
      refine r_iast d_Op_findPlan_38 q21 q22 ?_
      refine r_iinc (j := 2) (ls2 := [(2, ai (v2 + (1 : Int32))), (0, ar v0), (1, ai v1)]) d_Op_findPlan_39 rfl (congrArg (HAdd.hAdd v2) kc_1) (nle rfl) rfl ?_
      refine r_goto d_Op_findPlan_42 ?_
      refine r_pick (ls2 := [(0, ar v0), (1, ai v1), (2, ai (v2 + (1 : Int32)))]) [1, 2, 0] rfl ?_
      exact ih _ _ hw
set_option maxRecDepth 100000 in
set_option maxHeartbeats 4000000 in
theorem s_Op_findPlan_L7 {d : Nat} (hd : 62 ≤ d + 1) {Q : Hp → Prop} {QQ : Option AV → Hp → Prop} (hQ : ∀ h9, Q h9 → QQ none h9) {v0 : Nat} : ∀ (n : Nat) (v1 : Int32) (h : Hp), w_Op_findPlan_L7 Q  v0 n v1 h → aW none m_Op_findPlan (d + 1) 7 [(0, ar v0), (1, ai v1)] [] h 0 0 QQ := by
  intro n
  induction n with
  | zero => intro v1 h hw; exact hw.elim
  | succ n ih =>
    intro v1 h hw
    unfold w_Op_findPlan_L7 at hw
    refine r_iload_n (j := 1) d_Op_findPlan_7 rfl ?_
    refine r_aload_n (j := 0) d_Op_findPlan_8 rfl ?_
    obtain ⟨q2, hw⟩ := hw
    refine r_getR d_Op_findPlan_9 ok_6 (nle rfl) (nle rfl) rfl lf_Op_27 q2 ?_
    obtain ⟨q5, hw⟩ := hw
    refine r_callV (av := []) (rest := [ai v1]) (ci := 1) d_Op_findPlan_12 mk_Co_steps ll_Op_64 im_Co_steps se_Co_steps rfl (nle rfl) rfl rfl (nle rfl) q5 (s_Co_steps  hw (fun r4 h3 hw => ?_))
    show aW none m_Op_findPlan (d + 1) 15 [(0, ar v0), (1, ai v1)] [ai r4, ai v1] h3 0 0 QQ
    refine r_icmp_gt d_Op_findPlan_15 (fun w9 => ?_) (fun w9 => ?_)
    · replace hw := hw.1 w9
      exact r_return d_Op_findPlan_140.1 rfl (hQ _ hw)
    · replace hw := hw.2 w9
      refine r_iconst d_Op_findPlan_18 kc_0 ?_
      refine r_istore_n (ls2 := [(2, ai (0 : Int32)), (0, ar v0), (1, ai v1)]) d_Op_findPlan_19 (nle rfl) rfl ?_
      obtain ⟨n23, hw⟩ := hw
      refine r_pick (ls2 := [(0, ar v0), (1, ai v1), (2, ai (0 : Int32))]) [1, 2, 0] rfl ?_
      exact s_Op_findPlan_L20 hd hQ ih n23 _ _ hw
set_option maxRecDepth 100000 in
set_option maxHeartbeats 4000000 in
theorem s_Op_findPlan {d : Nat} (hd : 62 ≤ d) {v0 : Nat} {h : Hp} {Q : Hp → Prop} {QQ : Option AV → Hp → Prop} (hw : w_Op_findPlan v0 h Q) (hQ : ∀ h9, Q h9 → QQ none h9) : aCall m_Op_findPlan d [ar v0] h 0 0 QQ := by
  obtain ⟨d, rfl⟩ : ∃ d9, d = d9 + 1 := ⟨d - 1, by omega⟩
  refine aCall_in pl_Op_findPlan (nle rfl) ?_
  show aW none m_Op_findPlan (d + 1) 0 [(0, ar v0)] [] h 0 0 QQ
  unfold w_Op_findPlan at hw
  refine r_aload_n (j := 0) d_Op_findPlan_0 rfl ?_
  refine r_iconst d_Op_findPlan_1 kc_0 ?_
  obtain ⟨q1, hw⟩ := hw
  refine r_putZ d_Op_findPlan_2 ok_6 (nle rfl) (nle rfl) rfl lf_Op_51 rfl q1 (Or.inl rfl) ?_
  refine r_iconst d_Op_findPlan_5 kc_0 ?_
  refine r_istore_n (ls2 := [(1, ai (0 : Int32)), (0, ar v0)]) d_Op_findPlan_6 (nle rfl) rfl ?_
  obtain ⟨n24, hw⟩ := hw
  refine r_pick (ls2 := [(0, ar v0), (1, ai (0 : Int32))]) [1, 0] rfl ?_
  exact s_Op_findPlan_L7 hd hQ  n24 _ _ hw
set_option maxRecDepth 100000 in
set_option maxHeartbeats 4000000 in
theorem s_Op_straySorted_L28 {d : Nat} (hd : 2 ≤ d + 1) {Q : Int32 → Hp → Prop} {QQ : Option AV → Hp → Prop} (hQ : ∀ r9 h9, Q r9 h9 → QQ (some (ai r9)) h9) {k14 : Int32 → Int32 → Int32 → Hp → Prop} (hk14 : ∀ v1 v2 v3 h9, k14 v1 v2 v3 h9 → aW none m_Op_straySorted (d + 1) 14 [(0, ar v0), (1, ai v1), (2, ai v2), (3, ai v3)] [] h9 0 0 QQ) {v0 : Nat} {v3 : Int32} : ∀ (n : Nat) (v1 : Int32) (v2 : Int32) (v4 : Int32) (h : Hp), w_Op_straySorted_L28 Q k14 v0 v3 n v1 v2 v4 h → aW none m_Op_straySorted (d + 1) 28 [(0, ar v0), (1, ai v1), (2, ai v2), (3, ai v3), (4, ai v4)] [] h 0 0 QQ := by
  intro n
  induction n with
  | zero => intro v1 v2 v4 h hw; exact hw.elim
  | succ n ih =>
    intro v1 v2 v4 h hw
    unfold w_Op_straySorted_L28 at hw
    refine r_iload (j := 4) d_Op_straySorted_28 rfl ?_
    refine r_aload_n (j := 0) d_Op_straySorted_30 rfl ?_
    obtain ⟨q5, hw⟩ := hw
    refine r_getR d_Op_straySorted_31 ok_6 (nle rfl) (nle rfl) rfl lf_Op_9 q5 ?_
    refine r_iload_n (j := 3) d_Op_straySorted_34 rfl ?_
    obtain ⟨q6, hw⟩ := hw
    obtain ⟨q7, hw⟩ := hw
    refine r_iald d_Op_straySorted_35 q6 q7 ?_
    refine r_icmp_ge d_Op_straySorted_36 (fun w9 => ?_) (fun w9 => ?_)
    · replace hw := hw.1 w9
      refine r_iinc (j := 3) (ls2 := [(3, ai (v3 + (1 : Int32))), (0, ar v0), (1, ai v1), (2, ai v2), (4, ai v4)]) d_Op_straySorted_82 rfl (congrArg (HAdd.hAdd v3) kc_1) (nle rfl) rfl ?_
      refine r_goto d_Op_straySorted_85 ?_
      refine r_pick (ls2 := [(0, ar v0), (1, ai v1), (2, ai v2), (3, ai (v3 + (1 : Int32)))]) [1, 2, 3, 0] rfl ?_
      exact hk14 _ _ _ _ hw
    · replace hw := hw.2 w9
      refine r_aload_n (j := 0) d_Op_straySorted_39 rfl ?_
      refine r_getR d_Op_straySorted_40 ok_6 (nle rfl) (nle rfl) rfl lf_Op_27 q5 ?_
      refine r_aload_n (j := 0) d_Op_straySorted_43 rfl ?_
      refine r_getR d_Op_straySorted_44 ok_6 (nle rfl) (nle rfl) rfl lf_Op_21 q5 ?_
      refine r_iload_n (j := 3) d_Op_straySorted_47 rfl ?_
      refine r_iconst d_Op_straySorted_48 kc_1 ?_
      obtain ⟨q9, hw⟩ := hw
      refine r_callV (av := [ar (gR h v0 5), ai v3, ai (1 : Int32)]) (rest := []) (ci := 1) d_Op_straySorted_49 mk_Co_addTo ll_Op_130 im_Co_addTo se_Co_addTo rfl (nle rfl) rfl rfl (nle rfl) q9 (s_Co_addTo (by omega) hw (fun h8 hw => ?_))
      show aW none m_Op_straySorted (d + 1) 52 [(0, ar v0), (1, ai v1), (2, ai v2), (3, ai v3), (4, ai v4)] [] h8 0 0 QQ
      refine r_iinc (j := 2) (ls2 := [(2, ai (v2 + (1 : Int32))), (0, ar v0), (1, ai v1), (3, ai v3), (4, ai v4)]) d_Op_straySorted_52 rfl (congrArg (HAdd.hAdd v2) kc_1) (nle rfl) rfl ?_
      refine r_iload_n (j := 2) d_Op_straySorted_55 rfl ?_
      refine r_aload_n (j := 1) d_Op_straySorted_56 rfl ?_
      obtain ⟨q10, hw⟩ := hw
      refine r_getR d_Op_straySorted_57 ok_6 (nle rfl) (nle rfl) rfl lf_Op_27 q10 ?_
      refine r_aload_n (j := 1) d_Op_straySorted_60 rfl ?_
      refine r_getR d_Op_straySorted_61 ok_6 (nle rfl) (nle rfl) rfl lf_Op_21 q10 ?_
      refine r_aload_n (j := 1) d_Op_straySorted_64 rfl ?_
      refine r_getI d_Op_straySorted_65 ok_6 (nle rfl) (nle rfl) rfl lf_Op_85 q10 ?_
      refine r_iload_n (j := 0) d_Op_straySorted_68 rfl ?_
      obtain ⟨q13, hw⟩ := hw
      refine r_callV (av := [ar (gR h8 v0 5), ai (gI h8 v0 12), ai (v2 + (1 : Int32))]) (rest := [ai v1]) (ci := 1) d_Op_straySorted_69 mk_Co_strayAt ll_Op_134 im_Co_strayAt se_Co_strayAt rfl (nle rfl) rfl rfl (nle rfl) q13 (s_Co_strayAt (by omega) hw (fun r12 h11 hw => ?_))
      show aW none m_Op_straySorted (d + 1) 72 [(2, ai (v2 + (1 : Int32))), (0, ar v0), (1, ai v1), (3, ai v3), (4, ai v4)] [ai r12, ai v1] h11 0 0 QQ
      refine r_callS (av := [ai v1, ai r12]) (rest := []) d_Op_straySorted_72 mk_JM_max ll_Op_109 st_JM_max rfl rfl (nle rfl) (s_JM_max  hw (fun r15 h14 hw => ?_))
      show aW none m_Op_straySorted (d + 1) 75 [(2, ai (v2 + (1 : Int32))), (0, ar v0), (1, ai v1), (3, ai v3), (4, ai v4)] [ai r15] h14 0 0 QQ
      refine r_istore_n (ls2 := [(1, ai r15), (2, ai (v2 + (1 : Int32))), (0, ar v0), (3, ai v3), (4, ai v4)]) d_Op_straySorted_75 (nle rfl) rfl ?_
      refine r_iinc (j := 4) (ls2 := [(4, ai (v4 + (1 : Int32))), (1, ai r15), (2, ai (v2 + (1 : Int32))), (0, ar v0), (3, ai v3)]) d_Op_straySorted_76 rfl (congrArg (HAdd.hAdd v4) kc_1) (nle rfl) rfl ?_
      refine r_goto d_Op_straySorted_79 ?_
      refine r_pick (ls2 := [(0, ar v0), (1, ai r15), (2, ai (v2 + (1 : Int32))), (3, ai v3), (4, ai (v4 + (1 : Int32)))]) [3, 1, 2, 4, 0] rfl ?_
      exact ih _ _ _ _ hw
set_option maxRecDepth 100000 in
set_option maxHeartbeats 4000000 in
theorem s_Op_straySorted_L14 {d : Nat} (hd : 2 ≤ d + 1) {Q : Int32 → Hp → Prop} {QQ : Option AV → Hp → Prop} (hQ : ∀ r9 h9, Q r9 h9 → QQ (some (ai r9)) h9) {v0 : Nat} : ∀ (n : Nat) (v1 : Int32) (v2 : Int32) (v3 : Int32) (h : Hp), w_Op_straySorted_L14 Q  v0 n v1 v2 v3 h → aW none m_Op_straySorted (d + 1) 14 [(0, ar v0), (1, ai v1), (2, ai v2), (3, ai v3)] [] h 0 0 QQ := by
  intro n
  induction n with
  | zero => intro v1 v2 v3 h hw; exact hw.elim
  | succ n ih =>
    intro v1 v2 v3 h hw
    unfold w_Op_straySorted_L14 at hw
    refine r_iload_n (j := 3) d_Op_straySorted_14 rfl ?_
    refine r_aload_n (j := 0) d_Op_straySorted_15 rfl ?_
    obtain ⟨q3, hw⟩ := hw
    refine r_getR d_Op_straySorted_16 ok_6 (nle rfl) (nle rfl) rfl lf_Op_27 q3 ?_
    obtain ⟨q4, hw⟩ := hw
    refine r_getI d_Op_straySorted_19 ok_1 (nle rfl) (nle rfl) rfl lf_Op_100 q4 ?_
    refine r_icmp_ge d_Op_straySorted_22 (fun w9 => ?_) (fun w9 => ?_)
    · replace hw := hw.1 w9
      refine r_iload_n (j := 1) d_Op_straySorted_88 rfl ?_
      exact r_ireturn d_Op_straySorted_89.1 rfl (hQ _ _ hw)
    · replace hw := hw.2 w9
      refine r_iconst d_Op_straySorted_25 kc_0 ?_
      refine r_istore (ls2 := [(4, ai (0 : Int32)), (0, ar v0), (1, ai v1), (2, ai v2), (3, ai v3)]) d_Op_straySorted_26 (nle rfl) rfl ?_
      obtain ⟨n16, hw⟩ := hw
      refine r_pick (ls2 := [(0, ar v0), (1, ai v1), (2, ai v2), (3, ai v3), (4, ai (0 : Int32))]) [1, 2, 3, 4, 0] rfl ?_
      exact s_Op_straySorted_L28 hd hQ ih n16 _ _ _ _ hw
set_option maxRecDepth 100000 in
set_option maxHeartbeats 4000000 in
theorem s_Op_straySorted {d : Nat} (hd : 2 ≤ d) {v0 : Nat} {h : Hp} {Q : Int32 → Hp → Prop} {QQ : Option AV → Hp → Prop} (hw : w_Op_straySorted v0 h Q) (hQ : ∀ r9 h9, Q r9 h9 → QQ (some (ai r9)) h9) : aCall m_Op_straySorted d [ar v0] h 0 0 QQ := by
  obtain ⟨d, rfl⟩ : ∃ d9, d = d9 + 1 := ⟨d - 1, by omega⟩
  refine aCall_in pl_Op_straySorted (nle rfl) ?_
  show aW none m_Op_straySorted (d + 1) 0 [(0, ar v0)] [] h 0 0 QQ
  unfold w_Op_straySorted at hw
  refine r_aload_n (j := 0) d_Op_straySorted_0 rfl ?_
  obtain ⟨q1, hw⟩ := hw
  refine r_getR d_Op_straySorted_1 ok_6 (nle rfl) (nle rfl) rfl lf_Op_21 q1 ?_
  refine r_iconst d_Op_straySorted_4 kc_0 ?_
  refine r_callS (av := [ar (gR h v0 5), ai (0 : Int32)]) (rest := []) d_Op_straySorted_5 mk_JA_fill_IIV ll_Op_121 st_JA_fill_IIV rfl rfl (nle rfl) (s_JA_fill_IIV  hw (fun h2 hw => ?_))
  show aW none m_Op_straySorted (d + 1) 8 [(0, ar v0)] [] h2 0 0 QQ
  refine r_iconst d_Op_straySorted_8 kc_0 ?_
  refine r_istore_n (ls2 := [(1, ai (0 : Int32)), (0, ar v0)]) d_Op_straySorted_9 (nle rfl) rfl ?_
  refine r_iconst d_Op_straySorted_10 kc_0 ?_
  refine r_istore_n (ls2 := [(2, ai (0 : Int32)), (1, ai (0 : Int32)), (0, ar v0)]) d_Op_straySorted_11 (nle rfl) rfl ?_
  refine r_iconst d_Op_straySorted_12 kc_0 ?_
  refine r_istore_n (ls2 := [(3, ai (0 : Int32)), (2, ai (0 : Int32)), (1, ai (0 : Int32)), (0, ar v0)]) d_Op_straySorted_13 (nle rfl) rfl ?_
  obtain ⟨n17, hw⟩ := hw
  refine r_pick (ls2 := [(0, ar v0), (1, ai (0 : Int32)), (2, ai (0 : Int32)), (3, ai (0 : Int32))]) [3, 2, 1, 0] rfl ?_
  exact s_Op_straySorted_L14 hd hQ  n17 _ _ _ _ hw
set_option maxRecDepth 100000 in
set_option maxHeartbeats 4000000 in
theorem s_Op_find_B21 {d : Nat} (hd : 63 ≤ d + 1) {Q : Bool → Hp → Prop} {QQ : Option AV → Hp → Prop} (hQ : ∀ r9 h9, Q r9 h9 → QQ (some (ai (b2i r9))) h9) {v0 : Nat} {h : Hp} (hw : w_Op_find_B21 Q  v0 h) : aW none m_Op_find (d + 1) 21 [(0, ar v0)] [] h 0 0 QQ := by
  unfold w_Op_find_B21 at hw
  refine r_aload_n (j := 0) d_Op_find_21 rfl ?_
  refine r_iconst d_Op_find_22 kc_1 ?_
  obtain ⟨q2, hw⟩ := hw
  refine r_putZ d_Op_find_23 ok_6 (nle rfl) (nle rfl) rfl lf_Op_35 rfl q2 (Or.inr rfl) ?_
  refine r_aload_n (j := 0) d_Op_find_26 rfl ?_
  refine r_aload_n (j := 0) d_Op_find_27 rfl ?_
  refine r_getR d_Op_find_28 ok_6 (nle rfl) (nle rfl) rfl lf_Op_27 q2 ?_
  obtain ⟨q3, hw⟩ := hw
  refine r_getI d_Op_find_31 ok_1 (nle rfl) (nle rfl) rfl lf_Op_43 q3 ?_
  refine r_putI d_Op_find_34 ok_6 (nle rfl) (nle rfl) rfl lf_Op_39 rfl q2 ?_
  refine r_aload_n (j := 0) d_Op_find_37 rfl ?_
  refine r_callV (av := []) (rest := []) (ci := 6) d_Op_find_38 mk_Op_findPlan ll_Op_48 im_Op_findPlan se_Op_findPlan rfl (nle rfl) rfl rfl (nle rfl) q2 (s_Op_findPlan (by omega) hw (fun h4 hw => ?_))
  show aW none m_Op_find (d + 1) 41 [(0, ar v0)] [] h4 0 0 QQ
  refine r_aload_n (j := 0) d_Op_find_41 rfl ?_
  obtain ⟨q5, hw⟩ := hw
  refine r_getI d_Op_find_42 ok_6 (nle rfl) (nle rfl) rfl lf_Op_51 q5 ?_
  refine r_if_eq d_Op_find_45 (fun w9 => ?_) (fun w9 => ?_)
  · replace hw := hw.1 w9
    refine r_aload_n (j := 0) d_Op_find_60 rfl ?_
    refine r_getI d_Op_find_61 ok_6 (nle rfl) (nle rfl) rfl lf_Op_51 q5 ?_
    obtain ⟨q6, hw⟩ := hw
    exact r_zreturn d_Op_find_64.1 rfl q6 (by have g9 := hQ _ _ hw; rwa [b2i_i q6] at g9)
  · replace hw := hw.2 w9
    refine r_aload_n (j := 0) d_Op_find_48 rfl ?_
    refine r_callV (av := []) (rest := []) (ci := 6) d_Op_find_49 mk_Op_findOrder ll_Op_54 im_Op_findOrder se_Op_findOrder rfl (nle rfl) rfl rfl (nle rfl) q5 (s_Op_findOrder (by omega) hw (fun h7 hw => ?_))
    show aW none m_Op_find (d + 1) 52 [(0, ar v0)] [] h7 0 0 QQ
    refine r_aload_n (j := 0) d_Op_find_52 rfl ?_
    refine r_aload_n (j := 0) d_Op_find_53 rfl ?_
    obtain ⟨q10, hw⟩ := hw
    refine r_callV (av := []) (rest := [ar v0]) (ci := 6) d_Op_find_54 mk_Op_straySorted ll_Op_57 im_Op_straySorted se_Op_straySorted rfl (nle rfl) rfl rfl (nle rfl) q10 (s_Op_straySorted (by omega) hw (fun r9 h8 hw => ?_))
    show aW none m_Op_find (d + 1) 57 [(0, ar v0)] [ai r9, ar v0] h8 0 0 QQ
    obtain ⟨q11, hw⟩ := hw
    refine r_putI d_Op_find_57 ok_6 (nle rfl) (nle rfl) rfl lf_Op_61 rfl q11 ?_
    refine r_aload_n (j := 0) d_Op_find_60 rfl ?_
    refine r_getI d_Op_find_61 ok_6 (nle rfl) (nle rfl) rfl lf_Op_51 q11 ?_
    obtain ⟨q12, hw⟩ := hw
    exact r_zreturn d_Op_find_64.1 rfl q12 (by have g9 := hQ _ _ hw; rwa [b2i_i q12] at g9)
set_option maxRecDepth 100000 in
set_option maxHeartbeats 4000000 in
theorem s_Op_find {d : Nat} (hd : 63 ≤ d) {v0 : Nat} {h : Hp} {Q : Bool → Hp → Prop} {QQ : Option AV → Hp → Prop} (hw : w_Op_find v0 h Q) (hQ : ∀ r9 h9, Q r9 h9 → QQ (some (ai (b2i r9))) h9) : aCall m_Op_find d [ar v0] h 0 0 QQ := by
  obtain ⟨d, rfl⟩ : ∃ d9, d = d9 + 1 := ⟨d - 1, by omega⟩
  refine aCall_in pl_Op_find (nle rfl) ?_
  show aW none m_Op_find (d + 1) 0 [(0, ar v0)] [] h 0 0 QQ
  unfold w_Op_find at hw
  refine r_aload_n (j := 0) d_Op_find_0 rfl ?_
  obtain ⟨q1, hw⟩ := hw
  refine r_getI d_Op_find_1 ok_6 (nle rfl) (nle rfl) rfl lf_Op_35 q1 ?_
  refine r_if_eq d_Op_find_4 (fun w9 => ?_) (fun w9 => ?_)
  · replace hw := hw.1 w9
    exact s_Op_find_B21 hd hQ  hw
  · replace hw := hw.2 w9
    refine r_aload_n (j := 0) d_Op_find_7 rfl ?_
    refine r_getI d_Op_find_8 ok_6 (nle rfl) (nle rfl) rfl lf_Op_39 q1 ?_
    refine r_aload_n (j := 0) d_Op_find_11 rfl ?_
    refine r_getR d_Op_find_12 ok_6 (nle rfl) (nle rfl) rfl lf_Op_27 q1 ?_
    obtain ⟨q13, hw⟩ := hw
    refine r_getI d_Op_find_15 ok_1 (nle rfl) (nle rfl) rfl lf_Op_43 q13 ?_
    refine r_icmp_eq d_Op_find_18 (fun w9 => ?_) (fun w9 => ?_)
    · replace hw := hw.1 w9
      refine r_aload_n (j := 0) d_Op_find_60 rfl ?_
      refine r_getI d_Op_find_61 ok_6 (nle rfl) (nle rfl) rfl lf_Op_51 q1 ?_
      obtain ⟨q14, hw⟩ := hw
      exact r_zreturn d_Op_find_64.1 rfl q14 (by have g9 := hQ _ _ hw; rwa [b2i_i q14] at g9)
    · replace hw := hw.2 w9
      exact s_Op_find_B21 hd hQ  hw
set_option maxRecDepth 100000 in
set_option maxHeartbeats 4000000 in
theorem s_Op_oftenOf {d : Nat} {v0 : Nat} {v1 : Int32} {h : Hp} {Q : Int32 → Hp → Prop} {QQ : Option AV → Hp → Prop} (hw : w_Op_oftenOf v0 v1 h Q) (hQ : ∀ r9 h9, Q r9 h9 → QQ (some (ai r9)) h9) : aCall m_Op_oftenOf d [ar v0, ai v1] h 0 0 QQ := by
  refine aCall_in pl_Op_oftenOf (nle rfl) ?_
  show aW none m_Op_oftenOf d 0 [(0, ar v0), (1, ai v1)] [] h 0 0 QQ
  unfold w_Op_oftenOf at hw
  refine r_aload_n (j := 0) d_Op_oftenOf_0 rfl ?_
  obtain ⟨q1, hw⟩ := hw
  refine r_getR d_Op_oftenOf_1 ok_6 (nle rfl) (nle rfl) rfl lf_Op_9 q1 ?_
  refine r_iload_n (j := 1) d_Op_oftenOf_4 rfl ?_
  obtain ⟨q2, hw⟩ := hw
  obtain ⟨q3, hw⟩ := hw
  refine r_iald d_Op_oftenOf_5 q2 q3 ?_
  exact r_ireturn d_Op_oftenOf_6.1 rfl (hQ _ _ hw)
set_option maxRecDepth 100000 in
set_option maxHeartbeats 4000000 in
theorem s_Op_columnAt {d : Nat} {v0 : Nat} {v1 : Int32} {h : Hp} {Q : Int32 → Hp → Prop} {QQ : Option AV → Hp → Prop} (hw : w_Op_columnAt v0 v1 h Q) (hQ : ∀ r9 h9, Q r9 h9 → QQ (some (ai r9)) h9) : aCall m_Op_columnAt d [ar v0, ai v1] h 0 0 QQ := by
  refine aCall_in pl_Op_columnAt (nle rfl) ?_
  show aW none m_Op_columnAt d 0 [(0, ar v0), (1, ai v1)] [] h 0 0 QQ
  unfold w_Op_columnAt at hw
  refine r_aload_n (j := 0) d_Op_columnAt_0 rfl ?_
  obtain ⟨q1, hw⟩ := hw
  refine r_getR d_Op_columnAt_1 ok_6 (nle rfl) (nle rfl) rfl lf_Op_18 q1 ?_
  refine r_iload_n (j := 1) d_Op_columnAt_4 rfl ?_
  obtain ⟨q2, hw⟩ := hw
  obtain ⟨q3, hw⟩ := hw
  refine r_iald d_Op_columnAt_5 q2 q3 ?_
  exact r_ireturn d_Op_columnAt_6.1 rfl (hQ _ _ hw)
set_option maxRecDepth 100000 in
set_option maxHeartbeats 4000000 in
theorem s_Ps_init {d : Nat} (hd : 1 ≤ d) {v0 : Nat} {bc bs : Nat} {h : Hp} {Q : Hp → Prop} {QQ : Option AV → Hp → Prop} (hw : w_Ps_init bc bs v0 h Q) (hQ : ∀ h9, Q h9 → QQ none h9) : aCall m_Ps_init d [ar v0] h bc bs QQ := by
  obtain ⟨d, rfl⟩ : ∃ d9, d = d9 + 1 := ⟨d - 1, by omega⟩
  refine aCall_in pl_Ps_init (nle rfl) ?_
  show aW none m_Ps_init (d + 1) 0 [(0, ar v0)] [] h bc bs QQ
  unfold w_Ps_init at hw
  refine r_aload_n (j := 0) d_Ps_init_0 rfl ?_
  obtain ⟨q1, hw⟩ := hw
  refine r_objInit d_Ps_init_1 ll_Ps_3 oi_1 oi_2 (nle rfl) q1 ?_
  refine r_aload_n (j := 0) d_Ps_init_4 rfl ?_
  refine r_iconst d_Ps_init_5 kc_3 ?_
  obtain ⟨q2, hw⟩ := hw
  obtain ⟨b3, t4, u8, u9, u6, u7, hw⟩ := hw
  subst u8 u9
  refine r_newI d_Ps_init_6 ac_I u6 rfl u7 (refB_r q2 refB_n) (refL_r q2 refL_n) ?_
  generalize e8 : nw h 20 (ix (3 : Int32)) = h5 at hw ⊢
  generalize e7 : gX h = a6 at hw ⊢
  replace hw := hw a6 h5 e7.symm e8.symm
  obtain ⟨q7, hw⟩ := hw
  obtain ⟨q8, hw⟩ := hw
  refine r_putFR d_Ps_init_8 ok_7 (nle rfl) (nle rfl) rfl lf_Ps_9 rfl rfl rfl q7 q8 ?_
  refine r_aload_n (j := 0) d_Ps_init_11 rfl ?_
  refine r_bipush d_Ps_init_12 kb_8 ?_
  obtain ⟨q9, hw⟩ := hw
  obtain ⟨b10, t11, u8, u9, u6, u7, hw⟩ := hw
  subst u8 u9
  refine r_newI d_Ps_init_14 ac_I u6 rfl u7 (refB_r q9 refB_n) (refL_r q9 refL_n) ?_
  generalize e8 : nw (sR h5 v0 0 a6) 20 (ix (8 : Int32)) = h12 at hw ⊢
  generalize e7 : gX (sR h5 v0 0 a6) = a13 at hw ⊢
  replace hw := hw a13 h12 e7.symm e8.symm
  obtain ⟨q14, hw⟩ := hw
  obtain ⟨q15, hw⟩ := hw
  refine r_putFR d_Ps_init_16 ok_7 (nle rfl) (nle rfl) rfl lf_Ps_15 rfl rfl rfl q14 q15 ?_
  refine r_aload_n (j := 0) d_Ps_init_19 rfl ?_
  refine r_bipush d_Ps_init_20 kb_8 ?_
  obtain ⟨q16, hw⟩ := hw
  obtain ⟨b17, t18, u8, u9, u6, u7, hw⟩ := hw
  subst u8 u9
  refine r_newI d_Ps_init_22 ac_I u6 rfl u7 (refB_r q16 refB_n) (refL_r q16 refL_n) ?_
  generalize e8 : nw (sR h12 v0 1 a13) 20 (ix (8 : Int32)) = h19 at hw ⊢
  generalize e7 : gX (sR h12 v0 1 a13) = a20 at hw ⊢
  replace hw := hw a20 h19 e7.symm e8.symm
  obtain ⟨q21, hw⟩ := hw
  obtain ⟨q22, hw⟩ := hw
  refine r_putFR d_Ps_init_24 ok_7 (nle rfl) (nle rfl) rfl lf_Ps_18 rfl rfl rfl q21 q22 ?_
  refine r_aload_n (j := 0) d_Ps_init_27 rfl ?_
  refine r_bipush d_Ps_init_28 kb_24 ?_
  obtain ⟨q23, hw⟩ := hw
  obtain ⟨b24, t25, u8, u9, u6, u7, hw⟩ := hw
  subst u8 u9
  refine r_newI d_Ps_init_30 ac_I u6 rfl u7 (refB_r q23 refB_n) (refL_r q23 refL_n) ?_
  generalize e8 : nw (sR h19 v0 2 a20) 20 (ix (24 : Int32)) = h26 at hw ⊢
  generalize e7 : gX (sR h19 v0 2 a20) = a27 at hw ⊢
  replace hw := hw a27 h26 e7.symm e8.symm
  obtain ⟨q28, hw⟩ := hw
  obtain ⟨q29, hw⟩ := hw
  refine r_putFR d_Ps_init_32 ok_7 (nle rfl) (nle rfl) rfl lf_Ps_21 rfl rfl rfl q28 q29 ?_
  refine r_aload_n (j := 0) d_Ps_init_35 rfl ?_
  refine r_bipush d_Ps_init_36 kb_24 ?_
  obtain ⟨q30, hw⟩ := hw
  obtain ⟨b31, t32, u8, u9, u6, u7, hw⟩ := hw
  subst u8 u9
  refine r_newI d_Ps_init_38 ac_I u6 rfl u7 (refB_r q30 refB_n) (refL_r q30 refL_n) ?_
  generalize e8 : nw (sR h26 v0 3 a27) 20 (ix (24 : Int32)) = h33 at hw ⊢
  generalize e7 : gX (sR h26 v0 3 a27) = a34 at hw ⊢
  replace hw := hw a34 h33 e7.symm e8.symm
  obtain ⟨q35, hw⟩ := hw
  obtain ⟨q36, hw⟩ := hw
  refine r_putFR d_Ps_init_40 ok_7 (nle rfl) (nle rfl) rfl lf_Ps_24 rfl rfl rfl q35 q36 ?_
  refine r_aload_n (j := 0) d_Ps_init_43 rfl ?_
  refine r_bipush d_Ps_init_44 kb_24 ?_
  obtain ⟨q37, hw⟩ := hw
  obtain ⟨b38, t39, u8, u9, u6, u7, hw⟩ := hw
  subst u8 u9
  refine r_newI d_Ps_init_46 ac_I u6 rfl u7 (refB_r q37 refB_n) (refL_r q37 refL_n) ?_
  generalize e8 : nw (sR h33 v0 4 a34) 20 (ix (24 : Int32)) = h40 at hw ⊢
  generalize e7 : gX (sR h33 v0 4 a34) = a41 at hw ⊢
  replace hw := hw a41 h40 e7.symm e8.symm
  obtain ⟨q42, hw⟩ := hw
  obtain ⟨q43, hw⟩ := hw
  refine r_putFR d_Ps_init_48 ok_7 (nle rfl) (nle rfl) rfl lf_Ps_27 rfl rfl rfl q42 q43 ?_
  exact r_return d_Ps_init_51.1 rfl (hQ _ hw)
set_option maxRecDepth 100000 in
set_option maxHeartbeats 4000000 in
theorem s_Rd_init {d : Nat} (hd : 2 ≤ d) {v0 : Nat} {v1 : Nat} {bc bs : Nat} {h : Hp} {Q : Hp → Prop} {QQ : Option AV → Hp → Prop} (hw : w_Rd_init bc bs v0 v1 h Q) (hQ : ∀ h9, Q h9 → QQ none h9) : aCall m_Rd_init d [ar v0, ar v1] h bc bs QQ := by
  obtain ⟨d, rfl⟩ : ∃ d9, d = d9 + 1 := ⟨d - 1, by omega⟩
  refine aCall_in pl_Rd_init (nle rfl) ?_
  show aW none m_Rd_init (d + 1) 0 [(0, ar v0), (1, ar v1)] [] h bc bs QQ
  unfold w_Rd_init at hw
  refine r_aload_n (j := 0) d_Rd_init_0 rfl ?_
  obtain ⟨q1, hw⟩ := hw
  refine r_objInit d_Rd_init_1 ll_Rd_3 oi_1 oi_2 (nle rfl) q1 ?_
  refine r_aload_n (j := 0) d_Rd_init_4 rfl ?_
  obtain ⟨q2, hw⟩ := hw
  obtain ⟨q3, hw⟩ := hw
  obtain ⟨b4, t5, u8, u9, hw⟩ := hw
  subst u8 u9
  refine r_new d_Rd_init_5 ok_1 (nle rfl) ty_1 lk_Rd_9 in_1 ini_1 (refB_r q2 refB_n) (refL_r q2 (refL_r q3 refL_n)) ?_
  generalize e8 : nw h 1 0 = h6 at hw ⊢
  generalize e7 : gX h = a7 at hw ⊢
  replace hw := hw a7 h6 e7.symm e8.symm
  refine r_dup d_Rd_init_8 rfl ?_
  obtain ⟨q9, hw⟩ := hw
  obtain ⟨q10, hw⟩ := hw
  obtain ⟨q11, hw⟩ := hw
  obtain ⟨q16, hw⟩ := hw
  obtain ⟨b12, t13, m14, m15, u8, u9, hw⟩ := hw
  subst u8 u9
  refine r_callI (av := []) (rest := [ar a7, ar v0]) d_Rd_init_9 mk_Co_init ll_Rd_11 im_Co_init rfl rfl rfl rfl (nle rfl) (refB_r q10 (refB_r q9 refB_n)) (refL_r q9 (refL_r q11 refL_n)) q16 (s_Co_init (by omega) hw (fun h8 hw => ?_))
  show aW none m_Rd_init (d + 1) 12 [(0, ar v0), (1, ar v1)] [ar a7, ar v0] h8 b12 t13 QQ
  obtain ⟨q17, hw⟩ := hw
  obtain ⟨q18, hw⟩ := hw
  refine r_putFR d_Rd_init_12 ok_8 (nle rfl) (nle rfl) rfl lf_Rd_12 rfl rfl rfl q17 q18 ?_
  refine r_aload_n (j := 0) d_Rd_init_15 rfl ?_
  refine r_bipush d_Rd_init_16 kb_8 ?_
  obtain ⟨q19, hw⟩ := hw
  obtain ⟨q20, hw⟩ := hw
  obtain ⟨b21, t22, u8, u9, u6, u7, hw⟩ := hw
  subst u8 u9
  refine r_newI d_Rd_init_18 ac_I u6 rfl u7 (refB_r q19 refB_n) (refL_r q19 (refL_r q20 refL_n)) ?_
  generalize e8 : nw (sR h8 v0 1 a7) 20 (ix (8 : Int32)) = h23 at hw ⊢
  generalize e7 : gX (sR h8 v0 1 a7) = a24 at hw ⊢
  replace hw := hw a24 h23 e7.symm e8.symm
  obtain ⟨q25, hw⟩ := hw
  obtain ⟨q26, hw⟩ := hw
  refine r_putFR d_Rd_init_20 ok_8 (nle rfl) (nle rfl) rfl lf_Rd_18 rfl rfl rfl q25 q26 ?_
  refine r_aload_n (j := 0) d_Rd_init_23 rfl ?_
  refine r_bipush d_Rd_init_24 kb_8 ?_
  obtain ⟨q27, hw⟩ := hw
  obtain ⟨q28, hw⟩ := hw
  obtain ⟨b29, t30, u8, u9, u6, u7, hw⟩ := hw
  subst u8 u9
  refine r_newI d_Rd_init_26 ac_I u6 rfl u7 (refB_r q27 refB_n) (refL_r q27 (refL_r q28 refL_n)) ?_
  generalize e8 : nw (sR h23 v0 2 a24) 20 (ix (8 : Int32)) = h31 at hw ⊢
  generalize e7 : gX (sR h23 v0 2 a24) = a32 at hw ⊢
  replace hw := hw a32 h31 e7.symm e8.symm
  obtain ⟨q33, hw⟩ := hw
  obtain ⟨q34, hw⟩ := hw
  refine r_putFR d_Rd_init_28 ok_8 (nle rfl) (nle rfl) rfl lf_Rd_22 rfl rfl rfl q33 q34 ?_
  refine r_aload_n (j := 0) d_Rd_init_31 rfl ?_
  refine r_iconst d_Rd_init_32 kc_m1 ?_
  refine r_putI d_Rd_init_33 ok_8 (nle rfl) (nle rfl) rfl lf_Rd_25 rfl q33 ?_
  refine r_aload_n (j := 0) d_Rd_init_36 rfl ?_
  refine r_aload_n (j := 1) d_Rd_init_37 rfl ?_
  obtain ⟨q35, hw⟩ := hw
  refine r_putFR d_Rd_init_38 ok_8 (nle rfl) (nle rfl) rfl lf_Rd_29 rfl rfl rfl q33 q35 ?_
  exact r_return d_Rd_init_41.1 rfl (hQ _ hw)
set_option maxRecDepth 100000 in
set_option maxHeartbeats 4000000 in
theorem s_Rd_fail {d : Nat} {v0 : Nat} {v1 : Int32} {h : Hp} {Q : Bool → Hp → Prop} {QQ : Option AV → Hp → Prop} (hw : w_Rd_fail v0 v1 h Q) (hQ : ∀ r9 h9, Q r9 h9 → QQ (some (ai (b2i r9))) h9) : aCall m_Rd_fail d [ar v0, ai v1] h 0 0 QQ := by
  refine aCall_in pl_Rd_fail (nle rfl) ?_
  show aW none m_Rd_fail d 0 [(0, ar v0), (1, ai v1)] [] h 0 0 QQ
  unfold w_Rd_fail at hw
  refine r_aload_n (j := 0) d_Rd_fail_0 rfl ?_
  refine r_aload_n (j := 0) d_Rd_fail_1 rfl ?_
  obtain ⟨q1, hw⟩ := hw
  refine r_getR d_Rd_fail_2 ok_8 (nle rfl) (nle rfl) rfl lf_Rd_29 q1 ?_
  obtain ⟨q2, hw⟩ := hw
  refine r_getI d_Rd_fail_5 ok_10 (nle rfl) (nle rfl) rfl lf_Rd_51 q2 ?_
  refine r_iconst d_Rd_fail_8 kc_1 ?_
  refine r_icmp_ne d_Rd_fail_9 (fun w9 => ?_) (fun w9 => ?_)
  · replace hw := hw.2 w9
    refine r_iload_n (j := 1) d_Rd_fail_16 rfl ?_
    refine r_putI d_Rd_fail_17 ok_8 (nle rfl) (nle rfl) rfl lf_Rd_43 rfl q1 ?_
    refine r_aload_n (j := 0) d_Rd_fail_20 rfl ?_
    refine r_aload_n (j := 0) d_Rd_fail_21 rfl ?_
    refine r_getR d_Rd_fail_22 ok_8 (nle rfl) (nle rfl) rfl lf_Rd_29 q1 ?_
    refine r_getI d_Rd_fail_25 ok_10 (nle rfl) (nle rfl) rfl lf_Rd_58 q2 ?_
    refine r_putI d_Rd_fail_28 ok_8 (nle rfl) (nle rfl) rfl lf_Rd_25 rfl q1 ?_
    refine r_iconst d_Rd_fail_31 kc_0 ?_
    exact r_zreturn d_Rd_fail_32.1 rfl (Or.inl rfl) (hQ _ _ hw)
  · replace hw := hw.1 w9
    refine r_iconst d_Rd_fail_12 kc_1 ?_
    refine r_goto d_Rd_fail_13 ?_
    refine r_putI d_Rd_fail_17 ok_8 (nle rfl) (nle rfl) rfl lf_Rd_43 rfl q1 ?_
    refine r_aload_n (j := 0) d_Rd_fail_20 rfl ?_
    refine r_aload_n (j := 0) d_Rd_fail_21 rfl ?_
    refine r_getR d_Rd_fail_22 ok_8 (nle rfl) (nle rfl) rfl lf_Rd_29 q1 ?_
    refine r_getI d_Rd_fail_25 ok_10 (nle rfl) (nle rfl) rfl lf_Rd_58 q2 ?_
    refine r_putI d_Rd_fail_28 ok_8 (nle rfl) (nle rfl) rfl lf_Rd_25 rfl q1 ?_
    refine r_iconst d_Rd_fail_31 kc_0 ?_
    exact r_zreturn d_Rd_fail_32.1 rfl (Or.inl rfl) (hQ _ _ hw)
set_option maxRecDepth 100000 in
set_option maxHeartbeats 4000000 in
theorem s_Tp_isDigit {d : Nat} {v0 : Nat} {v1 : Int32} {h : Hp} {Q : Bool → Hp → Prop} {QQ : Option AV → Hp → Prop} (hw : w_Tp_isDigit v0 v1 h Q) (hQ : ∀ r9 h9, Q r9 h9 → QQ (some (ai (b2i r9))) h9) : aCall m_Tp_isDigit d [ar v0, ai v1] h 0 0 QQ := by
  refine aCall_in pl_Tp_isDigit (nle rfl) ?_
  show aW none m_Tp_isDigit d 0 [(0, ar v0), (1, ai v1)] [] h 0 0 QQ
  unfold w_Tp_isDigit at hw
  refine r_iload_n (j := 1) d_Tp_isDigit_0 rfl ?_
  refine r_aload_n (j := 0) d_Tp_isDigit_1 rfl ?_
  obtain ⟨q1, hw⟩ := hw
  refine r_getI d_Tp_isDigit_2 ok_10 (nle rfl) (nle rfl) rfl lf_Tp_15 q1 ?_
  refine r_icmp_ge d_Tp_isDigit_5 (fun w9 => ?_) (fun w9 => ?_)
  · replace hw := hw.1 w9
    refine r_iconst d_Tp_isDigit_34 kc_0 ?_
    exact r_zreturn d_Tp_isDigit_35.1 rfl (Or.inl rfl) (hQ _ _ hw)
  · replace hw := hw.2 w9
    refine r_aload_n (j := 0) d_Tp_isDigit_8 rfl ?_
    refine r_getR d_Tp_isDigit_9 ok_10 (nle rfl) (nle rfl) rfl lf_Tp_9 q1 ?_
    refine r_iload_n (j := 1) d_Tp_isDigit_12 rfl ?_
    obtain ⟨q2, hw⟩ := hw
    obtain ⟨q3, hw⟩ := hw
    refine r_iald d_Tp_isDigit_13 q2 q3 ?_
    refine r_bipush d_Tp_isDigit_14 kb_48 ?_
    refine r_icmp_lt d_Tp_isDigit_16 (fun w9 => ?_) (fun w9 => ?_)
    · replace hw := hw.1 w9
      refine r_iconst d_Tp_isDigit_34 kc_0 ?_
      exact r_zreturn d_Tp_isDigit_35.1 rfl (Or.inl rfl) (hQ _ _ hw)
    · replace hw := hw.2 w9
      refine r_aload_n (j := 0) d_Tp_isDigit_19 rfl ?_
      refine r_getR d_Tp_isDigit_20 ok_10 (nle rfl) (nle rfl) rfl lf_Tp_9 q1 ?_
      refine r_iload_n (j := 1) d_Tp_isDigit_23 rfl ?_
      refine r_iald d_Tp_isDigit_24 q2 q3 ?_
      refine r_bipush d_Tp_isDigit_25 kb_57 ?_
      refine r_icmp_gt d_Tp_isDigit_27 (fun w9 => ?_) (fun w9 => ?_)
      · replace hw := hw.1 w9
        refine r_iconst d_Tp_isDigit_34 kc_0 ?_
        exact r_zreturn d_Tp_isDigit_35.1 rfl (Or.inl rfl) (hQ _ _ hw)
      · replace hw := hw.2 w9
        refine r_iconst d_Tp_isDigit_30 kc_1 ?_
        refine r_goto d_Tp_isDigit_31 ?_
        exact r_zreturn d_Tp_isDigit_35.1 rfl (Or.inr rfl) (hQ _ _ hw)
set_option maxRecDepth 100000 in
set_option maxHeartbeats 4000000 in
theorem s_Tp_isLetter {d : Nat} {v0 : Nat} {v1 : Int32} {h : Hp} {Q : Bool → Hp → Prop} {QQ : Option AV → Hp → Prop} (hw : w_Tp_isLetter v0 v1 h Q) (hQ : ∀ r9 h9, Q r9 h9 → QQ (some (ai (b2i r9))) h9) : aCall m_Tp_isLetter d [ar v0, ai v1] h 0 0 QQ := by
  refine aCall_in pl_Tp_isLetter (nle rfl) ?_
  show aW none m_Tp_isLetter d 0 [(0, ar v0), (1, ai v1)] [] h 0 0 QQ
  unfold w_Tp_isLetter at hw
  refine r_iload_n (j := 1) d_Tp_isLetter_0 rfl ?_
  refine r_aload_n (j := 0) d_Tp_isLetter_1 rfl ?_
  obtain ⟨q1, hw⟩ := hw
  refine r_getI d_Tp_isLetter_2 ok_10 (nle rfl) (nle rfl) rfl lf_Tp_15 q1 ?_
  refine r_icmp_ge d_Tp_isLetter_5 (fun w9 => ?_) (fun w9 => ?_)
  · replace hw := hw.1 w9
    refine r_iconst d_Tp_isLetter_34 kc_0 ?_
    exact r_zreturn d_Tp_isLetter_35.1 rfl (Or.inl rfl) (hQ _ _ hw)
  · replace hw := hw.2 w9
    refine r_aload_n (j := 0) d_Tp_isLetter_8 rfl ?_
    refine r_getR d_Tp_isLetter_9 ok_10 (nle rfl) (nle rfl) rfl lf_Tp_9 q1 ?_
    refine r_iload_n (j := 1) d_Tp_isLetter_12 rfl ?_
    obtain ⟨q2, hw⟩ := hw
    obtain ⟨q3, hw⟩ := hw
    refine r_iald d_Tp_isLetter_13 q2 q3 ?_
    refine r_bipush d_Tp_isLetter_14 kb_97 ?_
    refine r_icmp_lt d_Tp_isLetter_16 (fun w9 => ?_) (fun w9 => ?_)
    · replace hw := hw.1 w9
      refine r_iconst d_Tp_isLetter_34 kc_0 ?_
      exact r_zreturn d_Tp_isLetter_35.1 rfl (Or.inl rfl) (hQ _ _ hw)
    · replace hw := hw.2 w9
      refine r_aload_n (j := 0) d_Tp_isLetter_19 rfl ?_
      refine r_getR d_Tp_isLetter_20 ok_10 (nle rfl) (nle rfl) rfl lf_Tp_9 q1 ?_
      refine r_iload_n (j := 1) d_Tp_isLetter_23 rfl ?_
      refine r_iald d_Tp_isLetter_24 q2 q3 ?_
      refine r_bipush d_Tp_isLetter_25 kb_122 ?_
      refine r_icmp_gt d_Tp_isLetter_27 (fun w9 => ?_) (fun w9 => ?_)
      · replace hw := hw.1 w9
        refine r_iconst d_Tp_isLetter_34 kc_0 ?_
        exact r_zreturn d_Tp_isLetter_35.1 rfl (Or.inl rfl) (hQ _ _ hw)
      · replace hw := hw.2 w9
        refine r_iconst d_Tp_isLetter_30 kc_1 ?_
        refine r_goto d_Tp_isLetter_31 ?_
        exact r_zreturn d_Tp_isLetter_35.1 rfl (Or.inr rfl) (hQ _ _ hw)
set_option maxRecDepth 100000 in
set_option maxHeartbeats 4000000 in
theorem s_Tp_takeDigits_B35 {d : Nat} (hd : 1 ≤ d + 1) {Q : Hp → Prop} {QQ : Option AV → Hp → Prop} (hQ : ∀ h9, Q h9 → QQ none h9) {v0 : Nat} {h : Hp} (hw : w_Tp_takeDigits_B35 Q  v0 h) : aW none m_Tp_takeDigits (d + 1) 35 [(0, ar v0)] [] h 0 0 QQ := by
  unfold w_Tp_takeDigits_B35 at hw
  refine r_aload_n (j := 0) d_Tp_takeDigits_35 rfl ?_
  refine r_aload_n (j := 0) d_Tp_takeDigits_36 rfl ?_
  obtain ⟨q2, hw⟩ := hw
  refine r_getI d_Tp_takeDigits_37 ok_10 (nle rfl) (nle rfl) rfl lf_Tp_19 q2 ?_
  refine r_aload_n (j := 0) d_Tp_takeDigits_40 rfl ?_
  refine r_getI d_Tp_takeDigits_41 ok_10 (nle rfl) (nle rfl) rfl lf_Tp_25 q2 ?_
  refine r_isub d_Tp_takeDigits_44 ?_
  refine r_iconst d_Tp_takeDigits_45 kc_3 ?_
  refine r_icmp_gt d_Tp_takeDigits_46 (fun w9 => ?_) (fun w9 => ?_)
  · replace hw := hw.1 w9
    refine r_iconst d_Tp_takeDigits_64 kc_1 ?_
    refine r_putI d_Tp_takeDigits_65 ok_10 (nle rfl) (nle rfl) rfl lf_Tp_28 rfl q2 ?_
    exact r_return d_Tp_takeDigits_68.1 rfl (hQ _ hw)
  · replace hw := hw.2 w9
    refine r_aload_n (j := 0) d_Tp_takeDigits_49 rfl ?_
    refine r_aload_n (j := 0) d_Tp_takeDigits_50 rfl ?_
    refine r_getI d_Tp_takeDigits_51 ok_10 (nle rfl) (nle rfl) rfl lf_Tp_19 q2 ?_
    refine r_callV (av := [ai (gI h v0 4)]) (rest := [ar v0]) (ci := 10) d_Tp_takeDigits_54 mk_Tp_isLetter ll_Tp_31 im_Tp_isLetter se_Tp_isLetter rfl (nle rfl) rfl rfl (nle rfl) q2 (s_Tp_isLetter  hw (fun r4 h3 hw => ?_))
    show aW none m_Tp_takeDigits (d + 1) 57 [(0, ar v0)] [ai (b2i r4), ar v0] h3 0 0 QQ
    refine r_if_ne d_Tp_takeDigits_57 (fun w9 => ?_) (fun w9 => ?_)
    · replace hw := hw.2 (fun g9 => w9 (b2i_0.mpr g9))
      refine r_iconst d_Tp_takeDigits_64 kc_1 ?_
      obtain ⟨q5, hw⟩ := hw
      refine r_putI d_Tp_takeDigits_65 ok_10 (nle rfl) (nle rfl) rfl lf_Tp_28 rfl q5 ?_
      exact r_return d_Tp_takeDigits_68.1 rfl (hQ _ hw)
    · replace hw := hw.1 (b2i_0.mp w9)
      refine r_iconst d_Tp_takeDigits_60 kc_3 ?_
      refine r_goto d_Tp_takeDigits_61 ?_
      obtain ⟨q6, hw⟩ := hw
      refine r_putI d_Tp_takeDigits_65 ok_10 (nle rfl) (nle rfl) rfl lf_Tp_28 rfl q6 ?_
      exact r_return d_Tp_takeDigits_68.1 rfl (hQ _ hw)
set_option maxRecDepth 100000 in
set_option maxHeartbeats 4000000 in
theorem s_Tp_takeDigits_L0 {d : Nat} (hd : 1 ≤ d + 1) {Q : Hp → Prop} {QQ : Option AV → Hp → Prop} (hQ : ∀ h9, Q h9 → QQ none h9) {v0 : Nat} : ∀ (n : Nat) (h : Hp), w_Tp_takeDigits_L0 Q  v0 n h → aW none m_Tp_takeDigits (d + 1) 0 [(0, ar v0)] [] h 0 0 QQ := by
  intro n
  induction n with
  | zero => intro h hw; exact hw.elim
  | succ n ih =>
    intro h hw
    unfold w_Tp_takeDigits_L0 at hw
    refine r_aload_n (j := 0) d_Tp_takeDigits_0 rfl ?_
    obtain ⟨q1, hw⟩ := hw
    refine r_getI d_Tp_takeDigits_1 ok_10 (nle rfl) (nle rfl) rfl lf_Tp_19 q1 ?_
    refine r_aload_n (j := 0) d_Tp_takeDigits_4 rfl ?_
    refine r_getI d_Tp_takeDigits_5 ok_10 (nle rfl) (nle rfl) rfl lf_Tp_15 q1 ?_
    refine r_icmp_ge d_Tp_takeDigits_8 (fun w9 => ?_) (fun w9 => ?_)
    · replace hw := hw.1 w9
      exact s_Tp_takeDigits_B35 hd hQ  hw
    · replace hw := hw.2 w9
      refine r_aload_n (j := 0) d_Tp_takeDigits_11 rfl ?_
      refine r_aload_n (j := 0) d_Tp_takeDigits_12 rfl ?_
      refine r_getI d_Tp_takeDigits_13 ok_10 (nle rfl) (nle rfl) rfl lf_Tp_19 q1 ?_
      refine r_callV (av := [ai (gI h v0 4)]) (rest := []) (ci := 10) d_Tp_takeDigits_16 mk_Tp_isDigit ll_Tp_38 im_Tp_isDigit se_Tp_isDigit rfl (nle rfl) rfl rfl (nle rfl) q1 (s_Tp_isDigit  hw (fun r8 h7 hw => ?_))
      show aW none m_Tp_takeDigits (d + 1) 19 [(0, ar v0)] [ai (b2i r8)] h7 0 0 QQ
      refine r_if_eq d_Tp_takeDigits_19 (fun w9 => ?_) (fun w9 => ?_)
      · replace hw := hw.1 (b2i_0.mp w9)
        exact s_Tp_takeDigits_B35 hd hQ  hw
      · replace hw := hw.2 (fun g9 => w9 (b2i_0.mpr g9))
        refine r_aload_n (j := 0) d_Tp_takeDigits_22 rfl ?_
        refine r_dup d_Tp_takeDigits_23 rfl ?_
        obtain ⟨q9, hw⟩ := hw
        refine r_getI d_Tp_takeDigits_24 ok_10 (nle rfl) (nle rfl) rfl lf_Tp_19 q9 ?_
        refine r_iconst d_Tp_takeDigits_27 kc_1 ?_
        refine r_iadd d_Tp_takeDigits_28 ?_
        refine r_putI d_Tp_takeDigits_29 ok_10 (nle rfl) (nle rfl) rfl lf_Tp_19 rfl q9 ?_
        refine r_goto d_Tp_takeDigits_32 ?_
        exact ih _ hw
set_option maxRecDepth 100000 in
set_option maxHeartbeats 4000000 in
theorem s_Tp_takeDigits {d : Nat} (hd : 1 ≤ d) {v0 : Nat} {h : Hp} {Q : Hp → Prop} {QQ : Option AV → Hp → Prop} (hw : w_Tp_takeDigits v0 h Q) (hQ : ∀ h9, Q h9 → QQ none h9) : aCall m_Tp_takeDigits d [ar v0] h 0 0 QQ := by
  obtain ⟨d, rfl⟩ : ∃ d9, d = d9 + 1 := ⟨d - 1, by omega⟩
  refine aCall_in pl_Tp_takeDigits (nle rfl) ?_
  show aW none m_Tp_takeDigits (d + 1) 0 [(0, ar v0)] [] h 0 0 QQ
  unfold w_Tp_takeDigits at hw
  obtain ⟨n10, hw⟩ := hw
  exact s_Tp_takeDigits_L0 hd hQ  n10 _ hw
set_option maxRecDepth 100000 in
set_option maxHeartbeats 4000000 in
theorem s_Tp_takeWord_B35 {d : Nat} (hd : 1 ≤ d + 1) {Q : Hp → Prop} {QQ : Option AV → Hp → Prop} (hQ : ∀ h9, Q h9 → QQ none h9) {v0 : Nat} {h : Hp} (hw : w_Tp_takeWord_B35 Q  v0 h) : aW none m_Tp_takeWord (d + 1) 35 [(0, ar v0)] [] h 0 0 QQ := by
  unfold w_Tp_takeWord_B35 at hw
  refine r_aload_n (j := 0) d_Tp_takeWord_35 rfl ?_
  refine r_aload_n (j := 0) d_Tp_takeWord_36 rfl ?_
  obtain ⟨q2, hw⟩ := hw
  refine r_getI d_Tp_takeWord_37 ok_10 (nle rfl) (nle rfl) rfl lf_Tp_19 q2 ?_
  refine r_aload_n (j := 0) d_Tp_takeWord_40 rfl ?_
  refine r_getI d_Tp_takeWord_41 ok_10 (nle rfl) (nle rfl) rfl lf_Tp_25 q2 ?_
  refine r_isub d_Tp_takeWord_44 ?_
  refine r_bipush d_Tp_takeWord_45 kb_8 ?_
  refine r_icmp_gt d_Tp_takeWord_47 (fun w9 => ?_) (fun w9 => ?_)
  · replace hw := hw.1 w9
    refine r_iconst d_Tp_takeWord_54 kc_1 ?_
    refine r_putI d_Tp_takeWord_55 ok_10 (nle rfl) (nle rfl) rfl lf_Tp_28 rfl q2 ?_
    exact r_return d_Tp_takeWord_58.1 rfl (hQ _ hw)
  · replace hw := hw.2 w9
    refine r_iconst d_Tp_takeWord_50 kc_2 ?_
    refine r_goto d_Tp_takeWord_51 ?_
    refine r_putI d_Tp_takeWord_55 ok_10 (nle rfl) (nle rfl) rfl lf_Tp_28 rfl q2 ?_
    exact r_return d_Tp_takeWord_58.1 rfl (hQ _ hw)
set_option maxRecDepth 100000 in
set_option maxHeartbeats 4000000 in
theorem s_Tp_takeWord_L0 {d : Nat} (hd : 1 ≤ d + 1) {Q : Hp → Prop} {QQ : Option AV → Hp → Prop} (hQ : ∀ h9, Q h9 → QQ none h9) {v0 : Nat} : ∀ (n : Nat) (h : Hp), w_Tp_takeWord_L0 Q  v0 n h → aW none m_Tp_takeWord (d + 1) 0 [(0, ar v0)] [] h 0 0 QQ := by
  intro n
  induction n with
  | zero => intro h hw; exact hw.elim
  | succ n ih =>
    intro h hw
    unfold w_Tp_takeWord_L0 at hw
    refine r_aload_n (j := 0) d_Tp_takeWord_0 rfl ?_
    obtain ⟨q1, hw⟩ := hw
    refine r_getI d_Tp_takeWord_1 ok_10 (nle rfl) (nle rfl) rfl lf_Tp_19 q1 ?_
    refine r_aload_n (j := 0) d_Tp_takeWord_4 rfl ?_
    refine r_getI d_Tp_takeWord_5 ok_10 (nle rfl) (nle rfl) rfl lf_Tp_15 q1 ?_
    refine r_icmp_ge d_Tp_takeWord_8 (fun w9 => ?_) (fun w9 => ?_)
    · replace hw := hw.1 w9
      exact s_Tp_takeWord_B35 hd hQ  hw
    · replace hw := hw.2 w9
      refine r_aload_n (j := 0) d_Tp_takeWord_11 rfl ?_
      refine r_aload_n (j := 0) d_Tp_takeWord_12 rfl ?_
      refine r_getI d_Tp_takeWord_13 ok_10 (nle rfl) (nle rfl) rfl lf_Tp_19 q1 ?_
      refine r_callV (av := [ai (gI h v0 4)]) (rest := []) (ci := 10) d_Tp_takeWord_16 mk_Tp_isLetter ll_Tp_31 im_Tp_isLetter se_Tp_isLetter rfl (nle rfl) rfl rfl (nle rfl) q1 (s_Tp_isLetter  hw (fun r4 h3 hw => ?_))
      show aW none m_Tp_takeWord (d + 1) 19 [(0, ar v0)] [ai (b2i r4)] h3 0 0 QQ
      refine r_if_eq d_Tp_takeWord_19 (fun w9 => ?_) (fun w9 => ?_)
      · replace hw := hw.1 (b2i_0.mp w9)
        exact s_Tp_takeWord_B35 hd hQ  hw
      · replace hw := hw.2 (fun g9 => w9 (b2i_0.mpr g9))
        refine r_aload_n (j := 0) d_Tp_takeWord_22 rfl ?_
        refine r_dup d_Tp_takeWord_23 rfl ?_
        obtain ⟨q5, hw⟩ := hw
        refine r_getI d_Tp_takeWord_24 ok_10 (nle rfl) (nle rfl) rfl lf_Tp_19 q5 ?_
        refine r_iconst d_Tp_takeWord_27 kc_1 ?_
        refine r_iadd d_Tp_takeWord_28 ?_
        refine r_putI d_Tp_takeWord_29 ok_10 (nle rfl) (nle rfl) rfl lf_Tp_19 rfl q5 ?_
        refine r_goto d_Tp_takeWord_32 ?_
        exact ih _ hw
set_option maxRecDepth 100000 in
set_option maxHeartbeats 4000000 in
theorem s_Tp_takeWord {d : Nat} (hd : 1 ≤ d) {v0 : Nat} {h : Hp} {Q : Hp → Prop} {QQ : Option AV → Hp → Prop} (hw : w_Tp_takeWord v0 h Q) (hQ : ∀ h9, Q h9 → QQ none h9) : aCall m_Tp_takeWord d [ar v0] h 0 0 QQ := by
  obtain ⟨d, rfl⟩ : ∃ d9, d = d9 + 1 := ⟨d - 1, by omega⟩
  refine aCall_in pl_Tp_takeWord (nle rfl) ?_
  show aW none m_Tp_takeWord (d + 1) 0 [(0, ar v0)] [] h 0 0 QQ
  unfold w_Tp_takeWord at hw
  obtain ⟨n6, hw⟩ := hw
  exact s_Tp_takeWord_L0 hd hQ  n6 _ hw
set_option maxRecDepth 100000 in
set_option maxHeartbeats 4000000 in
theorem s_Tp_advance_B60 {d : Nat} (hd : 2 ≤ d + 1) {Q : Hp → Prop} {QQ : Option AV → Hp → Prop} (hQ : ∀ h9, Q h9 → QQ none h9) {v0 : Nat} {h : Hp} (hw : w_Tp_advance_B60 Q  v0 h) : aW none m_Tp_advance (d + 1) 60 [(0, ar v0)] [] h 0 0 QQ := by
  unfold w_Tp_advance_B60 at hw
  refine r_aload_n (j := 0) d_Tp_advance_60 rfl ?_
  refine r_aload_n (j := 0) d_Tp_advance_61 rfl ?_
  obtain ⟨q3, hw⟩ := hw
  refine r_getI d_Tp_advance_62 ok_10 (nle rfl) (nle rfl) rfl lf_Tp_25 q3 ?_
  refine r_putI d_Tp_advance_65 ok_10 (nle rfl) (nle rfl) rfl lf_Tp_19 rfl q3 ?_
  refine r_aload_n (j := 0) d_Tp_advance_68 rfl ?_
  refine r_getI d_Tp_advance_69 ok_10 (nle rfl) (nle rfl) rfl lf_Tp_25 q3 ?_
  refine r_aload_n (j := 0) d_Tp_advance_72 rfl ?_
  refine r_getI d_Tp_advance_73 ok_10 (nle rfl) (nle rfl) rfl lf_Tp_15 q3 ?_
  refine r_icmp_lt d_Tp_advance_76 (fun w9 => ?_) (fun w9 => ?_)
  · replace hw := hw.1 w9
    refine r_aload_n (j := 0) d_Tp_advance_87 rfl ?_
    refine r_aload_n (j := 0) d_Tp_advance_88 rfl ?_
    refine r_getI d_Tp_advance_89 ok_10 (nle rfl) (nle rfl) rfl lf_Tp_25 q3 ?_
    refine r_callV (av := [ai (gI (sI h v0 4 (gI h v0 3)) v0 3)]) (rest := []) (ci := 10) d_Tp_advance_92 mk_Tp_isLetter ll_Tp_31 im_Tp_isLetter se_Tp_isLetter rfl (nle rfl) rfl rfl (nle rfl) q3 (s_Tp_isLetter  hw (fun r5 h4 hw => ?_))
    show aW none m_Tp_advance (d + 1) 95 [(0, ar v0)] [ai (b2i r5)] h4 0 0 QQ
    refine r_if_eq d_Tp_advance_95 (fun w9 => ?_) (fun w9 => ?_)
    · replace hw := hw.1 (b2i_0.mp w9)
      refine r_aload_n (j := 0) d_Tp_advance_105 rfl ?_
      refine r_aload_n (j := 0) d_Tp_advance_106 rfl ?_
      obtain ⟨q6, hw⟩ := hw
      refine r_getI d_Tp_advance_107 ok_10 (nle rfl) (nle rfl) rfl lf_Tp_25 q6 ?_
      refine r_callV (av := [ai (gI h4 v0 3)]) (rest := []) (ci := 10) d_Tp_advance_110 mk_Tp_isDigit ll_Tp_38 im_Tp_isDigit se_Tp_isDigit rfl (nle rfl) rfl rfl (nle rfl) q6 (s_Tp_isDigit  hw (fun r8 h7 hw => ?_))
      show aW none m_Tp_advance (d + 1) 113 [(0, ar v0)] [ai (b2i r8)] h7 0 0 QQ
      refine r_if_eq d_Tp_advance_113 (fun w9 => ?_) (fun w9 => ?_)
      · replace hw := hw.1 (b2i_0.mp w9)
        refine r_aload_n (j := 0) d_Tp_advance_123 rfl ?_
        refine r_aload_n (j := 0) d_Tp_advance_124 rfl ?_
        obtain ⟨q9, hw⟩ := hw
        refine r_getI d_Tp_advance_125 ok_10 (nle rfl) (nle rfl) rfl lf_Tp_25 q9 ?_
        refine r_iconst d_Tp_advance_128 kc_1 ?_
        refine r_iadd d_Tp_advance_129 ?_
        refine r_putI d_Tp_advance_130 ok_10 (nle rfl) (nle rfl) rfl lf_Tp_19 rfl q9 ?_
        refine r_aload_n (j := 0) d_Tp_advance_133 rfl ?_
        refine r_aload_n (j := 0) d_Tp_advance_134 rfl ?_
        refine r_getR d_Tp_advance_135 ok_10 (nle rfl) (nle rfl) rfl lf_Tp_9 q9 ?_
        refine r_aload_n (j := 0) d_Tp_advance_138 rfl ?_
        refine r_getI d_Tp_advance_139 ok_10 (nle rfl) (nle rfl) rfl lf_Tp_25 q9 ?_
        obtain ⟨q10, hw⟩ := hw
        obtain ⟨q11, hw⟩ := hw
        refine r_iald d_Tp_advance_142 q10 q11 ?_
        refine r_bipush d_Tp_advance_143 kb_45 ?_
        refine r_icmp_ne d_Tp_advance_145 (fun w9 => ?_) (fun w9 => ?_)
        · replace hw := hw.2 w9
          refine r_aload_n (j := 0) d_Tp_advance_152 rfl ?_
          refine r_getR d_Tp_advance_153 ok_10 (nle rfl) (nle rfl) rfl lf_Tp_9 q9 ?_
          refine r_aload_n (j := 0) d_Tp_advance_156 rfl ?_
          refine r_getI d_Tp_advance_157 ok_10 (nle rfl) (nle rfl) rfl lf_Tp_25 q9 ?_
          refine r_iald d_Tp_advance_160 q10 q11 ?_
          refine r_bipush d_Tp_advance_161 kb_59 ?_
          refine r_icmp_ne d_Tp_advance_163 (fun w9 => ?_) (fun w9 => ?_)
          · replace hw := hw.2 w9
            refine r_iconst d_Tp_advance_170 kc_1 ?_
            refine r_putI d_Tp_advance_171 ok_10 (nle rfl) (nle rfl) rfl lf_Tp_28 rfl q9 ?_
            exact r_return d_Tp_advance_174.1 rfl (hQ _ hw)
          · replace hw := hw.1 w9
            refine r_iconst d_Tp_advance_166 kc_5 ?_
            refine r_goto d_Tp_advance_167 ?_
            refine r_putI d_Tp_advance_171 ok_10 (nle rfl) (nle rfl) rfl lf_Tp_28 rfl q9 ?_
            exact r_return d_Tp_advance_174.1 rfl (hQ _ hw)
        · replace hw := hw.1 w9
          refine r_iconst d_Tp_advance_148 kc_4 ?_
          refine r_goto d_Tp_advance_149 ?_
          refine r_putI d_Tp_advance_171 ok_10 (nle rfl) (nle rfl) rfl lf_Tp_28 rfl q9 ?_
          exact r_return d_Tp_advance_174.1 rfl (hQ _ hw)
      · replace hw := hw.2 (fun g9 => w9 (b2i_0.mpr g9))
        refine r_aload_n (j := 0) d_Tp_advance_116 rfl ?_
        obtain ⟨q13, hw⟩ := hw
        refine r_callV (av := []) (rest := []) (ci := 10) d_Tp_advance_117 mk_Tp_takeDigits ll_Tp_41 im_Tp_takeDigits se_Tp_takeDigits rfl (nle rfl) rfl rfl (nle rfl) q13 (s_Tp_takeDigits (by omega) hw (fun h12 hw => ?_))
        show aW none m_Tp_advance (d + 1) 120 [(0, ar v0)] [] h12 0 0 QQ
        refine r_goto d_Tp_advance_120 ?_
        exact r_return d_Tp_advance_174.1 rfl (hQ _ hw)
    · replace hw := hw.2 (fun g9 => w9 (b2i_0.mpr g9))
      refine r_aload_n (j := 0) d_Tp_advance_98 rfl ?_
      obtain ⟨q15, hw⟩ := hw
      refine r_callV (av := []) (rest := []) (ci := 10) d_Tp_advance_99 mk_Tp_takeWord ll_Tp_35 im_Tp_takeWord se_Tp_takeWord rfl (nle rfl) rfl rfl (nle rfl) q15 (s_Tp_takeWord (by omega) hw (fun h14 hw => ?_))
      show aW none m_Tp_advance (d + 1) 102 [(0, ar v0)] [] h14 0 0 QQ
      refine r_goto d_Tp_advance_102 ?_
      exact r_return d_Tp_advance_174.1 rfl (hQ _ hw)
  · replace hw := hw.2 w9
    refine r_aload_n (j := 0) d_Tp_advance_79 rfl ?_
    refine r_iconst d_Tp_advance_80 kc_0 ?_
    refine r_putI d_Tp_advance_81 ok_10 (nle rfl) (nle rfl) rfl lf_Tp_28 rfl q3 ?_
    refine r_goto d_Tp_advance_84 ?_
    exact r_return d_Tp_advance_174.1 rfl (hQ _ hw)
set_option maxRecDepth 100000 in
set_option maxHeartbeats 4000000 in
theorem s_Tp_advance_L8 {d : Nat} (hd : 2 ≤ d + 1) {Q : Hp → Prop} {QQ : Option AV → Hp → Prop} (hQ : ∀ h9, Q h9 → QQ none h9) {v0 : Nat} : ∀ (n : Nat) (h : Hp), w_Tp_advance_L8 Q  v0 n h → aW none m_Tp_advance (d + 1) 8 [(0, ar v0)] [] h 0 0 QQ := by
  intro n
  induction n with
  | zero => intro h hw; exact hw.elim
  | succ n ih =>
    intro h hw
    unfold w_Tp_advance_L8 at hw
    refine r_aload_n (j := 0) d_Tp_advance_8 rfl ?_
    obtain ⟨q2, hw⟩ := hw
    refine r_getI d_Tp_advance_9 ok_10 (nle rfl) (nle rfl) rfl lf_Tp_25 q2 ?_
    refine r_aload_n (j := 0) d_Tp_advance_12 rfl ?_
    refine r_getI d_Tp_advance_13 ok_10 (nle rfl) (nle rfl) rfl lf_Tp_15 q2 ?_
    refine r_icmp_ge d_Tp_advance_16 (fun w9 => ?_) (fun w9 => ?_)
    · replace hw := hw.1 w9
      exact s_Tp_advance_B60 hd hQ  hw
    · replace hw := hw.2 w9
      refine r_aload_n (j := 0) d_Tp_advance_19 rfl ?_
      refine r_getR d_Tp_advance_20 ok_10 (nle rfl) (nle rfl) rfl lf_Tp_9 q2 ?_
      refine r_aload_n (j := 0) d_Tp_advance_23 rfl ?_
      refine r_getI d_Tp_advance_24 ok_10 (nle rfl) (nle rfl) rfl lf_Tp_25 q2 ?_
      obtain ⟨q16, hw⟩ := hw
      obtain ⟨q17, hw⟩ := hw
      refine r_iald d_Tp_advance_27 q16 q17 ?_
      refine r_bipush d_Tp_advance_28 kb_32 ?_
      refine r_icmp_eq d_Tp_advance_30 (fun w9 => ?_) (fun w9 => ?_)
      · replace hw := hw.1 w9
        refine r_aload_n (j := 0) d_Tp_advance_47 rfl ?_
        refine r_dup d_Tp_advance_48 rfl ?_
        refine r_getI d_Tp_advance_49 ok_10 (nle rfl) (nle rfl) rfl lf_Tp_25 q2 ?_
        refine r_iconst d_Tp_advance_52 kc_1 ?_
        refine r_iadd d_Tp_advance_53 ?_
        refine r_putI d_Tp_advance_54 ok_10 (nle rfl) (nle rfl) rfl lf_Tp_25 rfl q2 ?_
        refine r_goto d_Tp_advance_57 ?_
        exact ih _ hw
      · replace hw := hw.2 w9
        refine r_aload_n (j := 0) d_Tp_advance_33 rfl ?_
        refine r_getR d_Tp_advance_34 ok_10 (nle rfl) (nle rfl) rfl lf_Tp_9 q2 ?_
        refine r_aload_n (j := 0) d_Tp_advance_37 rfl ?_
        refine r_getI d_Tp_advance_38 ok_10 (nle rfl) (nle rfl) rfl lf_Tp_25 q2 ?_
        refine r_iald d_Tp_advance_41 q16 q17 ?_
        refine r_bipush d_Tp_advance_42 kb_10 ?_
        refine r_icmp_ne d_Tp_advance_44 (fun w9 => ?_) (fun w9 => ?_)
        · replace hw := hw.2 w9
          exact s_Tp_advance_B60 hd hQ  hw
        · replace hw := hw.1 w9
          refine r_aload_n (j := 0) d_Tp_advance_47 rfl ?_
          refine r_dup d_Tp_advance_48 rfl ?_
          refine r_getI d_Tp_advance_49 ok_10 (nle rfl) (nle rfl) rfl lf_Tp_25 q2 ?_
          refine r_iconst d_Tp_advance_52 kc_1 ?_
          refine r_iadd d_Tp_advance_53 ?_
          refine r_putI d_Tp_advance_54 ok_10 (nle rfl) (nle rfl) rfl lf_Tp_25 rfl q2 ?_
          refine r_goto d_Tp_advance_57 ?_
          exact ih _ hw
set_option maxRecDepth 100000 in
set_option maxHeartbeats 4000000 in
theorem s_Tp_advance {d : Nat} (hd : 2 ≤ d) {v0 : Nat} {h : Hp} {Q : Hp → Prop} {QQ : Option AV → Hp → Prop} (hw : w_Tp_advance v0 h Q) (hQ : ∀ h9, Q h9 → QQ none h9) : aCall m_Tp_advance d [ar v0] h 0 0 QQ := by
  obtain ⟨d, rfl⟩ : ∃ d9, d = d9 + 1 := ⟨d - 1, by omega⟩
  refine aCall_in pl_Tp_advance (nle rfl) ?_
  show aW none m_Tp_advance (d + 1) 0 [(0, ar v0)] [] h 0 0 QQ
  unfold w_Tp_advance at hw
  refine r_aload_n (j := 0) d_Tp_advance_0 rfl ?_
  refine r_aload_n (j := 0) d_Tp_advance_1 rfl ?_
  obtain ⟨q1, hw⟩ := hw
  refine r_getI d_Tp_advance_2 ok_10 (nle rfl) (nle rfl) rfl lf_Tp_19 q1 ?_
  refine r_putI d_Tp_advance_5 ok_10 (nle rfl) (nle rfl) rfl lf_Tp_25 rfl q1 ?_
  obtain ⟨n18, hw⟩ := hw
  exact s_Tp_advance_L8 hd hQ  n18 _ hw
set_option maxRecDepth 100000 in
set_option maxHeartbeats 4000000 in
theorem s_Rd_endLine {d : Nat} (hd : 3 ≤ d) {v0 : Nat} {h : Hp} {Q : Bool → Hp → Prop} {QQ : Option AV → Hp → Prop} (hw : w_Rd_endLine v0 h Q) (hQ : ∀ r9 h9, Q r9 h9 → QQ (some (ai (b2i r9))) h9) : aCall m_Rd_endLine d [ar v0] h 0 0 QQ := by
  obtain ⟨d, rfl⟩ : ∃ d9, d = d9 + 1 := ⟨d - 1, by omega⟩
  refine aCall_in pl_Rd_endLine (nle rfl) ?_
  show aW none m_Rd_endLine (d + 1) 0 [(0, ar v0)] [] h 0 0 QQ
  unfold w_Rd_endLine at hw
  refine r_aload_n (j := 0) d_Rd_endLine_0 rfl ?_
  obtain ⟨q1, hw⟩ := hw
  refine r_getR d_Rd_endLine_1 ok_8 (nle rfl) (nle rfl) rfl lf_Rd_29 q1 ?_
  obtain ⟨q2, hw⟩ := hw
  refine r_getI d_Rd_endLine_4 ok_10 (nle rfl) (nle rfl) rfl lf_Rd_51 q2 ?_
  refine r_iconst d_Rd_endLine_7 kc_5 ?_
  refine r_icmp_eq d_Rd_endLine_8 (fun w9 => ?_) (fun w9 => ?_)
  · replace hw := hw.1 w9
    refine r_aload_n (j := 0) d_Rd_endLine_17 rfl ?_
    refine r_getR d_Rd_endLine_18 ok_8 (nle rfl) (nle rfl) rfl lf_Rd_29 q1 ?_
    refine r_callV (av := []) (rest := []) (ci := 10) d_Rd_endLine_21 mk_Tp_advance ll_Rd_92 im_Tp_advance se_Tp_advance rfl (nle rfl) rfl rfl (nle rfl) q2 (s_Tp_advance (by omega) hw (fun h3 hw => ?_))
    show aW none m_Rd_endLine (d + 1) 24 [(0, ar v0)] [] h3 0 0 QQ
    refine r_iconst d_Rd_endLine_24 kc_1 ?_
    exact r_zreturn d_Rd_endLine_25.1 rfl (Or.inr rfl) (hQ _ _ hw)
  · replace hw := hw.2 w9
    refine r_aload_n (j := 0) d_Rd_endLine_11 rfl ?_
    refine r_iconst d_Rd_endLine_12 kc_2 ?_
    refine r_callV (av := [ai (2 : Int32)]) (rest := []) (ci := 8) d_Rd_endLine_13 mk_Rd_fail ll_Rd_71 im_Rd_fail se_Rd_fail rfl (nle rfl) rfl rfl (nle rfl) q1 (s_Rd_fail  hw (fun r5 h4 hw => ?_))
    show aW none m_Rd_endLine (d + 1) 16 [(0, ar v0)] [ai (b2i r5)] h4 0 0 QQ
    exact r_zreturn d_Rd_endLine_16.1 rfl (b2i_B _) (hQ _ _ hw)
set_option maxRecDepth 100000 in
set_option maxHeartbeats 4000000 in
theorem s_JS_isLatin1 {d : Nat} {v0 : Nat} {h : Hp} {Q : Bool → Hp → Prop} {QQ : Option AV → Hp → Prop} (hw : w_JS_isLatin1 v0 h Q) (hQ : ∀ r9 h9, Q r9 h9 → QQ (some (ai (b2i r9))) h9) : aCall m_JS_isLatin1 d [ar (2 + v0)] h 0 0 QQ := by
  refine aCall_in pl_JS_isLatin1 (nle rfl) ?_
  show aW none m_JS_isLatin1 d 0 [(0, ar (2 + v0))] [] h 0 0 QQ
  unfold w_JS_isLatin1 at hw
  refine r_getsC d_JS_isLatin1_0 lf_JS_38 ?_
  refine r_if_eq d_JS_isLatin1_3 (fun w9 => ?_) (fun w9 => ?_)
  · replace hw := hw.1 w9
    refine r_iconst d_JS_isLatin1_17 kc_0 ?_
    exact r_zreturn d_JS_isLatin1_18.1 rfl (Or.inl rfl) (hQ _ _ hw)
  · replace hw := hw.2 w9
    refine r_aload_n (j := 0) d_JS_isLatin1_6 rfl ?_
    obtain ⟨q1, hw⟩ := hw
    refine r_getSc q1 d_JS_isLatin1_7 lf_JS_15 ?_
    refine r_if_ne d_JS_isLatin1_10 (fun w9 => ?_) (fun w9 => ?_)
    · replace hw := hw.2 w9
      refine r_iconst d_JS_isLatin1_17 kc_0 ?_
      exact r_zreturn d_JS_isLatin1_18.1 rfl (Or.inl rfl) (hQ _ _ hw)
    · replace hw := hw.1 w9
      refine r_iconst d_JS_isLatin1_13 kc_1 ?_
      refine r_goto d_JS_isLatin1_14 ?_
      exact r_zreturn d_JS_isLatin1_18.1 rfl (Or.inr rfl) (hQ _ _ hw)
set_option maxRecDepth 100000 in
set_option maxHeartbeats 4000000 in
theorem s_JP_checkIndex {d : Nat} {v0 : Int32} {v1 : Int32} {v2 : Nat} {h : Hp} {Q : Int32 → Hp → Prop} {QQ : Option AV → Hp → Prop} (hw : w_JP_checkIndex v0 v1 v2 h Q) (hQ : ∀ r9 h9, Q r9 h9 → QQ (some (ai r9)) h9) : aCall m_JP_checkIndex d [ai v0, ai v1, ar v2] h 0 0 QQ := by
  refine aCall_in pl_JP_checkIndex (nle rfl) ?_
  show aW none m_JP_checkIndex d 0 [(0, ai v0), (1, ai v1), (2, ar v2)] [] h 0 0 QQ
  unfold w_JP_checkIndex at hw
  refine r_iload_n (j := 0) d_JP_checkIndex_0 rfl ?_
  refine r_if_lt d_JP_checkIndex_1 (fun w9 => ?_) (fun w9 => ?_)
  · replace hw := hw.1 w9
    refine r_aload_n (j := 2) d_JP_checkIndex_9 rfl ?_
    refine r_iload_n (j := 0) d_JP_checkIndex_10 rfl ?_
    refine r_iload_n (j := 1) d_JP_checkIndex_11 rfl ?_
    exact hw.elim
  · replace hw := hw.2 w9
    refine r_iload_n (j := 0) d_JP_checkIndex_4 rfl ?_
    refine r_iload_n (j := 1) d_JP_checkIndex_5 rfl ?_
    refine r_icmp_lt d_JP_checkIndex_6 (fun w9 => ?_) (fun w9 => ?_)
    · replace hw := hw.1 w9
      refine r_iload_n (j := 0) d_JP_checkIndex_16 rfl ?_
      exact r_ireturn d_JP_checkIndex_17.1 rfl (hQ _ _ hw)
    · replace hw := hw.2 w9
      refine r_aload_n (j := 2) d_JP_checkIndex_9 rfl ?_
      refine r_iload_n (j := 0) d_JP_checkIndex_10 rfl ?_
      refine r_iload_n (j := 1) d_JP_checkIndex_11 rfl ?_
      exact hw.elim
set_option maxRecDepth 100000 in
set_option maxHeartbeats 4000000 in
theorem s_JS_checkIndex {d : Nat} (hd : 1 ≤ d) {v0 : Int32} {v1 : Int32} {h : Hp} {Q : Hp → Prop} {QQ : Option AV → Hp → Prop} (hw : w_JS_checkIndex v0 v1 h Q) (hQ : ∀ h9, Q h9 → QQ none h9) : aCall m_JS_checkIndex d [ai v0, ai v1] h 0 0 QQ := by
  obtain ⟨d, rfl⟩ : ∃ d9, d = d9 + 1 := ⟨d - 1, by omega⟩
  refine aCall_in pl_JS_checkIndex (nle rfl) ?_
  show aW none m_JS_checkIndex (d + 1) 0 [(0, ai v0), (1, ai v1)] [] h 0 0 QQ
  unfold w_JS_checkIndex at hw
  refine r_iload_n (j := 0) d_JS_checkIndex_0 rfl ?_
  refine r_iload_n (j := 1) d_JS_checkIndex_1 rfl ?_
  refine r_getsF d_JS_checkIndex_2 lf_JS_1053 (fun z1 => ?_)
  replace hw := hw z1
  refine r_callS (av := [ai v0, ai v1, ar z1]) (rest := []) d_JS_checkIndex_5 mk_JP_checkIndex ll_JS_1059 st_JP_checkIndex rfl rfl (nle rfl) (s_JP_checkIndex  hw (fun r3 h2 hw => ?_))
  show aW none m_JS_checkIndex (d + 1) 8 [(0, ai v0), (1, ai v1)] [ai r3] h2 0 0 QQ
  refine r_pop d_JS_checkIndex_8 rfl ?_
  exact r_return d_JS_checkIndex_9.1 rfl (hQ _ hw)
set_option maxRecDepth 100000 in
set_option maxHeartbeats 4000000 in
theorem s_JL_charAt {d : Nat} (hd : 2 ≤ d) {v0 : Nat} {v1 : Int32} {h : Hp} {Q : Int32 → Hp → Prop} {QQ : Option AV → Hp → Prop} (hw : w_JL_charAt v0 v1 h Q) (hQ : ∀ r9 h9, Q r9 h9 → QQ (some (ai r9)) h9) : aCall m_JL_charAt d [ar (7 + v0), ai v1] h 0 0 QQ := by
  obtain ⟨d, rfl⟩ : ∃ d9, d = d9 + 1 := ⟨d - 1, by omega⟩
  refine aCall_in pl_JL_charAt (nle rfl) ?_
  show aW none m_JL_charAt (d + 1) 0 [(0, ar (7 + v0)), (1, ai v1)] [] h 0 0 QQ
  unfold w_JL_charAt at hw
  refine r_iload_n (j := 1) d_JL_charAt_0 rfl ?_
  refine r_aload_n (j := 0) d_JL_charAt_1 rfl ?_
  obtain ⟨q1, hw⟩ := hw
  refine r_alenS q1 d_JL_charAt_2 ?_
  refine r_callS (av := [ai v1, ai (Int32.ofNat (lenS.getD v0 0))]) (rest := []) d_JL_charAt_3 mk_JS_checkIndex ll_JL_9 st_JS_checkIndex rfl rfl (nle rfl) (s_JS_checkIndex (by omega) hw (fun h2 hw => ?_))
  show aW none m_JL_charAt (d + 1) 6 [(0, ar (7 + v0)), (1, ai v1)] [] h2 0 0 QQ
  refine r_aload_n (j := 0) d_JL_charAt_6 rfl ?_
  refine r_iload_n (j := 1) d_JL_charAt_7 rfl ?_
  obtain ⟨q3, hw⟩ := hw
  obtain ⟨q4, hw⟩ := hw
  refine r_baldS q3 d_JL_charAt_8 q4 ?_
  refine r_sipush d_JL_charAt_9 ks_255 ?_
  refine r_iand d_JL_charAt_12 ?_
  refine r_i2c d_JL_charAt_13 ?_
  obtain ⟨q5, hw⟩ := hw
  exact r_xreturn d_JL_charAt_14.1 rfl q5 (hQ _ _ hw)
set_option maxRecDepth 100000 in
set_option maxHeartbeats 4000000 in
theorem s_JS_charAt {d : Nat} (hd : 3 ≤ d) {v0 : Nat} {v1 : Int32} {h : Hp} {Q : Int32 → Hp → Prop} {QQ : Option AV → Hp → Prop} (hw : w_JS_charAt v0 v1 h Q) (hQ : ∀ r9 h9, Q r9 h9 → QQ (some (ai r9)) h9) : aCall m_JS_charAt d [ar (2 + v0), ai v1] h 0 0 QQ := by
  obtain ⟨d, rfl⟩ : ∃ d9, d = d9 + 1 := ⟨d - 1, by omega⟩
  refine aCall_in pl_JS_charAt (nle rfl) ?_
  show aW none m_JS_charAt (d + 1) 0 [(0, ar (2 + v0)), (1, ai v1)] [] h 0 0 QQ
  unfold w_JS_charAt at hw
  refine r_aload_n (j := 0) d_JS_charAt_0 rfl ?_
  obtain ⟨q3, hw⟩ := hw
  refine r_callT (av := []) (rest := []) q3 d_JS_charAt_1 mk_JS_isLatin1 ll_JS_492 im_JS_isLatin1 se_JS_isLatin1 rfl rfl (nle rfl) (s_JS_isLatin1  hw (fun r2 h1 hw => ?_))
  show aW none m_JS_charAt (d + 1) 4 [(0, ar (2 + v0)), (1, ai v1)] [ai (b2i r2)] h1 0 0 QQ
  refine r_if_eq d_JS_charAt_4 (fun w9 => ?_) (fun w9 => ?_)
  · replace hw := hw.1 (b2i_0.mp w9)
    refine r_aload_n (j := 0) d_JS_charAt_16 rfl ?_
    obtain ⟨q4, hw⟩ := hw
    refine r_getSv q4 d_JS_charAt_17 lf_JS_9 ?_
    refine r_iload_n (j := 1) d_JS_charAt_20 rfl ?_
    exact hw.elim
  · replace hw := hw.2 (fun g9 => w9 (b2i_0.mpr g9))
    refine r_aload_n (j := 0) d_JS_charAt_7 rfl ?_
    obtain ⟨q5, hw⟩ := hw
    refine r_getSv q5 d_JS_charAt_8 lf_JS_9 ?_
    refine r_iload_n (j := 1) d_JS_charAt_11 rfl ?_
    refine r_callS (av := [ar (7 + v0), ai v1]) (rest := []) d_JS_charAt_12 mk_JL_charAt ll_JS_495 st_JL_charAt rfl rfl (nle rfl) (s_JL_charAt (by omega) hw (fun r7 h6 hw => ?_))
    show aW none m_JS_charAt (d + 1) 15 [(0, ar (2 + v0)), (1, ai v1)] [ai r7] h6 0 0 QQ
    obtain ⟨q8, hw⟩ := hw
    exact r_xreturn d_JS_charAt_15.1 rfl q8 (hQ _ _ hw)
set_option maxRecDepth 100000 in
set_option maxHeartbeats 4000000 in
theorem s_JS_coder {d : Nat} {v0 : Nat} {h : Hp} {Q : Int32 → Hp → Prop} {QQ : Option AV → Hp → Prop} (hw : w_JS_coder v0 h Q) (hQ : ∀ r9 h9, Q r9 h9 → QQ (some (ai r9)) h9) : aCall m_JS_coder d [ar (2 + v0)] h 0 0 QQ := by
  refine aCall_in pl_JS_coder (nle rfl) ?_
  show aW none m_JS_coder d 0 [(0, ar (2 + v0))] [] h 0 0 QQ
  unfold w_JS_coder at hw
  refine r_getsC d_JS_coder_0 lf_JS_38 ?_
  refine r_if_eq d_JS_coder_3 (fun w9 => ?_) (fun w9 => ?_)
  · replace hw := hw.1 w9
    refine r_iconst d_JS_coder_13 kc_1 ?_
    obtain ⟨q1, hw⟩ := hw
    exact r_xreturn d_JS_coder_14.1 rfl q1 (hQ _ _ hw)
  · replace hw := hw.2 w9
    refine r_aload_n (j := 0) d_JS_coder_6 rfl ?_
    obtain ⟨q2, hw⟩ := hw
    refine r_getSc q2 d_JS_coder_7 lf_JS_15 ?_
    refine r_goto d_JS_coder_10 ?_
    obtain ⟨q3, hw⟩ := hw
    exact r_xreturn d_JS_coder_14.1 rfl q3 (hQ _ _ hw)
set_option maxRecDepth 100000 in
set_option maxHeartbeats 4000000 in
theorem s_JS_length {d : Nat} (hd : 1 ≤ d) {v0 : Nat} {h : Hp} {Q : Int32 → Hp → Prop} {QQ : Option AV → Hp → Prop} (hw : w_JS_length v0 h Q) (hQ : ∀ r9 h9, Q r9 h9 → QQ (some (ai r9)) h9) : aCall m_JS_length d [ar (2 + v0)] h 0 0 QQ := by
  obtain ⟨d, rfl⟩ : ∃ d9, d = d9 + 1 := ⟨d - 1, by omega⟩
  refine aCall_in pl_JS_length (nle rfl) ?_
  show aW none m_JS_length (d + 1) 0 [(0, ar (2 + v0))] [] h 0 0 QQ
  unfold w_JS_length at hw
  refine r_aload_n (j := 0) d_JS_length_0 rfl ?_
  obtain ⟨q1, hw⟩ := hw
  refine r_getSv q1 d_JS_length_1 lf_JS_9 ?_
  refine r_alenS q1 d_JS_length_4 ?_
  refine r_aload_n (j := 0) d_JS_length_5 rfl ?_
  refine r_callT (av := []) (rest := [ai (Int32.ofNat (lenS.getD v0 0))]) q1 d_JS_length_6 mk_JS_coder ll_JS_335 im_JS_coder se_JS_coder rfl rfl (nle rfl) (s_JS_coder  hw (fun r3 h2 hw => ?_))
  show aW none m_JS_length (d + 1) 9 [(0, ar (2 + v0))] [ai r3, ai (Int32.ofNat (lenS.getD v0 0))] h2 0 0 QQ
  refine r_ishr d_JS_length_9 ?_
  exact r_ireturn d_JS_length_10.1 rfl (hQ _ _ hw)
set_option maxRecDepth 100000 in
set_option maxHeartbeats 4000000 in
theorem s_Tp_isWord_L28 {d : Nat} (hd : 4 ≤ d + 1) {Q : Bool → Hp → Prop} {QQ : Option AV → Hp → Prop} (hQ : ∀ r9 h9, Q r9 h9 → QQ (some (ai (b2i r9))) h9) {v0 : Nat} {v1 : Nat} : ∀ (n : Nat) (v2 : Int32) (h : Hp), w_Tp_isWord_L28 Q  v0 v1 n v2 h → aW none m_Tp_isWord (d + 1) 28 [(0, ar v0), (1, ar (2 + v1)), (2, ai v2)] [] h 0 0 QQ := by
  intro n
  induction n with
  | zero => intro v2 h hw; exact hw.elim
  | succ n ih =>
    intro v2 h hw
    unfold w_Tp_isWord_L28 at hw
    refine r_iload_n (j := 2) d_Tp_isWord_28 rfl ?_
    refine r_aload_n (j := 1) d_Tp_isWord_29 rfl ?_
    obtain ⟨q7, hw⟩ := hw
    refine r_callT (av := []) (rest := [ai v2]) q7 d_Tp_isWord_30 mk_JS_length ll_Tp_44 im_JS_length se_JS_length rfl rfl (nle rfl) (s_JS_length (by omega) hw (fun r6 h5 hw => ?_))
    show aW none m_Tp_isWord (d + 1) 33 [(0, ar v0), (1, ar (2 + v1)), (2, ai v2)] [ai r6, ai v2] h5 0 0 QQ
    refine r_icmp_ge d_Tp_isWord_33 (fun w9 => ?_) (fun w9 => ?_)
    · replace hw := hw.1 w9
      refine r_iconst d_Tp_isWord_76 kc_1 ?_
      exact r_zreturn d_Tp_isWord_77.1 rfl (Or.inr rfl) (hQ _ _ hw)
    · replace hw := hw.2 w9
      refine r_aload_n (j := 0) d_Tp_isWord_36 rfl ?_
      obtain ⟨q8, hw⟩ := hw
      refine r_getI d_Tp_isWord_37 ok_10 (nle rfl) (nle rfl) rfl lf_Tp_25 q8 ?_
      refine r_iload_n (j := 2) d_Tp_isWord_40 rfl ?_
      refine r_iadd d_Tp_isWord_41 ?_
      refine r_aload_n (j := 0) d_Tp_isWord_42 rfl ?_
      refine r_getI d_Tp_isWord_43 ok_10 (nle rfl) (nle rfl) rfl lf_Tp_15 q8 ?_
      refine r_icmp_ge d_Tp_isWord_46 (fun w9 => ?_) (fun w9 => ?_)
      · replace hw := hw.1 w9
        refine r_iconst d_Tp_isWord_76 kc_1 ?_
        exact r_zreturn d_Tp_isWord_77.1 rfl (Or.inr rfl) (hQ _ _ hw)
      · replace hw := hw.2 w9
        refine r_aload_n (j := 0) d_Tp_isWord_49 rfl ?_
        refine r_getR d_Tp_isWord_50 ok_10 (nle rfl) (nle rfl) rfl lf_Tp_9 q8 ?_
        refine r_aload_n (j := 0) d_Tp_isWord_53 rfl ?_
        refine r_getI d_Tp_isWord_54 ok_10 (nle rfl) (nle rfl) rfl lf_Tp_25 q8 ?_
        refine r_iload_n (j := 2) d_Tp_isWord_57 rfl ?_
        refine r_iadd d_Tp_isWord_58 ?_
        obtain ⟨q9, hw⟩ := hw
        obtain ⟨q10, hw⟩ := hw
        refine r_iald d_Tp_isWord_59 q9 q10 ?_
        refine r_aload_n (j := 1) d_Tp_isWord_60 rfl ?_
        refine r_iload_n (j := 2) d_Tp_isWord_61 rfl ?_
        obtain ⟨q13, hw⟩ := hw
        refine r_callT (av := [ai v2]) (rest := [ai (gI h5 (gR h5 v0 0) (ix ((gI h5 v0 3) + v2)))]) q13 d_Tp_isWord_62 mk_JS_charAt ll_Tp_49 im_JS_charAt se_JS_charAt rfl rfl (nle rfl) (s_JS_charAt (by omega) hw (fun r12 h11 hw => ?_))
        show aW none m_Tp_isWord (d + 1) 65 [(0, ar v0), (1, ar (2 + v1)), (2, ai v2)] [ai r12, ai (gI h5 (gR h5 v0 0) (ix ((gI h5 v0 3) + v2)))] h11 0 0 QQ
        refine r_icmp_eq d_Tp_isWord_65 (fun w9 => ?_) (fun w9 => ?_)
        · replace hw := hw.1 w9
          refine r_iinc (j := 2) (ls2 := [(2, ai (v2 + (1 : Int32))), (0, ar v0), (1, ar (2 + v1))]) d_Tp_isWord_70 rfl (congrArg (HAdd.hAdd v2) kc_1) (nle rfl) rfl ?_
          refine r_goto d_Tp_isWord_73 ?_
          refine r_pick (ls2 := [(0, ar v0), (1, ar (2 + v1)), (2, ai (v2 + (1 : Int32)))]) [1, 2, 0] rfl ?_
          exact ih _ _ hw
        · replace hw := hw.2 w9
          refine r_iconst d_Tp_isWord_68 kc_0 ?_
          exact r_zreturn d_Tp_isWord_69.1 rfl (Or.inl rfl) (hQ _ _ hw)
set_option maxRecDepth 100000 in
set_option maxHeartbeats 4000000 in
theorem s_Tp_isWord {d : Nat} (hd : 4 ≤ d) {v0 : Nat} {v1 : Nat} {h : Hp} {Q : Bool → Hp → Prop} {QQ : Option AV → Hp → Prop} (hw : w_Tp_isWord v0 v1 h Q) (hQ : ∀ r9 h9, Q r9 h9 → QQ (some (ai (b2i r9))) h9) : aCall m_Tp_isWord d [ar v0, ar (2 + v1)] h 0 0 QQ := by
  obtain ⟨d, rfl⟩ : ∃ d9, d = d9 + 1 := ⟨d - 1, by omega⟩
  refine aCall_in pl_Tp_isWord (nle rfl) ?_
  show aW none m_Tp_isWord (d + 1) 0 [(0, ar v0), (1, ar (2 + v1))] [] h 0 0 QQ
  unfold w_Tp_isWord at hw
  refine r_aload_n (j := 0) d_Tp_isWord_0 rfl ?_
  obtain ⟨q1, hw⟩ := hw
  refine r_getI d_Tp_isWord_1 ok_10 (nle rfl) (nle rfl) rfl lf_Tp_28 q1 ?_
  refine r_iconst d_Tp_isWord_4 kc_2 ?_
  refine r_icmp_ne d_Tp_isWord_5 (fun w9 => ?_) (fun w9 => ?_)
  · replace hw := hw.2 w9
    refine r_iconst d_Tp_isWord_24 kc_0 ?_
    exact r_zreturn d_Tp_isWord_25.1 rfl (Or.inl rfl) (hQ _ _ hw)
  · replace hw := hw.1 w9
    refine r_aload_n (j := 0) d_Tp_isWord_8 rfl ?_
    refine r_getI d_Tp_isWord_9 ok_10 (nle rfl) (nle rfl) rfl lf_Tp_19 q1 ?_
    refine r_aload_n (j := 0) d_Tp_isWord_12 rfl ?_
    refine r_getI d_Tp_isWord_13 ok_10 (nle rfl) (nle rfl) rfl lf_Tp_25 q1 ?_
    refine r_isub d_Tp_isWord_16 ?_
    refine r_aload_n (j := 1) d_Tp_isWord_17 rfl ?_
    obtain ⟨q4, hw⟩ := hw
    refine r_callT (av := []) (rest := [ai ((gI h v0 4) - (gI h v0 3))]) q4 d_Tp_isWord_18 mk_JS_length ll_Tp_44 im_JS_length se_JS_length rfl rfl (nle rfl) (s_JS_length (by omega) hw (fun r3 h2 hw => ?_))
    show aW none m_Tp_isWord (d + 1) 21 [(0, ar v0), (1, ar (2 + v1))] [ai r3, ai ((gI h v0 4) - (gI h v0 3))] h2 0 0 QQ
    refine r_icmp_eq d_Tp_isWord_21 (fun w9 => ?_) (fun w9 => ?_)
    · replace hw := hw.1 w9
      refine r_iconst d_Tp_isWord_26 kc_0 ?_
      refine r_istore_n (ls2 := [(2, ai (0 : Int32)), (0, ar v0), (1, ar (2 + v1))]) d_Tp_isWord_27 (nle rfl) rfl ?_
      obtain ⟨n14, hw⟩ := hw
      refine r_pick (ls2 := [(0, ar v0), (1, ar (2 + v1)), (2, ai (0 : Int32))]) [1, 2, 0] rfl ?_
      exact s_Tp_isWord_L28 hd hQ  n14 _ _ hw
    · replace hw := hw.2 w9
      refine r_iconst d_Tp_isWord_24 kc_0 ?_
      exact r_zreturn d_Tp_isWord_25.1 rfl (Or.inl rfl) (hQ _ _ hw)
set_option maxRecDepth 100000 in
set_option maxHeartbeats 4000000 in
theorem s_Rd_isReserved {d : Nat} (hd : 5 ≤ d) {v0 : Nat} {h : Hp} {Q : Bool → Hp → Prop} {QQ : Option AV → Hp → Prop} (hw : w_Rd_isReserved v0 h Q) (hQ : ∀ r9 h9, Q r9 h9 → QQ (some (ai (b2i r9))) h9) : aCall m_Rd_isReserved d [ar v0] h 0 0 QQ := by
  obtain ⟨d, rfl⟩ : ∃ d9, d = d9 + 1 := ⟨d - 1, by omega⟩
  refine aCall_in pl_Rd_isReserved (nle rfl) ?_
  show aW none m_Rd_isReserved (d + 1) 0 [(0, ar v0)] [] h 0 0 QQ
  unfold w_Rd_isReserved at hw
  refine r_aload_n (j := 0) d_Rd_isReserved_0 rfl ?_
  obtain ⟨q1, hw⟩ := hw
  refine r_getR d_Rd_isReserved_1 ok_8 (nle rfl) (nle rfl) rfl lf_Rd_29 q1 ?_
  refine r_ldcS (i := 0) (nle rfl) d_Rd_isReserved_4 rfl ?_
  obtain ⟨q4, hw⟩ := hw
  refine r_callV (av := [ar (2 + 0)]) (rest := []) (ci := 10) d_Rd_isReserved_6 mk_Tp_isWord ll_Rd_63 im_Tp_isWord se_Tp_isWord rfl (nle rfl) rfl rfl (nle rfl) q4 (s_Tp_isWord (by omega) hw (fun r3 h2 hw => ?_))
  show aW none m_Rd_isReserved (d + 1) 9 [(0, ar v0)] [ai (b2i r3)] h2 0 0 QQ
  refine r_if_ne d_Rd_isReserved_9 (fun w9 => ?_) (fun w9 => ?_)
  · replace hw := hw.2 (fun g9 => w9 (b2i_0.mpr g9))
    refine r_iconst d_Rd_isReserved_60 kc_1 ?_
    refine r_goto d_Rd_isReserved_61 ?_
    exact r_zreturn d_Rd_isReserved_65.1 rfl (Or.inr rfl) (hQ _ _ hw)
  · replace hw := hw.1 (b2i_0.mp w9)
    refine r_aload_n (j := 0) d_Rd_isReserved_12 rfl ?_
    obtain ⟨q5, hw⟩ := hw
    refine r_getR d_Rd_isReserved_13 ok_8 (nle rfl) (nle rfl) rfl lf_Rd_29 q5 ?_
    refine r_ldcS (i := 1) (nle rfl) d_Rd_isReserved_16 rfl ?_
    obtain ⟨q8, hw⟩ := hw
    refine r_callV (av := [ar (2 + 1)]) (rest := []) (ci := 10) d_Rd_isReserved_18 mk_Tp_isWord ll_Rd_63 im_Tp_isWord se_Tp_isWord rfl (nle rfl) rfl rfl (nle rfl) q8 (s_Tp_isWord (by omega) hw (fun r7 h6 hw => ?_))
    show aW none m_Rd_isReserved (d + 1) 21 [(0, ar v0)] [ai (b2i r7)] h6 0 0 QQ
    refine r_if_ne d_Rd_isReserved_21 (fun w9 => ?_) (fun w9 => ?_)
    · replace hw := hw.2 (fun g9 => w9 (b2i_0.mpr g9))
      refine r_iconst d_Rd_isReserved_60 kc_1 ?_
      refine r_goto d_Rd_isReserved_61 ?_
      exact r_zreturn d_Rd_isReserved_65.1 rfl (Or.inr rfl) (hQ _ _ hw)
    · replace hw := hw.1 (b2i_0.mp w9)
      refine r_aload_n (j := 0) d_Rd_isReserved_24 rfl ?_
      obtain ⟨q9, hw⟩ := hw
      refine r_getR d_Rd_isReserved_25 ok_8 (nle rfl) (nle rfl) rfl lf_Rd_29 q9 ?_
      refine r_ldcS (i := 2) (nle rfl) d_Rd_isReserved_28 rfl ?_
      obtain ⟨q12, hw⟩ := hw
      refine r_callV (av := [ar (2 + 2)]) (rest := []) (ci := 10) d_Rd_isReserved_30 mk_Tp_isWord ll_Rd_63 im_Tp_isWord se_Tp_isWord rfl (nle rfl) rfl rfl (nle rfl) q12 (s_Tp_isWord (by omega) hw (fun r11 h10 hw => ?_))
      show aW none m_Rd_isReserved (d + 1) 33 [(0, ar v0)] [ai (b2i r11)] h10 0 0 QQ
      refine r_if_ne d_Rd_isReserved_33 (fun w9 => ?_) (fun w9 => ?_)
      · replace hw := hw.2 (fun g9 => w9 (b2i_0.mpr g9))
        refine r_iconst d_Rd_isReserved_60 kc_1 ?_
        refine r_goto d_Rd_isReserved_61 ?_
        exact r_zreturn d_Rd_isReserved_65.1 rfl (Or.inr rfl) (hQ _ _ hw)
      · replace hw := hw.1 (b2i_0.mp w9)
        refine r_aload_n (j := 0) d_Rd_isReserved_36 rfl ?_
        obtain ⟨q13, hw⟩ := hw
        refine r_getR d_Rd_isReserved_37 ok_8 (nle rfl) (nle rfl) rfl lf_Rd_29 q13 ?_
        refine r_ldcS (i := 3) (nle rfl) d_Rd_isReserved_40 rfl ?_
        obtain ⟨q16, hw⟩ := hw
        refine r_callV (av := [ar (2 + 3)]) (rest := []) (ci := 10) d_Rd_isReserved_42 mk_Tp_isWord ll_Rd_63 im_Tp_isWord se_Tp_isWord rfl (nle rfl) rfl rfl (nle rfl) q16 (s_Tp_isWord (by omega) hw (fun r15 h14 hw => ?_))
        show aW none m_Rd_isReserved (d + 1) 45 [(0, ar v0)] [ai (b2i r15)] h14 0 0 QQ
        refine r_if_ne d_Rd_isReserved_45 (fun w9 => ?_) (fun w9 => ?_)
        · replace hw := hw.2 (fun g9 => w9 (b2i_0.mpr g9))
          refine r_iconst d_Rd_isReserved_60 kc_1 ?_
          refine r_goto d_Rd_isReserved_61 ?_
          exact r_zreturn d_Rd_isReserved_65.1 rfl (Or.inr rfl) (hQ _ _ hw)
        · replace hw := hw.1 (b2i_0.mp w9)
          refine r_aload_n (j := 0) d_Rd_isReserved_48 rfl ?_
          obtain ⟨q17, hw⟩ := hw
          refine r_getR d_Rd_isReserved_49 ok_8 (nle rfl) (nle rfl) rfl lf_Rd_29 q17 ?_
          refine r_ldcS (i := 4) (nle rfl) d_Rd_isReserved_52 rfl ?_
          obtain ⟨q20, hw⟩ := hw
          refine r_callV (av := [ar (2 + 4)]) (rest := []) (ci := 10) d_Rd_isReserved_54 mk_Tp_isWord ll_Rd_63 im_Tp_isWord se_Tp_isWord rfl (nle rfl) rfl rfl (nle rfl) q20 (s_Tp_isWord (by omega) hw (fun r19 h18 hw => ?_))
          show aW none m_Rd_isReserved (d + 1) 57 [(0, ar v0)] [ai (b2i r19)] h18 0 0 QQ
          refine r_if_eq d_Rd_isReserved_57 (fun w9 => ?_) (fun w9 => ?_)
          · replace hw := hw.1 (b2i_0.mp w9)
            refine r_iconst d_Rd_isReserved_64 kc_0 ?_
            exact r_zreturn d_Rd_isReserved_65.1 rfl (Or.inl rfl) (hQ _ _ hw)
          · replace hw := hw.2 (fun g9 => w9 (b2i_0.mpr g9))
            refine r_iconst d_Rd_isReserved_60 kc_1 ?_
            refine r_goto d_Rd_isReserved_61 ?_
            exact r_zreturn d_Rd_isReserved_65.1 rfl (Or.inr rfl) (hQ _ _ hw)
set_option maxRecDepth 100000 in
set_option maxHeartbeats 4000000 in
theorem s_Tp_isSameAs_L19 {d : Nat} {Q : Bool → Hp → Prop} {QQ : Option AV → Hp → Prop} (hQ : ∀ r9 h9, Q r9 h9 → QQ (some (ai (b2i r9))) h9) {v0 : Nat} {v1 : Int32} : ∀ (n : Nat) (v3 : Int32) (h : Hp), w_Tp_isSameAs_L19 Q  v0 v1 n v3 h → aW none m_Tp_isSameAs d 19 [(0, ar v0), (1, ai v1), (3, ai v3)] [] h 0 0 QQ := by
  intro n
  induction n with
  | zero => intro v3 h hw; exact hw.elim
  | succ n ih =>
    intro v3 h hw
    unfold w_Tp_isSameAs_L19 at hw
    refine r_aload_n (j := 0) d_Tp_isSameAs_19 rfl ?_
    obtain ⟨q2, hw⟩ := hw
    refine r_getI d_Tp_isSameAs_20 ok_10 (nle rfl) (nle rfl) rfl lf_Tp_25 q2 ?_
    refine r_iload_n (j := 2) d_Tp_isSameAs_23 rfl ?_
    refine r_iadd d_Tp_isSameAs_24 ?_
    refine r_aload_n (j := 0) d_Tp_isSameAs_25 rfl ?_
    refine r_getI d_Tp_isSameAs_26 ok_10 (nle rfl) (nle rfl) rfl lf_Tp_19 q2 ?_
    refine r_icmp_ge d_Tp_isSameAs_29 (fun w9 => ?_) (fun w9 => ?_)
    · replace hw := hw.1 w9
      refine r_iconst d_Tp_isSameAs_62 kc_1 ?_
      exact r_zreturn d_Tp_isSameAs_63.1 rfl (Or.inr rfl) (hQ _ _ hw)
    · replace hw := hw.2 w9
      refine r_aload_n (j := 0) d_Tp_isSameAs_32 rfl ?_
      refine r_getR d_Tp_isSameAs_33 ok_10 (nle rfl) (nle rfl) rfl lf_Tp_9 q2 ?_
      refine r_aload_n (j := 0) d_Tp_isSameAs_36 rfl ?_
      refine r_getI d_Tp_isSameAs_37 ok_10 (nle rfl) (nle rfl) rfl lf_Tp_25 q2 ?_
      refine r_iload_n (j := 2) d_Tp_isSameAs_40 rfl ?_
      refine r_iadd d_Tp_isSameAs_41 ?_
      obtain ⟨q3, hw⟩ := hw
      obtain ⟨q4, hw⟩ := hw
      refine r_iald d_Tp_isSameAs_42 q3 q4 ?_
      refine r_aload_n (j := 0) d_Tp_isSameAs_43 rfl ?_
      refine r_getR d_Tp_isSameAs_44 ok_10 (nle rfl) (nle rfl) rfl lf_Tp_9 q2 ?_
      refine r_iload_n (j := 1) d_Tp_isSameAs_47 rfl ?_
      refine r_iload_n (j := 2) d_Tp_isSameAs_48 rfl ?_
      refine r_iadd d_Tp_isSameAs_49 ?_
      obtain ⟨q5, hw⟩ := hw
      refine r_iald d_Tp_isSameAs_50 q3 q5 ?_
      refine r_icmp_eq d_Tp_isSameAs_51 (fun w9 => ?_) (fun w9 => ?_)
      · replace hw := hw.1 w9
        refine r_iinc (j := 2) (ls2 := [(3, ai (v3 + (1 : Int32))), (0, ar v0), (1, ai v1)]) d_Tp_isSameAs_56 rfl (congrArg (HAdd.hAdd v3) kc_1) (nle rfl) rfl ?_
        refine r_goto d_Tp_isSameAs_59 ?_
        refine r_pick (ls2 := [(0, ar v0), (1, ai v1), (3, ai (v3 + (1 : Int32)))]) [1, 2, 0] rfl ?_
        exact ih _ _ hw
      · replace hw := hw.2 w9
        refine r_iconst d_Tp_isSameAs_54 kc_0 ?_
        exact r_zreturn d_Tp_isSameAs_55.1 rfl (Or.inl rfl) (hQ _ _ hw)
set_option maxRecDepth 100000 in
set_option maxHeartbeats 4000000 in
theorem s_Tp_isSameAs {d : Nat} {v0 : Nat} {v1 : Int32} {v2 : Int32} {h : Hp} {Q : Bool → Hp → Prop} {QQ : Option AV → Hp → Prop} (hw : w_Tp_isSameAs v0 v1 v2 h Q) (hQ : ∀ r9 h9, Q r9 h9 → QQ (some (ai (b2i r9))) h9) : aCall m_Tp_isSameAs d [ar v0, ai v1, ai v2] h 0 0 QQ := by
  refine aCall_in pl_Tp_isSameAs (nle rfl) ?_
  show aW none m_Tp_isSameAs d 0 [(0, ar v0), (1, ai v1), (2, ai v2)] [] h 0 0 QQ
  unfold w_Tp_isSameAs at hw
  refine r_iload_n (j := 2) d_Tp_isSameAs_0 rfl ?_
  refine r_iload_n (j := 1) d_Tp_isSameAs_1 rfl ?_
  refine r_isub d_Tp_isSameAs_2 ?_
  refine r_aload_n (j := 0) d_Tp_isSameAs_3 rfl ?_
  obtain ⟨q1, hw⟩ := hw
  refine r_getI d_Tp_isSameAs_4 ok_10 (nle rfl) (nle rfl) rfl lf_Tp_19 q1 ?_
  refine r_aload_n (j := 0) d_Tp_isSameAs_7 rfl ?_
  refine r_getI d_Tp_isSameAs_8 ok_10 (nle rfl) (nle rfl) rfl lf_Tp_25 q1 ?_
  refine r_isub d_Tp_isSameAs_11 ?_
  refine r_icmp_eq d_Tp_isSameAs_12 (fun w9 => ?_) (fun w9 => ?_)
  · replace hw := hw.1 w9
    refine r_iconst d_Tp_isSameAs_17 kc_0 ?_
    refine r_istore_n (ls2 := [(3, ai (0 : Int32)), (0, ar v0), (1, ai v1), (2, ai v2)]) d_Tp_isSameAs_18 (nle rfl) rfl ?_
    obtain ⟨n6, hw⟩ := hw
    refine r_pick (ls2 := [(0, ar v0), (1, ai v1), (3, ai (0 : Int32))]) [1, 2, 0] rfl ?_
    exact s_Tp_isSameAs_L19 hQ  n6 _ _ hw
  · replace hw := hw.2 w9
    refine r_iconst d_Tp_isSameAs_15 kc_0 ?_
    exact r_zreturn d_Tp_isSameAs_16.1 rfl (Or.inl rfl) (hQ _ _ hw)
set_option maxRecDepth 100000 in
set_option maxHeartbeats 4000000 in
theorem s_Rd_isNewName_B18 {d : Nat} (hd : 6 ≤ d + 1) {Q : Bool → Hp → Prop} {QQ : Option AV → Hp → Prop} (hQ : ∀ r9 h9, Q r9 h9 → QQ (some (ai (b2i r9))) h9) {v0 : Nat} {h : Hp} (hw : w_Rd_isNewName_B18 Q  v0 h) : aW none m_Rd_isNewName (d + 1) 18 [(0, ar v0)] [] h 0 0 QQ := by
  unfold w_Rd_isNewName_B18 at hw
  refine r_aload_n (j := 0) d_Rd_isNewName_18 rfl ?_
  refine r_iconst d_Rd_isNewName_19 kc_2 ?_
  obtain ⟨q5, hw⟩ := hw
  refine r_callV (av := [ai (2 : Int32)]) (rest := []) (ci := 8) d_Rd_isNewName_20 mk_Rd_fail ll_Rd_71 im_Rd_fail se_Rd_fail rfl (nle rfl) rfl rfl (nle rfl) q5 (s_Rd_fail  hw (fun r4 h3 hw => ?_))
  show aW none m_Rd_isNewName (d + 1) 23 [(0, ar v0)] [ai (b2i r4)] h3 0 0 QQ
  exact r_zreturn d_Rd_isNewName_23.1 rfl (b2i_B _) (hQ _ _ hw)
set_option maxRecDepth 100000 in
set_option maxHeartbeats 4000000 in
theorem s_Rd_isNewName_L26 {d : Nat} (hd : 6 ≤ d + 1) {Q : Bool → Hp → Prop} {QQ : Option AV → Hp → Prop} (hQ : ∀ r9 h9, Q r9 h9 → QQ (some (ai (b2i r9))) h9) {v0 : Nat} : ∀ (n : Nat) (v1 : Int32) (h : Hp), w_Rd_isNewName_L26 Q  v0 n v1 h → aW none m_Rd_isNewName (d + 1) 26 [(0, ar v0), (1, ai v1)] [] h 0 0 QQ := by
  intro n
  induction n with
  | zero => intro v1 h hw; exact hw.elim
  | succ n ih =>
    intro v1 h hw
    unfold w_Rd_isNewName_L26 at hw
    refine r_iload_n (j := 1) d_Rd_isNewName_26 rfl ?_
    refine r_aload_n (j := 0) d_Rd_isNewName_27 rfl ?_
    obtain ⟨q8, hw⟩ := hw
    refine r_getR d_Rd_isNewName_28 ok_8 (nle rfl) (nle rfl) rfl lf_Rd_12 q8 ?_
    obtain ⟨q9, hw⟩ := hw
    refine r_getI d_Rd_isNewName_31 ok_1 (nle rfl) (nle rfl) rfl lf_Rd_76 q9 ?_
    refine r_icmp_ge d_Rd_isNewName_34 (fun w9 => ?_) (fun w9 => ?_)
    · replace hw := hw.1 w9
      refine r_iconst d_Rd_isNewName_71 kc_1 ?_
      exact r_zreturn d_Rd_isNewName_72.1 rfl (Or.inr rfl) (hQ _ _ hw)
    · replace hw := hw.2 w9
      refine r_aload_n (j := 0) d_Rd_isNewName_37 rfl ?_
      refine r_getR d_Rd_isNewName_38 ok_8 (nle rfl) (nle rfl) rfl lf_Rd_29 q8 ?_
      refine r_aload_n (j := 0) d_Rd_isNewName_41 rfl ?_
      refine r_getR d_Rd_isNewName_42 ok_8 (nle rfl) (nle rfl) rfl lf_Rd_18 q8 ?_
      refine r_iload_n (j := 1) d_Rd_isNewName_45 rfl ?_
      obtain ⟨q10, hw⟩ := hw
      obtain ⟨q11, hw⟩ := hw
      refine r_iald d_Rd_isNewName_46 q10 q11 ?_
      refine r_aload_n (j := 0) d_Rd_isNewName_47 rfl ?_
      refine r_getR d_Rd_isNewName_48 ok_8 (nle rfl) (nle rfl) rfl lf_Rd_22 q8 ?_
      refine r_iload_n (j := 1) d_Rd_isNewName_51 rfl ?_
      obtain ⟨q12, hw⟩ := hw
      obtain ⟨q13, hw⟩ := hw
      refine r_iald d_Rd_isNewName_52 q12 q13 ?_
      obtain ⟨q16, hw⟩ := hw
      refine r_callV (av := [ai (gI h (gR h v0 2) (ix v1)), ai (gI h (gR h v0 3) (ix v1))]) (rest := []) (ci := 10) d_Rd_isNewName_53 mk_Tp_isSameAs ll_Rd_126 im_Tp_isSameAs se_Tp_isSameAs rfl (nle rfl) rfl rfl (nle rfl) q16 (s_Tp_isSameAs  hw (fun r15 h14 hw => ?_))
      show aW none m_Rd_isNewName (d + 1) 56 [(0, ar v0), (1, ai v1)] [ai (b2i r15)] h14 0 0 QQ
      refine r_if_eq d_Rd_isNewName_56 (fun w9 => ?_) (fun w9 => ?_)
      · replace hw := hw.1 (b2i_0.mp w9)
        refine r_iinc (j := 1) (ls2 := [(1, ai (v1 + (1 : Int32))), (0, ar v0)]) d_Rd_isNewName_65 rfl (congrArg (HAdd.hAdd v1) kc_1) (nle rfl) rfl ?_
        refine r_goto d_Rd_isNewName_68 ?_
        refine r_pick (ls2 := [(0, ar v0), (1, ai (v1 + (1 : Int32)))]) [1, 0] rfl ?_
        exact ih _ _ hw
      · replace hw := hw.2 (fun g9 => w9 (b2i_0.mpr g9))
        refine r_aload_n (j := 0) d_Rd_isNewName_59 rfl ?_
        refine r_iconst d_Rd_isNewName_60 kc_3 ?_
        obtain ⟨q19, hw⟩ := hw
        refine r_callV (av := [ai (3 : Int32)]) (rest := []) (ci := 8) d_Rd_isNewName_61 mk_Rd_fail ll_Rd_71 im_Rd_fail se_Rd_fail rfl (nle rfl) rfl rfl (nle rfl) q19 (s_Rd_fail  hw (fun r18 h17 hw => ?_))
        show aW none m_Rd_isNewName (d + 1) 64 [(0, ar v0), (1, ai v1)] [ai (b2i r18)] h17 0 0 QQ
        exact r_zreturn d_Rd_isNewName_64.1 rfl (b2i_B _) (hQ _ _ hw)
set_option maxRecDepth 100000 in
set_option maxHeartbeats 4000000 in
theorem s_Rd_isNewName {d : Nat} (hd : 6 ≤ d) {v0 : Nat} {h : Hp} {Q : Bool → Hp → Prop} {QQ : Option AV → Hp → Prop} (hw : w_Rd_isNewName v0 h Q) (hQ : ∀ r9 h9, Q r9 h9 → QQ (some (ai (b2i r9))) h9) : aCall m_Rd_isNewName d [ar v0] h 0 0 QQ := by
  obtain ⟨d, rfl⟩ : ∃ d9, d = d9 + 1 := ⟨d - 1, by omega⟩
  refine aCall_in pl_Rd_isNewName (nle rfl) ?_
  show aW none m_Rd_isNewName (d + 1) 0 [(0, ar v0)] [] h 0 0 QQ
  unfold w_Rd_isNewName at hw
  refine r_aload_n (j := 0) d_Rd_isNewName_0 rfl ?_
  obtain ⟨q1, hw⟩ := hw
  refine r_getR d_Rd_isNewName_1 ok_8 (nle rfl) (nle rfl) rfl lf_Rd_29 q1 ?_
  obtain ⟨q2, hw⟩ := hw
  refine r_getI d_Rd_isNewName_4 ok_10 (nle rfl) (nle rfl) rfl lf_Rd_51 q2 ?_
  refine r_iconst d_Rd_isNewName_7 kc_2 ?_
  refine r_icmp_ne d_Rd_isNewName_8 (fun w9 => ?_) (fun w9 => ?_)
  · replace hw := hw.2 w9
    exact s_Rd_isNewName_B18 hd hQ  hw
  · replace hw := hw.1 w9
    refine r_aload_n (j := 0) d_Rd_isNewName_11 rfl ?_
    refine r_callV (av := []) (rest := []) (ci := 8) d_Rd_isNewName_12 mk_Rd_isReserved ll_Rd_123 im_Rd_isReserved se_Rd_isReserved rfl (nle rfl) rfl rfl (nle rfl) q1 (s_Rd_isReserved (by omega) hw (fun r7 h6 hw => ?_))
    show aW none m_Rd_isNewName (d + 1) 15 [(0, ar v0)] [ai (b2i r7)] h6 0 0 QQ
    refine r_if_eq d_Rd_isNewName_15 (fun w9 => ?_) (fun w9 => ?_)
    · replace hw := hw.1 (b2i_0.mp w9)
      refine r_iconst d_Rd_isNewName_24 kc_0 ?_
      refine r_istore_n (ls2 := [(1, ai (0 : Int32)), (0, ar v0)]) d_Rd_isNewName_25 (nle rfl) rfl ?_
      obtain ⟨n20, hw⟩ := hw
      refine r_pick (ls2 := [(0, ar v0), (1, ai (0 : Int32))]) [1, 0] rfl ?_
      exact s_Rd_isNewName_L26 hd hQ  n20 _ _ hw
    · replace hw := hw.2 (fun g9 => w9 (b2i_0.mpr g9))
      exact s_Rd_isNewName_B18 hd hQ  hw
set_option maxRecDepth 100000 in
set_option maxHeartbeats 4000000 in
theorem s_Tp_value_L7 {d : Nat} {Q : Int32 → Hp → Prop} {QQ : Option AV → Hp → Prop} (hQ : ∀ r9 h9, Q r9 h9 → QQ (some (ai r9)) h9) {v0 : Nat} : ∀ (n : Nat) (v1 : Int32) (v2 : Int32) (h : Hp), w_Tp_value_L7 Q  v0 n v1 v2 h → aW none m_Tp_value d 7 [(0, ar v0), (1, ai v1), (2, ai v2)] [] h 0 0 QQ := by
  intro n
  induction n with
  | zero => intro v1 v2 h hw; exact hw.elim
  | succ n ih =>
    intro v1 v2 h hw
    unfold w_Tp_value_L7 at hw
    refine r_iload_n (j := 2) d_Tp_value_7 rfl ?_
    refine r_aload_n (j := 0) d_Tp_value_8 rfl ?_
    obtain ⟨q2, hw⟩ := hw
    refine r_getI d_Tp_value_9 ok_10 (nle rfl) (nle rfl) rfl lf_Tp_19 q2 ?_
    refine r_icmp_ge d_Tp_value_12 (fun w9 => ?_) (fun w9 => ?_)
    · replace hw := hw.1 w9
      refine r_iload_n (j := 1) d_Tp_value_54 rfl ?_
      exact r_ireturn d_Tp_value_55.1 rfl (hQ _ _ hw)
    · replace hw := hw.2 w9
      refine r_iload_n (j := 2) d_Tp_value_15 rfl ?_
      refine r_aload_n (j := 0) d_Tp_value_16 rfl ?_
      refine r_getI d_Tp_value_17 ok_10 (nle rfl) (nle rfl) rfl lf_Tp_15 q2 ?_
      refine r_icmp_ge d_Tp_value_20 (fun w9 => ?_) (fun w9 => ?_)
      · replace hw := hw.1 w9
        refine r_iload_n (j := 1) d_Tp_value_54 rfl ?_
        exact r_ireturn d_Tp_value_55.1 rfl (hQ _ _ hw)
      · replace hw := hw.2 w9
        refine r_iload_n (j := 2) d_Tp_value_23 rfl ?_
        refine r_aload_n (j := 0) d_Tp_value_24 rfl ?_
        refine r_getI d_Tp_value_25 ok_10 (nle rfl) (nle rfl) rfl lf_Tp_25 q2 ?_
        refine r_iconst d_Tp_value_28 kc_3 ?_
        refine r_iadd d_Tp_value_29 ?_
        refine r_icmp_ge d_Tp_value_30 (fun w9 => ?_) (fun w9 => ?_)
        · replace hw := hw.1 w9
          refine r_iload_n (j := 1) d_Tp_value_54 rfl ?_
          exact r_ireturn d_Tp_value_55.1 rfl (hQ _ _ hw)
        · replace hw := hw.2 w9
          refine r_iload_n (j := 1) d_Tp_value_33 rfl ?_
          refine r_bipush d_Tp_value_34 kb_10 ?_
          refine r_imul d_Tp_value_36 ?_
          refine r_aload_n (j := 0) d_Tp_value_37 rfl ?_
          refine r_getR d_Tp_value_38 ok_10 (nle rfl) (nle rfl) rfl lf_Tp_9 q2 ?_
          refine r_iload_n (j := 2) d_Tp_value_41 rfl ?_
          obtain ⟨q3, hw⟩ := hw
          obtain ⟨q4, hw⟩ := hw
          refine r_iald d_Tp_value_42 q3 q4 ?_
          refine r_iadd d_Tp_value_43 ?_
          refine r_bipush d_Tp_value_44 kb_48 ?_
          refine r_isub d_Tp_value_46 ?_
          refine r_istore_n (ls2 := [(1, ai (((v1 * (10 : Int32)) + (gI h (gR h v0 0) (ix v2))) - (48 : Int32))), (0, ar v0), (2, ai v2)]) d_Tp_value_47 (nle rfl) rfl ?_
          refine r_iinc (j := 2) (ls2 := [(2, ai (v2 + (1 : Int32))), (1, ai (((v1 * (10 : Int32)) + (gI h (gR h v0 0) (ix v2))) - (48 : Int32))), (0, ar v0)]) d_Tp_value_48 rfl (congrArg (HAdd.hAdd v2) kc_1) (nle rfl) rfl ?_
          refine r_goto d_Tp_value_51 ?_
          refine r_pick (ls2 := [(0, ar v0), (1, ai (((v1 * (10 : Int32)) + (gI h (gR h v0 0) (ix v2))) - (48 : Int32))), (2, ai (v2 + (1 : Int32)))]) [2, 1, 0] rfl ?_
          exact ih _ _ _ hw
set_option maxRecDepth 100000 in
set_option maxHeartbeats 4000000 in
theorem s_Tp_value {d : Nat} {v0 : Nat} {h : Hp} {Q : Int32 → Hp → Prop} {QQ : Option AV → Hp → Prop} (hw : w_Tp_value v0 h Q) (hQ : ∀ r9 h9, Q r9 h9 → QQ (some (ai r9)) h9) : aCall m_Tp_value d [ar v0] h 0 0 QQ := by
  refine aCall_in pl_Tp_value (nle rfl) ?_
  show aW none m_Tp_value d 0 [(0, ar v0)] [] h 0 0 QQ
  unfold w_Tp_value at hw
  refine r_iconst d_Tp_value_0 kc_0 ?_
  refine r_istore_n (ls2 := [(1, ai (0 : Int32)), (0, ar v0)]) d_Tp_value_1 (nle rfl) rfl ?_
  refine r_aload_n (j := 1) d_Tp_value_2 rfl ?_
  obtain ⟨q1, hw⟩ := hw
  refine r_getI d_Tp_value_3 ok_10 (nle rfl) (nle rfl) rfl lf_Tp_25 q1 ?_
  refine r_istore_n (ls2 := [(2, ai (gI h v0 3)), (1, ai (0 : Int32)), (0, ar v0)]) d_Tp_value_6 (nle rfl) rfl ?_
  obtain ⟨n5, hw⟩ := hw
  refine r_pick (ls2 := [(0, ar v0), (1, ai (0 : Int32)), (2, ai (gI h v0 3))]) [2, 1, 0] rfl ?_
  exact s_Tp_value_L7 hQ  n5 _ _ _ hw
set_option maxRecDepth 100000 in
set_option maxHeartbeats 4000000 in
theorem s_Rd_isNumber_B35 {d : Nat} (hd : 1 ≤ d + 1) {Q : Bool → Hp → Prop} {QQ : Option AV → Hp → Prop} (hQ : ∀ r9 h9, Q r9 h9 → QQ (some (ai (b2i r9))) h9) {v0 : Nat} {h : Hp} (hw : w_Rd_isNumber_B35 Q  v0 h) : aW none m_Rd_isNumber (d + 1) 35 [(0, ar v0)] [] h 0 0 QQ := by
  unfold w_Rd_isNumber_B35 at hw
  refine r_aload_n (j := 0) d_Rd_isNumber_35 rfl ?_
  refine r_iconst d_Rd_isNumber_36 kc_4 ?_
  obtain ⟨q7, hw⟩ := hw
  refine r_callV (av := [ai (4 : Int32)]) (rest := []) (ci := 8) d_Rd_isNumber_37 mk_Rd_fail ll_Rd_71 im_Rd_fail se_Rd_fail rfl (nle rfl) rfl rfl (nle rfl) q7 (s_Rd_fail  hw (fun r6 h5 hw => ?_))
  show aW none m_Rd_isNumber (d + 1) 40 [(0, ar v0)] [ai (b2i r6)] h5 0 0 QQ
  refine r_if_eq d_Rd_isNumber_40 (fun w9 => ?_) (fun w9 => ?_)
  · replace hw := hw.1 (b2i_0.mp w9)
    refine r_iconst d_Rd_isNumber_47 kc_0 ?_
    exact r_zreturn d_Rd_isNumber_48.1 rfl (Or.inl rfl) (hQ _ _ hw)
  · replace hw := hw.2 (fun g9 => w9 (b2i_0.mpr g9))
    refine r_iconst d_Rd_isNumber_43 kc_1 ?_
    refine r_goto d_Rd_isNumber_44 ?_
    exact r_zreturn d_Rd_isNumber_48.1 rfl (Or.inr rfl) (hQ _ _ hw)
set_option maxRecDepth 100000 in
set_option maxHeartbeats 4000000 in
theorem s_Rd_isNumber {d : Nat} (hd : 1 ≤ d) {v0 : Nat} {v1 : Int32} {v2 : Int32} {h : Hp} {Q : Bool → Hp → Prop} {QQ : Option AV → Hp → Prop} (hw : w_Rd_isNumber v0 v1 v2 h Q) (hQ : ∀ r9 h9, Q r9 h9 → QQ (some (ai (b2i r9))) h9) : aCall m_Rd_isNumber d [ar v0, ai v1, ai v2] h 0 0 QQ := by
  obtain ⟨d, rfl⟩ : ∃ d9, d = d9 + 1 := ⟨d - 1, by omega⟩
  refine aCall_in pl_Rd_isNumber (nle rfl) ?_
  show aW none m_Rd_isNumber (d + 1) 0 [(0, ar v0), (1, ai v1), (2, ai v2)] [] h 0 0 QQ
  unfold w_Rd_isNumber at hw
  refine r_aload_n (j := 0) d_Rd_isNumber_0 rfl ?_
  obtain ⟨q1, hw⟩ := hw
  refine r_getR d_Rd_isNumber_1 ok_8 (nle rfl) (nle rfl) rfl lf_Rd_29 q1 ?_
  obtain ⟨q2, hw⟩ := hw
  refine r_getI d_Rd_isNumber_4 ok_10 (nle rfl) (nle rfl) rfl lf_Rd_51 q2 ?_
  refine r_iconst d_Rd_isNumber_7 kc_3 ?_
  refine r_icmp_eq d_Rd_isNumber_8 (fun w9 => ?_) (fun w9 => ?_)
  · replace hw := hw.1 w9
    refine r_aload_n (j := 0) d_Rd_isNumber_17 rfl ?_
    refine r_getR d_Rd_isNumber_18 ok_8 (nle rfl) (nle rfl) rfl lf_Rd_29 q1 ?_
    refine r_callV (av := []) (rest := []) (ci := 10) d_Rd_isNumber_21 mk_Tp_value ll_Rd_99 im_Tp_value se_Tp_value rfl (nle rfl) rfl rfl (nle rfl) q2 (s_Tp_value  hw (fun r4 h3 hw => ?_))
    show aW none m_Rd_isNumber (d + 1) 24 [(0, ar v0), (1, ai v1), (2, ai v2)] [ai r4] h3 0 0 QQ
    refine r_istore_n (ls2 := [(3, ai r4), (0, ar v0), (1, ai v1), (2, ai v2)]) d_Rd_isNumber_24 (nle rfl) rfl ?_
    refine r_iload_n (j := 0) d_Rd_isNumber_25 rfl ?_
    refine r_iload_n (j := 2) d_Rd_isNumber_26 rfl ?_
    refine r_icmp_lt d_Rd_isNumber_27 (fun w9 => ?_) (fun w9 => ?_)
    · replace hw := hw.1 w9
      refine r_pick (ls2 := [(0, ar v0)]) [1] rfl ?_
      exact s_Rd_isNumber_B35 hd hQ  hw
    · replace hw := hw.2 w9
      refine r_iload_n (j := 0) d_Rd_isNumber_30 rfl ?_
      refine r_iload_n (j := 3) d_Rd_isNumber_31 rfl ?_
      refine r_icmp_le d_Rd_isNumber_32 (fun w9 => ?_) (fun w9 => ?_)
      · replace hw := hw.1 w9
        refine r_iconst d_Rd_isNumber_43 kc_1 ?_
        refine r_goto d_Rd_isNumber_44 ?_
        exact r_zreturn d_Rd_isNumber_48.1 rfl (Or.inr rfl) (hQ _ _ hw)
      · replace hw := hw.2 w9
        refine r_pick (ls2 := [(0, ar v0)]) [1] rfl ?_
        exact s_Rd_isNumber_B35 hd hQ  hw
  · replace hw := hw.2 w9
    refine r_aload_n (j := 0) d_Rd_isNumber_11 rfl ?_
    refine r_iconst d_Rd_isNumber_12 kc_2 ?_
    refine r_callV (av := [ai (2 : Int32)]) (rest := []) (ci := 8) d_Rd_isNumber_13 mk_Rd_fail ll_Rd_71 im_Rd_fail se_Rd_fail rfl (nle rfl) rfl rfl (nle rfl) q1 (s_Rd_fail  hw (fun r9 h8 hw => ?_))
    show aW none m_Rd_isNumber (d + 1) 16 [(0, ar v0), (1, ai v1), (2, ai v2)] [ai (b2i r9)] h8 0 0 QQ
    exact r_zreturn d_Rd_isNumber_16.1 rfl (b2i_B _) (hQ _ _ hw)
set_option maxRecDepth 100000 in
set_option maxHeartbeats 4000000 in
theorem s_Rd_readSigned_B66 {d : Nat} (hd : 3 ≤ d + 1) {Q : Bool → Hp → Prop} {QQ : Option AV → Hp → Prop} (hQ : ∀ r9 h9, Q r9 h9 → QQ (some (ai (b2i r9))) h9) {v0 : Nat} {s0 : Nat} {s1 : Int32} {s2 : Int32} {h : Hp} (hw : w_Rd_readSigned_B66 Q  v0 s0 s1 s2 h) : aW none m_Rd_readSigned (d + 1) 66 [(0, ar v0)] [ar s0, ai s1, ai s2] h 0 0 QQ := by
  unfold w_Rd_readSigned_B66 at hw
  obtain ⟨q11, hw⟩ := hw
  refine r_callV (av := [ai s1, ai s2]) (rest := []) (ci := 1) d_Rd_readSigned_66 mk_Co_put ll_Rd_108 im_Co_put se_Co_put rfl (nle rfl) rfl rfl (nle rfl) q11 (s_Co_put  hw (fun h10 hw => ?_))
  show aW none m_Rd_readSigned (d + 1) 69 [(0, ar v0)] [] h10 0 0 QQ
  refine r_aload_n (j := 0) d_Rd_readSigned_69 rfl ?_
  obtain ⟨q12, hw⟩ := hw
  refine r_getR d_Rd_readSigned_70 ok_8 (nle rfl) (nle rfl) rfl lf_Rd_29 q12 ?_
  obtain ⟨q14, hw⟩ := hw
  refine r_callV (av := []) (rest := []) (ci := 10) d_Rd_readSigned_73 mk_Tp_advance ll_Rd_92 im_Tp_advance se_Tp_advance rfl (nle rfl) rfl rfl (nle rfl) q14 (s_Tp_advance (by omega) hw (fun h13 hw => ?_))
  show aW none m_Rd_readSigned (d + 1) 76 [(0, ar v0)] [] h13 0 0 QQ
  refine r_iconst d_Rd_readSigned_76 kc_1 ?_
  exact r_zreturn d_Rd_readSigned_77.1 rfl (Or.inr rfl) (hQ _ _ hw)
set_option maxRecDepth 100000 in
set_option maxHeartbeats 4000000 in
theorem s_Rd_readSigned_B28 {d : Nat} (hd : 3 ≤ d + 1) {Q : Bool → Hp → Prop} {QQ : Option AV → Hp → Prop} (hQ : ∀ r9 h9, Q r9 h9 → QQ (some (ai (b2i r9))) h9) {v0 : Nat} {v1 : Int32} {v2 : Int32} {v3 : Int32} {h : Hp} (hw : w_Rd_readSigned_B28 Q  v0 v1 v2 v3 h) : aW none m_Rd_readSigned (d + 1) 28 [(0, ar v0), (1, ai v1), (2, ai v2), (3, ai v3)] [] h 0 0 QQ := by
  unfold w_Rd_readSigned_B28 at hw
  refine r_aload_n (j := 0) d_Rd_readSigned_28 rfl ?_
  refine r_iconst d_Rd_readSigned_29 kc_0 ?_
  refine r_iload_n (j := 2) d_Rd_readSigned_30 rfl ?_
  obtain ⟨q5, hw⟩ := hw
  refine r_callV (av := [ai (0 : Int32), ai v2]) (rest := []) (ci := 8) d_Rd_readSigned_31 mk_Rd_isNumber ll_Rd_95 im_Rd_isNumber se_Rd_isNumber rfl (nle rfl) rfl rfl (nle rfl) q5 (s_Rd_isNumber (by omega) hw (fun r4 h3 hw => ?_))
  show aW none m_Rd_readSigned (d + 1) 34 [(0, ar v0), (1, ai v1), (2, ai v2), (3, ai v3)] [ai (b2i r4)] h3 0 0 QQ
  refine r_if_ne d_Rd_readSigned_34 (fun w9 => ?_) (fun w9 => ?_)
  · replace hw := hw.2 (fun g9 => w9 (b2i_0.mpr g9))
    refine r_aload_n (j := 0) d_Rd_readSigned_39 rfl ?_
    obtain ⟨q6, hw⟩ := hw
    refine r_getR d_Rd_readSigned_40 ok_8 (nle rfl) (nle rfl) rfl lf_Rd_12 q6 ?_
    refine r_iload_n (j := 1) d_Rd_readSigned_43 rfl ?_
    refine r_iload_n (j := 3) d_Rd_readSigned_44 rfl ?_
    refine r_if_eq d_Rd_readSigned_45 (fun w9 => ?_) (fun w9 => ?_)
    · replace hw := hw.1 w9
      refine r_aload_n (j := 0) d_Rd_readSigned_59 rfl ?_
      refine r_getR d_Rd_readSigned_60 ok_8 (nle rfl) (nle rfl) rfl lf_Rd_29 q6 ?_
      obtain ⟨q9, hw⟩ := hw
      refine r_callV (av := []) (rest := [ai v1, ar (gR h3 v0 1)]) (ci := 10) d_Rd_readSigned_63 mk_Tp_value ll_Rd_99 im_Tp_value se_Tp_value rfl (nle rfl) rfl rfl (nle rfl) q9 (s_Tp_value  hw (fun r8 h7 hw => ?_))
      show aW none m_Rd_readSigned (d + 1) 66 [(0, ar v0), (1, ai v1), (2, ai v2), (3, ai v3)] [ai r8, ai v1, ar (gR h3 v0 1)] h7 0 0 QQ
      refine r_pick (ls2 := [(0, ar v0)]) [0] rfl ?_
      exact s_Rd_readSigned_B66 hd hQ  hw
    · replace hw := hw.2 w9
      refine r_aload_n (j := 0) d_Rd_readSigned_48 rfl ?_
      refine r_getR d_Rd_readSigned_49 ok_8 (nle rfl) (nle rfl) rfl lf_Rd_29 q6 ?_
      obtain ⟨q17, hw⟩ := hw
      refine r_callV (av := []) (rest := [ai v1, ar (gR h3 v0 1)]) (ci := 10) d_Rd_readSigned_52 mk_Tp_value ll_Rd_99 im_Tp_value se_Tp_value rfl (nle rfl) rfl rfl (nle rfl) q17 (s_Tp_value  hw (fun r16 h15 hw => ?_))
      show aW none m_Rd_readSigned (d + 1) 55 [(0, ar v0), (1, ai v1), (2, ai v2), (3, ai v3)] [ai r16, ai v1, ar (gR h3 v0 1)] h15 0 0 QQ
      refine r_ineg d_Rd_readSigned_55 ?_
      refine r_goto d_Rd_readSigned_56 ?_
      refine r_pick (ls2 := [(0, ar v0)]) [0] rfl ?_
      exact s_Rd_readSigned_B66 hd hQ  hw
  · replace hw := hw.1 (b2i_0.mp w9)
    refine r_iconst d_Rd_readSigned_37 kc_0 ?_
    exact r_zreturn d_Rd_readSigned_38.1 rfl (Or.inl rfl) (hQ _ _ hw)
set_option maxRecDepth 100000 in
set_option maxHeartbeats 4000000 in
theorem s_Rd_readSigned_B16 {d : Nat} (hd : 3 ≤ d + 1) {Q : Bool → Hp → Prop} {QQ : Option AV → Hp → Prop} (hQ : ∀ r9 h9, Q r9 h9 → QQ (some (ai (b2i r9))) h9) {v0 : Nat} {v1 : Int32} {v2 : Int32} {s0 : Int32} {h : Hp} (hw : w_Rd_readSigned_B16 Q  v0 v1 v2 s0 h) : aW none m_Rd_readSigned (d + 1) 16 [(0, ar v0), (1, ai v1), (2, ai v2)] [ai s0] h 0 0 QQ := by
  unfold w_Rd_readSigned_B16 at hw
  refine r_istore_n (ls2 := [(3, ai s0), (0, ar v0), (1, ai v1), (2, ai v2)]) d_Rd_readSigned_16 (nle rfl) rfl ?_
  refine r_iload_n (j := 0) d_Rd_readSigned_17 rfl ?_
  refine r_if_eq d_Rd_readSigned_18 (fun w9 => ?_) (fun w9 => ?_)
  · replace hw := hw.1 w9
    refine r_pick (ls2 := [(0, ar v0), (1, ai v1), (2, ai v2), (3, ai s0)]) [1, 2, 3, 0] rfl ?_
    exact s_Rd_readSigned_B28 hd hQ  hw
  · replace hw := hw.2 w9
    refine r_aload_n (j := 1) d_Rd_readSigned_21 rfl ?_
    obtain ⟨q18, hw⟩ := hw
    refine r_getR d_Rd_readSigned_22 ok_8 (nle rfl) (nle rfl) rfl lf_Rd_29 q18 ?_
    obtain ⟨q20, hw⟩ := hw
    refine r_callV (av := []) (rest := []) (ci := 10) d_Rd_readSigned_25 mk_Tp_advance ll_Rd_92 im_Tp_advance se_Tp_advance rfl (nle rfl) rfl rfl (nle rfl) q20 (s_Tp_advance (by omega) hw (fun h19 hw => ?_))
    show aW none m_Rd_readSigned (d + 1) 28 [(3, ai s0), (0, ar v0), (1, ai v1), (2, ai v2)] [] h19 0 0 QQ
    refine r_pick (ls2 := [(0, ar v0), (1, ai v1), (2, ai v2), (3, ai s0)]) [1, 2, 3, 0] rfl ?_
    exact s_Rd_readSigned_B28 hd hQ  hw
set_option maxRecDepth 100000 in
set_option maxHeartbeats 4000000 in
theorem s_Rd_readSigned {d : Nat} (hd : 3 ≤ d) {v0 : Nat} {v1 : Int32} {v2 : Int32} {h : Hp} {Q : Bool → Hp → Prop} {QQ : Option AV → Hp → Prop} (hw : w_Rd_readSigned v0 v1 v2 h Q) (hQ : ∀ r9 h9, Q r9 h9 → QQ (some (ai (b2i r9))) h9) : aCall m_Rd_readSigned d [ar v0, ai v1, ai v2] h 0 0 QQ := by
  obtain ⟨d, rfl⟩ : ∃ d9, d = d9 + 1 := ⟨d - 1, by omega⟩
  refine aCall_in pl_Rd_readSigned (nle rfl) ?_
  show aW none m_Rd_readSigned (d + 1) 0 [(0, ar v0), (1, ai v1), (2, ai v2)] [] h 0 0 QQ
  unfold w_Rd_readSigned at hw
  refine r_aload_n (j := 0) d_Rd_readSigned_0 rfl ?_
  obtain ⟨q1, hw⟩ := hw
  refine r_getR d_Rd_readSigned_1 ok_8 (nle rfl) (nle rfl) rfl lf_Rd_29 q1 ?_
  obtain ⟨q2, hw⟩ := hw
  refine r_getI d_Rd_readSigned_4 ok_10 (nle rfl) (nle rfl) rfl lf_Rd_51 q2 ?_
  refine r_iconst d_Rd_readSigned_7 kc_4 ?_
  refine r_icmp_ne d_Rd_readSigned_8 (fun w9 => ?_) (fun w9 => ?_)
  · replace hw := hw.2 w9
    refine r_iconst d_Rd_readSigned_15 kc_0 ?_
    exact s_Rd_readSigned_B16 hd hQ  hw
  · replace hw := hw.1 w9
    refine r_iconst d_Rd_readSigned_11 kc_1 ?_
    refine r_goto d_Rd_readSigned_12 ?_
    exact s_Rd_readSigned_B16 hd hQ  hw
set_option maxRecDepth 100000 in
set_option maxHeartbeats 4000000 in
theorem s_Rd_readColumn_L71 {d : Nat} (hd : 7 ≤ d + 1) {Q : Bool → Hp → Prop} {QQ : Option AV → Hp → Prop} (hQ : ∀ r9 h9, Q r9 h9 → QQ (some (ai (b2i r9))) h9) {v0 : Nat} {v1 : Int32} : ∀ (n : Nat) (v2 : Int32) (h : Hp), w_Rd_readColumn_L71 Q  v0 v1 n v2 h → aW none m_Rd_readColumn (d + 1) 71 [(0, ar v0), (1, ai v1), (2, ai v2)] [] h 0 0 QQ := by
  intro n
  induction n with
  | zero => intro v2 h hw; exact hw.elim
  | succ n ih =>
    intro v2 h hw
    unfold w_Rd_readColumn_L71 at hw
    refine r_iload_n (j := 2) d_Rd_readColumn_71 rfl ?_
    refine r_aload_n (j := 0) d_Rd_readColumn_72 rfl ?_
    obtain ⟨q15, hw⟩ := hw
    refine r_getR d_Rd_readColumn_73 ok_8 (nle rfl) (nle rfl) rfl lf_Rd_12 q15 ?_
    obtain ⟨q16, hw⟩ := hw
    refine r_getI d_Rd_readColumn_76 ok_1 (nle rfl) (nle rfl) rfl lf_Rd_103 q16 ?_
    refine r_icmp_ge d_Rd_readColumn_79 (fun w9 => ?_) (fun w9 => ?_)
    · replace hw := hw.1 w9
      refine r_aload_n (j := 0) d_Rd_readColumn_103 rfl ?_
      refine r_getR d_Rd_readColumn_104 ok_8 (nle rfl) (nle rfl) rfl lf_Rd_29 q15 ?_
      refine r_ldcS (i := 2) (nle rfl) d_Rd_readColumn_107 rfl ?_
      obtain ⟨q19, hw⟩ := hw
      refine r_callV (av := [ar (2 + 2)]) (rest := []) (ci := 10) d_Rd_readColumn_109 mk_Tp_isWord ll_Rd_63 im_Tp_isWord se_Tp_isWord rfl (nle rfl) rfl rfl (nle rfl) q19 (s_Tp_isWord (by omega) hw (fun r18 h17 hw => ?_))
      show aW none m_Rd_readColumn (d + 1) 112 [(0, ar v0), (1, ai v1), (2, ai v2)] [ai (b2i r18)] h17 0 0 QQ
      refine r_if_ne d_Rd_readColumn_112 (fun w9 => ?_) (fun w9 => ?_)
      · replace hw := hw.2 (fun g9 => w9 (b2i_0.mpr g9))
        refine r_aload_n (j := 0) d_Rd_readColumn_121 rfl ?_
        obtain ⟨q20, hw⟩ := hw
        refine r_getR d_Rd_readColumn_122 ok_8 (nle rfl) (nle rfl) rfl lf_Rd_29 q20 ?_
        obtain ⟨q22, hw⟩ := hw
        refine r_callV (av := []) (rest := []) (ci := 10) d_Rd_readColumn_125 mk_Tp_advance ll_Rd_92 im_Tp_advance se_Tp_advance rfl (nle rfl) rfl rfl (nle rfl) q22 (s_Tp_advance (by omega) hw (fun h21 hw => ?_))
        show aW none m_Rd_readColumn (d + 1) 128 [(0, ar v0), (1, ai v1), (2, ai v2)] [] h21 0 0 QQ
        refine r_aload_n (j := 0) d_Rd_readColumn_128 rfl ?_
        refine r_bipush d_Rd_readColumn_129 kb_24 ?_
        refine r_iload_n (j := 1) d_Rd_readColumn_131 rfl ?_
        refine r_iadd d_Rd_readColumn_132 ?_
        refine r_bipush d_Rd_readColumn_133 kb_99 ?_
        obtain ⟨q25, hw⟩ := hw
        refine r_callV (av := [ai ((24 : Int32) + v1), ai (99 : Int32)]) (rest := []) (ci := 8) d_Rd_readColumn_135 mk_Rd_readSigned ll_Rd_112 im_Rd_readSigned se_Rd_readSigned rfl (nle rfl) rfl rfl (nle rfl) q25 (s_Rd_readSigned (by omega) hw (fun r24 h23 hw => ?_))
        show aW none m_Rd_readColumn (d + 1) 138 [(0, ar v0), (1, ai v1), (2, ai v2)] [ai (b2i r24)] h23 0 0 QQ
        refine r_if_ne d_Rd_readColumn_138 (fun w9 => ?_) (fun w9 => ?_)
        · replace hw := hw.2 (fun g9 => w9 (b2i_0.mpr g9))
          refine r_aload_n (j := 0) d_Rd_readColumn_143 rfl ?_
          obtain ⟨q26, hw⟩ := hw
          refine r_getR d_Rd_readColumn_144 ok_8 (nle rfl) (nle rfl) rfl lf_Rd_12 q26 ?_
          refine r_dup d_Rd_readColumn_147 rfl ?_
          obtain ⟨q27, hw⟩ := hw
          refine r_getI d_Rd_readColumn_148 ok_1 (nle rfl) (nle rfl) rfl lf_Rd_76 q27 ?_
          refine r_iconst d_Rd_readColumn_151 kc_1 ?_
          refine r_iadd d_Rd_readColumn_152 ?_
          refine r_putI d_Rd_readColumn_153 ok_1 (nle rfl) (nle rfl) rfl lf_Rd_76 rfl q27 ?_
          refine r_aload_n (j := 0) d_Rd_readColumn_156 rfl ?_
          refine r_callV (av := []) (rest := []) (ci := 8) d_Rd_readColumn_157 mk_Rd_endLine ll_Rd_105 im_Rd_endLine se_Rd_endLine rfl (nle rfl) rfl rfl (nle rfl) q26 (s_Rd_endLine (by omega) hw (fun r29 h28 hw => ?_))
          show aW none m_Rd_readColumn (d + 1) 160 [(0, ar v0), (1, ai v1), (2, ai v2)] [ai (b2i r29)] h28 0 0 QQ
          exact r_zreturn d_Rd_readColumn_160.1 rfl (b2i_B _) (hQ _ _ hw)
        · replace hw := hw.1 (b2i_0.mp w9)
          refine r_iconst d_Rd_readColumn_141 kc_0 ?_
          exact r_zreturn d_Rd_readColumn_142.1 rfl (Or.inl rfl) (hQ _ _ hw)
      · replace hw := hw.1 (b2i_0.mp w9)
        refine r_aload_n (j := 0) d_Rd_readColumn_115 rfl ?_
        refine r_iconst d_Rd_readColumn_116 kc_2 ?_
        obtain ⟨q32, hw⟩ := hw
        refine r_callV (av := [ai (2 : Int32)]) (rest := []) (ci := 8) d_Rd_readColumn_117 mk_Rd_fail ll_Rd_71 im_Rd_fail se_Rd_fail rfl (nle rfl) rfl rfl (nle rfl) q32 (s_Rd_fail  hw (fun r31 h30 hw => ?_))
        show aW none m_Rd_readColumn (d + 1) 120 [(0, ar v0), (1, ai v1), (2, ai v2)] [ai (b2i r31)] h30 0 0 QQ
        exact r_zreturn d_Rd_readColumn_120.1 rfl (b2i_B _) (hQ _ _ hw)
    · replace hw := hw.2 w9
      refine r_aload_n (j := 0) d_Rd_readColumn_82 rfl ?_
      refine r_iload_n (j := 1) d_Rd_readColumn_83 rfl ?_
      refine r_iconst d_Rd_readColumn_84 kc_3 ?_
      refine r_imul d_Rd_readColumn_85 ?_
      refine r_iload_n (j := 2) d_Rd_readColumn_86 rfl ?_
      refine r_iadd d_Rd_readColumn_87 ?_
      refine r_iconst d_Rd_readColumn_88 kc_5 ?_
      refine r_callV (av := [ai ((v1 * (3 : Int32)) + v2), ai (5 : Int32)]) (rest := []) (ci := 8) d_Rd_readColumn_89 mk_Rd_readSigned ll_Rd_112 im_Rd_readSigned se_Rd_readSigned rfl (nle rfl) rfl rfl (nle rfl) q15 (s_Rd_readSigned (by omega) hw (fun r34 h33 hw => ?_))
      show aW none m_Rd_readColumn (d + 1) 92 [(0, ar v0), (1, ai v1), (2, ai v2)] [ai (b2i r34)] h33 0 0 QQ
      refine r_if_ne d_Rd_readColumn_92 (fun w9 => ?_) (fun w9 => ?_)
      · replace hw := hw.2 (fun g9 => w9 (b2i_0.mpr g9))
        refine r_iinc (j := 2) (ls2 := [(2, ai (v2 + (1 : Int32))), (0, ar v0), (1, ai v1)]) d_Rd_readColumn_97 rfl (congrArg (HAdd.hAdd v2) kc_1) (nle rfl) rfl ?_
        refine r_goto d_Rd_readColumn_100 ?_
        refine r_pick (ls2 := [(0, ar v0), (1, ai v1), (2, ai (v2 + (1 : Int32)))]) [1, 2, 0] rfl ?_
        exact ih _ _ hw
      · replace hw := hw.1 (b2i_0.mp w9)
        refine r_iconst d_Rd_readColumn_95 kc_0 ?_
        exact r_zreturn d_Rd_readColumn_96.1 rfl (Or.inl rfl) (hQ _ _ hw)
set_option maxRecDepth 100000 in
set_option maxHeartbeats 4000000 in
theorem s_Rd_readColumn {d : Nat} (hd : 7 ≤ d) {v0 : Nat} {h : Hp} {Q : Bool → Hp → Prop} {QQ : Option AV → Hp → Prop} (hw : w_Rd_readColumn v0 h Q) (hQ : ∀ r9 h9, Q r9 h9 → QQ (some (ai (b2i r9))) h9) : aCall m_Rd_readColumn d [ar v0] h 0 0 QQ := by
  obtain ⟨d, rfl⟩ : ∃ d9, d = d9 + 1 := ⟨d - 1, by omega⟩
  refine aCall_in pl_Rd_readColumn (nle rfl) ?_
  show aW none m_Rd_readColumn (d + 1) 0 [(0, ar v0)] [] h 0 0 QQ
  unfold w_Rd_readColumn at hw
  refine r_aload_n (j := 0) d_Rd_readColumn_0 rfl ?_
  obtain ⟨q1, hw⟩ := hw
  refine r_getR d_Rd_readColumn_1 ok_8 (nle rfl) (nle rfl) rfl lf_Rd_29 q1 ?_
  obtain ⟨q3, hw⟩ := hw
  refine r_callV (av := []) (rest := []) (ci := 10) d_Rd_readColumn_4 mk_Tp_advance ll_Rd_92 im_Tp_advance se_Tp_advance rfl (nle rfl) rfl rfl (nle rfl) q3 (s_Tp_advance (by omega) hw (fun h2 hw => ?_))
  show aW none m_Rd_readColumn (d + 1) 7 [(0, ar v0)] [] h2 0 0 QQ
  refine r_aload_n (j := 0) d_Rd_readColumn_7 rfl ?_
  obtain ⟨q6, hw⟩ := hw
  refine r_callV (av := []) (rest := []) (ci := 8) d_Rd_readColumn_8 mk_Rd_isNewName ll_Rd_115 im_Rd_isNewName se_Rd_isNewName rfl (nle rfl) rfl rfl (nle rfl) q6 (s_Rd_isNewName (by omega) hw (fun r5 h4 hw => ?_))
  show aW none m_Rd_readColumn (d + 1) 11 [(0, ar v0)] [ai (b2i r5)] h4 0 0 QQ
  refine r_if_eq d_Rd_readColumn_11 (fun w9 => ?_) (fun w9 => ?_)
  · replace hw := hw.1 (b2i_0.mp w9)
    refine r_iconst d_Rd_readColumn_26 kc_0 ?_
    exact r_zreturn d_Rd_readColumn_27.1 rfl (Or.inl rfl) (hQ _ _ hw)
  · replace hw := hw.2 (fun g9 => w9 (b2i_0.mpr g9))
    refine r_aload_n (j := 0) d_Rd_readColumn_14 rfl ?_
    obtain ⟨q7, hw⟩ := hw
    refine r_getR d_Rd_readColumn_15 ok_8 (nle rfl) (nle rfl) rfl lf_Rd_12 q7 ?_
    obtain ⟨q8, hw⟩ := hw
    refine r_getI d_Rd_readColumn_18 ok_1 (nle rfl) (nle rfl) rfl lf_Rd_76 q8 ?_
    refine r_bipush d_Rd_readColumn_21 kb_8 ?_
    refine r_icmp_lt d_Rd_readColumn_23 (fun w9 => ?_) (fun w9 => ?_)
    · replace hw := hw.1 w9
      refine r_aload_n (j := 0) d_Rd_readColumn_28 rfl ?_
      refine r_getR d_Rd_readColumn_29 ok_8 (nle rfl) (nle rfl) rfl lf_Rd_12 q7 ?_
      refine r_getI d_Rd_readColumn_32 ok_1 (nle rfl) (nle rfl) rfl lf_Rd_76 q8 ?_
      refine r_istore_n (ls2 := [(1, ai (gI h4 (gR h4 v0 1) 2)), (0, ar v0)]) d_Rd_readColumn_35 (nle rfl) rfl ?_
      refine r_aload_n (j := 1) d_Rd_readColumn_36 rfl ?_
      refine r_getR d_Rd_readColumn_37 ok_8 (nle rfl) (nle rfl) rfl lf_Rd_18 q7 ?_
      refine r_iload_n (j := 0) d_Rd_readColumn_40 rfl ?_
      refine r_aload_n (j := 1) d_Rd_readColumn_41 rfl ?_
      refine r_getR d_Rd_readColumn_42 ok_8 (nle rfl) (nle rfl) rfl lf_Rd_29 q7 ?_
      obtain ⟨q9, hw⟩ := hw
      refine r_getI d_Rd_readColumn_45 ok_10 (nle rfl) (nle rfl) rfl lf_Rd_58 q9 ?_
      obtain ⟨q10, hw⟩ := hw
      obtain ⟨q11, hw⟩ := hw
      refine r_iast d_Rd_readColumn_48 q10 q11 ?_
      refine r_aload_n (j := 1) d_Rd_readColumn_49 rfl ?_
      refine r_getR d_Rd_readColumn_50 ok_8 (nle rfl) (nle rfl) rfl lf_Rd_22 q7 ?_
      refine r_iload_n (j := 0) d_Rd_readColumn_53 rfl ?_
      refine r_aload_n (j := 1) d_Rd_readColumn_54 rfl ?_
      refine r_getR d_Rd_readColumn_55 ok_8 (nle rfl) (nle rfl) rfl lf_Rd_29 q7 ?_
      refine r_getI d_Rd_readColumn_58 ok_10 (nle rfl) (nle rfl) rfl lf_Rd_118 q9 ?_
      obtain ⟨q12, hw⟩ := hw
      obtain ⟨q13, hw⟩ := hw
      refine r_iast d_Rd_readColumn_61 q12 q13 ?_
      refine r_aload_n (j := 1) d_Rd_readColumn_62 rfl ?_
      refine r_getR d_Rd_readColumn_63 ok_8 (nle rfl) (nle rfl) rfl lf_Rd_29 q7 ?_
      refine r_callV (av := []) (rest := []) (ci := 10) d_Rd_readColumn_66 mk_Tp_advance ll_Rd_92 im_Tp_advance se_Tp_advance rfl (nle rfl) rfl rfl (nle rfl) q9 (s_Tp_advance (by omega) hw (fun h14 hw => ?_))
      show aW none m_Rd_readColumn (d + 1) 69 [(1, ai (gI h4 (gR h4 v0 1) 2)), (0, ar v0)] [] h14 0 0 QQ
      refine r_iconst d_Rd_readColumn_69 kc_0 ?_
      refine r_istore_n (ls2 := [(2, ai (0 : Int32)), (1, ai (gI h4 (gR h4 v0 1) 2)), (0, ar v0)]) d_Rd_readColumn_70 (nle rfl) rfl ?_
      obtain ⟨n35, hw⟩ := hw
      refine r_pick (ls2 := [(0, ar v0), (1, ai (gI h4 (gR h4 v0 1) 2)), (2, ai (0 : Int32))]) [2, 1, 0] rfl ?_
      exact s_Rd_readColumn_L71 hd hQ  n35 _ _ hw
    · replace hw := hw.2 w9
      refine r_iconst d_Rd_readColumn_26 kc_0 ?_
      exact r_zreturn d_Rd_readColumn_27.1 rfl (Or.inl rfl) (hQ _ _ hw)
set_option maxRecDepth 100000 in
set_option maxHeartbeats 4000000 in
theorem s_Rd_readNeed_L14 {d : Nat} (hd : 4 ≤ d + 1) {Q : Bool → Hp → Prop} {QQ : Option AV → Hp → Prop} (hQ : ∀ r9 h9, Q r9 h9 → QQ (some (ai (b2i r9))) h9) {v0 : Nat} : ∀ (n : Nat) (v1 : Int32) (h : Hp), w_Rd_readNeed_L14 Q  v0 n v1 h → aW none m_Rd_readNeed (d + 1) 14 [(0, ar v0), (1, ai v1)] [] h 0 0 QQ := by
  intro n
  induction n with
  | zero => intro v1 h hw; exact hw.elim
  | succ n ih =>
    intro v1 h hw
    unfold w_Rd_readNeed_L14 at hw
    refine r_iload_n (j := 1) d_Rd_readNeed_14 rfl ?_
    refine r_aload_n (j := 0) d_Rd_readNeed_15 rfl ?_
    obtain ⟨q4, hw⟩ := hw
    refine r_getR d_Rd_readNeed_16 ok_8 (nle rfl) (nle rfl) rfl lf_Rd_12 q4 ?_
    obtain ⟨q5, hw⟩ := hw
    refine r_getI d_Rd_readNeed_19 ok_1 (nle rfl) (nle rfl) rfl lf_Rd_103 q5 ?_
    refine r_icmp_ge d_Rd_readNeed_22 (fun w9 => ?_) (fun w9 => ?_)
    · replace hw := hw.1 w9
      refine r_aload_n (j := 0) d_Rd_readNeed_46 rfl ?_
      refine r_callV (av := []) (rest := []) (ci := 8) d_Rd_readNeed_47 mk_Rd_endLine ll_Rd_105 im_Rd_endLine se_Rd_endLine rfl (nle rfl) rfl rfl (nle rfl) q4 (s_Rd_endLine (by omega) hw (fun r7 h6 hw => ?_))
      show aW none m_Rd_readNeed (d + 1) 50 [(0, ar v0), (1, ai v1)] [ai (b2i r7)] h6 0 0 QQ
      exact r_zreturn d_Rd_readNeed_50.1 rfl (b2i_B _) (hQ _ _ hw)
    · replace hw := hw.2 w9
      refine r_aload_n (j := 0) d_Rd_readNeed_25 rfl ?_
      refine r_bipush d_Rd_readNeed_26 kb_32 ?_
      refine r_iload_n (j := 1) d_Rd_readNeed_28 rfl ?_
      refine r_iadd d_Rd_readNeed_29 ?_
      refine r_bipush d_Rd_readNeed_30 kb_20 ?_
      refine r_callV (av := [ai ((32 : Int32) + v1), ai (20 : Int32)]) (rest := []) (ci := 8) d_Rd_readNeed_32 mk_Rd_readSigned ll_Rd_112 im_Rd_readSigned se_Rd_readSigned rfl (nle rfl) rfl rfl (nle rfl) q4 (s_Rd_readSigned (by omega) hw (fun r9 h8 hw => ?_))
      show aW none m_Rd_readNeed (d + 1) 35 [(0, ar v0), (1, ai v1)] [ai (b2i r9)] h8 0 0 QQ
      refine r_if_ne d_Rd_readNeed_35 (fun w9 => ?_) (fun w9 => ?_)
      · replace hw := hw.2 (fun g9 => w9 (b2i_0.mpr g9))
        refine r_iinc (j := 1) (ls2 := [(1, ai (v1 + (1 : Int32))), (0, ar v0)]) d_Rd_readNeed_40 rfl (congrArg (HAdd.hAdd v1) kc_1) (nle rfl) rfl ?_
        refine r_goto d_Rd_readNeed_43 ?_
        refine r_pick (ls2 := [(0, ar v0), (1, ai (v1 + (1 : Int32)))]) [1, 0] rfl ?_
        exact ih _ _ hw
      · replace hw := hw.1 (b2i_0.mp w9)
        refine r_iconst d_Rd_readNeed_38 kc_0 ?_
        exact r_zreturn d_Rd_readNeed_39.1 rfl (Or.inl rfl) (hQ _ _ hw)
set_option maxRecDepth 100000 in
set_option maxHeartbeats 4000000 in
theorem s_Rd_readNeed {d : Nat} (hd : 4 ≤ d) {v0 : Nat} {h : Hp} {Q : Bool → Hp → Prop} {QQ : Option AV → Hp → Prop} (hw : w_Rd_readNeed v0 h Q) (hQ : ∀ r9 h9, Q r9 h9 → QQ (some (ai (b2i r9))) h9) : aCall m_Rd_readNeed d [ar v0] h 0 0 QQ := by
  obtain ⟨d, rfl⟩ : ∃ d9, d = d9 + 1 := ⟨d - 1, by omega⟩
  refine aCall_in pl_Rd_readNeed (nle rfl) ?_
  show aW none m_Rd_readNeed (d + 1) 0 [(0, ar v0)] [] h 0 0 QQ
  unfold w_Rd_readNeed at hw
  refine r_aload_n (j := 0) d_Rd_readNeed_0 rfl ?_
  refine r_iconst d_Rd_readNeed_1 kc_1 ?_
  obtain ⟨q1, hw⟩ := hw
  refine r_putZ d_Rd_readNeed_2 ok_8 (nle rfl) (nle rfl) rfl lf_Rd_36 rfl q1 (Or.inr rfl) ?_
  refine r_aload_n (j := 0) d_Rd_readNeed_5 rfl ?_
  refine r_getR d_Rd_readNeed_6 ok_8 (nle rfl) (nle rfl) rfl lf_Rd_29 q1 ?_
  obtain ⟨q3, hw⟩ := hw
  refine r_callV (av := []) (rest := []) (ci := 10) d_Rd_readNeed_9 mk_Tp_advance ll_Rd_92 im_Tp_advance se_Tp_advance rfl (nle rfl) rfl rfl (nle rfl) q3 (s_Tp_advance (by omega) hw (fun h2 hw => ?_))
  show aW none m_Rd_readNeed (d + 1) 12 [(0, ar v0)] [] h2 0 0 QQ
  refine r_iconst d_Rd_readNeed_12 kc_0 ?_
  refine r_istore_n (ls2 := [(1, ai (0 : Int32)), (0, ar v0)]) d_Rd_readNeed_13 (nle rfl) rfl ?_
  obtain ⟨n10, hw⟩ := hw
  refine r_pick (ls2 := [(0, ar v0), (1, ai (0 : Int32))]) [1, 0] rfl ?_
  exact s_Rd_readNeed_L14 hd hQ  n10 _ _ hw
set_option maxRecDepth 100000 in
set_option maxHeartbeats 4000000 in
theorem s_Rd_readRows {d : Nat} (hd : 4 ≤ d) {v0 : Nat} {h : Hp} {Q : Bool → Hp → Prop} {QQ : Option AV → Hp → Prop} (hw : w_Rd_readRows v0 h Q) (hQ : ∀ r9 h9, Q r9 h9 → QQ (some (ai (b2i r9))) h9) : aCall m_Rd_readRows d [ar v0] h 0 0 QQ := by
  obtain ⟨d, rfl⟩ : ∃ d9, d = d9 + 1 := ⟨d - 1, by omega⟩
  refine aCall_in pl_Rd_readRows (nle rfl) ?_
  show aW none m_Rd_readRows (d + 1) 0 [(0, ar v0)] [] h 0 0 QQ
  unfold w_Rd_readRows at hw
  refine r_aload_n (j := 0) d_Rd_readRows_0 rfl ?_
  obtain ⟨q1, hw⟩ := hw
  refine r_getR d_Rd_readRows_1 ok_8 (nle rfl) (nle rfl) rfl lf_Rd_29 q1 ?_
  obtain ⟨q3, hw⟩ := hw
  refine r_callV (av := []) (rest := []) (ci := 10) d_Rd_readRows_4 mk_Tp_advance ll_Rd_92 im_Tp_advance se_Tp_advance rfl (nle rfl) rfl rfl (nle rfl) q3 (s_Tp_advance (by omega) hw (fun h2 hw => ?_))
  show aW none m_Rd_readRows (d + 1) 7 [(0, ar v0)] [] h2 0 0 QQ
  refine r_aload_n (j := 0) d_Rd_readRows_7 rfl ?_
  refine r_iconst d_Rd_readRows_8 kc_1 ?_
  refine r_iconst d_Rd_readRows_9 kc_3 ?_
  obtain ⟨q6, hw⟩ := hw
  refine r_callV (av := [ai (1 : Int32), ai (3 : Int32)]) (rest := []) (ci := 8) d_Rd_readRows_10 mk_Rd_isNumber ll_Rd_95 im_Rd_isNumber se_Rd_isNumber rfl (nle rfl) rfl rfl (nle rfl) q6 (s_Rd_isNumber (by omega) hw (fun r5 h4 hw => ?_))
  show aW none m_Rd_readRows (d + 1) 13 [(0, ar v0)] [ai (b2i r5)] h4 0 0 QQ
  refine r_if_ne d_Rd_readRows_13 (fun w9 => ?_) (fun w9 => ?_)
  · replace hw := hw.2 (fun g9 => w9 (b2i_0.mpr g9))
    refine r_aload_n (j := 0) d_Rd_readRows_18 rfl ?_
    obtain ⟨q7, hw⟩ := hw
    refine r_getR d_Rd_readRows_19 ok_8 (nle rfl) (nle rfl) rfl lf_Rd_12 q7 ?_
    refine r_aload_n (j := 0) d_Rd_readRows_22 rfl ?_
    refine r_getR d_Rd_readRows_23 ok_8 (nle rfl) (nle rfl) rfl lf_Rd_29 q7 ?_
    obtain ⟨q10, hw⟩ := hw
    refine r_callV (av := []) (rest := [ar (gR h4 v0 1)]) (ci := 10) d_Rd_readRows_26 mk_Tp_value ll_Rd_99 im_Tp_value se_Tp_value rfl (nle rfl) rfl rfl (nle rfl) q10 (s_Tp_value  hw (fun r9 h8 hw => ?_))
    show aW none m_Rd_readRows (d + 1) 29 [(0, ar v0)] [ai r9, ar (gR h4 v0 1)] h8 0 0 QQ
    obtain ⟨q11, hw⟩ := hw
    refine r_putI d_Rd_readRows_29 ok_1 (nle rfl) (nle rfl) rfl lf_Rd_103 rfl q11 ?_
    refine r_aload_n (j := 0) d_Rd_readRows_32 rfl ?_
    obtain ⟨q12, hw⟩ := hw
    refine r_getR d_Rd_readRows_33 ok_8 (nle rfl) (nle rfl) rfl lf_Rd_29 q12 ?_
    obtain ⟨q14, hw⟩ := hw
    refine r_callV (av := []) (rest := []) (ci := 10) d_Rd_readRows_36 mk_Tp_advance ll_Rd_92 im_Tp_advance se_Tp_advance rfl (nle rfl) rfl rfl (nle rfl) q14 (s_Tp_advance (by omega) hw (fun h13 hw => ?_))
    show aW none m_Rd_readRows (d + 1) 39 [(0, ar v0)] [] h13 0 0 QQ
    refine r_aload_n (j := 0) d_Rd_readRows_39 rfl ?_
    obtain ⟨q17, hw⟩ := hw
    refine r_callV (av := []) (rest := []) (ci := 8) d_Rd_readRows_40 mk_Rd_endLine ll_Rd_105 im_Rd_endLine se_Rd_endLine rfl (nle rfl) rfl rfl (nle rfl) q17 (s_Rd_endLine (by omega) hw (fun r16 h15 hw => ?_))
    show aW none m_Rd_readRows (d + 1) 43 [(0, ar v0)] [ai (b2i r16)] h15 0 0 QQ
    exact r_zreturn d_Rd_readRows_43.1 rfl (b2i_B _) (hQ _ _ hw)
  · replace hw := hw.1 (b2i_0.mp w9)
    refine r_iconst d_Rd_readRows_16 kc_0 ?_
    exact r_zreturn d_Rd_readRows_17.1 rfl (Or.inl rfl) (hQ _ _ hw)
set_option maxRecDepth 100000 in
set_option maxHeartbeats 4000000 in
theorem s_Rd_readSteps {d : Nat} (hd : 4 ≤ d) {v0 : Nat} {h : Hp} {Q : Bool → Hp → Prop} {QQ : Option AV → Hp → Prop} (hw : w_Rd_readSteps v0 h Q) (hQ : ∀ r9 h9, Q r9 h9 → QQ (some (ai (b2i r9))) h9) : aCall m_Rd_readSteps d [ar v0] h 0 0 QQ := by
  obtain ⟨d, rfl⟩ : ∃ d9, d = d9 + 1 := ⟨d - 1, by omega⟩
  refine aCall_in pl_Rd_readSteps (nle rfl) ?_
  show aW none m_Rd_readSteps (d + 1) 0 [(0, ar v0)] [] h 0 0 QQ
  unfold w_Rd_readSteps at hw
  refine r_aload_n (j := 0) d_Rd_readSteps_0 rfl ?_
  refine r_iconst d_Rd_readSteps_1 kc_1 ?_
  obtain ⟨q1, hw⟩ := hw
  refine r_putZ d_Rd_readSteps_2 ok_8 (nle rfl) (nle rfl) rfl lf_Rd_40 rfl q1 (Or.inr rfl) ?_
  refine r_aload_n (j := 0) d_Rd_readSteps_5 rfl ?_
  refine r_getR d_Rd_readSteps_6 ok_8 (nle rfl) (nle rfl) rfl lf_Rd_29 q1 ?_
  obtain ⟨q3, hw⟩ := hw
  refine r_callV (av := []) (rest := []) (ci := 10) d_Rd_readSteps_9 mk_Tp_advance ll_Rd_92 im_Tp_advance se_Tp_advance rfl (nle rfl) rfl rfl (nle rfl) q3 (s_Tp_advance (by omega) hw (fun h2 hw => ?_))
  show aW none m_Rd_readSteps (d + 1) 12 [(0, ar v0)] [] h2 0 0 QQ
  refine r_aload_n (j := 0) d_Rd_readSteps_12 rfl ?_
  refine r_iconst d_Rd_readSteps_13 kc_1 ?_
  refine r_bipush d_Rd_readSteps_14 kb_12 ?_
  obtain ⟨q6, hw⟩ := hw
  refine r_callV (av := [ai (1 : Int32), ai (12 : Int32)]) (rest := []) (ci := 8) d_Rd_readSteps_16 mk_Rd_isNumber ll_Rd_95 im_Rd_isNumber se_Rd_isNumber rfl (nle rfl) rfl rfl (nle rfl) q6 (s_Rd_isNumber (by omega) hw (fun r5 h4 hw => ?_))
  show aW none m_Rd_readSteps (d + 1) 19 [(0, ar v0)] [ai (b2i r5)] h4 0 0 QQ
  refine r_if_ne d_Rd_readSteps_19 (fun w9 => ?_) (fun w9 => ?_)
  · replace hw := hw.2 (fun g9 => w9 (b2i_0.mpr g9))
    refine r_aload_n (j := 0) d_Rd_readSteps_24 rfl ?_
    obtain ⟨q7, hw⟩ := hw
    refine r_getR d_Rd_readSteps_25 ok_8 (nle rfl) (nle rfl) rfl lf_Rd_12 q7 ?_
    refine r_bipush d_Rd_readSteps_28 kb_35 ?_
    refine r_aload_n (j := 0) d_Rd_readSteps_30 rfl ?_
    refine r_getR d_Rd_readSteps_31 ok_8 (nle rfl) (nle rfl) rfl lf_Rd_29 q7 ?_
    obtain ⟨q10, hw⟩ := hw
    refine r_callV (av := []) (rest := [ai (35 : Int32), ar (gR h4 v0 1)]) (ci := 10) d_Rd_readSteps_34 mk_Tp_value ll_Rd_99 im_Tp_value se_Tp_value rfl (nle rfl) rfl rfl (nle rfl) q10 (s_Tp_value  hw (fun r9 h8 hw => ?_))
    show aW none m_Rd_readSteps (d + 1) 37 [(0, ar v0)] [ai r9, ai (35 : Int32), ar (gR h4 v0 1)] h8 0 0 QQ
    obtain ⟨q12, hw⟩ := hw
    refine r_callV (av := [ai (35 : Int32), ai r9]) (rest := []) (ci := 1) d_Rd_readSteps_37 mk_Co_put ll_Rd_108 im_Co_put se_Co_put rfl (nle rfl) rfl rfl (nle rfl) q12 (s_Co_put  hw (fun h11 hw => ?_))
    show aW none m_Rd_readSteps (d + 1) 40 [(0, ar v0)] [] h11 0 0 QQ
    refine r_aload_n (j := 0) d_Rd_readSteps_40 rfl ?_
    obtain ⟨q13, hw⟩ := hw
    refine r_getR d_Rd_readSteps_41 ok_8 (nle rfl) (nle rfl) rfl lf_Rd_29 q13 ?_
    obtain ⟨q15, hw⟩ := hw
    refine r_callV (av := []) (rest := []) (ci := 10) d_Rd_readSteps_44 mk_Tp_advance ll_Rd_92 im_Tp_advance se_Tp_advance rfl (nle rfl) rfl rfl (nle rfl) q15 (s_Tp_advance (by omega) hw (fun h14 hw => ?_))
    show aW none m_Rd_readSteps (d + 1) 47 [(0, ar v0)] [] h14 0 0 QQ
    refine r_aload_n (j := 0) d_Rd_readSteps_47 rfl ?_
    obtain ⟨q18, hw⟩ := hw
    refine r_callV (av := []) (rest := []) (ci := 8) d_Rd_readSteps_48 mk_Rd_endLine ll_Rd_105 im_Rd_endLine se_Rd_endLine rfl (nle rfl) rfl rfl (nle rfl) q18 (s_Rd_endLine (by omega) hw (fun r17 h16 hw => ?_))
    show aW none m_Rd_readSteps (d + 1) 51 [(0, ar v0)] [ai (b2i r17)] h16 0 0 QQ
    exact r_zreturn d_Rd_readSteps_51.1 rfl (b2i_B _) (hQ _ _ hw)
  · replace hw := hw.1 (b2i_0.mp w9)
    refine r_iconst d_Rd_readSteps_22 kc_0 ?_
    exact r_zreturn d_Rd_readSteps_23.1 rfl (Or.inl rfl) (hQ _ _ hw)
set_option maxRecDepth 100000 in
set_option maxHeartbeats 4000000 in
theorem s_Rd_readLine {d : Nat} (hd : 8 ≤ d) {v0 : Nat} {v1 : Int32} {h : Hp} {Q : Bool → Hp → Prop} {QQ : Option AV → Hp → Prop} (hw : w_Rd_readLine v0 v1 h Q) (hQ : ∀ r9 h9, Q r9 h9 → QQ (some (ai (b2i r9))) h9) : aCall m_Rd_readLine d [ar v0, ai v1] h 0 0 QQ := by
  obtain ⟨d, rfl⟩ : ∃ d9, d = d9 + 1 := ⟨d - 1, by omega⟩
  refine aCall_in pl_Rd_readLine (nle rfl) ?_
  show aW none m_Rd_readLine (d + 1) 0 [(0, ar v0), (1, ai v1)] [] h 0 0 QQ
  unfold w_Rd_readLine at hw
  refine r_aload_n (j := 0) d_Rd_readLine_0 rfl ?_
  obtain ⟨q1, hw⟩ := hw
  refine r_getR d_Rd_readLine_1 ok_8 (nle rfl) (nle rfl) rfl lf_Rd_29 q1 ?_
  refine r_ldcS (i := 0) (nle rfl) d_Rd_readLine_4 rfl ?_
  obtain ⟨q4, hw⟩ := hw
  refine r_callV (av := [ar (2 + 0)]) (rest := []) (ci := 10) d_Rd_readLine_6 mk_Tp_isWord ll_Rd_63 im_Tp_isWord se_Tp_isWord rfl (nle rfl) rfl rfl (nle rfl) q4 (s_Tp_isWord (by omega) hw (fun r3 h2 hw => ?_))
  show aW none m_Rd_readLine (d + 1) 9 [(0, ar v0), (1, ai v1)] [ai (b2i r3)] h2 0 0 QQ
  refine r_if_eq d_Rd_readLine_9 (fun w9 => ?_) (fun w9 => ?_)
  · replace hw := hw.1 (b2i_0.mp w9)
    refine r_aload_n (j := 0) d_Rd_readLine_29 rfl ?_
    obtain ⟨q5, hw⟩ := hw
    refine r_getR d_Rd_readLine_30 ok_8 (nle rfl) (nle rfl) rfl lf_Rd_29 q5 ?_
    refine r_ldcS (i := 1) (nle rfl) d_Rd_readLine_33 rfl ?_
    obtain ⟨q8, hw⟩ := hw
    refine r_callV (av := [ar (2 + 1)]) (rest := []) (ci := 10) d_Rd_readLine_35 mk_Tp_isWord ll_Rd_63 im_Tp_isWord se_Tp_isWord rfl (nle rfl) rfl rfl (nle rfl) q8 (s_Tp_isWord (by omega) hw (fun r7 h6 hw => ?_))
    show aW none m_Rd_readLine (d + 1) 38 [(0, ar v0), (1, ai v1)] [ai (b2i r7)] h6 0 0 QQ
    refine r_if_eq d_Rd_readLine_38 (fun w9 => ?_) (fun w9 => ?_)
    · replace hw := hw.1 (b2i_0.mp w9)
      refine r_aload_n (j := 0) d_Rd_readLine_66 rfl ?_
      obtain ⟨q9, hw⟩ := hw
      refine r_getR d_Rd_readLine_67 ok_8 (nle rfl) (nle rfl) rfl lf_Rd_29 q9 ?_
      refine r_ldcS (i := 3) (nle rfl) d_Rd_readLine_70 rfl ?_
      obtain ⟨q12, hw⟩ := hw
      refine r_callV (av := [ar (2 + 3)]) (rest := []) (ci := 10) d_Rd_readLine_72 mk_Tp_isWord ll_Rd_63 im_Tp_isWord se_Tp_isWord rfl (nle rfl) rfl rfl (nle rfl) q12 (s_Tp_isWord (by omega) hw (fun r11 h10 hw => ?_))
      show aW none m_Rd_readLine (d + 1) 75 [(0, ar v0), (1, ai v1)] [ai (b2i r11)] h10 0 0 QQ
      refine r_if_eq d_Rd_readLine_75 (fun w9 => ?_) (fun w9 => ?_)
      · replace hw := hw.1 (b2i_0.mp w9)
        refine r_aload_n (j := 0) d_Rd_readLine_98 rfl ?_
        obtain ⟨q13, hw⟩ := hw
        refine r_getR d_Rd_readLine_99 ok_8 (nle rfl) (nle rfl) rfl lf_Rd_29 q13 ?_
        refine r_ldcS (i := 4) (nle rfl) d_Rd_readLine_102 rfl ?_
        obtain ⟨q16, hw⟩ := hw
        refine r_callV (av := [ar (2 + 4)]) (rest := []) (ci := 10) d_Rd_readLine_104 mk_Tp_isWord ll_Rd_63 im_Tp_isWord se_Tp_isWord rfl (nle rfl) rfl rfl (nle rfl) q16 (s_Tp_isWord (by omega) hw (fun r15 h14 hw => ?_))
        show aW none m_Rd_readLine (d + 1) 107 [(0, ar v0), (1, ai v1)] [ai (b2i r15)] h14 0 0 QQ
        refine r_if_eq d_Rd_readLine_107 (fun w9 => ?_) (fun w9 => ?_)
        · replace hw := hw.1 (b2i_0.mp w9)
          refine r_aload_n (j := 0) d_Rd_readLine_130 rfl ?_
          refine r_iconst d_Rd_readLine_131 kc_2 ?_
          obtain ⟨q19, hw⟩ := hw
          refine r_callV (av := [ai (2 : Int32)]) (rest := []) (ci := 8) d_Rd_readLine_132 mk_Rd_fail ll_Rd_71 im_Rd_fail se_Rd_fail rfl (nle rfl) rfl rfl (nle rfl) q19 (s_Rd_fail  hw (fun r18 h17 hw => ?_))
          show aW none m_Rd_readLine (d + 1) 135 [(0, ar v0), (1, ai v1)] [ai (b2i r18)] h17 0 0 QQ
          exact r_zreturn d_Rd_readLine_135.1 rfl (b2i_B _) (hQ _ _ hw)
        · replace hw := hw.2 (fun g9 => w9 (b2i_0.mpr g9))
          refine r_aload_n (j := 0) d_Rd_readLine_110 rfl ?_
          obtain ⟨q20, hw⟩ := hw
          refine r_getI d_Rd_readLine_111 ok_8 (nle rfl) (nle rfl) rfl lf_Rd_40 q20 ?_
          refine r_if_eq d_Rd_readLine_114 (fun w9 => ?_) (fun w9 => ?_)
          · replace hw := hw.1 w9
            refine r_aload_n (j := 0) d_Rd_readLine_125 rfl ?_
            refine r_callV (av := []) (rest := []) (ci := 8) d_Rd_readLine_126 mk_Rd_readSteps ll_Rd_89 im_Rd_readSteps se_Rd_readSteps rfl (nle rfl) rfl rfl (nle rfl) q20 (s_Rd_readSteps (by omega) hw (fun r22 h21 hw => ?_))
            show aW none m_Rd_readLine (d + 1) 129 [(0, ar v0), (1, ai v1)] [ai (b2i r22)] h21 0 0 QQ
            exact r_zreturn d_Rd_readLine_129.1 rfl (b2i_B _) (hQ _ _ hw)
          · replace hw := hw.2 w9
            refine r_aload_n (j := 0) d_Rd_readLine_117 rfl ?_
            refine r_iconst d_Rd_readLine_118 kc_3 ?_
            refine r_callV (av := [ai (3 : Int32)]) (rest := []) (ci := 8) d_Rd_readLine_119 mk_Rd_fail ll_Rd_71 im_Rd_fail se_Rd_fail rfl (nle rfl) rfl rfl (nle rfl) q20 (s_Rd_fail  hw (fun r24 h23 hw => ?_))
            show aW none m_Rd_readLine (d + 1) 122 [(0, ar v0), (1, ai v1)] [ai (b2i r24)] h23 0 0 QQ
            refine r_goto d_Rd_readLine_122 ?_
            exact r_zreturn d_Rd_readLine_129.1 rfl (b2i_B _) (hQ _ _ hw)
      · replace hw := hw.2 (fun g9 => w9 (b2i_0.mpr g9))
        refine r_aload_n (j := 0) d_Rd_readLine_78 rfl ?_
        obtain ⟨q25, hw⟩ := hw
        refine r_getI d_Rd_readLine_79 ok_8 (nle rfl) (nle rfl) rfl lf_Rd_36 q25 ?_
        refine r_if_eq d_Rd_readLine_82 (fun w9 => ?_) (fun w9 => ?_)
        · replace hw := hw.1 w9
          refine r_aload_n (j := 0) d_Rd_readLine_93 rfl ?_
          refine r_callV (av := []) (rest := []) (ci := 8) d_Rd_readLine_94 mk_Rd_readNeed ll_Rd_84 im_Rd_readNeed se_Rd_readNeed rfl (nle rfl) rfl rfl (nle rfl) q25 (s_Rd_readNeed (by omega) hw (fun r27 h26 hw => ?_))
          show aW none m_Rd_readLine (d + 1) 97 [(0, ar v0), (1, ai v1)] [ai (b2i r27)] h26 0 0 QQ
          exact r_zreturn d_Rd_readLine_97.1 rfl (b2i_B _) (hQ _ _ hw)
        · replace hw := hw.2 w9
          refine r_aload_n (j := 0) d_Rd_readLine_85 rfl ?_
          refine r_iconst d_Rd_readLine_86 kc_3 ?_
          refine r_callV (av := [ai (3 : Int32)]) (rest := []) (ci := 8) d_Rd_readLine_87 mk_Rd_fail ll_Rd_71 im_Rd_fail se_Rd_fail rfl (nle rfl) rfl rfl (nle rfl) q25 (s_Rd_fail  hw (fun r29 h28 hw => ?_))
          show aW none m_Rd_readLine (d + 1) 90 [(0, ar v0), (1, ai v1)] [ai (b2i r29)] h28 0 0 QQ
          refine r_goto d_Rd_readLine_90 ?_
          exact r_zreturn d_Rd_readLine_97.1 rfl (b2i_B _) (hQ _ _ hw)
    · replace hw := hw.2 (fun g9 => w9 (b2i_0.mpr g9))
      refine r_aload_n (j := 0) d_Rd_readLine_41 rfl ?_
      obtain ⟨q30, hw⟩ := hw
      refine r_getR d_Rd_readLine_42 ok_8 (nle rfl) (nle rfl) rfl lf_Rd_12 q30 ?_
      obtain ⟨q31, hw⟩ := hw
      refine r_getI d_Rd_readLine_45 ok_1 (nle rfl) (nle rfl) rfl lf_Rd_76 q31 ?_
      refine r_bipush d_Rd_readLine_48 kb_8 ?_
      refine r_icmp_ge d_Rd_readLine_50 (fun w9 => ?_) (fun w9 => ?_)
      · replace hw := hw.1 w9
        refine r_aload_n (j := 0) d_Rd_readLine_60 rfl ?_
        refine r_iconst d_Rd_readLine_61 kc_2 ?_
        refine r_callV (av := [ai (2 : Int32)]) (rest := []) (ci := 8) d_Rd_readLine_62 mk_Rd_fail ll_Rd_71 im_Rd_fail se_Rd_fail rfl (nle rfl) rfl rfl (nle rfl) q30 (s_Rd_fail  hw (fun r33 h32 hw => ?_))
        show aW none m_Rd_readLine (d + 1) 65 [(0, ar v0), (1, ai v1)] [ai (b2i r33)] h32 0 0 QQ
        exact r_zreturn d_Rd_readLine_65.1 rfl (b2i_B _) (hQ _ _ hw)
      · replace hw := hw.2 w9
        refine r_aload_n (j := 0) d_Rd_readLine_53 rfl ?_
        refine r_callV (av := []) (rest := []) (ci := 8) d_Rd_readLine_54 mk_Rd_readColumn ll_Rd_79 im_Rd_readColumn se_Rd_readColumn rfl (nle rfl) rfl rfl (nle rfl) q30 (s_Rd_readColumn (by omega) hw (fun r35 h34 hw => ?_))
        show aW none m_Rd_readLine (d + 1) 57 [(0, ar v0), (1, ai v1)] [ai (b2i r35)] h34 0 0 QQ
        refine r_goto d_Rd_readLine_57 ?_
        exact r_zreturn d_Rd_readLine_65.1 rfl (b2i_B _) (hQ _ _ hw)
  · replace hw := hw.2 (fun g9 => w9 (b2i_0.mpr g9))
    refine r_iload_n (j := 1) d_Rd_readLine_12 rfl ?_
    refine r_if_ne d_Rd_readLine_13 (fun w9 => ?_) (fun w9 => ?_)
    · replace hw := hw.2 w9
      refine r_aload_n (j := 0) d_Rd_readLine_23 rfl ?_
      refine r_iconst d_Rd_readLine_24 kc_2 ?_
      obtain ⟨q38, hw⟩ := hw
      refine r_callV (av := [ai (2 : Int32)]) (rest := []) (ci := 8) d_Rd_readLine_25 mk_Rd_fail ll_Rd_71 im_Rd_fail se_Rd_fail rfl (nle rfl) rfl rfl (nle rfl) q38 (s_Rd_fail  hw (fun r37 h36 hw => ?_))
      show aW none m_Rd_readLine (d + 1) 28 [(0, ar v0), (1, ai v1)] [ai (b2i r37)] h36 0 0 QQ
      exact r_zreturn d_Rd_readLine_28.1 rfl (b2i_B _) (hQ _ _ hw)
    · replace hw := hw.1 w9
      refine r_aload_n (j := 0) d_Rd_readLine_16 rfl ?_
      obtain ⟨q41, hw⟩ := hw
      refine r_callV (av := []) (rest := []) (ci := 8) d_Rd_readLine_17 mk_Rd_readRows ll_Rd_67 im_Rd_readRows se_Rd_readRows rfl (nle rfl) rfl rfl (nle rfl) q41 (s_Rd_readRows (by omega) hw (fun r40 h39 hw => ?_))
      show aW none m_Rd_readLine (d + 1) 20 [(0, ar v0), (1, ai v1)] [ai (b2i r40)] h39 0 0 QQ
      refine r_goto d_Rd_readLine_20 ?_
      exact r_zreturn d_Rd_readLine_28.1 rfl (b2i_B _) (hQ _ _ hw)
set_option maxRecDepth 100000 in
set_option maxHeartbeats 4000000 in
theorem s_Tp_rewind {d : Nat} (hd : 3 ≤ d) {v0 : Nat} {h : Hp} {Q : Hp → Prop} {QQ : Option AV → Hp → Prop} (hw : w_Tp_rewind v0 h Q) (hQ : ∀ h9, Q h9 → QQ none h9) : aCall m_Tp_rewind d [ar v0] h 0 0 QQ := by
  obtain ⟨d, rfl⟩ : ∃ d9, d = d9 + 1 := ⟨d - 1, by omega⟩
  refine aCall_in pl_Tp_rewind (nle rfl) ?_
  show aW none m_Tp_rewind (d + 1) 0 [(0, ar v0)] [] h 0 0 QQ
  unfold w_Tp_rewind at hw
  refine r_aload_n (j := 0) d_Tp_rewind_0 rfl ?_
  refine r_iconst d_Tp_rewind_1 kc_0 ?_
  obtain ⟨q1, hw⟩ := hw
  refine r_putI d_Tp_rewind_2 ok_10 (nle rfl) (nle rfl) rfl lf_Tp_19 rfl q1 ?_
  refine r_aload_n (j := 0) d_Tp_rewind_5 rfl ?_
  refine r_callV (av := []) (rest := []) (ci := 10) d_Tp_rewind_6 mk_Tp_advance ll_Tp_22 im_Tp_advance se_Tp_advance rfl (nle rfl) rfl rfl (nle rfl) q1 (s_Tp_advance (by omega) hw (fun h2 hw => ?_))
  show aW none m_Tp_rewind (d + 1) 9 [(0, ar v0)] [] h2 0 0 QQ
  exact r_return d_Tp_rewind_9.1 rfl (hQ _ hw)
set_option maxRecDepth 100000 in
set_option maxHeartbeats 4000000 in
theorem s_Rd_read_L36 {d : Nat} (hd : 9 ≤ d + 1) {Q : Bool → Hp → Prop} {QQ : Option AV → Hp → Prop} (hQ : ∀ r9 h9, Q r9 h9 → QQ (some (ai (b2i r9))) h9) {v0 : Nat} : ∀ (n : Nat) (v1 : Int32) (h : Hp), w_Rd_read_L36 Q  v0 n v1 h → aW none m_Rd_read (d + 1) 36 [(0, ar v0), (1, ai v1)] [] h 0 0 QQ := by
  intro n
  induction n with
  | zero => intro v1 h hw; exact hw.elim
  | succ n ih =>
    intro v1 h hw
    unfold w_Rd_read_L36 at hw
    refine r_iload_n (j := 1) d_Rd_read_36 rfl ?_
    refine r_sipush d_Rd_read_37 ks_700 ?_
    refine r_icmp_ge d_Rd_read_40 (fun w9 => ?_) (fun w9 => ?_)
    · replace hw := hw.1 w9
      refine r_iconst d_Rd_read_69 kc_1 ?_
      exact r_zreturn d_Rd_read_70.1 rfl (Or.inr rfl) (hQ _ _ hw)
    · replace hw := hw.2 w9
      refine r_aload_n (j := 0) d_Rd_read_43 rfl ?_
      obtain ⟨q7, hw⟩ := hw
      refine r_getR d_Rd_read_44 ok_8 (nle rfl) (nle rfl) rfl lf_Rd_29 q7 ?_
      obtain ⟨q8, hw⟩ := hw
      refine r_getI d_Rd_read_47 ok_10 (nle rfl) (nle rfl) rfl lf_Rd_51 q8 ?_
      refine r_if_eq d_Rd_read_50 (fun w9 => ?_) (fun w9 => ?_)
      · replace hw := hw.1 w9
        refine r_iconst d_Rd_read_69 kc_1 ?_
        exact r_zreturn d_Rd_read_70.1 rfl (Or.inr rfl) (hQ _ _ hw)
      · replace hw := hw.2 w9
        refine r_aload_n (j := 0) d_Rd_read_53 rfl ?_
        refine r_iload_n (j := 1) d_Rd_read_54 rfl ?_
        refine r_callV (av := [ai v1]) (rest := []) (ci := 8) d_Rd_read_55 mk_Rd_readLine ll_Rd_54 im_Rd_readLine se_Rd_readLine rfl (nle rfl) rfl rfl (nle rfl) q7 (s_Rd_readLine (by omega) hw (fun r10 h9 hw => ?_))
        show aW none m_Rd_read (d + 1) 58 [(0, ar v0), (1, ai v1)] [ai (b2i r10)] h9 0 0 QQ
        refine r_if_ne d_Rd_read_58 (fun w9 => ?_) (fun w9 => ?_)
        · replace hw := hw.2 (fun g9 => w9 (b2i_0.mpr g9))
          refine r_iinc (j := 1) (ls2 := [(1, ai (v1 + (1 : Int32))), (0, ar v0)]) d_Rd_read_63 rfl (congrArg (HAdd.hAdd v1) kc_1) (nle rfl) rfl ?_
          refine r_goto d_Rd_read_66 ?_
          refine r_pick (ls2 := [(0, ar v0), (1, ai (v1 + (1 : Int32)))]) [1, 0] rfl ?_
          exact ih _ _ hw
        · replace hw := hw.1 (b2i_0.mp w9)
          refine r_iconst d_Rd_read_61 kc_0 ?_
          exact r_zreturn d_Rd_read_62.1 rfl (Or.inl rfl) (hQ _ _ hw)
set_option maxRecDepth 100000 in
set_option maxHeartbeats 4000000 in
theorem s_Rd_read {d : Nat} (hd : 9 ≤ d) {v0 : Nat} {h : Hp} {Q : Bool → Hp → Prop} {QQ : Option AV → Hp → Prop} (hw : w_Rd_read v0 h Q) (hQ : ∀ r9 h9, Q r9 h9 → QQ (some (ai (b2i r9))) h9) : aCall m_Rd_read d [ar v0] h 0 0 QQ := by
  obtain ⟨d, rfl⟩ : ∃ d9, d = d9 + 1 := ⟨d - 1, by omega⟩
  refine aCall_in pl_Rd_read (nle rfl) ?_
  show aW none m_Rd_read (d + 1) 0 [(0, ar v0)] [] h 0 0 QQ
  unfold w_Rd_read at hw
  refine r_aload_n (j := 0) d_Rd_read_0 rfl ?_
  obtain ⟨q1, hw⟩ := hw
  refine r_getR d_Rd_read_1 ok_8 (nle rfl) (nle rfl) rfl lf_Rd_12 q1 ?_
  obtain ⟨q3, hw⟩ := hw
  refine r_callV (av := []) (rest := []) (ci := 1) d_Rd_read_4 mk_Co_clear ll_Rd_33 im_Co_clear se_Co_clear rfl (nle rfl) rfl rfl (nle rfl) q3 (s_Co_clear (by omega) hw (fun h2 hw => ?_))
  show aW none m_Rd_read (d + 1) 7 [(0, ar v0)] [] h2 0 0 QQ
  refine r_aload_n (j := 0) d_Rd_read_7 rfl ?_
  refine r_iconst d_Rd_read_8 kc_0 ?_
  obtain ⟨q4, hw⟩ := hw
  refine r_putZ d_Rd_read_9 ok_8 (nle rfl) (nle rfl) rfl lf_Rd_36 rfl q4 (Or.inl rfl) ?_
  refine r_aload_n (j := 0) d_Rd_read_12 rfl ?_
  refine r_iconst d_Rd_read_13 kc_0 ?_
  refine r_putZ d_Rd_read_14 ok_8 (nle rfl) (nle rfl) rfl lf_Rd_40 rfl q4 (Or.inl rfl) ?_
  refine r_aload_n (j := 0) d_Rd_read_17 rfl ?_
  refine r_iconst d_Rd_read_18 kc_0 ?_
  refine r_putI d_Rd_read_19 ok_8 (nle rfl) (nle rfl) rfl lf_Rd_43 rfl q4 ?_
  refine r_aload_n (j := 0) d_Rd_read_22 rfl ?_
  refine r_iconst d_Rd_read_23 kc_m1 ?_
  refine r_putI d_Rd_read_24 ok_8 (nle rfl) (nle rfl) rfl lf_Rd_25 rfl q4 ?_
  refine r_aload_n (j := 0) d_Rd_read_27 rfl ?_
  refine r_getR d_Rd_read_28 ok_8 (nle rfl) (nle rfl) rfl lf_Rd_29 q4 ?_
  obtain ⟨q6, hw⟩ := hw
  refine r_callV (av := []) (rest := []) (ci := 10) d_Rd_read_31 mk_Tp_rewind ll_Rd_46 im_Tp_rewind se_Tp_rewind rfl (nle rfl) rfl rfl (nle rfl) q6 (s_Tp_rewind (by omega) hw (fun h5 hw => ?_))
  show aW none m_Rd_read (d + 1) 34 [(0, ar v0)] [] h5 0 0 QQ
  refine r_iconst d_Rd_read_34 kc_0 ?_
  refine r_istore_n (ls2 := [(1, ai (0 : Int32)), (0, ar v0)]) d_Rd_read_35 (nle rfl) rfl ?_
  obtain ⟨n11, hw⟩ := hw
  refine r_pick (ls2 := [(0, ar v0), (1, ai (0 : Int32))]) [1, 0] rfl ?_
  exact s_Rd_read_L36 hd hQ  n11 _ _ hw
set_option maxRecDepth 100000 in
set_option maxHeartbeats 4000000 in
theorem s_St_init {d : Nat} (hd : 1 ≤ d) {v0 : Nat} {v1 : Nat} {bc bs : Nat} {h : Hp} {Q : Hp → Prop} {QQ : Option AV → Hp → Prop} (hw : w_St_init bc bs v0 v1 h Q) (hQ : ∀ h9, Q h9 → QQ none h9) : aCall m_St_init d [ar v0, ar v1] h bc bs QQ := by
  obtain ⟨d, rfl⟩ : ∃ d9, d = d9 + 1 := ⟨d - 1, by omega⟩
  refine aCall_in pl_St_init (nle rfl) ?_
  show aW none m_St_init (d + 1) 0 [(0, ar v0), (1, ar v1)] [] h bc bs QQ
  unfold w_St_init at hw
  refine r_aload_n (j := 0) d_St_init_0 rfl ?_
  obtain ⟨q1, hw⟩ := hw
  refine r_objInit d_St_init_1 ll_St_3 oi_1 oi_2 (nle rfl) q1 ?_
  refine r_aload_n (j := 0) d_St_init_4 rfl ?_
  refine r_bipush d_St_init_5 kb_39 ?_
  obtain ⟨q2, hw⟩ := hw
  obtain ⟨q3, hw⟩ := hw
  obtain ⟨b4, t5, u8, u9, u6, u7, hw⟩ := hw
  subst u8 u9
  refine r_newI d_St_init_7 ac_I u6 rfl u7 (refB_r q2 refB_n) (refL_r q2 (refL_r q3 refL_n)) ?_
  generalize e8 : nw h 20 (ix (39 : Int32)) = h6 at hw ⊢
  generalize e7 : gX h = a7 at hw ⊢
  replace hw := hw a7 h6 e7.symm e8.symm
  obtain ⟨q8, hw⟩ := hw
  obtain ⟨q9, hw⟩ := hw
  refine r_putFR d_St_init_9 ok_9 (nle rfl) (nle rfl) rfl lf_St_9 rfl rfl rfl q8 q9 ?_
  refine r_aload_n (j := 0) d_St_init_12 rfl ?_
  refine r_bipush d_St_init_13 kb_39 ?_
  obtain ⟨q10, hw⟩ := hw
  obtain ⟨q11, hw⟩ := hw
  obtain ⟨b12, t13, u8, u9, u6, u7, hw⟩ := hw
  subst u8 u9
  refine r_newI d_St_init_15 ac_I u6 rfl u7 (refB_r q10 refB_n) (refL_r q10 (refL_r q11 refL_n)) ?_
  generalize e8 : nw (sR h6 v0 1 a7) 20 (ix (39 : Int32)) = h14 at hw ⊢
  generalize e7 : gX (sR h6 v0 1 a7) = a15 at hw ⊢
  replace hw := hw a15 h14 e7.symm e8.symm
  obtain ⟨q16, hw⟩ := hw
  obtain ⟨q17, hw⟩ := hw
  refine r_putFR d_St_init_17 ok_9 (nle rfl) (nle rfl) rfl lf_St_15 rfl rfl rfl q16 q17 ?_
  refine r_aload_n (j := 0) d_St_init_20 rfl ?_
  refine r_iconst d_St_init_21 kc_3 ?_
  obtain ⟨q18, hw⟩ := hw
  obtain ⟨q19, hw⟩ := hw
  obtain ⟨b20, t21, u8, u9, u6, u7, hw⟩ := hw
  subst u8 u9
  refine r_newI d_St_init_22 ac_I u6 rfl u7 (refB_r q18 refB_n) (refL_r q18 (refL_r q19 refL_n)) ?_
  generalize e8 : nw (sR h14 v0 2 a15) 20 (ix (3 : Int32)) = h22 at hw ⊢
  generalize e7 : gX (sR h14 v0 2 a15) = a23 at hw ⊢
  replace hw := hw a23 h22 e7.symm e8.symm
  obtain ⟨q24, hw⟩ := hw
  obtain ⟨q25, hw⟩ := hw
  refine r_putFR d_St_init_24 ok_9 (nle rfl) (nle rfl) rfl lf_St_18 rfl rfl rfl q24 q25 ?_
  refine r_aload_n (j := 0) d_St_init_27 rfl ?_
  refine r_iconst d_St_init_28 kc_1 ?_
  refine r_putI d_St_init_29 ok_9 (nle rfl) (nle rfl) rfl lf_St_21 rfl q24 ?_
  refine r_aload_n (j := 0) d_St_init_32 rfl ?_
  refine r_iconst d_St_init_33 kc_1 ?_
  refine r_putI d_St_init_34 ok_9 (nle rfl) (nle rfl) rfl lf_St_25 rfl q24 ?_
  refine r_aload_n (j := 0) d_St_init_37 rfl ?_
  refine r_iconst d_St_init_38 kc_0 ?_
  obtain ⟨q26, hw⟩ := hw
  obtain ⟨q27, hw⟩ := hw
  obtain ⟨b28, t29, u8, u9, u6, u7, hw⟩ := hw
  subst u8 u9
  refine r_newL d_St_init_39 ac_J u6 rfl u7 (refB_r q26 refB_n) (refL_r q26 (refL_r q27 refL_n)) ?_
  generalize e8 : nw (sI (sI (sR h22 v0 3 a23) v0 4 (1 : Int32)) v0 5 (1 : Int32)) 21 (ix (0 : Int32)) = h30 at hw ⊢
  generalize e7 : gX (sI (sI (sR h22 v0 3 a23) v0 4 (1 : Int32)) v0 5 (1 : Int32)) = a31 at hw ⊢
  replace hw := hw a31 h30 e7.symm e8.symm
  obtain ⟨q32, hw⟩ := hw
  obtain ⟨q33, hw⟩ := hw
  refine r_putR d_St_init_41 ok_9 (nle rfl) (nle rfl) rfl lf_St_28 rfl q32 q33 ?_
  refine r_aload_n (j := 0) d_St_init_44 rfl ?_
  refine r_iconst d_St_init_45 kc_0 ?_
  obtain ⟨q34, hw⟩ := hw
  obtain ⟨q35, hw⟩ := hw
  obtain ⟨b36, t37, u8, u9, u6, u7, hw⟩ := hw
  subst u8 u9
  refine r_newI d_St_init_46 ac_I u6 rfl u7 (refB_r q34 refB_n) (refL_r q34 (refL_r q35 refL_n)) ?_
  generalize e8 : nw (sR h30 v0 7 a31) 20 (ix (0 : Int32)) = h38 at hw ⊢
  generalize e7 : gX (sR h30 v0 7 a31) = a39 at hw ⊢
  replace hw := hw a39 h38 e7.symm e8.symm
  obtain ⟨q40, hw⟩ := hw
  obtain ⟨q41, hw⟩ := hw
  refine r_putR d_St_init_48 ok_9 (nle rfl) (nle rfl) rfl lf_St_32 rfl q40 q41 ?_
  refine r_aload_n (j := 0) d_St_init_51 rfl ?_
  refine r_iconst d_St_init_52 kc_0 ?_
  obtain ⟨q42, hw⟩ := hw
  obtain ⟨q43, hw⟩ := hw
  obtain ⟨b44, t45, u8, u9, u6, u7, hw⟩ := hw
  subst u8 u9
  refine r_newI d_St_init_53 ac_I u6 rfl u7 (refB_r q42 refB_n) (refL_r q42 (refL_r q43 refL_n)) ?_
  generalize e8 : nw (sR h38 v0 8 a39) 20 (ix (0 : Int32)) = h46 at hw ⊢
  generalize e7 : gX (sR h38 v0 8 a39) = a47 at hw ⊢
  replace hw := hw a47 h46 e7.symm e8.symm
  obtain ⟨q48, hw⟩ := hw
  obtain ⟨q49, hw⟩ := hw
  refine r_putR d_St_init_55 ok_9 (nle rfl) (nle rfl) rfl lf_St_35 rfl q48 q49 ?_
  refine r_aload_n (j := 0) d_St_init_58 rfl ?_
  refine r_iconst d_St_init_59 kc_0 ?_
  obtain ⟨q50, hw⟩ := hw
  obtain ⟨q51, hw⟩ := hw
  obtain ⟨b52, t53, u8, u9, u6, u7, hw⟩ := hw
  subst u8 u9
  refine r_newL d_St_init_60 ac_J u6 rfl u7 (refB_r q50 refB_n) (refL_r q50 (refL_r q51 refL_n)) ?_
  generalize e8 : nw (sR h46 v0 9 a47) 21 (ix (0 : Int32)) = h54 at hw ⊢
  generalize e7 : gX (sR h46 v0 9 a47) = a55 at hw ⊢
  replace hw := hw a55 h54 e7.symm e8.symm
  obtain ⟨q56, hw⟩ := hw
  obtain ⟨q57, hw⟩ := hw
  refine r_putR d_St_init_62 ok_9 (nle rfl) (nle rfl) rfl lf_St_38 rfl q56 q57 ?_
  refine r_aload_n (j := 0) d_St_init_65 rfl ?_
  refine r_iconst d_St_init_66 kc_m1 ?_
  refine r_putI d_St_init_67 ok_9 (nle rfl) (nle rfl) rfl lf_St_41 rfl q56 ?_
  refine r_aload_n (j := 0) d_St_init_70 rfl ?_
  refine r_iconst d_St_init_71 kc_m1 ?_
  refine r_putI d_St_init_72 ok_9 (nle rfl) (nle rfl) rfl lf_St_44 rfl q56 ?_
  refine r_aload_n (j := 0) d_St_init_75 rfl ?_
  refine r_aload_n (j := 1) d_St_init_76 rfl ?_
  obtain ⟨q58, hw⟩ := hw
  refine r_putFR d_St_init_77 ok_9 (nle rfl) (nle rfl) rfl lf_St_47 rfl rfl rfl q56 q58 ?_
  exact r_return d_St_init_80.1 rfl (hQ _ hw)
set_option maxRecDepth 100000 in
set_option maxHeartbeats 4000000 in
theorem s_St_layer {d : Nat} {v0 : Int32} {h : Hp} {Q : Int32 → Hp → Prop} {QQ : Option AV → Hp → Prop} (hw : w_St_layer v0 h Q) (hQ : ∀ r9 h9, Q r9 h9 → QQ (some (ai r9)) h9) : aCall m_St_layer d [ai v0] h 0 0 QQ := by
  refine aCall_in pl_St_layer (nle rfl) ?_
  show aW none m_St_layer d 0 [(0, ai v0)] [] h 0 0 QQ
  unfold w_St_layer at hw
  refine r_iload_n (j := 0) d_St_layer_0 rfl ?_
  refine r_iconst d_St_layer_1 kc_1 ?_
  refine r_iand d_St_layer_2 ?_
  exact r_ireturn d_St_layer_3.1 rfl (hQ _ _ hw)
