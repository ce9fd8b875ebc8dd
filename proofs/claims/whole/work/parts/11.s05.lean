set_option maxRecDepth 100000 in
set_option maxHeartbeats 4000000 in
theorem s_M_comesBy {d : Nat} (hd : 1 ≤ d) {v0 : Nat} {v1 : Int32} {h : Hp} {Q : Bool → Hp → Prop} {QQ : Option AV → Hp → Prop} (hw : w_M_comesBy v0 v1 h Q) (hQ : ∀ r9 h9, Q r9 h9 → QQ (some (ai (b2i r9))) h9) : aCall m_M_comesBy d [ar v0, ai v1] h 0 0 QQ := by
  obtain ⟨d, rfl⟩ : ∃ d9, d = d9 + 1 := ⟨d - 1, by omega⟩
  refine aCall_in pl_M_comesBy (nle rfl) ?_
  show aW none m_M_comesBy (d + 1) 0 [(0, ar v0), (1, ai v1)] [] h 0 0 QQ
  unfold w_M_comesBy at hw
  refine r_iconst d_M_comesBy_0 kc_0 ?_
  refine r_istore_n (ls2 := [(2, ai (0 : Int32)), (0, ar v0), (1, ai v1)]) d_M_comesBy_1 (nle rfl) rfl ?_
  refine r_iconst d_M_comesBy_2 kc_0 ?_
  refine r_istore_n (ls2 := [(3, ai (0 : Int32)), (2, ai (0 : Int32)), (0, ar v0), (1, ai v1)]) d_M_comesBy_3 (nle rfl) rfl ?_
  obtain ⟨n61, hw⟩ := hw
  refine r_pick (ls2 := [(0, ar v0), (1, ai v1), (2, ai (0 : Int32)), (3, ai (0 : Int32))]) [2, 3, 1, 0] rfl ?_
  exact s_M_comesBy_L4 hd hQ  n61 _ _ _ hw
set_option maxRecDepth 100000 in
set_option maxHeartbeats 4000000 in
theorem s_M_gains_L12 {d : Nat} (hd : 2 ≤ d + 1) {Q : Hp → Prop} {QQ : Option AV → Hp → Prop} (hQ : ∀ h9, Q h9 → QQ none h9) {v0 : Nat} : ∀ (n : Nat) (v1 : Int32) (h : Hp), w_M_gains_L12 Q  v0 n v1 h → aW none m_M_gains (d + 1) 12 [(0, ar v0), (1, ai v1)] [] h 0 0 QQ := by
  intro n
  induction n with
  | zero => intro v1 h hw; exact hw.elim
  | succ n ih =>
    intro v1 h hw
    unfold w_M_gains_L12 at hw
    refine r_iload_n (j := 1) d_M_gains_12 rfl ?_
    refine r_aload_n (j := 0) d_M_gains_13 rfl ?_
    obtain ⟨q2, hw⟩ := hw
    refine r_getI d_M_gains_14 ok_12 (nle rfl) (nle rfl) rfl lf_M_247 q2 ?_
    refine r_icmp_ge d_M_gains_17 (fun w9 => ?_) (fun w9 => ?_)
    · replace hw := hw.1 w9
      exact r_return d_M_gains_49.1 rfl (hQ _ hw)
    · replace hw := hw.2 w9
      refine r_aload_n (j := 0) d_M_gains_20 rfl ?_
      refine r_aload_n (j := 0) d_M_gains_21 rfl ?_
      refine r_iload_n (j := 1) d_M_gains_22 rfl ?_
      refine r_callV (av := [ai v1]) (rest := [ar v0]) (ci := 12) d_M_gains_23 mk_M_gainOf ll_M_278 im_M_gainOf se_M_gainOf rfl (nle rfl) rfl rfl (nle rfl) q2 (s_M_gainOf  hw (fun r4 h3 hw => ?_))
      show aW none m_M_gains (d + 1) 26 [(0, ar v0), (1, ai v1)] [ai r4, ar v0] h3 0 0 QQ
      refine r_i2l d_M_gains_26 ?_
      refine r_aload_n (j := 0) d_M_gains_27 rfl ?_
      obtain ⟨q5, hw⟩ := hw
      refine r_getR d_M_gains_28 ok_12 (nle rfl) (nle rfl) rfl lf_M_77 q5 ?_
      refine r_iload_n (j := 1) d_M_gains_31 rfl ?_
      obtain ⟨q6, hw⟩ := hw
      obtain ⟨q7, hw⟩ := hw
      refine r_lald d_M_gains_32 q6 q7 ?_
      refine r_lmul d_M_gains_33 ?_
      refine r_aload_n (j := 0) d_M_gains_34 rfl ?_
      refine r_getR d_M_gains_35 ok_12 (nle rfl) (nle rfl) rfl lf_M_80 q5 ?_
      refine r_iload_n (j := 1) d_M_gains_38 rfl ?_
      obtain ⟨q8, hw⟩ := hw
      obtain ⟨q9, hw⟩ := hw
      refine r_lald d_M_gains_39 q8 q9 ?_
      refine r_callV (av := [al ((r4.toInt64) * (gL h3 (gR h3 v0 46) (ix v1))), al (gL h3 (gR h3 v0 47) (ix v1))]) (rest := []) (ci := 12) d_M_gains_40 mk_M_pluses ll_M_451 im_M_pluses se_M_pluses rfl (nle rfl) rfl rfl (nle rfl) q5 (s_M_pluses (by omega) hw (fun h10 hw => ?_))
      show aW none m_M_gains (d + 1) 43 [(0, ar v0), (1, ai v1)] [] h10 0 0 QQ
      refine r_iinc (j := 1) (ls2 := [(1, ai (v1 + (1 : Int32))), (0, ar v0)]) d_M_gains_43 rfl (congrArg (HAdd.hAdd v1) kc_1) (nle rfl) rfl ?_
      refine r_goto d_M_gains_46 ?_
      refine r_pick (ls2 := [(0, ar v0), (1, ai (v1 + (1 : Int32)))]) [1, 0] rfl ?_
      exact ih _ _ hw
set_option maxRecDepth 100000 in
set_option maxHeartbeats 4000000 in
theorem s_M_gains {d : Nat} (hd : 2 ≤ d) {v0 : Nat} {h : Hp} {Q : Hp → Prop} {QQ : Option AV → Hp → Prop} (hw : w_M_gains v0 h Q) (hQ : ∀ h9, Q h9 → QQ none h9) : aCall m_M_gains d [ar v0] h 0 0 QQ := by
  obtain ⟨d, rfl⟩ : ∃ d9, d = d9 + 1 := ⟨d - 1, by omega⟩
  refine aCall_in pl_M_gains (nle rfl) ?_
  show aW none m_M_gains (d + 1) 0 [(0, ar v0)] [] h 0 0 QQ
  unfold w_M_gains at hw
  refine r_aload_n (j := 0) d_M_gains_0 rfl ?_
  refine r_lconst d_M_gains_1 kl_0 ?_
  obtain ⟨q1, hw⟩ := hw
  refine r_putL d_M_gains_2 ok_12 (nle rfl) (nle rfl) rfl lf_M_434 rfl q1 ?_
  refine r_aload_n (j := 0) d_M_gains_5 rfl ?_
  refine r_lconst d_M_gains_6 kl_1 ?_
  refine r_putL d_M_gains_7 ok_12 (nle rfl) (nle rfl) rfl lf_M_437 rfl q1 ?_
  refine r_iconst d_M_gains_10 kc_0 ?_
  refine r_istore_n (ls2 := [(1, ai (0 : Int32)), (0, ar v0)]) d_M_gains_11 (nle rfl) rfl ?_
  obtain ⟨n11, hw⟩ := hw
  refine r_pick (ls2 := [(0, ar v0), (1, ai (0 : Int32))]) [1, 0] rfl ?_
  exact s_M_gains_L12 hd hQ  n11 _ _ hw
set_option maxRecDepth 100000 in
set_option maxHeartbeats 4000000 in
theorem s_M_aimsAtNeed_L2 {d : Nat} (hd : 1 ≤ d + 1) {Q : Hp → Prop} {QQ : Option AV → Hp → Prop} (hQ : ∀ h9, Q h9 → QQ none h9) {v0 : Nat} : ∀ (n : Nat) (v1 : Int32) (h : Hp), w_M_aimsAtNeed_L2 Q  v0 n v1 h → aW none m_M_aimsAtNeed (d + 1) 2 [(0, ar v0), (1, ai v1)] [] h 0 0 QQ := by
  intro n
  induction n with
  | zero => intro v1 h hw; exact hw.elim
  | succ n ih =>
    intro v1 h hw
    unfold w_M_aimsAtNeed_L2 at hw
    refine r_iload_n (j := 1) d_M_aimsAtNeed_2 rfl ?_
    refine r_aload_n (j := 0) d_M_aimsAtNeed_3 rfl ?_
    obtain ⟨q1, hw⟩ := hw
    refine r_getI d_M_aimsAtNeed_4 ok_12 (nle rfl) (nle rfl) rfl lf_M_244 q1 ?_
    refine r_icmp_ge d_M_aimsAtNeed_7 (fun w9 => ?_) (fun w9 => ?_)
    · replace hw := hw.1 w9
      exact r_return d_M_aimsAtNeed_27.1 rfl (hQ _ hw)
    · replace hw := hw.2 w9
      refine r_aload_n (j := 0) d_M_aimsAtNeed_10 rfl ?_
      refine r_getR d_M_aimsAtNeed_11 ok_12 (nle rfl) (nle rfl) rfl lf_M_92 q1 ?_
      refine r_iload_n (j := 1) d_M_aimsAtNeed_14 rfl ?_
      refine r_aload_n (j := 0) d_M_aimsAtNeed_15 rfl ?_
      refine r_iload_n (j := 1) d_M_aimsAtNeed_16 rfl ?_
      refine r_callV (av := [ai v1]) (rest := [ai v1, ar (gR h v0 51)]) (ci := 12) d_M_aimsAtNeed_17 mk_M_needOf ll_M_281 im_M_needOf se_M_needOf rfl (nle rfl) rfl rfl (nle rfl) q1 (s_M_needOf  hw (fun r3 h2 hw => ?_))
      show aW none m_M_aimsAtNeed (d + 1) 20 [(0, ar v0), (1, ai v1)] [ai r3, ai v1, ar (gR h v0 51)] h2 0 0 QQ
      obtain ⟨q4, hw⟩ := hw
      obtain ⟨q5, hw⟩ := hw
      refine r_iast d_M_aimsAtNeed_20 q4 q5 ?_
      refine r_iinc (j := 1) (ls2 := [(1, ai (v1 + (1 : Int32))), (0, ar v0)]) d_M_aimsAtNeed_21 rfl (congrArg (HAdd.hAdd v1) kc_1) (nle rfl) rfl ?_
      refine r_goto d_M_aimsAtNeed_24 ?_
      refine r_pick (ls2 := [(0, ar v0), (1, ai (v1 + (1 : Int32)))]) [1, 0] rfl ?_
      exact ih _ _ hw
set_option maxRecDepth 100000 in
set_option maxHeartbeats 4000000 in
theorem s_M_aimsAtNeed {d : Nat} (hd : 1 ≤ d) {v0 : Nat} {h : Hp} {Q : Hp → Prop} {QQ : Option AV → Hp → Prop} (hw : w_M_aimsAtNeed v0 h Q) (hQ : ∀ h9, Q h9 → QQ none h9) : aCall m_M_aimsAtNeed d [ar v0] h 0 0 QQ := by
  obtain ⟨d, rfl⟩ : ∃ d9, d = d9 + 1 := ⟨d - 1, by omega⟩
  refine aCall_in pl_M_aimsAtNeed (nle rfl) ?_
  show aW none m_M_aimsAtNeed (d + 1) 0 [(0, ar v0)] [] h 0 0 QQ
  unfold w_M_aimsAtNeed at hw
  refine r_iconst d_M_aimsAtNeed_0 kc_0 ?_
  refine r_istore_n (ls2 := [(1, ai (0 : Int32)), (0, ar v0)]) d_M_aimsAtNeed_1 (nle rfl) rfl ?_
  obtain ⟨n6, hw⟩ := hw
  refine r_pick (ls2 := [(0, ar v0), (1, ai (0 : Int32))]) [1, 0] rfl ?_
  exact s_M_aimsAtNeed_L2 hd hQ  n6 _ _ hw
set_option maxRecDepth 100000 in
set_option maxHeartbeats 4000000 in
theorem s_M_many_L4 {d : Nat} {Q : Int32 → Hp → Prop} {QQ : Option AV → Hp → Prop} (hQ : ∀ r9 h9, Q r9 h9 → QQ (some (ai r9)) h9) {v0 : Int32} : ∀ (n : Nat) (v1 : Int32) (v2 : Int32) (h : Hp), w_M_many_L4 Q  v0 n v1 v2 h → aW none m_M_many d 4 [(0, ai v0), (1, ai v1), (2, ai v2)] [] h 0 0 QQ := by
  intro n
  induction n with
  | zero => intro v1 v2 h hw; exact hw.elim
  | succ n ih =>
    intro v1 v2 h hw
    unfold w_M_many_L4 at hw
    refine r_iload_n (j := 2) d_M_many_4 rfl ?_
    refine r_bipush d_M_many_5 kb_8 ?_
    refine r_icmp_ge d_M_many_7 (fun w9 => ?_) (fun w9 => ?_)
    · replace hw := hw.1 w9
      refine r_iload_n (j := 1) d_M_many_24 rfl ?_
      exact r_ireturn d_M_many_25.1 rfl (hQ _ _ hw)
    · replace hw := hw.2 w9
      refine r_iload_n (j := 1) d_M_many_10 rfl ?_
      refine r_iload_n (j := 0) d_M_many_11 rfl ?_
      refine r_iload_n (j := 2) d_M_many_12 rfl ?_
      refine r_ishr d_M_many_13 ?_
      refine r_iconst d_M_many_14 kc_1 ?_
      refine r_iand d_M_many_15 ?_
      refine r_iadd d_M_many_16 ?_
      refine r_istore_n (ls2 := [(1, ai (v1 + ((jshr v0 v2) &&& (1 : Int32)))), (0, ai v0), (2, ai v2)]) d_M_many_17 (nle rfl) rfl ?_
      refine r_iinc (j := 2) (ls2 := [(2, ai (v2 + (1 : Int32))), (1, ai (v1 + ((jshr v0 v2) &&& (1 : Int32)))), (0, ai v0)]) d_M_many_18 rfl (congrArg (HAdd.hAdd v2) kc_1) (nle rfl) rfl ?_
      refine r_goto d_M_many_21 ?_
      refine r_pick (ls2 := [(0, ai v0), (1, ai (v1 + ((jshr v0 v2) &&& (1 : Int32)))), (2, ai (v2 + (1 : Int32)))]) [2, 1, 0] rfl ?_
      exact ih _ _ _ hw
set_option maxRecDepth 100000 in
set_option maxHeartbeats 4000000 in
theorem s_M_many {d : Nat} {v0 : Int32} {h : Hp} {Q : Int32 → Hp → Prop} {QQ : Option AV → Hp → Prop} (hw : w_M_many v0 h Q) (hQ : ∀ r9 h9, Q r9 h9 → QQ (some (ai r9)) h9) : aCall m_M_many d [ai v0] h 0 0 QQ := by
  refine aCall_in pl_M_many (nle rfl) ?_
  show aW none m_M_many d 0 [(0, ai v0)] [] h 0 0 QQ
  unfold w_M_many at hw
  refine r_iconst d_M_many_0 kc_0 ?_
  refine r_istore_n (ls2 := [(1, ai (0 : Int32)), (0, ai v0)]) d_M_many_1 (nle rfl) rfl ?_
  refine r_iconst d_M_many_2 kc_0 ?_
  refine r_istore_n (ls2 := [(2, ai (0 : Int32)), (1, ai (0 : Int32)), (0, ai v0)]) d_M_many_3 (nle rfl) rfl ?_
  obtain ⟨n1, hw⟩ := hw
  refine r_pick (ls2 := [(0, ai v0), (1, ai (0 : Int32)), (2, ai (0 : Int32))]) [2, 1, 0] rfl ?_
  exact s_M_many_L4 hQ  n1 _ _ _ hw
set_option maxRecDepth 100000 in
set_option maxHeartbeats 4000000 in
theorem s_M_goesRound_L41 {d : Nat} (hd : 3 ≤ d + 1) {Q : Bool → Hp → Prop} {QQ : Option AV → Hp → Prop} (hQ : ∀ r9 h9, Q r9 h9 → QQ (some (ai (b2i r9))) h9) {k2 : Int32 → Hp → Prop} (hk2 : ∀ v1 h9, k2 v1 h9 → aW none m_M_goesRound (d + 1) 2 [(0, ar v0), (1, ai v1)] [] h9 0 0 QQ) {v0 : Nat} {v1 : Int32} : ∀ (n : Nat) (v2 : Int32) (h : Hp), w_M_goesRound_L41 Q k2 v0 v1 n v2 h → aW none m_M_goesRound (d + 1) 41 [(0, ar v0), (1, ai v1), (2, ai v2)] [] h 0 0 QQ := by
  intro n
  induction n with
  | zero => intro v2 h hw; exact hw.elim
  | succ n ih =>
    intro v2 h hw
    unfold w_M_goesRound_L41 at hw
    refine r_iload_n (j := 2) d_M_goesRound_41 rfl ?_
    refine r_iconst d_M_goesRound_42 kc_1 ?_
    refine r_aload_n (j := 0) d_M_goesRound_43 rfl ?_
    obtain ⟨q3, hw⟩ := hw
    refine r_getI d_M_goesRound_44 ok_12 (nle rfl) (nle rfl) rfl lf_M_247 q3 ?_
    refine r_ishl d_M_goesRound_47 ?_
    refine r_icmp_ge d_M_goesRound_48 (fun w9 => ?_) (fun w9 => ?_)
    · replace hw := hw.1 w9
      refine r_iinc (j := 1) (ls2 := [(1, ai (v1 + (1 : Int32))), (0, ar v0), (2, ai v2)]) d_M_goesRound_115 rfl (congrArg (HAdd.hAdd v1) kc_1) (nle rfl) rfl ?_
      refine r_goto d_M_goesRound_118 ?_
      refine r_pick (ls2 := [(0, ar v0), (1, ai (v1 + (1 : Int32)))]) [1, 0] rfl ?_
      exact hk2 _ _ hw
    · replace hw := hw.2 w9
      refine r_iload_n (j := 2) d_M_goesRound_51 rfl ?_
      refine r_iload_n (j := 1) d_M_goesRound_52 rfl ?_
      refine r_ishr d_M_goesRound_53 ?_
      refine r_iconst d_M_goesRound_54 kc_1 ?_
      refine r_iand d_M_goesRound_55 ?_
      refine r_iconst d_M_goesRound_56 kc_1 ?_
      refine r_icmp_eq d_M_goesRound_57 (fun w9 => ?_) (fun w9 => ?_)
      · replace hw := hw.1 w9
        refine r_iinc (j := 2) (ls2 := [(2, ai (v2 + (1 : Int32))), (0, ar v0), (1, ai v1)]) d_M_goesRound_109 rfl (congrArg (HAdd.hAdd v2) kc_1) (nle rfl) rfl ?_
        refine r_goto d_M_goesRound_112 ?_
        refine r_pick (ls2 := [(0, ar v0), (1, ai v1), (2, ai (v2 + (1 : Int32)))]) [1, 2, 0] rfl ?_
        exact ih _ _ hw
      · replace hw := hw.2 w9
        refine r_iload_n (j := 2) d_M_goesRound_60 rfl ?_
        refine r_callS (av := [ai v2]) (rest := []) d_M_goesRound_61 mk_M_many ll_M_455 st_M_many rfl rfl (nle rfl) (s_M_many  hw (fun r5 h4 hw => ?_))
        show aW none m_M_goesRound (d + 1) 64 [(0, ar v0), (1, ai v1), (2, ai v2)] [ai r5] h4 0 0 QQ
        refine r_aload_n (j := 0) d_M_goesRound_64 rfl ?_
        obtain ⟨q6, hw⟩ := hw
        refine r_getI d_M_goesRound_65 ok_12 (nle rfl) (nle rfl) rfl lf_M_244 q6 ?_
        refine r_icmp_gt d_M_goesRound_68 (fun w9 => ?_) (fun w9 => ?_)
        · replace hw := hw.1 w9
          refine r_iinc (j := 2) (ls2 := [(2, ai (v2 + (1 : Int32))), (0, ar v0), (1, ai v1)]) d_M_goesRound_109 rfl (congrArg (HAdd.hAdd v2) kc_1) (nle rfl) rfl ?_
          refine r_goto d_M_goesRound_112 ?_
          refine r_pick (ls2 := [(0, ar v0), (1, ai v1), (2, ai (v2 + (1 : Int32)))]) [1, 2, 0] rfl ?_
          exact ih _ _ hw
        · replace hw := hw.2 w9
          refine r_aload_n (j := 0) d_M_goesRound_71 rfl ?_
          refine r_iload_n (j := 2) d_M_goesRound_72 rfl ?_
          refine r_callV (av := [ai v2]) (rest := []) (ci := 12) d_M_goesRound_73 mk_M_comesBy ll_M_458 im_M_comesBy se_M_comesBy rfl (nle rfl) rfl rfl (nle rfl) q6 (s_M_comesBy (by omega) hw (fun r8 h7 hw => ?_))
          show aW none m_M_goesRound (d + 1) 76 [(0, ar v0), (1, ai v1), (2, ai v2)] [ai (b2i r8)] h7 0 0 QQ
          refine r_if_ne d_M_goesRound_76 (fun w9 => ?_) (fun w9 => ?_)
          · replace hw := hw.2 (fun g9 => w9 (b2i_0.mpr g9))
            refine r_aload_n (j := 0) d_M_goesRound_82 rfl ?_
            obtain ⟨q10, hw⟩ := hw
            refine r_callV (av := []) (rest := []) (ci := 12) d_M_goesRound_83 mk_M_gains ll_M_461 im_M_gains se_M_gains rfl (nle rfl) rfl rfl (nle rfl) q10 (s_M_gains (by omega) hw (fun h9 hw => ?_))
            show aW none m_M_goesRound (d + 1) 86 [(0, ar v0), (1, ai v1), (2, ai v2)] [] h9 0 0 QQ
            refine r_aload_n (j := 0) d_M_goesRound_86 rfl ?_
            obtain ⟨q11, hw⟩ := hw
            refine r_getL d_M_goesRound_87 ok_12 (nle rfl) (nle rfl) rfl lf_M_434 q11 ?_
            refine r_aload_n (j := 0) d_M_goesRound_90 rfl ?_
            refine r_iload_n (j := 1) d_M_goesRound_91 rfl ?_
            refine r_callV (av := [ai v1]) (rest := [al (gL h9 v0 52)]) (ci := 12) d_M_goesRound_92 mk_M_gainOf ll_M_278 im_M_gainOf se_M_gainOf rfl (nle rfl) rfl rfl (nle rfl) q11 (s_M_gainOf  hw (fun r13 h12 hw => ?_))
            show aW none m_M_goesRound (d + 1) 95 [(0, ar v0), (1, ai v1), (2, ai v2)] [ai r13, al (gL h9 v0 52)] h12 0 0 QQ
            refine r_i2l d_M_goesRound_95 ?_
            refine r_aload_n (j := 0) d_M_goesRound_96 rfl ?_
            obtain ⟨q14, hw⟩ := hw
            refine r_getL d_M_goesRound_97 ok_12 (nle rfl) (nle rfl) rfl lf_M_437 q14 ?_
            refine r_lmul d_M_goesRound_100 ?_
            refine r_ladd d_M_goesRound_101 ?_
            refine r_lconst d_M_goesRound_102 kl_0 ?_
            refine r_lcmp d_M_goesRound_103 ?_
            refine r_if_le d_M_goesRound_104 (fun w9 => ?_) (fun w9 => ?_)
            · replace hw := hw.1 ((lg_cmp_le _ _).mp w9)
              refine r_iinc (j := 2) (ls2 := [(2, ai (v2 + (1 : Int32))), (0, ar v0), (1, ai v1)]) d_M_goesRound_109 rfl (congrArg (HAdd.hAdd v2) kc_1) (nle rfl) rfl ?_
              refine r_goto d_M_goesRound_112 ?_
              refine r_pick (ls2 := [(0, ar v0), (1, ai v1), (2, ai (v2 + (1 : Int32)))]) [1, 2, 0] rfl ?_
              exact ih _ _ hw
            · replace hw := hw.2 (fun g9 => w9 ((lg_cmp_le _ _).mpr g9))
              refine r_iconst d_M_goesRound_107 kc_1 ?_
              exact r_zreturn d_M_goesRound_108.1 rfl (Or.inr rfl) (hQ _ _ hw)
          · replace hw := hw.1 (b2i_0.mp w9)
            refine r_goto d_M_goesRound_79 ?_
            refine r_iinc (j := 2) (ls2 := [(2, ai (v2 + (1 : Int32))), (0, ar v0), (1, ai v1)]) d_M_goesRound_109 rfl (congrArg (HAdd.hAdd v2) kc_1) (nle rfl) rfl ?_
            refine r_goto d_M_goesRound_112 ?_
            refine r_pick (ls2 := [(0, ar v0), (1, ai v1), (2, ai (v2 + (1 : Int32)))]) [1, 2, 0] rfl ?_
            exact ih _ _ hw
set_option maxRecDepth 100000 in
set_option maxHeartbeats 4000000 in
theorem s_M_goesRound_L12 {d : Nat} (hd : 3 ≤ d + 1) {Q : Bool → Hp → Prop} {QQ : Option AV → Hp → Prop} (hQ : ∀ r9 h9, Q r9 h9 → QQ (some (ai (b2i r9))) h9) {k2 : Int32 → Hp → Prop} (hk2 : ∀ v1 h9, k2 v1 h9 → aW none m_M_goesRound (d + 1) 2 [(0, ar v0), (1, ai v1)] [] h9 0 0 QQ) {v0 : Nat} {v1 : Int32} : ∀ (n : Nat) (v2 : Int32) (h : Hp), w_M_goesRound_L12 Q k2 v0 v1 n v2 h → aW none m_M_goesRound (d + 1) 12 [(0, ar v0), (1, ai v1), (2, ai v2)] [] h 0 0 QQ := by
  intro n
  induction n with
  | zero => intro v2 h hw; exact hw.elim
  | succ n ih =>
    intro v2 h hw
    unfold w_M_goesRound_L12 at hw
    refine r_iload_n (j := 2) d_M_goesRound_12 rfl ?_
    refine r_aload_n (j := 0) d_M_goesRound_13 rfl ?_
    obtain ⟨q2, hw⟩ := hw
    refine r_getI d_M_goesRound_14 ok_12 (nle rfl) (nle rfl) rfl lf_M_244 q2 ?_
    refine r_icmp_ge d_M_goesRound_17 (fun w9 => ?_) (fun w9 => ?_)
    · replace hw := hw.1 w9
      refine r_iconst d_M_goesRound_39 kc_0 ?_
      refine r_istore_n (ls2 := [(2, ai (0 : Int32)), (0, ar v0), (1, ai v1)]) d_M_goesRound_40 (nle rfl) rfl ?_
      obtain ⟨n15, hw⟩ := hw
      refine r_pick (ls2 := [(0, ar v0), (1, ai v1), (2, ai (0 : Int32))]) [1, 2, 0] rfl ?_
      exact s_M_goesRound_L41 hd hQ hk2 n15 _ _ hw
    · replace hw := hw.2 w9
      refine r_aload_n (j := 0) d_M_goesRound_20 rfl ?_
      refine r_getR d_M_goesRound_21 ok_12 (nle rfl) (nle rfl) rfl lf_M_92 q2 ?_
      refine r_iload_n (j := 2) d_M_goesRound_24 rfl ?_
      refine r_aload_n (j := 0) d_M_goesRound_25 rfl ?_
      refine r_iload_n (j := 1) d_M_goesRound_26 rfl ?_
      refine r_iload_n (j := 2) d_M_goesRound_27 rfl ?_
      refine r_callV (av := [ai v1, ai v2]) (rest := [ai v2, ar (gR h v0 51)]) (ci := 12) d_M_goesRound_28 mk_M_numberOf ll_M_274 im_M_numberOf se_M_numberOf rfl (nle rfl) rfl rfl (nle rfl) q2 (s_M_numberOf  hw (fun r17 h16 hw => ?_))
      show aW none m_M_goesRound (d + 1) 31 [(0, ar v0), (1, ai v1), (2, ai v2)] [ai r17, ai v2, ar (gR h v0 51)] h16 0 0 QQ
      refine r_ineg d_M_goesRound_31 ?_
      obtain ⟨q18, hw⟩ := hw
      obtain ⟨q19, hw⟩ := hw
      refine r_iast d_M_goesRound_32 q18 q19 ?_
      refine r_iinc (j := 2) (ls2 := [(2, ai (v2 + (1 : Int32))), (0, ar v0), (1, ai v1)]) d_M_goesRound_33 rfl (congrArg (HAdd.hAdd v2) kc_1) (nle rfl) rfl ?_
      refine r_goto d_M_goesRound_36 ?_
      refine r_pick (ls2 := [(0, ar v0), (1, ai v1), (2, ai (v2 + (1 : Int32)))]) [1, 2, 0] rfl ?_
      exact ih _ _ hw
set_option maxRecDepth 100000 in
set_option maxHeartbeats 4000000 in
theorem s_M_goesRound_L2 {d : Nat} (hd : 3 ≤ d + 1) {Q : Bool → Hp → Prop} {QQ : Option AV → Hp → Prop} (hQ : ∀ r9 h9, Q r9 h9 → QQ (some (ai (b2i r9))) h9) {v0 : Nat} : ∀ (n : Nat) (v1 : Int32) (h : Hp), w_M_goesRound_L2 Q  v0 n v1 h → aW none m_M_goesRound (d + 1) 2 [(0, ar v0), (1, ai v1)] [] h 0 0 QQ := by
  intro n
  induction n with
  | zero => intro v1 h hw; exact hw.elim
  | succ n ih =>
    intro v1 h hw
    unfold w_M_goesRound_L2 at hw
    refine r_iload_n (j := 1) d_M_goesRound_2 rfl ?_
    refine r_aload_n (j := 0) d_M_goesRound_3 rfl ?_
    obtain ⟨q1, hw⟩ := hw
    refine r_getI d_M_goesRound_4 ok_12 (nle rfl) (nle rfl) rfl lf_M_247 q1 ?_
    refine r_icmp_ge d_M_goesRound_7 (fun w9 => ?_) (fun w9 => ?_)
    · replace hw := hw.1 w9
      refine r_iconst d_M_goesRound_121 kc_0 ?_
      exact r_zreturn d_M_goesRound_122.1 rfl (Or.inl rfl) (hQ _ _ hw)
    · replace hw := hw.2 w9
      refine r_iconst d_M_goesRound_10 kc_0 ?_
      refine r_istore_n (ls2 := [(2, ai (0 : Int32)), (0, ar v0), (1, ai v1)]) d_M_goesRound_11 (nle rfl) rfl ?_
      obtain ⟨n20, hw⟩ := hw
      refine r_pick (ls2 := [(0, ar v0), (1, ai v1), (2, ai (0 : Int32))]) [1, 2, 0] rfl ?_
      exact s_M_goesRound_L12 hd hQ ih n20 _ _ hw
set_option maxRecDepth 100000 in
set_option maxHeartbeats 4000000 in
theorem s_M_goesRound {d : Nat} (hd : 3 ≤ d) {v0 : Nat} {h : Hp} {Q : Bool → Hp → Prop} {QQ : Option AV → Hp → Prop} (hw : w_M_goesRound v0 h Q) (hQ : ∀ r9 h9, Q r9 h9 → QQ (some (ai (b2i r9))) h9) : aCall m_M_goesRound d [ar v0] h 0 0 QQ := by
  obtain ⟨d, rfl⟩ : ∃ d9, d = d9 + 1 := ⟨d - 1, by omega⟩
  refine aCall_in pl_M_goesRound (nle rfl) ?_
  show aW none m_M_goesRound (d + 1) 0 [(0, ar v0)] [] h 0 0 QQ
  unfold w_M_goesRound at hw
  refine r_iconst d_M_goesRound_0 kc_0 ?_
  refine r_istore_n (ls2 := [(1, ai (0 : Int32)), (0, ar v0)]) d_M_goesRound_1 (nle rfl) rfl ?_
  obtain ⟨n21, hw⟩ := hw
  refine r_pick (ls2 := [(0, ar v0), (1, ai (0 : Int32))]) [1, 0] rfl ?_
  exact s_M_goesRound_L2 hd hQ  n21 _ _ hw
set_option maxRecDepth 100000 in
set_option maxHeartbeats 4000000 in
theorem s_M_laysCorners_B137 {d : Nat} (hd : 3 ≤ d + 1) {Q : Bool → Hp → Prop} {QQ : Option AV → Hp → Prop} (hQ : ∀ r9 h9, Q r9 h9 → QQ (some (ai (b2i r9))) h9) {k11 : Int32 → Hp → Prop} (hk11 : ∀ v1 h9, k11 v1 h9 → aW none m_M_laysCorners (d + 1) 11 [(0, ar v0), (1, ai v1)] [] h9 0 0 QQ) {v0 : Nat} {v1 : Int32} {h : Hp} (hw : w_M_laysCorners_B137 Q k11 v0 v1 h) : aW none m_M_laysCorners (d + 1) 137 [(0, ar v0), (1, ai v1)] [] h 0 0 QQ := by
  unfold w_M_laysCorners_B137 at hw
  refine r_aload_n (j := 0) d_M_laysCorners_137 rfl ?_
  refine r_dup d_M_laysCorners_138 rfl ?_
  obtain ⟨q14, hw⟩ := hw
  refine r_getI d_M_laysCorners_139 ok_12 (nle rfl) (nle rfl) rfl lf_M_464 q14 ?_
  refine r_iconst d_M_laysCorners_142 kc_1 ?_
  refine r_iadd d_M_laysCorners_143 ?_
  refine r_putI d_M_laysCorners_144 ok_12 (nle rfl) (nle rfl) rfl lf_M_464 rfl q14 ?_
  refine r_iinc (j := 1) (ls2 := [(1, ai (v1 + (1 : Int32))), (0, ar v0)]) d_M_laysCorners_147 rfl (congrArg (HAdd.hAdd v1) kc_1) (nle rfl) rfl ?_
  refine r_goto d_M_laysCorners_150 ?_
  refine r_pick (ls2 := [(0, ar v0), (1, ai (v1 + (1 : Int32)))]) [1, 0] rfl ?_
  exact hk11 _ _ hw
set_option maxRecDepth 100000 in
set_option maxHeartbeats 4000000 in
theorem s_M_laysCorners_L99 {d : Nat} (hd : 3 ≤ d + 1) {Q : Bool → Hp → Prop} {QQ : Option AV → Hp → Prop} (hQ : ∀ r9 h9, Q r9 h9 → QQ (some (ai (b2i r9))) h9) {k11 : Int32 → Hp → Prop} (hk11 : ∀ v1 h9, k11 v1 h9 → aW none m_M_laysCorners (d + 1) 11 [(0, ar v0), (1, ai v1)] [] h9 0 0 QQ) {v0 : Nat} {v1 : Int32} : ∀ (n : Nat) (v2 : Int32) (h : Hp), w_M_laysCorners_L99 Q k11 v0 v1 n v2 h → aW none m_M_laysCorners (d + 1) 99 [(0, ar v0), (1, ai v1), (2, ai v2)] [] h 0 0 QQ := by
  intro n
  induction n with
  | zero => intro v2 h hw; exact hw.elim
  | succ n ih =>
    intro v2 h hw
    unfold w_M_laysCorners_L99 at hw
    refine r_iload_n (j := 2) d_M_laysCorners_99 rfl ?_
    refine r_aload_n (j := 0) d_M_laysCorners_100 rfl ?_
    obtain ⟨q13, hw⟩ := hw
    refine r_getI d_M_laysCorners_101 ok_12 (nle rfl) (nle rfl) rfl lf_M_247 q13 ?_
    refine r_icmp_ge d_M_laysCorners_104 (fun w9 => ?_) (fun w9 => ?_)
    · replace hw := hw.1 w9
      refine r_pick (ls2 := [(0, ar v0), (1, ai v1)]) [0, 1] rfl ?_
      exact s_M_laysCorners_B137 hd hQ hk11 hw
    · replace hw := hw.2 w9
      refine r_aload_n (j := 0) d_M_laysCorners_107 rfl ?_
      refine r_getR d_M_laysCorners_108 ok_12 (nle rfl) (nle rfl) rfl lf_M_83 q13 ?_
      refine r_iload_n (j := 2) d_M_laysCorners_111 rfl ?_
      refine r_aload_n (j := 0) d_M_laysCorners_112 rfl ?_
      refine r_getR d_M_laysCorners_113 ok_12 (nle rfl) (nle rfl) rfl lf_M_77 q13 ?_
      refine r_iload_n (j := 2) d_M_laysCorners_116 rfl ?_
      obtain ⟨q15, hw⟩ := hw
      obtain ⟨q16, hw⟩ := hw
      refine r_lald d_M_laysCorners_117 q15 q16 ?_
      obtain ⟨q17, hw⟩ := hw
      obtain ⟨q18, hw⟩ := hw
      refine r_last d_M_laysCorners_118 q17 q18 ?_
      refine r_aload_n (j := 0) d_M_laysCorners_119 rfl ?_
      refine r_getR d_M_laysCorners_120 ok_12 (nle rfl) (nle rfl) rfl lf_M_86 q13 ?_
      refine r_iload_n (j := 2) d_M_laysCorners_123 rfl ?_
      refine r_aload_n (j := 0) d_M_laysCorners_124 rfl ?_
      refine r_getR d_M_laysCorners_125 ok_12 (nle rfl) (nle rfl) rfl lf_M_80 q13 ?_
      refine r_iload_n (j := 2) d_M_laysCorners_128 rfl ?_
      obtain ⟨q19, hw⟩ := hw
      obtain ⟨q20, hw⟩ := hw
      refine r_lald d_M_laysCorners_129 q19 q20 ?_
      obtain ⟨q21, hw⟩ := hw
      obtain ⟨q22, hw⟩ := hw
      refine r_last d_M_laysCorners_130 q21 q22 ?_
      refine r_iinc (j := 2) (ls2 := [(2, ai (v2 + (1 : Int32))), (0, ar v0), (1, ai v1)]) d_M_laysCorners_131 rfl (congrArg (HAdd.hAdd v2) kc_1) (nle rfl) rfl ?_
      refine r_goto d_M_laysCorners_134 ?_
      refine r_pick (ls2 := [(0, ar v0), (1, ai v1), (2, ai (v2 + (1 : Int32)))]) [1, 2, 0] rfl ?_
      exact ih _ _ hw
set_option maxRecDepth 100000 in
set_option maxHeartbeats 4000000 in
theorem s_M_laysCorners_B76 {d : Nat} (hd : 3 ≤ d + 1) {Q : Bool → Hp → Prop} {QQ : Option AV → Hp → Prop} (hQ : ∀ r9 h9, Q r9 h9 → QQ (some (ai (b2i r9))) h9) {k11 : Int32 → Hp → Prop} (hk11 : ∀ v1 h9, k11 v1 h9 → aW none m_M_laysCorners (d + 1) 11 [(0, ar v0), (1, ai v1)] [] h9 0 0 QQ) {v0 : Nat} {v1 : Int32} {h : Hp} (hw : w_M_laysCorners_B76 Q k11 v0 v1 h) : aW none m_M_laysCorners (d + 1) 76 [(0, ar v0), (1, ai v1)] [] h 0 0 QQ := by
  unfold w_M_laysCorners_B76 at hw
  refine r_aload_n (j := 0) d_M_laysCorners_76 rfl ?_
  refine r_aload_n (j := 0) d_M_laysCorners_77 rfl ?_
  obtain ⟨q12, hw⟩ := hw
  refine r_getL d_M_laysCorners_78 ok_12 (nle rfl) (nle rfl) rfl lf_M_434 q12 ?_
  refine r_putL d_M_laysCorners_81 ok_12 (nle rfl) (nle rfl) rfl lf_M_473 rfl q12 ?_
  refine r_aload_n (j := 0) d_M_laysCorners_84 rfl ?_
  refine r_aload_n (j := 0) d_M_laysCorners_85 rfl ?_
  refine r_getL d_M_laysCorners_86 ok_12 (nle rfl) (nle rfl) rfl lf_M_437 q12 ?_
  refine r_putL d_M_laysCorners_89 ok_12 (nle rfl) (nle rfl) rfl lf_M_470 rfl q12 ?_
  refine r_aload_n (j := 0) d_M_laysCorners_92 rfl ?_
  refine r_iload_n (j := 1) d_M_laysCorners_93 rfl ?_
  refine r_putI d_M_laysCorners_94 ok_12 (nle rfl) (nle rfl) rfl lf_M_476 rfl q12 ?_
  refine r_iconst d_M_laysCorners_97 kc_0 ?_
  refine r_istore_n (ls2 := [(2, ai (0 : Int32)), (0, ar v0), (1, ai v1)]) d_M_laysCorners_98 (nle rfl) rfl ?_
  obtain ⟨n23, hw⟩ := hw
  refine r_pick (ls2 := [(0, ar v0), (1, ai v1), (2, ai (0 : Int32))]) [1, 2, 0] rfl ?_
  exact s_M_laysCorners_L99 hd hQ hk11 n23 _ _ hw
set_option maxRecDepth 100000 in
set_option maxHeartbeats 4000000 in
theorem s_M_laysCorners_L11 {d : Nat} (hd : 3 ≤ d + 1) {Q : Bool → Hp → Prop} {QQ : Option AV → Hp → Prop} (hQ : ∀ r9 h9, Q r9 h9 → QQ (some (ai (b2i r9))) h9) {v0 : Nat} : ∀ (n : Nat) (v1 : Int32) (h : Hp), w_M_laysCorners_L11 Q  v0 n v1 h → aW none m_M_laysCorners (d + 1) 11 [(0, ar v0), (1, ai v1)] [] h 0 0 QQ := by
  intro n
  induction n with
  | zero => intro v1 h hw; exact hw.elim
  | succ n ih =>
    intro v1 h hw
    unfold w_M_laysCorners_L11 at hw
    refine r_iload_n (j := 1) d_M_laysCorners_11 rfl ?_
    refine r_iconst d_M_laysCorners_12 kc_1 ?_
    refine r_aload_n (j := 0) d_M_laysCorners_13 rfl ?_
    obtain ⟨q3, hw⟩ := hw
    refine r_getI d_M_laysCorners_14 ok_12 (nle rfl) (nle rfl) rfl lf_M_247 q3 ?_
    refine r_ishl d_M_laysCorners_17 ?_
    refine r_icmp_ge d_M_laysCorners_18 (fun w9 => ?_) (fun w9 => ?_)
    · replace hw := hw.1 w9
      refine r_aload_n (j := 0) d_M_laysCorners_153 rfl ?_
      refine r_getI d_M_laysCorners_154 ok_12 (nle rfl) (nle rfl) rfl lf_M_464 q3 ?_
      refine r_if_le d_M_laysCorners_157 (fun w9 => ?_) (fun w9 => ?_)
      · replace hw := hw.1 w9
        refine r_iconst d_M_laysCorners_164 kc_0 ?_
        exact r_zreturn d_M_laysCorners_165.1 rfl (Or.inl rfl) (hQ _ _ hw)
      · replace hw := hw.2 w9
        refine r_iconst d_M_laysCorners_160 kc_1 ?_
        refine r_goto d_M_laysCorners_161 ?_
        exact r_zreturn d_M_laysCorners_165.1 rfl (Or.inr rfl) (hQ _ _ hw)
    · replace hw := hw.2 w9
      refine r_iload_n (j := 1) d_M_laysCorners_21 rfl ?_
      refine r_callS (av := [ai v1]) (rest := []) d_M_laysCorners_22 mk_M_many ll_M_455 st_M_many rfl rfl (nle rfl) (s_M_many  hw (fun r5 h4 hw => ?_))
      show aW none m_M_laysCorners (d + 1) 25 [(0, ar v0), (1, ai v1)] [ai r5] h4 0 0 QQ
      refine r_aload_n (j := 0) d_M_laysCorners_25 rfl ?_
      obtain ⟨q6, hw⟩ := hw
      refine r_getI d_M_laysCorners_26 ok_12 (nle rfl) (nle rfl) rfl lf_M_244 q6 ?_
      refine r_icmp_gt d_M_laysCorners_29 (fun w9 => ?_) (fun w9 => ?_)
      · replace hw := hw.1 w9
        refine r_iinc (j := 1) (ls2 := [(1, ai (v1 + (1 : Int32))), (0, ar v0)]) d_M_laysCorners_147 rfl (congrArg (HAdd.hAdd v1) kc_1) (nle rfl) rfl ?_
        refine r_goto d_M_laysCorners_150 ?_
        refine r_pick (ls2 := [(0, ar v0), (1, ai (v1 + (1 : Int32)))]) [1, 0] rfl ?_
        exact ih _ _ hw
      · replace hw := hw.2 w9
        refine r_aload_n (j := 0) d_M_laysCorners_32 rfl ?_
        refine r_iload_n (j := 1) d_M_laysCorners_33 rfl ?_
        refine r_callV (av := [ai v1]) (rest := []) (ci := 12) d_M_laysCorners_34 mk_M_comesBy ll_M_458 im_M_comesBy se_M_comesBy rfl (nle rfl) rfl rfl (nle rfl) q6 (s_M_comesBy (by omega) hw (fun r8 h7 hw => ?_))
        show aW none m_M_laysCorners (d + 1) 37 [(0, ar v0), (1, ai v1)] [ai (b2i r8)] h7 0 0 QQ
        refine r_if_ne d_M_laysCorners_37 (fun w9 => ?_) (fun w9 => ?_)
        · replace hw := hw.2 (fun g9 => w9 (b2i_0.mpr g9))
          refine r_aload_n (j := 0) d_M_laysCorners_43 rfl ?_
          obtain ⟨q10, hw⟩ := hw
          refine r_callV (av := []) (rest := []) (ci := 12) d_M_laysCorners_44 mk_M_gains ll_M_461 im_M_gains se_M_gains rfl (nle rfl) rfl rfl (nle rfl) q10 (s_M_gains (by omega) hw (fun h9 hw => ?_))
          show aW none m_M_laysCorners (d + 1) 47 [(0, ar v0), (1, ai v1)] [] h9 0 0 QQ
          refine r_aload_n (j := 0) d_M_laysCorners_47 rfl ?_
          obtain ⟨q11, hw⟩ := hw
          refine r_getI d_M_laysCorners_48 ok_12 (nle rfl) (nle rfl) rfl lf_M_464 q11 ?_
          refine r_if_eq d_M_laysCorners_51 (fun w9 => ?_) (fun w9 => ?_)
          · replace hw := hw.1 w9
            exact s_M_laysCorners_B76 hd hQ ih hw
          · replace hw := hw.2 w9
            refine r_aload_n (j := 0) d_M_laysCorners_54 rfl ?_
            refine r_getL d_M_laysCorners_55 ok_12 (nle rfl) (nle rfl) rfl lf_M_434 q11 ?_
            refine r_aload_n (j := 0) d_M_laysCorners_58 rfl ?_
            refine r_getL d_M_laysCorners_59 ok_12 (nle rfl) (nle rfl) rfl lf_M_470 q11 ?_
            refine r_lmul d_M_laysCorners_62 ?_
            refine r_aload_n (j := 0) d_M_laysCorners_63 rfl ?_
            refine r_getL d_M_laysCorners_64 ok_12 (nle rfl) (nle rfl) rfl lf_M_473 q11 ?_
            refine r_aload_n (j := 0) d_M_laysCorners_67 rfl ?_
            refine r_getL d_M_laysCorners_68 ok_12 (nle rfl) (nle rfl) rfl lf_M_437 q11 ?_
            refine r_lmul d_M_laysCorners_71 ?_
            refine r_lcmp d_M_laysCorners_72 ?_
            refine r_if_le d_M_laysCorners_73 (fun w9 => ?_) (fun w9 => ?_)
            · replace hw := hw.1 ((lg_cmp_le _ _).mp w9)
              exact s_M_laysCorners_B137 hd hQ ih hw
            · replace hw := hw.2 (fun g9 => w9 ((lg_cmp_le _ _).mpr g9))
              exact s_M_laysCorners_B76 hd hQ ih hw
        · replace hw := hw.1 (b2i_0.mp w9)
          refine r_goto d_M_laysCorners_40 ?_
          refine r_iinc (j := 1) (ls2 := [(1, ai (v1 + (1 : Int32))), (0, ar v0)]) d_M_laysCorners_147 rfl (congrArg (HAdd.hAdd v1) kc_1) (nle rfl) rfl ?_
          refine r_goto d_M_laysCorners_150 ?_
          refine r_pick (ls2 := [(0, ar v0), (1, ai (v1 + (1 : Int32)))]) [1, 0] rfl ?_
          exact ih _ _ hw
set_option maxRecDepth 100000 in
set_option maxHeartbeats 4000000 in
theorem s_M_laysCorners {d : Nat} (hd : 3 ≤ d) {v0 : Nat} {h : Hp} {Q : Bool → Hp → Prop} {QQ : Option AV → Hp → Prop} (hw : w_M_laysCorners v0 h Q) (hQ : ∀ r9 h9, Q r9 h9 → QQ (some (ai (b2i r9))) h9) : aCall m_M_laysCorners d [ar v0] h 0 0 QQ := by
  obtain ⟨d, rfl⟩ : ∃ d9, d = d9 + 1 := ⟨d - 1, by omega⟩
  refine aCall_in pl_M_laysCorners (nle rfl) ?_
  show aW none m_M_laysCorners (d + 1) 0 [(0, ar v0)] [] h 0 0 QQ
  unfold w_M_laysCorners at hw
  refine r_aload_n (j := 0) d_M_laysCorners_0 rfl ?_
  refine r_iconst d_M_laysCorners_1 kc_0 ?_
  obtain ⟨q1, hw⟩ := hw
  refine r_putI d_M_laysCorners_2 ok_12 (nle rfl) (nle rfl) rfl lf_M_464 rfl q1 ?_
  refine r_aload_n (j := 0) d_M_laysCorners_5 rfl ?_
  refine r_callV (av := []) (rest := []) (ci := 12) d_M_laysCorners_6 mk_M_aimsAtNeed ll_M_467 im_M_aimsAtNeed se_M_aimsAtNeed rfl (nle rfl) rfl rfl (nle rfl) q1 (s_M_aimsAtNeed (by omega) hw (fun h2 hw => ?_))
  show aW none m_M_laysCorners (d + 1) 9 [(0, ar v0)] [] h2 0 0 QQ
  refine r_iconst d_M_laysCorners_9 kc_0 ?_
  refine r_istore_n (ls2 := [(1, ai (0 : Int32)), (0, ar v0)]) d_M_laysCorners_10 (nle rfl) rfl ?_
  obtain ⟨n24, hw⟩ := hw
  refine r_pick (ls2 := [(0, ar v0), (1, ai (0 : Int32))]) [1, 0] rfl ?_
  exact s_M_laysCorners_L11 hd hQ  n24 _ _ hw
set_option maxRecDepth 100000 in
set_option maxHeartbeats 4000000 in
theorem s_M_corners {d : Nat} (hd : 4 ≤ d) {v0 : Nat} {h : Hp} {Q : Int32 → Hp → Prop} {QQ : Option AV → Hp → Prop} (hw : w_M_corners v0 h Q) (hQ : ∀ r9 h9, Q r9 h9 → QQ (some (ai r9)) h9) : aCall m_M_corners d [ar v0] h 0 0 QQ := by
  obtain ⟨d, rfl⟩ : ∃ d9, d = d9 + 1 := ⟨d - 1, by omega⟩
  refine aCall_in pl_M_corners (nle rfl) ?_
  show aW none m_M_corners (d + 1) 0 [(0, ar v0)] [] h 0 0 QQ
  unfold w_M_corners at hw
  refine r_aload_n (j := 0) d_M_corners_0 rfl ?_
  obtain ⟨q3, hw⟩ := hw
  refine r_callV (av := []) (rest := []) (ci := 12) d_M_corners_1 mk_M_laysCorners ll_M_479 im_M_laysCorners se_M_laysCorners rfl (nle rfl) rfl rfl (nle rfl) q3 (s_M_laysCorners (by omega) hw (fun r2 h1 hw => ?_))
  show aW none m_M_corners (d + 1) 4 [(0, ar v0)] [ai (b2i r2)] h1 0 0 QQ
  refine r_istore_n (ls2 := [(1, ai (b2i r2)), (0, ar v0)]) d_M_corners_4 (nle rfl) rfl ?_
  refine r_aload_n (j := 1) d_M_corners_5 rfl ?_
  obtain ⟨q4, hw⟩ := hw
  refine r_getI d_M_corners_6 ok_12 (nle rfl) (nle rfl) rfl lf_M_464 q4 ?_
  exact r_ireturn d_M_corners_9.1 rfl (hQ _ _ hw)
set_option maxRecDepth 100000 in
set_option maxHeartbeats 4000000 in
theorem s_M_laysRelaxed {d : Nat} (hd : 4 ≤ d) {v0 : Nat} {h : Hp} {Q : Bool → Hp → Prop} {QQ : Option AV → Hp → Prop} (hw : w_M_laysRelaxed v0 h Q) (hQ : ∀ r9 h9, Q r9 h9 → QQ (some (ai (b2i r9))) h9) : aCall m_M_laysRelaxed d [ar v0] h 0 0 QQ := by
  obtain ⟨d, rfl⟩ : ∃ d9, d = d9 + 1 := ⟨d - 1, by omega⟩
  refine aCall_in pl_M_laysRelaxed (nle rfl) ?_
  show aW none m_M_laysRelaxed (d + 1) 0 [(0, ar v0)] [] h 0 0 QQ
  unfold w_M_laysRelaxed at hw
  refine r_aload_n (j := 0) d_M_laysRelaxed_0 rfl ?_
  obtain ⟨q3, hw⟩ := hw
  refine r_callV (av := []) (rest := []) (ci := 12) d_M_laysRelaxed_1 mk_M_laysCorners ll_M_479 im_M_laysCorners se_M_laysCorners rfl (nle rfl) rfl rfl (nle rfl) q3 (s_M_laysCorners (by omega) hw (fun r2 h1 hw => ?_))
  show aW none m_M_laysRelaxed (d + 1) 4 [(0, ar v0)] [ai (b2i r2)] h1 0 0 QQ
  refine r_istore_n (ls2 := [(1, ai (b2i r2)), (0, ar v0)]) d_M_laysRelaxed_4 (nle rfl) rfl ?_
  refine r_aload_n (j := 1) d_M_laysRelaxed_5 rfl ?_
  refine r_iload_n (j := 0) d_M_laysRelaxed_6 rfl ?_
  refine r_if_eq d_M_laysRelaxed_7 (fun w9 => ?_) (fun w9 => ?_)
  · replace hw := hw.1 w9
    refine r_iconst d_M_laysRelaxed_21 kc_0 ?_
    obtain ⟨q4, hw⟩ := hw
    refine r_putZ d_M_laysRelaxed_22 ok_12 (nle rfl) (nle rfl) rfl lf_M_485 rfl q4 (Or.inl rfl) ?_
    refine r_iload_n (j := 0) d_M_laysRelaxed_25 rfl ?_
    obtain ⟨q5, hw⟩ := hw
    exact r_zreturn d_M_laysRelaxed_26.1 rfl q5 (by have g9 := hQ _ _ hw; rwa [b2i_i q5] at g9)
  · replace hw := hw.2 w9
    refine r_aload_n (j := 1) d_M_laysRelaxed_10 rfl ?_
    obtain ⟨q8, hw⟩ := hw
    refine r_callV (av := []) (rest := [ar v0]) (ci := 12) d_M_laysRelaxed_11 mk_M_goesRound ll_M_482 im_M_goesRound se_M_goesRound rfl (nle rfl) rfl rfl (nle rfl) q8 (s_M_goesRound (by omega) hw (fun r7 h6 hw => ?_))
    show aW none m_M_laysRelaxed (d + 1) 14 [(1, ai (b2i r2)), (0, ar v0)] [ai (b2i r7), ar v0] h6 0 0 QQ
    refine r_if_eq d_M_laysRelaxed_14 (fun w9 => ?_) (fun w9 => ?_)
    · replace hw := hw.1 (b2i_0.mp w9)
      refine r_iconst d_M_laysRelaxed_21 kc_0 ?_
      obtain ⟨q9, hw⟩ := hw
      refine r_putZ d_M_laysRelaxed_22 ok_12 (nle rfl) (nle rfl) rfl lf_M_485 rfl q9 (Or.inl rfl) ?_
      refine r_iload_n (j := 0) d_M_laysRelaxed_25 rfl ?_
      obtain ⟨q10, hw⟩ := hw
      exact r_zreturn d_M_laysRelaxed_26.1 rfl q10 (by have g9 := hQ _ _ hw; rwa [b2i_i q10] at g9)
    · replace hw := hw.2 (fun g9 => w9 (b2i_0.mpr g9))
      refine r_iconst d_M_laysRelaxed_17 kc_1 ?_
      refine r_goto d_M_laysRelaxed_18 ?_
      obtain ⟨q11, hw⟩ := hw
      refine r_putZ d_M_laysRelaxed_22 ok_12 (nle rfl) (nle rfl) rfl lf_M_485 rfl q11 (Or.inr rfl) ?_
      refine r_iload_n (j := 0) d_M_laysRelaxed_25 rfl ?_
      obtain ⟨q12, hw⟩ := hw
      exact r_zreturn d_M_laysRelaxed_26.1 rfl q12 (by have g9 := hQ _ _ hw; rwa [b2i_i q12] at g9)
set_option maxRecDepth 100000 in
set_option maxHeartbeats 4000000 in
theorem s_M_relaxed {d : Nat} (hd : 5 ≤ d) {v0 : Nat} {v1 : Int32} {h : Hp} {Q : Int32 → Hp → Prop} {QQ : Option AV → Hp → Prop} (hw : w_M_relaxed v0 v1 h Q) (hQ : ∀ r9 h9, Q r9 h9 → QQ (some (ai r9)) h9) : aCall m_M_relaxed d [ar v0, ai v1] h 0 0 QQ := by
  obtain ⟨d, rfl⟩ : ∃ d9, d = d9 + 1 := ⟨d - 1, by omega⟩
  refine aCall_in pl_M_relaxed (nle rfl) ?_
  show aW none m_M_relaxed (d + 1) 0 [(0, ar v0), (1, ai v1)] [] h 0 0 QQ
  unfold w_M_relaxed at hw
  refine r_iload_n (j := 1) d_M_relaxed_0 rfl ?_
  refine r_iconst d_M_relaxed_1 kc_0 ?_
  refine r_iconst d_M_relaxed_2 kc_3 ?_
  refine r_callS (av := [ai v1, ai (0 : Int32), ai (3 : Int32)]) (rest := []) d_M_relaxed_3 mk_M_isIn ll_M_148 st_M_isIn rfl rfl (nle rfl) (s_M_isIn  hw (fun r2 h1 hw => ?_))
  show aW none m_M_relaxed (d + 1) 6 [(0, ar v0), (1, ai v1)] [ai (b2i r2)] h1 0 0 QQ
  refine r_if_eq d_M_relaxed_6 (fun w9 => ?_) (fun w9 => ?_)
  · replace hw := hw.1 (b2i_0.mp w9)
    refine r_ldcw d_M_relaxed_16 lc_M_277 ?_
    exact r_ireturn d_M_relaxed_19.1 rfl (hQ _ _ hw)
  · replace hw := hw.2 (fun g9 => w9 (b2i_0.mpr g9))
    refine r_aload_n (j := 0) d_M_relaxed_9 rfl ?_
    obtain ⟨q5, hw⟩ := hw
    refine r_callV (av := []) (rest := []) (ci := 12) d_M_relaxed_10 mk_M_laysRelaxed ll_M_488 im_M_laysRelaxed se_M_laysRelaxed rfl (nle rfl) rfl rfl (nle rfl) q5 (s_M_laysRelaxed (by omega) hw (fun r4 h3 hw => ?_))
    show aW none m_M_relaxed (d + 1) 13 [(0, ar v0), (1, ai v1)] [ai (b2i r4)] h3 0 0 QQ
    refine r_if_ne d_M_relaxed_13 (fun w9 => ?_) (fun w9 => ?_)
    · replace hw := hw.2 (fun g9 => w9 (b2i_0.mpr g9))
      refine r_iload_n (j := 1) d_M_relaxed_20 rfl ?_
      refine r_iconst d_M_relaxed_21 kc_3 ?_
      refine r_icmp_ne d_M_relaxed_22 (fun w9 => ?_) (fun w9 => ?_)
      · replace hw := hw.2 w9
        refine r_aload_n (j := 0) d_M_relaxed_33 rfl ?_
        obtain ⟨q6, hw⟩ := hw
        refine r_getI d_M_relaxed_34 ok_12 (nle rfl) (nle rfl) rfl lf_M_485 q6 ?_
        refine r_if_eq d_M_relaxed_37 (fun w9 => ?_) (fun w9 => ?_)
        · replace hw := hw.1 w9
          refine r_iload_n (j := 1) d_M_relaxed_44 rfl ?_
          refine r_if_ne d_M_relaxed_45 (fun w9 => ?_) (fun w9 => ?_)
          · replace hw := hw.2 w9
            refine r_iload_n (j := 1) d_M_relaxed_56 rfl ?_
            refine r_iconst d_M_relaxed_57 kc_1 ?_
            refine r_icmp_ne d_M_relaxed_58 (fun w9 => ?_) (fun w9 => ?_)
            · replace hw := hw.2 w9
              refine r_aload_n (j := 0) d_M_relaxed_69 rfl ?_
              refine r_getI d_M_relaxed_70 ok_12 (nle rfl) (nle rfl) rfl lf_M_476 q6 ?_
              exact r_ireturn d_M_relaxed_73.1 rfl (hQ _ _ hw)
            · replace hw := hw.1 w9
              refine r_aload_n (j := 0) d_M_relaxed_61 rfl ?_
              refine r_getL d_M_relaxed_62 ok_12 (nle rfl) (nle rfl) rfl lf_M_470 q6 ?_
              refine r_l2i d_M_relaxed_65 ?_
              refine r_goto d_M_relaxed_66 ?_
              exact r_ireturn d_M_relaxed_73.1 rfl (hQ _ _ hw)
          · replace hw := hw.1 w9
            refine r_aload_n (j := 0) d_M_relaxed_48 rfl ?_
            refine r_getL d_M_relaxed_49 ok_12 (nle rfl) (nle rfl) rfl lf_M_473 q6 ?_
            refine r_l2i d_M_relaxed_52 ?_
            refine r_goto d_M_relaxed_53 ?_
            exact r_ireturn d_M_relaxed_73.1 rfl (hQ _ _ hw)
        · replace hw := hw.2 w9
          refine r_ldcw d_M_relaxed_40 lc_M_277 ?_
          exact r_ireturn d_M_relaxed_43.1 rfl (hQ _ _ hw)
      · replace hw := hw.1 w9
        refine r_aload_n (j := 0) d_M_relaxed_25 rfl ?_
        obtain ⟨q7, hw⟩ := hw
        refine r_getI d_M_relaxed_26 ok_12 (nle rfl) (nle rfl) rfl lf_M_485 q7 ?_
        refine r_callS (av := [ai (gI h3 v0 57)]) (rest := []) d_M_relaxed_29 mk_M_truth ll_M_318 st_M_truth rfl rfl (nle rfl) (s_M_truth  hw (fun r9 h8 hw => ?_))
        show aW none m_M_relaxed (d + 1) 32 [(0, ar v0), (1, ai v1)] [ai r9] h8 0 0 QQ
        exact r_ireturn d_M_relaxed_32.1 rfl (hQ _ _ hw)
    · replace hw := hw.1 (b2i_0.mp w9)
      refine r_ldcw d_M_relaxed_16 lc_M_277 ?_
      exact r_ireturn d_M_relaxed_19.1 rfl (hQ _ _ hw)
set_option maxRecDepth 100000 in
set_option maxHeartbeats 4000000 in
theorem s_M_fraction {d : Nat} (hd : 5 ≤ d) {v0 : Nat} {v1 : Int32} {v2 : Int32} {h : Hp} {Q : Int32 → Hp → Prop} {QQ : Option AV → Hp → Prop} (hw : w_M_fraction v0 v1 v2 h Q) (hQ : ∀ r9 h9, Q r9 h9 → QQ (some (ai r9)) h9) : aCall m_M_fraction d [ar v0, ai v1, ai v2] h 0 0 QQ := by
  obtain ⟨d, rfl⟩ : ∃ d9, d = d9 + 1 := ⟨d - 1, by omega⟩
  refine aCall_in pl_M_fraction (nle rfl) ?_
  show aW none m_M_fraction (d + 1) 0 [(0, ar v0), (1, ai v1), (2, ai v2)] [] h 0 0 QQ
  unfold w_M_fraction at hw
  refine r_aload_n (j := 0) d_M_fraction_0 rfl ?_
  refine r_iload_n (j := 1) d_M_fraction_1 rfl ?_
  obtain ⟨q3, hw⟩ := hw
  refine r_callV (av := [ai v1]) (rest := []) (ci := 12) d_M_fraction_2 mk_M_isColumn ll_M_268 im_M_isColumn se_M_isColumn rfl (nle rfl) rfl rfl (nle rfl) q3 (s_M_isColumn (by omega) hw (fun r2 h1 hw => ?_))
  show aW none m_M_fraction (d + 1) 5 [(0, ar v0), (1, ai v1), (2, ai v2)] [ai (b2i r2)] h1 0 0 QQ
  refine r_if_eq d_M_fraction_5 (fun w9 => ?_) (fun w9 => ?_)
  · replace hw := hw.1 (b2i_0.mp w9)
    refine r_ldcw d_M_fraction_31 lc_M_277 ?_
    exact r_ireturn d_M_fraction_34.1 rfl (hQ _ _ hw)
  · replace hw := hw.2 (fun g9 => w9 (b2i_0.mpr g9))
    refine r_iload_n (j := 2) d_M_fraction_8 rfl ?_
    refine r_iconst d_M_fraction_9 kc_0 ?_
    refine r_iconst d_M_fraction_10 kc_1 ?_
    refine r_callS (av := [ai v2, ai (0 : Int32), ai (1 : Int32)]) (rest := []) d_M_fraction_11 mk_M_isIn ll_M_148 st_M_isIn rfl rfl (nle rfl) (s_M_isIn  hw (fun r5 h4 hw => ?_))
    show aW none m_M_fraction (d + 1) 14 [(0, ar v0), (1, ai v1), (2, ai v2)] [ai (b2i r5)] h4 0 0 QQ
    refine r_if_eq d_M_fraction_14 (fun w9 => ?_) (fun w9 => ?_)
    · replace hw := hw.1 (b2i_0.mp w9)
      refine r_ldcw d_M_fraction_31 lc_M_277 ?_
      exact r_ireturn d_M_fraction_34.1 rfl (hQ _ _ hw)
    · replace hw := hw.2 (fun g9 => w9 (b2i_0.mpr g9))
      refine r_aload_n (j := 0) d_M_fraction_17 rfl ?_
      obtain ⟨q8, hw⟩ := hw
      refine r_callV (av := []) (rest := []) (ci := 12) d_M_fraction_18 mk_M_laysRelaxed ll_M_488 im_M_laysRelaxed se_M_laysRelaxed rfl (nle rfl) rfl rfl (nle rfl) q8 (s_M_laysRelaxed (by omega) hw (fun r7 h6 hw => ?_))
      show aW none m_M_fraction (d + 1) 21 [(0, ar v0), (1, ai v1), (2, ai v2)] [ai (b2i r7)] h6 0 0 QQ
      refine r_if_eq d_M_fraction_21 (fun w9 => ?_) (fun w9 => ?_)
      · replace hw := hw.1 (b2i_0.mp w9)
        refine r_ldcw d_M_fraction_31 lc_M_277 ?_
        exact r_ireturn d_M_fraction_34.1 rfl (hQ _ _ hw)
      · replace hw := hw.2 (fun g9 => w9 (b2i_0.mpr g9))
        refine r_aload_n (j := 0) d_M_fraction_24 rfl ?_
        obtain ⟨q9, hw⟩ := hw
        refine r_getI d_M_fraction_25 ok_12 (nle rfl) (nle rfl) rfl lf_M_485 q9 ?_
        refine r_if_eq d_M_fraction_28 (fun w9 => ?_) (fun w9 => ?_)
        · replace hw := hw.1 w9
          refine r_iload_n (j := 2) d_M_fraction_35 rfl ?_
          refine r_if_ne d_M_fraction_36 (fun w9 => ?_) (fun w9 => ?_)
          · replace hw := hw.2 w9
            refine r_aload_n (j := 0) d_M_fraction_48 rfl ?_
            refine r_getR d_M_fraction_49 ok_12 (nle rfl) (nle rfl) rfl lf_M_86 q9 ?_
            refine r_iload_n (j := 1) d_M_fraction_52 rfl ?_
            obtain ⟨q10, hw⟩ := hw
            obtain ⟨q11, hw⟩ := hw
            refine r_lald d_M_fraction_53 q10 q11 ?_
            refine r_l2i d_M_fraction_54 ?_
            exact r_ireturn d_M_fraction_55.1 rfl (hQ _ _ hw)
          · replace hw := hw.1 w9
            refine r_aload_n (j := 0) d_M_fraction_39 rfl ?_
            refine r_getR d_M_fraction_40 ok_12 (nle rfl) (nle rfl) rfl lf_M_83 q9 ?_
            refine r_iload_n (j := 1) d_M_fraction_43 rfl ?_
            obtain ⟨q12, hw⟩ := hw
            obtain ⟨q13, hw⟩ := hw
            refine r_lald d_M_fraction_44 q12 q13 ?_
            refine r_goto d_M_fraction_45 ?_
            refine r_l2i d_M_fraction_54 ?_
            exact r_ireturn d_M_fraction_55.1 rfl (hQ _ _ hw)
        · replace hw := hw.2 w9
          refine r_ldcw d_M_fraction_31 lc_M_277 ?_
          exact r_ireturn d_M_fraction_34.1 rfl (hQ _ _ hw)
set_option maxRecDepth 100000 in
set_option maxHeartbeats 4000000 in
theorem s_M_apart_B89 {d : Nat} (hd : 5 ≤ d + 1) {Q : Int32 → Hp → Prop} {QQ : Option AV → Hp → Prop} (hQ : ∀ r9 h9, Q r9 h9 → QQ (some (ai r9)) h9) {k46 : Int32 → Hp → Prop} (hk46 : ∀ v2 h9, k46 v2 h9 → aW none m_M_apart (d + 1) 46 [(0, ar v0), (1, ai v1), (2, ai v2)] [] h9 0 0 QQ) {v0 : Nat} {v1 : Int32} {v2 : Int32} {s0 : Nat} {s1 : Int64} {h : Hp} (hw : w_M_apart_B89 Q k46 v0 v1 v2 s0 s1 h) : aW none m_M_apart (d + 1) 89 [(0, ar v0), (1, ai v1), (2, ai v2)] [ar s0, al s1] h 0 0 QQ := by
  unfold w_M_apart_B89 at hw
  refine r_aload_n (j := 0) d_M_apart_89 rfl ?_
  obtain ⟨q17, hw⟩ := hw
  refine r_getR d_M_apart_90 ok_12 (nle rfl) (nle rfl) rfl lf_M_86 q17 ?_
  refine r_iload_n (j := 2) d_M_apart_93 rfl ?_
  obtain ⟨q18, hw⟩ := hw
  obtain ⟨q19, hw⟩ := hw
  refine r_lald d_M_apart_94 q18 q19 ?_
  obtain ⟨q21, hw⟩ := hw
  refine r_callV (av := [al s1, al (gL h (gR h v0 49) (ix v2))]) (rest := []) (ci := 12) d_M_apart_95 mk_M_pluses ll_M_451 im_M_pluses se_M_pluses rfl (nle rfl) rfl rfl (nle rfl) q21 (s_M_pluses (by omega) hw (fun h20 hw => ?_))
  show aW none m_M_apart (d + 1) 98 [(0, ar v0), (1, ai v1), (2, ai v2)] [] h20 0 0 QQ
  refine r_iinc (j := 2) (ls2 := [(2, ai (v2 + (1 : Int32))), (0, ar v0), (1, ai v1)]) d_M_apart_98 rfl (congrArg (HAdd.hAdd v2) kc_1) (nle rfl) rfl ?_
  refine r_goto d_M_apart_101 ?_
  refine r_pick (ls2 := [(0, ar v0), (1, ai v1), (2, ai (v2 + (1 : Int32)))]) [1, 2, 0] rfl ?_
  exact hk46 _ _ hw
set_option maxRecDepth 100000 in
set_option maxHeartbeats 4000000 in
theorem s_M_apart_L46 {d : Nat} (hd : 5 ≤ d + 1) {Q : Int32 → Hp → Prop} {QQ : Option AV → Hp → Prop} (hQ : ∀ r9 h9, Q r9 h9 → QQ (some (ai r9)) h9) {v0 : Nat} {v1 : Int32} : ∀ (n : Nat) (v2 : Int32) (h : Hp), w_M_apart_L46 Q  v0 v1 n v2 h → aW none m_M_apart (d + 1) 46 [(0, ar v0), (1, ai v1), (2, ai v2)] [] h 0 0 QQ := by
  intro n
  induction n with
  | zero => intro v2 h hw; exact hw.elim
  | succ n ih =>
    intro v2 h hw
    unfold w_M_apart_L46 at hw
    refine r_iload_n (j := 2) d_M_apart_46 rfl ?_
    refine r_aload_n (j := 0) d_M_apart_47 rfl ?_
    obtain ⟨q10, hw⟩ := hw
    refine r_getI d_M_apart_48 ok_12 (nle rfl) (nle rfl) rfl lf_M_247 q10 ?_
    refine r_icmp_ge d_M_apart_51 (fun w9 => ?_) (fun w9 => ?_)
    · replace hw := hw.1 w9
      refine r_iload_n (j := 1) d_M_apart_104 rfl ?_
      refine r_if_ne d_M_apart_105 (fun w9 => ?_) (fun w9 => ?_)
      · replace hw := hw.2 w9
        refine r_aload_n (j := 0) d_M_apart_115 rfl ?_
        refine r_getL d_M_apart_116 ok_12 (nle rfl) (nle rfl) rfl lf_M_437 q10 ?_
        refine r_l2i d_M_apart_119 ?_
        exact r_ireturn d_M_apart_120.1 rfl (hQ _ _ hw)
      · replace hw := hw.1 w9
        refine r_aload_n (j := 0) d_M_apart_108 rfl ?_
        refine r_getL d_M_apart_109 ok_12 (nle rfl) (nle rfl) rfl lf_M_434 q10 ?_
        refine r_goto d_M_apart_112 ?_
        refine r_l2i d_M_apart_119 ?_
        exact r_ireturn d_M_apart_120.1 rfl (hQ _ _ hw)
    · replace hw := hw.2 w9
      refine r_aload_n (j := 0) d_M_apart_54 rfl ?_
      refine r_getR d_M_apart_55 ok_12 (nle rfl) (nle rfl) rfl lf_M_39 q10 ?_
      refine r_iload_n (j := 2) d_M_apart_58 rfl ?_
      obtain ⟨q11, hw⟩ := hw
      obtain ⟨q12, hw⟩ := hw
      refine r_iald d_M_apart_59 q11 q12 ?_
      refine r_i2l d_M_apart_60 ?_
      refine r_aload_n (j := 0) d_M_apart_61 rfl ?_
      refine r_getR d_M_apart_62 ok_12 (nle rfl) (nle rfl) rfl lf_M_86 q10 ?_
      refine r_iload_n (j := 2) d_M_apart_65 rfl ?_
      obtain ⟨q13, hw⟩ := hw
      obtain ⟨q14, hw⟩ := hw
      refine r_lald d_M_apart_66 q13 q14 ?_
      refine r_lmul d_M_apart_67 ?_
      refine r_aload_n (j := 0) d_M_apart_68 rfl ?_
      refine r_getR d_M_apart_69 ok_12 (nle rfl) (nle rfl) rfl lf_M_83 q10 ?_
      refine r_iload_n (j := 2) d_M_apart_72 rfl ?_
      obtain ⟨q15, hw⟩ := hw
      obtain ⟨q16, hw⟩ := hw
      refine r_lald d_M_apart_73 q15 q16 ?_
      refine r_lsub d_M_apart_74 ?_
      refine r_lstore_n (ls2 := [(3, al ((((gI h (gR h v0 27) (ix v2)).toInt64) * (gL h (gR h v0 49) (ix v2))) - (gL h (gR h v0 48) (ix v2)))), (0, ar v0), (1, ai v1), (2, ai v2)]) d_M_apart_75 (nle rfl) rfl ?_
      refine r_aload_n (j := 1) d_M_apart_76 rfl ?_
      refine r_lload_n (j := 0) d_M_apart_77 rfl ?_
      refine r_lconst d_M_apart_78 kl_0 ?_
      refine r_lcmp d_M_apart_79 ?_
      refine r_if_ge d_M_apart_80 (fun w9 => ?_) (fun w9 => ?_)
      · replace hw := hw.1 ((lg_cmp_ge _ _).mp w9)
        refine r_lload_n (j := 0) d_M_apart_88 rfl ?_
        refine r_pick (ls2 := [(0, ar v0), (1, ai v1), (2, ai v2)]) [1, 2, 3] rfl ?_
        exact s_M_apart_B89 hd hQ ih hw
      · replace hw := hw.2 (fun g9 => w9 ((lg_cmp_ge _ _).mpr g9))
        refine r_lload_n (j := 0) d_M_apart_83 rfl ?_
        refine r_lneg d_M_apart_84 ?_
        refine r_goto d_M_apart_85 ?_
        refine r_pick (ls2 := [(0, ar v0), (1, ai v1), (2, ai v2)]) [1, 2, 3] rfl ?_
        exact s_M_apart_B89 hd hQ ih hw
set_option maxRecDepth 100000 in
set_option maxHeartbeats 4000000 in
theorem s_M_apart {d : Nat} (hd : 5 ≤ d) {v0 : Nat} {v1 : Int32} {h : Hp} {Q : Int32 → Hp → Prop} {QQ : Option AV → Hp → Prop} (hw : w_M_apart v0 v1 h Q) (hQ : ∀ r9 h9, Q r9 h9 → QQ (some (ai r9)) h9) : aCall m_M_apart d [ar v0, ai v1] h 0 0 QQ := by
  obtain ⟨d, rfl⟩ : ∃ d9, d = d9 + 1 := ⟨d - 1, by omega⟩
  refine aCall_in pl_M_apart (nle rfl) ?_
  show aW none m_M_apart (d + 1) 0 [(0, ar v0), (1, ai v1)] [] h 0 0 QQ
  unfold w_M_apart at hw
  refine r_iload_n (j := 1) d_M_apart_0 rfl ?_
  refine r_iconst d_M_apart_1 kc_0 ?_
  refine r_iconst d_M_apart_2 kc_1 ?_
  refine r_callS (av := [ai v1, ai (0 : Int32), ai (1 : Int32)]) (rest := []) d_M_apart_3 mk_M_isIn ll_M_148 st_M_isIn rfl rfl (nle rfl) (s_M_isIn  hw (fun r2 h1 hw => ?_))
  show aW none m_M_apart (d + 1) 6 [(0, ar v0), (1, ai v1)] [ai (b2i r2)] h1 0 0 QQ
  refine r_if_eq d_M_apart_6 (fun w9 => ?_) (fun w9 => ?_)
  · replace hw := hw.1 (b2i_0.mp w9)
    refine r_ldcw d_M_apart_30 lc_M_277 ?_
    exact r_ireturn d_M_apart_33.1 rfl (hQ _ _ hw)
  · replace hw := hw.2 (fun g9 => w9 (b2i_0.mpr g9))
    refine r_aload_n (j := 0) d_M_apart_9 rfl ?_
    obtain ⟨q5, hw⟩ := hw
    refine r_callV (av := []) (rest := []) (ci := 12) d_M_apart_10 mk_M_laysOptimum ll_M_337 im_M_laysOptimum se_M_laysOptimum rfl (nle rfl) rfl rfl (nle rfl) q5 (s_M_laysOptimum (by omega) hw (fun r4 h3 hw => ?_))
    show aW none m_M_apart (d + 1) 13 [(0, ar v0), (1, ai v1)] [ai (b2i r4)] h3 0 0 QQ
    refine r_if_eq d_M_apart_13 (fun w9 => ?_) (fun w9 => ?_)
    · replace hw := hw.1 (b2i_0.mp w9)
      refine r_ldcw d_M_apart_30 lc_M_277 ?_
      exact r_ireturn d_M_apart_33.1 rfl (hQ _ _ hw)
    · replace hw := hw.2 (fun g9 => w9 (b2i_0.mpr g9))
      refine r_aload_n (j := 0) d_M_apart_16 rfl ?_
      obtain ⟨q8, hw⟩ := hw
      refine r_callV (av := []) (rest := []) (ci := 12) d_M_apart_17 mk_M_laysRelaxed ll_M_488 im_M_laysRelaxed se_M_laysRelaxed rfl (nle rfl) rfl rfl (nle rfl) q8 (s_M_laysRelaxed (by omega) hw (fun r7 h6 hw => ?_))
      show aW none m_M_apart (d + 1) 20 [(0, ar v0), (1, ai v1)] [ai (b2i r7)] h6 0 0 QQ
      refine r_if_eq d_M_apart_20 (fun w9 => ?_) (fun w9 => ?_)
      · replace hw := hw.1 (b2i_0.mp w9)
        refine r_ldcw d_M_apart_30 lc_M_277 ?_
        exact r_ireturn d_M_apart_33.1 rfl (hQ _ _ hw)
      · replace hw := hw.2 (fun g9 => w9 (b2i_0.mpr g9))
        refine r_aload_n (j := 0) d_M_apart_23 rfl ?_
        obtain ⟨q9, hw⟩ := hw
        refine r_getI d_M_apart_24 ok_12 (nle rfl) (nle rfl) rfl lf_M_485 q9 ?_
        refine r_if_eq d_M_apart_27 (fun w9 => ?_) (fun w9 => ?_)
        · replace hw := hw.1 w9
          refine r_aload_n (j := 0) d_M_apart_34 rfl ?_
          refine r_lconst d_M_apart_35 kl_0 ?_
          refine r_putL d_M_apart_36 ok_12 (nle rfl) (nle rfl) rfl lf_M_434 rfl q9 ?_
          refine r_aload_n (j := 0) d_M_apart_39 rfl ?_
          refine r_lconst d_M_apart_40 kl_1 ?_
          refine r_putL d_M_apart_41 ok_12 (nle rfl) (nle rfl) rfl lf_M_437 rfl q9 ?_
          refine r_iconst d_M_apart_44 kc_0 ?_
          refine r_istore_n (ls2 := [(2, ai (0 : Int32)), (0, ar v0), (1, ai v1)]) d_M_apart_45 (nle rfl) rfl ?_
          obtain ⟨n22, hw⟩ := hw
          refine r_pick (ls2 := [(0, ar v0), (1, ai v1), (2, ai (0 : Int32))]) [1, 2, 0] rfl ?_
          exact s_M_apart_L46 hd hQ  n22 _ _ hw
        · replace hw := hw.2 w9
          refine r_ldcw d_M_apart_30 lc_M_277 ?_
          exact r_ireturn d_M_apart_33.1 rfl (hQ _ _ hw)
set_option maxRecDepth 100000 in
set_option maxHeartbeats 4000000 in
theorem s_M_canGo_L4 {d : Nat} {Q : Bool → Hp → Prop} {QQ : Option AV → Hp → Prop} (hQ : ∀ r9 h9, Q r9 h9 → QQ (some (ai (b2i r9))) h9) {v0 : Nat} : ∀ (n : Nat) (v1 : Int32) (v2 : Int32) (h : Hp), w_M_canGo_L4 Q  v0 n v1 v2 h → aW none m_M_canGo d 4 [(0, ar v0), (1, ai v1), (2, ai v2)] [] h 0 0 QQ := by
  intro n
  induction n with
  | zero => intro v1 v2 h hw; exact hw.elim
  | succ n ih =>
    intro v1 v2 h hw
    unfold w_M_canGo_L4 at hw
    refine r_iload_n (j := 2) d_M_canGo_4 rfl ?_
    refine r_aload_n (j := 0) d_M_canGo_5 rfl ?_
    obtain ⟨q1, hw⟩ := hw
    refine r_getI d_M_canGo_6 ok_12 (nle rfl) (nle rfl) rfl lf_M_247 q1 ?_
    refine r_icmp_ge d_M_canGo_9 (fun w9 => ?_) (fun w9 => ?_)
    · replace hw := hw.1 w9
      refine r_iload_n (j := 1) d_M_canGo_46 rfl ?_
      obtain ⟨q2, hw⟩ := hw
      exact r_zreturn d_M_canGo_47.1 rfl q2 (by have g9 := hQ _ _ hw; rwa [b2i_i q2] at g9)
    · replace hw := hw.2 w9
      refine r_iload_n (j := 1) d_M_canGo_12 rfl ?_
      refine r_if_eq d_M_canGo_13 (fun w9 => ?_) (fun w9 => ?_)
      · replace hw := hw.1 w9
        refine r_iconst d_M_canGo_38 kc_0 ?_
        refine r_istore_n (ls2 := [(1, ai (0 : Int32)), (0, ar v0), (2, ai v2)]) d_M_canGo_39 (nle rfl) rfl ?_
        refine r_iinc (j := 2) (ls2 := [(2, ai (v2 + (1 : Int32))), (1, ai (0 : Int32)), (0, ar v0)]) d_M_canGo_40 rfl (congrArg (HAdd.hAdd v2) kc_1) (nle rfl) rfl ?_
        refine r_goto d_M_canGo_43 ?_
        refine r_pick (ls2 := [(0, ar v0), (1, ai (0 : Int32)), (2, ai (v2 + (1 : Int32)))]) [2, 1, 0] rfl ?_
        exact ih _ _ _ hw
      · replace hw := hw.2 w9
        refine r_aload_n (j := 0) d_M_canGo_16 rfl ?_
        refine r_getR d_M_canGo_17 ok_12 (nle rfl) (nle rfl) rfl lf_M_36 q1 ?_
        refine r_iload_n (j := 2) d_M_canGo_20 rfl ?_
        obtain ⟨q3, hw⟩ := hw
        obtain ⟨q4, hw⟩ := hw
        refine r_iald d_M_canGo_21 q3 q4 ?_
        refine r_aload_n (j := 0) d_M_canGo_22 rfl ?_
        refine r_getR d_M_canGo_23 ok_12 (nle rfl) (nle rfl) rfl lf_M_30 q1 ?_
        refine r_bipush d_M_canGo_26 kb_36 ?_
        refine r_iload_n (j := 2) d_M_canGo_28 rfl ?_
        refine r_iadd d_M_canGo_29 ?_
        obtain ⟨q5, hw⟩ := hw
        obtain ⟨q6, hw⟩ := hw
        refine r_iald d_M_canGo_30 q5 q6 ?_
        refine r_icmp_gt d_M_canGo_31 (fun w9 => ?_) (fun w9 => ?_)
        · replace hw := hw.1 w9
          refine r_iconst d_M_canGo_38 kc_0 ?_
          refine r_istore_n (ls2 := [(1, ai (0 : Int32)), (0, ar v0), (2, ai v2)]) d_M_canGo_39 (nle rfl) rfl ?_
          refine r_iinc (j := 2) (ls2 := [(2, ai (v2 + (1 : Int32))), (1, ai (0 : Int32)), (0, ar v0)]) d_M_canGo_40 rfl (congrArg (HAdd.hAdd v2) kc_1) (nle rfl) rfl ?_
          refine r_goto d_M_canGo_43 ?_
          refine r_pick (ls2 := [(0, ar v0), (1, ai (0 : Int32)), (2, ai (v2 + (1 : Int32)))]) [2, 1, 0] rfl ?_
          exact ih _ _ _ hw
        · replace hw := hw.2 w9
          refine r_iconst d_M_canGo_34 kc_1 ?_
          refine r_goto d_M_canGo_35 ?_
          refine r_istore_n (ls2 := [(1, ai (1 : Int32)), (0, ar v0), (2, ai v2)]) d_M_canGo_39 (nle rfl) rfl ?_
          refine r_iinc (j := 2) (ls2 := [(2, ai (v2 + (1 : Int32))), (1, ai (1 : Int32)), (0, ar v0)]) d_M_canGo_40 rfl (congrArg (HAdd.hAdd v2) kc_1) (nle rfl) rfl ?_
          refine r_goto d_M_canGo_43 ?_
          refine r_pick (ls2 := [(0, ar v0), (1, ai (1 : Int32)), (2, ai (v2 + (1 : Int32)))]) [2, 1, 0] rfl ?_
          exact ih _ _ _ hw
set_option maxRecDepth 100000 in
set_option maxHeartbeats 4000000 in
theorem s_M_canGo {d : Nat} {v0 : Nat} {h : Hp} {Q : Bool → Hp → Prop} {QQ : Option AV → Hp → Prop} (hw : w_M_canGo v0 h Q) (hQ : ∀ r9 h9, Q r9 h9 → QQ (some (ai (b2i r9))) h9) : aCall m_M_canGo d [ar v0] h 0 0 QQ := by
  refine aCall_in pl_M_canGo (nle rfl) ?_
  show aW none m_M_canGo d 0 [(0, ar v0)] [] h 0 0 QQ
  unfold w_M_canGo at hw
  refine r_iconst d_M_canGo_0 kc_1 ?_
  refine r_istore_n (ls2 := [(1, ai (1 : Int32)), (0, ar v0)]) d_M_canGo_1 (nle rfl) rfl ?_
  refine r_iconst d_M_canGo_2 kc_0 ?_
  refine r_istore_n (ls2 := [(2, ai (0 : Int32)), (1, ai (1 : Int32)), (0, ar v0)]) d_M_canGo_3 (nle rfl) rfl ?_
  obtain ⟨n7, hw⟩ := hw
  refine r_pick (ls2 := [(0, ar v0), (1, ai (1 : Int32)), (2, ai (0 : Int32))]) [2, 1, 0] rfl ?_
  exact s_M_canGo_L4 hQ  n7 _ _ _ hw
set_option maxRecDepth 100000 in
set_option maxHeartbeats 4000000 in
theorem s_M_canCome_L58 {d : Nat} (hd : 2 ≤ d + 1) {Q : Bool → Hp → Prop} {QQ : Option AV → Hp → Prop} (hQ : ∀ r9 h9, Q r9 h9 → QQ (some (ai (b2i r9))) h9) {v0 : Nat} : ∀ (n : Nat) (v1 : Int32) (v2 : Int32) (h : Hp), w_M_canCome_L58 Q  v0 n v1 v2 h → aW none m_M_canCome (d + 1) 58 [(0, ar v0), (1, ai v1), (2, ai v2)] [] h 0 0 QQ := by
  intro n
  induction n with
  | zero => intro v1 v2 h hw; exact hw.elim
  | succ n ih =>
    intro v1 v2 h hw
    unfold w_M_canCome_L58 at hw
    refine r_iload_n (j := 2) d_M_canCome_58 rfl ?_
    refine r_aload_n (j := 0) d_M_canCome_59 rfl ?_
    obtain ⟨q2, hw⟩ := hw
    refine r_getI d_M_canCome_60 ok_12 (nle rfl) (nle rfl) rfl lf_M_244 q2 ?_
    refine r_icmp_ge d_M_canCome_63 (fun w9 => ?_) (fun w9 => ?_)
    · replace hw := hw.1 w9
      refine r_iload_n (j := 1) d_M_canCome_96 rfl ?_
      obtain ⟨q3, hw⟩ := hw
      exact r_zreturn d_M_canCome_97.1 rfl q3 (by have g9 := hQ _ _ hw; rwa [b2i_i q3] at g9)
    · replace hw := hw.2 w9
      refine r_iload_n (j := 1) d_M_canCome_66 rfl ?_
      refine r_if_eq d_M_canCome_67 (fun w9 => ?_) (fun w9 => ?_)
      · replace hw := hw.1 w9
        refine r_iconst d_M_canCome_88 kc_0 ?_
        refine r_istore_n (ls2 := [(1, ai (0 : Int32)), (0, ar v0), (2, ai v2)]) d_M_canCome_89 (nle rfl) rfl ?_
        refine r_iinc (j := 2) (ls2 := [(2, ai (v2 + (1 : Int32))), (1, ai (0 : Int32)), (0, ar v0)]) d_M_canCome_90 rfl (congrArg (HAdd.hAdd v2) kc_1) (nle rfl) rfl ?_
        refine r_goto d_M_canCome_93 ?_
        refine r_pick (ls2 := [(0, ar v0), (1, ai (0 : Int32)), (2, ai (v2 + (1 : Int32)))]) [2, 1, 0] rfl ?_
        exact ih _ _ _ hw
      · replace hw := hw.2 w9
        refine r_aload_n (j := 0) d_M_canCome_70 rfl ?_
        refine r_iload_n (j := 2) d_M_canCome_71 rfl ?_
        refine r_callV (av := [ai v2]) (rest := []) (ci := 12) d_M_canCome_72 mk_M_planSum ll_M_309 im_M_planSum se_M_planSum rfl (nle rfl) rfl rfl (nle rfl) q2 (s_M_planSum (by omega) hw (fun r5 h4 hw => ?_))
        show aW none m_M_canCome (d + 1) 75 [(0, ar v0), (1, ai v1), (2, ai v2)] [ai r5] h4 0 0 QQ
        refine r_aload_n (j := 0) d_M_canCome_75 rfl ?_
        obtain ⟨q6, hw⟩ := hw
        refine r_getR d_M_canCome_76 ok_12 (nle rfl) (nle rfl) rfl lf_M_104 q6 ?_
        refine r_iload_n (j := 2) d_M_canCome_79 rfl ?_
        obtain ⟨q7, hw⟩ := hw
        obtain ⟨q8, hw⟩ := hw
        refine r_iald d_M_canCome_80 q7 q8 ?_
        refine r_icmp_ne d_M_canCome_81 (fun w9 => ?_) (fun w9 => ?_)
        · replace hw := hw.2 w9
          refine r_iconst d_M_canCome_88 kc_0 ?_
          refine r_istore_n (ls2 := [(1, ai (0 : Int32)), (0, ar v0), (2, ai v2)]) d_M_canCome_89 (nle rfl) rfl ?_
          refine r_iinc (j := 2) (ls2 := [(2, ai (v2 + (1 : Int32))), (1, ai (0 : Int32)), (0, ar v0)]) d_M_canCome_90 rfl (congrArg (HAdd.hAdd v2) kc_1) (nle rfl) rfl ?_
          refine r_goto d_M_canCome_93 ?_
          refine r_pick (ls2 := [(0, ar v0), (1, ai (0 : Int32)), (2, ai (v2 + (1 : Int32)))]) [2, 1, 0] rfl ?_
          exact ih _ _ _ hw
        · replace hw := hw.1 w9
          refine r_iconst d_M_canCome_84 kc_1 ?_
          refine r_goto d_M_canCome_85 ?_
          refine r_istore_n (ls2 := [(1, ai (1 : Int32)), (0, ar v0), (2, ai v2)]) d_M_canCome_89 (nle rfl) rfl ?_
          refine r_iinc (j := 2) (ls2 := [(2, ai (v2 + (1 : Int32))), (1, ai (1 : Int32)), (0, ar v0)]) d_M_canCome_90 rfl (congrArg (HAdd.hAdd v2) kc_1) (nle rfl) rfl ?_
          refine r_goto d_M_canCome_93 ?_
          refine r_pick (ls2 := [(0, ar v0), (1, ai (1 : Int32)), (2, ai (v2 + (1 : Int32)))]) [2, 1, 0] rfl ?_
          exact ih _ _ _ hw
set_option maxRecDepth 100000 in
set_option maxHeartbeats 4000000 in
theorem s_M_canCome_L4 {d : Nat} (hd : 2 ≤ d + 1) {Q : Bool → Hp → Prop} {QQ : Option AV → Hp → Prop} (hQ : ∀ r9 h9, Q r9 h9 → QQ (some (ai (b2i r9))) h9) {v0 : Nat} : ∀ (n : Nat) (v1 : Int32) (v2 : Int32) (h : Hp), w_M_canCome_L4 Q  v0 n v1 v2 h → aW none m_M_canCome (d + 1) 4 [(0, ar v0), (1, ai v1), (2, ai v2)] [] h 0 0 QQ := by
  intro n
  induction n with
  | zero => intro v1 v2 h hw; exact hw.elim
  | succ n ih =>
    intro v1 v2 h hw
    unfold w_M_canCome_L4 at hw
    refine r_iload_n (j := 2) d_M_canCome_4 rfl ?_
    refine r_aload_n (j := 0) d_M_canCome_5 rfl ?_
    obtain ⟨q1, hw⟩ := hw
    refine r_getI d_M_canCome_6 ok_12 (nle rfl) (nle rfl) rfl lf_M_247 q1 ?_
    refine r_icmp_ge d_M_canCome_9 (fun w9 => ?_) (fun w9 => ?_)
    · replace hw := hw.1 w9
      refine r_iconst d_M_canCome_56 kc_0 ?_
      refine r_istore_n (ls2 := [(2, ai (0 : Int32)), (0, ar v0), (1, ai v1)]) d_M_canCome_57 (nle rfl) rfl ?_
      obtain ⟨n9, hw⟩ := hw
      refine r_pick (ls2 := [(0, ar v0), (1, ai v1), (2, ai (0 : Int32))]) [1, 2, 0] rfl ?_
      exact s_M_canCome_L58 hd hQ  n9 _ _ _ hw
    · replace hw := hw.2 w9
      refine r_iload_n (j := 1) d_M_canCome_12 rfl ?_
      refine r_if_eq d_M_canCome_13 (fun w9 => ?_) (fun w9 => ?_)
      · replace hw := hw.1 w9
        refine r_iconst d_M_canCome_48 kc_0 ?_
        refine r_istore_n (ls2 := [(1, ai (0 : Int32)), (0, ar v0), (2, ai v2)]) d_M_canCome_49 (nle rfl) rfl ?_
        refine r_iinc (j := 2) (ls2 := [(2, ai (v2 + (1 : Int32))), (1, ai (0 : Int32)), (0, ar v0)]) d_M_canCome_50 rfl (congrArg (HAdd.hAdd v2) kc_1) (nle rfl) rfl ?_
        refine r_goto d_M_canCome_53 ?_
        refine r_pick (ls2 := [(0, ar v0), (1, ai (0 : Int32)), (2, ai (v2 + (1 : Int32)))]) [2, 1, 0] rfl ?_
        exact ih _ _ _ hw
      · replace hw := hw.2 w9
        refine r_aload_n (j := 0) d_M_canCome_16 rfl ?_
        refine r_getR d_M_canCome_17 ok_12 (nle rfl) (nle rfl) rfl lf_M_30 q1 ?_
        refine r_bipush d_M_canCome_20 kb_36 ?_
        refine r_iload_n (j := 2) d_M_canCome_22 rfl ?_
        refine r_iadd d_M_canCome_23 ?_
        obtain ⟨q10, hw⟩ := hw
        obtain ⟨q11, hw⟩ := hw
        refine r_iald d_M_canCome_24 q10 q11 ?_
        refine r_aload_n (j := 0) d_M_canCome_25 rfl ?_
        refine r_getR d_M_canCome_26 ok_12 (nle rfl) (nle rfl) rfl lf_M_95 q1 ?_
        refine r_iload_n (j := 2) d_M_canCome_29 rfl ?_
        obtain ⟨q12, hw⟩ := hw
        obtain ⟨q13, hw⟩ := hw
        refine r_iald d_M_canCome_30 q12 q13 ?_
        refine r_isub d_M_canCome_31 ?_
        refine r_aload_n (j := 0) d_M_canCome_32 rfl ?_
        refine r_getR d_M_canCome_33 ok_12 (nle rfl) (nle rfl) rfl lf_M_36 q1 ?_
        refine r_iload_n (j := 2) d_M_canCome_36 rfl ?_
        obtain ⟨q14, hw⟩ := hw
        obtain ⟨q15, hw⟩ := hw
        refine r_iald d_M_canCome_37 q14 q15 ?_
        refine r_iadd d_M_canCome_38 ?_
        refine r_bipush d_M_canCome_39 kb_99 ?_
        refine r_icmp_gt d_M_canCome_41 (fun w9 => ?_) (fun w9 => ?_)
        · replace hw := hw.1 w9
          refine r_iconst d_M_canCome_48 kc_0 ?_
          refine r_istore_n (ls2 := [(1, ai (0 : Int32)), (0, ar v0), (2, ai v2)]) d_M_canCome_49 (nle rfl) rfl ?_
          refine r_iinc (j := 2) (ls2 := [(2, ai (v2 + (1 : Int32))), (1, ai (0 : Int32)), (0, ar v0)]) d_M_canCome_50 rfl (congrArg (HAdd.hAdd v2) kc_1) (nle rfl) rfl ?_
          refine r_goto d_M_canCome_53 ?_
          refine r_pick (ls2 := [(0, ar v0), (1, ai (0 : Int32)), (2, ai (v2 + (1 : Int32)))]) [2, 1, 0] rfl ?_
          exact ih _ _ _ hw
        · replace hw := hw.2 w9
          refine r_iconst d_M_canCome_44 kc_1 ?_
          refine r_goto d_M_canCome_45 ?_
          refine r_istore_n (ls2 := [(1, ai (1 : Int32)), (0, ar v0), (2, ai v2)]) d_M_canCome_49 (nle rfl) rfl ?_
          refine r_iinc (j := 2) (ls2 := [(2, ai (v2 + (1 : Int32))), (1, ai (1 : Int32)), (0, ar v0)]) d_M_canCome_50 rfl (congrArg (HAdd.hAdd v2) kc_1) (nle rfl) rfl ?_
          refine r_goto d_M_canCome_53 ?_
          refine r_pick (ls2 := [(0, ar v0), (1, ai (1 : Int32)), (2, ai (v2 + (1 : Int32)))]) [2, 1, 0] rfl ?_
          exact ih _ _ _ hw
set_option maxRecDepth 100000 in
set_option maxHeartbeats 4000000 in
theorem s_M_canCome {d : Nat} (hd : 2 ≤ d) {v0 : Nat} {h : Hp} {Q : Bool → Hp → Prop} {QQ : Option AV → Hp → Prop} (hw : w_M_canCome v0 h Q) (hQ : ∀ r9 h9, Q r9 h9 → QQ (some (ai (b2i r9))) h9) : aCall m_M_canCome d [ar v0] h 0 0 QQ := by
  obtain ⟨d, rfl⟩ : ∃ d9, d = d9 + 1 := ⟨d - 1, by omega⟩
  refine aCall_in pl_M_canCome (nle rfl) ?_
  show aW none m_M_canCome (d + 1) 0 [(0, ar v0)] [] h 0 0 QQ
  unfold w_M_canCome at hw
  refine r_iconst d_M_canCome_0 kc_1 ?_
  refine r_istore_n (ls2 := [(1, ai (1 : Int32)), (0, ar v0)]) d_M_canCome_1 (nle rfl) rfl ?_
  refine r_iconst d_M_canCome_2 kc_0 ?_
  refine r_istore_n (ls2 := [(2, ai (0 : Int32)), (1, ai (1 : Int32)), (0, ar v0)]) d_M_canCome_3 (nle rfl) rfl ?_
  obtain ⟨n16, hw⟩ := hw
  refine r_pick (ls2 := [(0, ar v0), (1, ai (1 : Int32)), (2, ai (0 : Int32))]) [2, 1, 0] rfl ?_
  exact s_M_canCome_L4 hd hQ  n16 _ _ _ hw
set_option maxRecDepth 100000 in
set_option maxHeartbeats 4000000 in
theorem s_M_keepsExchange_L18 {d : Nat} {Q : Hp → Prop} {QQ : Option AV → Hp → Prop} (hQ : ∀ h9, Q h9 → QQ none h9) {v0 : Nat} : ∀ (n : Nat) (v4 : Int32) (h : Hp), w_M_keepsExchange_L18 Q  v0 n v4 h → aW none m_M_keepsExchange d 18 [(0, ar v0), (4, ai v4)] [] h 0 0 QQ := by
  intro n
  induction n with
  | zero => intro v4 h hw; exact hw.elim
  | succ n ih =>
    intro v4 h hw
    unfold w_M_keepsExchange_L18 at hw
    refine r_iload (j := 1) d_M_keepsExchange_18 rfl ?_
    refine r_bipush d_M_keepsExchange_20 kb_8 ?_
    refine r_icmp_ge d_M_keepsExchange_22 (fun w9 => ?_) (fun w9 => ?_)
    · replace hw := hw.1 w9
      exact r_return d_M_keepsExchange_59.1 rfl (hQ _ hw)
    · replace hw := hw.2 w9
      refine r_aload_n (j := 0) d_M_keepsExchange_25 rfl ?_
      obtain ⟨q2, hw⟩ := hw
      refine r_getR d_M_keepsExchange_26 ok_12 (nle rfl) (nle rfl) rfl lf_M_98 q2 ?_
      refine r_iload (j := 1) d_M_keepsExchange_29 rfl ?_
      refine r_aload_n (j := 0) d_M_keepsExchange_31 rfl ?_
      refine r_getR d_M_keepsExchange_32 ok_12 (nle rfl) (nle rfl) rfl lf_M_95 q2 ?_
      refine r_iload (j := 1) d_M_keepsExchange_35 rfl ?_
      obtain ⟨q3, hw⟩ := hw
      obtain ⟨q4, hw⟩ := hw
      refine r_iald d_M_keepsExchange_37 q3 q4 ?_
      obtain ⟨q5, hw⟩ := hw
      obtain ⟨q6, hw⟩ := hw
      refine r_iast d_M_keepsExchange_38 q5 q6 ?_
      refine r_aload_n (j := 0) d_M_keepsExchange_39 rfl ?_
      refine r_getR d_M_keepsExchange_40 ok_12 (nle rfl) (nle rfl) rfl lf_M_101 q2 ?_
      refine r_iload (j := 1) d_M_keepsExchange_43 rfl ?_
      refine r_aload_n (j := 0) d_M_keepsExchange_45 rfl ?_
      refine r_getR d_M_keepsExchange_46 ok_12 (nle rfl) (nle rfl) rfl lf_M_36 q2 ?_
      refine r_iload (j := 1) d_M_keepsExchange_49 rfl ?_
      obtain ⟨q7, hw⟩ := hw
      obtain ⟨q8, hw⟩ := hw
      refine r_iald d_M_keepsExchange_51 q7 q8 ?_
      obtain ⟨q9, hw⟩ := hw
      obtain ⟨q10, hw⟩ := hw
      refine r_iast d_M_keepsExchange_52 q9 q10 ?_
      refine r_iinc (j := 1) (ls2 := [(4, ai (v4 + (1 : Int32))), (0, ar v0)]) d_M_keepsExchange_53 rfl (congrArg (HAdd.hAdd v4) kc_1) (nle rfl) rfl ?_
      refine r_goto d_M_keepsExchange_56 ?_
      refine r_pick (ls2 := [(0, ar v0), (4, ai (v4 + (1 : Int32)))]) [1, 0] rfl ?_
      exact ih _ _ hw
set_option maxRecDepth 100000 in
set_option maxHeartbeats 4000000 in
theorem s_M_keepsExchange {d : Nat} {v0 : Nat} {v1 : Int32} {v2 : Int32} {v3 : Int32} {h : Hp} {Q : Hp → Prop} {QQ : Option AV → Hp → Prop} (hw : w_M_keepsExchange v0 v1 v2 v3 h Q) (hQ : ∀ h9, Q h9 → QQ none h9) : aCall m_M_keepsExchange d [ar v0, ai v1, ai v2, ai v3] h 0 0 QQ := by
  refine aCall_in pl_M_keepsExchange (nle rfl) ?_
  show aW none m_M_keepsExchange d 0 [(0, ar v0), (1, ai v1), (2, ai v2), (3, ai v3)] [] h 0 0 QQ
  unfold w_M_keepsExchange at hw
  refine r_aload_n (j := 0) d_M_keepsExchange_0 rfl ?_
  refine r_iload_n (j := 1) d_M_keepsExchange_1 rfl ?_
  obtain ⟨q1, hw⟩ := hw
  refine r_putI d_M_keepsExchange_2 ok_12 (nle rfl) (nle rfl) rfl lf_M_491 rfl q1 ?_
  refine r_aload_n (j := 0) d_M_keepsExchange_5 rfl ?_
  refine r_iload_n (j := 2) d_M_keepsExchange_6 rfl ?_
  refine r_putI d_M_keepsExchange_7 ok_12 (nle rfl) (nle rfl) rfl lf_M_494 rfl q1 ?_
  refine r_aload_n (j := 0) d_M_keepsExchange_10 rfl ?_
  refine r_iload_n (j := 3) d_M_keepsExchange_11 rfl ?_
  refine r_putI d_M_keepsExchange_12 ok_12 (nle rfl) (nle rfl) rfl lf_M_497 rfl q1 ?_
  refine r_iconst d_M_keepsExchange_15 kc_0 ?_
  refine r_istore (ls2 := [(4, ai (0 : Int32)), (0, ar v0), (1, ai v1), (2, ai v2), (3, ai v3)]) d_M_keepsExchange_16 (nle rfl) rfl ?_
  obtain ⟨n11, hw⟩ := hw
  refine r_pick (ls2 := [(0, ar v0), (4, ai (0 : Int32))]) [1, 0] rfl ?_
  exact s_M_keepsExchange_L18 hQ  n11 _ _ hw
set_option maxRecDepth 100000 in
set_option maxHeartbeats 4000000 in
theorem s_M_comesFor_B81 {d : Nat} (hd : 3 ≤ d + 1) {Q : Hp → Prop} {QQ : Option AV → Hp → Prop} (hQ : ∀ h9, Q h9 → QQ none h9) {k3 : Int32 → Hp → Prop} {k17 : Int32 → Hp → Prop} (hk3 : ∀ v4 h9, k3 v4 h9 → aW none m_M_comesFor (d + 1) 3 [(0, ar v0), (1, ai v1), (2, ai v2), (3, ai v3), (4, ai v4)] [] h9 0 0 QQ) (hk17 : ∀ v5 h9, k17 v5 h9 → aW none m_M_comesFor (d + 1) 17 [(0, ar v0), (1, ai v1), (2, ai v2), (3, ai v3), (4, ai v4), (5, ai v5)] [] h9 0 0 QQ) {v0 : Nat} {v1 : Int32} {v2 : Int32} {v3 : Int32} {v4 : Int32} {h : Hp} (hw : w_M_comesFor_B81 Q k3 k17 v0 v1 v2 v3 v4 h) : aW none m_M_comesFor (d + 1) 81 [(0, ar v0), (1, ai v1), (2, ai v2), (3, ai v3), (4, ai v4)] [] h 0 0 QQ := by
  unfold w_M_comesFor_B81 at hw
  refine r_aload_n (j := 0) d_M_comesFor_81 rfl ?_
  obtain ⟨q12, hw⟩ := hw
  refine r_callV (av := []) (rest := []) (ci := 12) d_M_comesFor_82 mk_M_nextPlan ll_M_322 im_M_nextPlan se_M_nextPlan rfl (nle rfl) rfl rfl (nle rfl) q12 (s_M_nextPlan  hw (fun r11 h10 hw => ?_))
  show aW none m_M_comesFor (d + 1) 85 [(0, ar v0), (1, ai v1), (2, ai v2), (3, ai v3), (4, ai v4)] [ai (b2i r11)] h10 0 0 QQ
  refine r_istore (ls2 := [(5, ai (b2i r11)), (0, ar v0), (1, ai v1), (2, ai v2), (3, ai v3), (4, ai v4)]) d_M_comesFor_85 (nle rfl) rfl ?_
  refine r_goto d_M_comesFor_87 ?_
  refine r_pick (ls2 := [(0, ar v0), (1, ai v1), (2, ai v2), (3, ai v3), (4, ai v4), (5, ai (b2i r11))]) [1, 2, 3, 4, 5, 0] rfl ?_
  exact hk17 _ _ hw
set_option maxRecDepth 100000 in
set_option maxHeartbeats 4000000 in
theorem s_M_comesFor_B72 {d : Nat} (hd : 3 ≤ d + 1) {Q : Hp → Prop} {QQ : Option AV → Hp → Prop} (hQ : ∀ h9, Q h9 → QQ none h9) {k3 : Int32 → Hp → Prop} {k17 : Int32 → Hp → Prop} (hk3 : ∀ v4 h9, k3 v4 h9 → aW none m_M_comesFor (d + 1) 3 [(0, ar v0), (1, ai v1), (2, ai v2), (3, ai v3), (4, ai v4)] [] h9 0 0 QQ) (hk17 : ∀ v5 h9, k17 v5 h9 → aW none m_M_comesFor (d + 1) 17 [(0, ar v0), (1, ai v1), (2, ai v2), (3, ai v3), (4, ai v4), (5, ai v5)] [] h9 0 0 QQ) {v0 : Nat} {v1 : Int32} {v2 : Int32} {v3 : Int32} {v4 : Int32} {v6 : Int32} {h : Hp} (hw : w_M_comesFor_B72 Q k3 k17 v0 v1 v2 v3 v4 v6 h) : aW none m_M_comesFor (d + 1) 72 [(0, ar v0), (1, ai v1), (2, ai v2), (3, ai v3), (4, ai v4), (6, ai v6)] [] h 0 0 QQ := by
  unfold w_M_comesFor_B72 at hw
  refine r_aload_n (j := 0) d_M_comesFor_72 rfl ?_
  refine r_iload (j := 5) d_M_comesFor_73 rfl ?_
  refine r_iload_n (j := 2) d_M_comesFor_75 rfl ?_
  refine r_iload (j := 4) d_M_comesFor_76 rfl ?_
  obtain ⟨q15, hw⟩ := hw
  refine r_callV (av := [ai v6, ai v2, ai v4]) (rest := []) (ci := 12) d_M_comesFor_78 mk_M_keepsExchange ll_M_503 im_M_keepsExchange se_M_keepsExchange rfl (nle rfl) rfl rfl (nle rfl) q15 (s_M_keepsExchange  hw (fun h14 hw => ?_))
  show aW none m_M_comesFor (d + 1) 81 [(0, ar v0), (1, ai v1), (2, ai v2), (3, ai v3), (4, ai v4), (6, ai v6)] [] h14 0 0 QQ
  refine r_pick (ls2 := [(0, ar v0), (1, ai v1), (2, ai v2), (3, ai v3), (4, ai v4)]) [0, 1, 2, 3, 4] rfl ?_
  exact s_M_comesFor_B81 hd hQ hk3 hk17 hw
set_option maxRecDepth 100000 in
set_option maxHeartbeats 4000000 in
theorem s_M_comesFor_L17 {d : Nat} (hd : 3 ≤ d + 1) {Q : Hp → Prop} {QQ : Option AV → Hp → Prop} (hQ : ∀ h9, Q h9 → QQ none h9) {k3 : Int32 → Hp → Prop} (hk3 : ∀ v4 h9, k3 v4 h9 → aW none m_M_comesFor (d + 1) 3 [(0, ar v0), (1, ai v1), (2, ai v2), (3, ai v3), (4, ai v4)] [] h9 0 0 QQ) {v0 : Nat} {v1 : Int32} {v2 : Int32} {v3 : Int32} {v4 : Int32} : ∀ (n : Nat) (v5 : Int32) (h : Hp), w_M_comesFor_L17 Q k3 v0 v1 v2 v3 v4 n v5 h → aW none m_M_comesFor (d + 1) 17 [(0, ar v0), (1, ai v1), (2, ai v2), (3, ai v3), (4, ai v4), (5, ai v5)] [] h 0 0 QQ := by
  intro n
  induction n with
  | zero => intro v5 h hw; exact hw.elim
  | succ n ih =>
    intro v5 h hw
    unfold w_M_comesFor_L17 at hw
    refine r_iload (j := 5) d_M_comesFor_17 rfl ?_
    refine r_if_eq d_M_comesFor_19 (fun w9 => ?_) (fun w9 => ?_)
    · replace hw := hw.1 w9
      refine r_iinc (j := 4) (ls2 := [(4, ai (v4 + (1 : Int32))), (0, ar v0), (1, ai v1), (2, ai v2), (3, ai v3), (5, ai v5)]) d_M_comesFor_90 rfl (congrArg (HAdd.hAdd v4) kc_1) (nle rfl) rfl ?_
      refine r_goto d_M_comesFor_93 ?_
      refine r_pick (ls2 := [(0, ar v0), (1, ai v1), (2, ai v2), (3, ai v3), (4, ai (v4 + (1 : Int32)))]) [1, 2, 3, 4, 0] rfl ?_
      exact hk3 _ _ hw
    · replace hw := hw.2 w9
      refine r_aload_n (j := 0) d_M_comesFor_22 rfl ?_
      obtain ⟨q6, hw⟩ := hw
      refine r_callV (av := []) (rest := []) (ci := 12) d_M_comesFor_23 mk_M_planGain ll_M_331 im_M_planGain se_M_planGain rfl (nle rfl) rfl rfl (nle rfl) q6 (s_M_planGain (by omega) hw (fun r5 h4 hw => ?_))
      show aW none m_M_comesFor (d + 1) 26 [(0, ar v0), (1, ai v1), (2, ai v2), (3, ai v3), (4, ai v4), (5, ai v5)] [ai r5] h4 0 0 QQ
      refine r_iload_n (j := 1) d_M_comesFor_26 rfl ?_
      refine r_isub d_M_comesFor_27 ?_
      refine r_istore (ls2 := [(6, ai (r5 - v1)), (0, ar v0), (1, ai v1), (2, ai v2), (3, ai v3), (4, ai v4), (5, ai v5)]) d_M_comesFor_28 (nle rfl) rfl ?_
      refine r_aload_n (j := 1) d_M_comesFor_30 rfl ?_
      obtain ⟨q9, hw⟩ := hw
      refine r_callV (av := []) (rest := []) (ci := 12) d_M_comesFor_31 mk_M_canCome ll_M_500 im_M_canCome se_M_canCome rfl (nle rfl) rfl rfl (nle rfl) q9 (s_M_canCome (by omega) hw (fun r8 h7 hw => ?_))
      show aW none m_M_comesFor (d + 1) 34 [(6, ai (r5 - v1)), (0, ar v0), (1, ai v1), (2, ai v2), (3, ai v3), (4, ai v4), (5, ai v5)] [ai (b2i r8)] h7 0 0 QQ
      refine r_if_eq d_M_comesFor_34 (fun w9 => ?_) (fun w9 => ?_)
      · replace hw := hw.1 (b2i_0.mp w9)
        refine r_pick (ls2 := [(0, ar v0), (1, ai v1), (2, ai v2), (3, ai v3), (4, ai v4)]) [1, 2, 3, 4, 5] rfl ?_
        exact s_M_comesFor_B81 hd hQ hk3 ih hw
      · replace hw := hw.2 (fun g9 => w9 (b2i_0.mpr g9))
        refine r_iload (j := 0) d_M_comesFor_37 rfl ?_
        refine r_aload_n (j := 1) d_M_comesFor_39 rfl ?_
        obtain ⟨q13, hw⟩ := hw
        refine r_getI d_M_comesFor_40 ok_12 (nle rfl) (nle rfl) rfl lf_M_491 q13 ?_
        refine r_icmp_gt d_M_comesFor_43 (fun w9 => ?_) (fun w9 => ?_)
        · replace hw := hw.1 w9
          refine r_pick (ls2 := [(0, ar v0), (1, ai v1), (2, ai v2), (3, ai v3), (4, ai v4), (6, ai (r5 - v1))]) [1, 2, 3, 4, 5, 0] rfl ?_
          exact s_M_comesFor_B72 hd hQ hk3 ih hw
        · replace hw := hw.2 w9
          refine r_iload (j := 0) d_M_comesFor_46 rfl ?_
          refine r_aload_n (j := 1) d_M_comesFor_48 rfl ?_
          refine r_getI d_M_comesFor_49 ok_12 (nle rfl) (nle rfl) rfl lf_M_491 q13 ?_
          refine r_icmp_ne d_M_comesFor_52 (fun w9 => ?_) (fun w9 => ?_)
          · replace hw := hw.2 w9
            refine r_pick (ls2 := [(0, ar v0), (1, ai v1), (2, ai v2), (3, ai v3), (4, ai v4)]) [1, 2, 3, 4, 5] rfl ?_
            exact s_M_comesFor_B81 hd hQ hk3 ih hw
          · replace hw := hw.1 w9
            refine r_aload_n (j := 1) d_M_comesFor_55 rfl ?_
            refine r_getI d_M_comesFor_56 ok_12 (nle rfl) (nle rfl) rfl lf_M_494 q13 ?_
            refine r_iload_n (j := 3) d_M_comesFor_59 rfl ?_
            refine r_icmp_ne d_M_comesFor_60 (fun w9 => ?_) (fun w9 => ?_)
            · replace hw := hw.2 w9
              refine r_pick (ls2 := [(0, ar v0), (1, ai v1), (2, ai v2), (3, ai v3), (4, ai v4)]) [1, 2, 3, 4, 5] rfl ?_
              exact s_M_comesFor_B81 hd hQ hk3 ih hw
            · replace hw := hw.1 w9
              refine r_aload_n (j := 1) d_M_comesFor_63 rfl ?_
              refine r_getI d_M_comesFor_64 ok_12 (nle rfl) (nle rfl) rfl lf_M_497 q13 ?_
              refine r_iload (j := 5) d_M_comesFor_67 rfl ?_
              refine r_icmp_le d_M_comesFor_69 (fun w9 => ?_) (fun w9 => ?_)
              · replace hw := hw.1 w9
                refine r_pick (ls2 := [(0, ar v0), (1, ai v1), (2, ai v2), (3, ai v3), (4, ai v4)]) [1, 2, 3, 4, 5] rfl ?_
                exact s_M_comesFor_B81 hd hQ hk3 ih hw
              · replace hw := hw.2 w9
                refine r_pick (ls2 := [(0, ar v0), (1, ai v1), (2, ai v2), (3, ai v3), (4, ai v4), (6, ai (r5 - v1))]) [1, 2, 3, 4, 5, 0] rfl ?_
                exact s_M_comesFor_B72 hd hQ hk3 ih hw
set_option maxRecDepth 100000 in
set_option maxHeartbeats 4000000 in
theorem s_M_comesFor_L3 {d : Nat} (hd : 3 ≤ d + 1) {Q : Hp → Prop} {QQ : Option AV → Hp → Prop} (hQ : ∀ h9, Q h9 → QQ none h9) {v0 : Nat} {v1 : Int32} {v2 : Int32} {v3 : Int32} : ∀ (n : Nat) (v4 : Int32) (h : Hp), w_M_comesFor_L3 Q  v0 v1 v2 v3 n v4 h → aW none m_M_comesFor (d + 1) 3 [(0, ar v0), (1, ai v1), (2, ai v2), (3, ai v3), (4, ai v4)] [] h 0 0 QQ := by
  intro n
  induction n with
  | zero => intro v4 h hw; exact hw.elim
  | succ n ih =>
    intro v4 h hw
    unfold w_M_comesFor_L3 at hw
    refine r_iload (j := 4) d_M_comesFor_3 rfl ?_
    refine r_iload_n (j := 3) d_M_comesFor_5 rfl ?_
    refine r_icmp_gt d_M_comesFor_6 (fun w9 => ?_) (fun w9 => ?_)
    · replace hw := hw.1 w9
      exact r_return d_M_comesFor_96.1 rfl (hQ _ hw)
    · replace hw := hw.2 w9
      refine r_aload_n (j := 0) d_M_comesFor_9 rfl ?_
      refine r_iload (j := 4) d_M_comesFor_10 rfl ?_
      obtain ⟨q3, hw⟩ := hw
      refine r_callV (av := [ai v4]) (rest := []) (ci := 12) d_M_comesFor_12 mk_M_firstPlan ll_M_312 im_M_firstPlan se_M_firstPlan rfl (nle rfl) rfl rfl (nle rfl) q3 (s_M_firstPlan  hw (fun r2 h1 hw => ?_))
      show aW none m_M_comesFor (d + 1) 15 [(0, ar v0), (1, ai v1), (2, ai v2), (3, ai v3), (4, ai v4)] [ai (b2i r2)] h1 0 0 QQ
      refine r_istore (ls2 := [(5, ai (b2i r2)), (0, ar v0), (1, ai v1), (2, ai v2), (3, ai v3), (4, ai v4)]) d_M_comesFor_15 (nle rfl) rfl ?_
      obtain ⟨n16, hw⟩ := hw
      refine r_pick (ls2 := [(0, ar v0), (1, ai v1), (2, ai v2), (3, ai v3), (4, ai v4), (5, ai (b2i r2))]) [1, 2, 3, 4, 5, 0] rfl ?_
      exact s_M_comesFor_L17 hd hQ ih n16 _ _ hw
set_option maxRecDepth 100000 in
set_option maxHeartbeats 4000000 in
theorem s_M_comesFor {d : Nat} (hd : 3 ≤ d) {v0 : Nat} {v1 : Int32} {v2 : Int32} {v3 : Int32} {h : Hp} {Q : Hp → Prop} {QQ : Option AV → Hp → Prop} (hw : w_M_comesFor v0 v1 v2 v3 h Q) (hQ : ∀ h9, Q h9 → QQ none h9) : aCall m_M_comesFor d [ar v0, ai v1, ai v2, ai v3] h 0 0 QQ := by
  obtain ⟨d, rfl⟩ : ∃ d9, d = d9 + 1 := ⟨d - 1, by omega⟩
  refine aCall_in pl_M_comesFor (nle rfl) ?_
  show aW none m_M_comesFor (d + 1) 0 [(0, ar v0), (1, ai v1), (2, ai v2), (3, ai v3)] [] h 0 0 QQ
  unfold w_M_comesFor at hw
  refine r_iconst d_M_comesFor_0 kc_0 ?_
  refine r_istore (ls2 := [(4, ai (0 : Int32)), (0, ar v0), (1, ai v1), (2, ai v2), (3, ai v3)]) d_M_comesFor_1 (nle rfl) rfl ?_
  obtain ⟨n17, hw⟩ := hw
  refine r_pick (ls2 := [(0, ar v0), (1, ai v1), (2, ai v2), (3, ai v3), (4, ai (0 : Int32))]) [1, 2, 3, 4, 0] rfl ?_
  exact s_M_comesFor_L3 hd hQ  n17 _ _ hw
set_option maxRecDepth 100000 in
set_option maxHeartbeats 4000000 in
theorem s_M_laysExchange_L113 {d : Nat} (hd : 4 ≤ d + 1) {Q : Bool → Hp → Prop} {QQ : Option AV → Hp → Prop} (hQ : ∀ r9 h9, Q r9 h9 → QQ (some (ai (b2i r9))) h9) {k17 : Int32 → Hp → Prop} {k28 : Int32 → Hp → Prop} (hk17 : ∀ v2 h9, k17 v2 h9 → aW none m_M_laysExchange (d + 1) 17 [(0, ar v0), (1, ai v1), (2, ai v2)] [] h9 0 0 QQ) (hk28 : ∀ v3 h9, k28 v3 h9 → aW none m_M_laysExchange (d + 1) 28 [(0, ar v0), (1, ai v1), (2, ai v2), (3, ai v3)] [] h9 0 0 QQ) {v0 : Nat} {v1 : Int32} {v2 : Int32} : ∀ (n : Nat) (v4 : Int32) (h : Hp), w_M_laysExchange_L113 Q k17 k28 v0 v1 v2 n v4 h → aW none m_M_laysExchange (d + 1) 113 [(0, ar v0), (1, ai v1), (2, ai v2), (4, ai v4)] [] h 0 0 QQ := by
  intro n
  induction n with
  | zero => intro v4 h hw; exact hw.elim
  | succ n ih =>
    intro v4 h hw
    unfold w_M_laysExchange_L113 at hw
    refine r_iload (j := 3) d_M_laysExchange_113 rfl ?_
    refine r_bipush d_M_laysExchange_115 kb_8 ?_
    refine r_icmp_ge d_M_laysExchange_117 (fun w9 => ?_) (fun w9 => ?_)
    · replace hw := hw.1 w9
      refine r_aload_n (j := 0) d_M_laysExchange_140 rfl ?_
      obtain ⟨q11, hw⟩ := hw
      refine r_callV (av := []) (rest := []) (ci := 12) d_M_laysExchange_141 mk_M_nextPlan ll_M_322 im_M_nextPlan se_M_nextPlan rfl (nle rfl) rfl rfl (nle rfl) q11 (s_M_nextPlan  hw (fun r10 h9 hw => ?_))
      show aW none m_M_laysExchange (d + 1) 144 [(0, ar v0), (1, ai v1), (2, ai v2), (4, ai v4)] [ai (b2i r10)] h9 0 0 QQ
      refine r_istore_n (ls2 := [(3, ai (b2i r10)), (0, ar v0), (1, ai v1), (2, ai v2), (4, ai v4)]) d_M_laysExchange_144 (nle rfl) rfl ?_
      refine r_goto d_M_laysExchange_145 ?_
      refine r_pick (ls2 := [(0, ar v0), (1, ai v1), (2, ai v2), (3, ai (b2i r10))]) [1, 2, 3, 0] rfl ?_
      exact hk28 _ _ hw
    · replace hw := hw.2 w9
      refine r_aload_n (j := 0) d_M_laysExchange_120 rfl ?_
      obtain ⟨q12, hw⟩ := hw
      refine r_getR d_M_laysExchange_121 ok_12 (nle rfl) (nle rfl) rfl lf_M_36 q12 ?_
      refine r_iload (j := 3) d_M_laysExchange_124 rfl ?_
      refine r_aload_n (j := 0) d_M_laysExchange_126 rfl ?_
      refine r_getR d_M_laysExchange_127 ok_12 (nle rfl) (nle rfl) rfl lf_M_95 q12 ?_
      refine r_iload (j := 3) d_M_laysExchange_130 rfl ?_
      obtain ⟨q13, hw⟩ := hw
      obtain ⟨q14, hw⟩ := hw
      refine r_iald d_M_laysExchange_132 q13 q14 ?_
      obtain ⟨q15, hw⟩ := hw
      obtain ⟨q16, hw⟩ := hw
      refine r_iast d_M_laysExchange_133 q15 q16 ?_
      refine r_iinc (j := 3) (ls2 := [(4, ai (v4 + (1 : Int32))), (0, ar v0), (1, ai v1), (2, ai v2)]) d_M_laysExchange_134 rfl (congrArg (HAdd.hAdd v4) kc_1) (nle rfl) rfl ?_
      refine r_goto d_M_laysExchange_137 ?_
      refine r_pick (ls2 := [(0, ar v0), (1, ai v1), (2, ai v2), (4, ai (v4 + (1 : Int32)))]) [1, 2, 3, 0] rfl ?_
      exact ih _ _ hw
set_option maxRecDepth 100000 in
set_option maxHeartbeats 4000000 in
theorem s_M_laysExchange_L65 {d : Nat} (hd : 4 ≤ d + 1) {Q : Bool → Hp → Prop} {QQ : Option AV → Hp → Prop} (hQ : ∀ r9 h9, Q r9 h9 → QQ (some (ai (b2i r9))) h9) {k17 : Int32 → Hp → Prop} {k28 : Int32 → Hp → Prop} (hk17 : ∀ v2 h9, k17 v2 h9 → aW none m_M_laysExchange (d + 1) 17 [(0, ar v0), (1, ai v1), (2, ai v2)] [] h9 0 0 QQ) (hk28 : ∀ v3 h9, k28 v3 h9 → aW none m_M_laysExchange (d + 1) 28 [(0, ar v0), (1, ai v1), (2, ai v2), (3, ai v3)] [] h9 0 0 QQ) {v0 : Nat} {v1 : Int32} {v2 : Int32} : ∀ (n : Nat) (v4 : Int32) (h : Hp), w_M_laysExchange_L65 Q k17 k28 v0 v1 v2 n v4 h → aW none m_M_laysExchange (d + 1) 65 [(0, ar v0), (1, ai v1), (2, ai v2), (4, ai v4)] [] h 0 0 QQ := by
  intro n
  induction n with
  | zero => intro v4 h hw; exact hw.elim
  | succ n ih =>
    intro v4 h hw
    unfold w_M_laysExchange_L65 at hw
    refine r_iload (j := 3) d_M_laysExchange_65 rfl ?_
    refine r_aload_n (j := 0) d_M_laysExchange_67 rfl ?_
    obtain ⟨q6, hw⟩ := hw
    refine r_getI d_M_laysExchange_68 ok_12 (nle rfl) (nle rfl) rfl lf_M_244 q6 ?_
    refine r_icmp_ge d_M_laysExchange_71 (fun w9 => ?_) (fun w9 => ?_)
    · replace hw := hw.1 w9
      refine r_aload_n (j := 0) d_M_laysExchange_93 rfl ?_
      refine r_callV (av := []) (rest := []) (ci := 12) d_M_laysExchange_94 mk_M_canGo ll_M_506 im_M_canGo se_M_canGo rfl (nle rfl) rfl rfl (nle rfl) q6 (s_M_canGo  hw (fun r8 h7 hw => ?_))
      show aW none m_M_laysExchange (d + 1) 97 [(0, ar v0), (1, ai v1), (2, ai v2), (4, ai v4)] [ai (b2i r8)] h7 0 0 QQ
      refine r_if_eq d_M_laysExchange_97 (fun w9 => ?_) (fun w9 => ?_)
      · replace hw := hw.1 (b2i_0.mp w9)
        refine r_iconst d_M_laysExchange_110 kc_0 ?_
        refine r_istore (ls2 := [(4, ai (0 : Int32)), (0, ar v0), (1, ai v1), (2, ai v2)]) d_M_laysExchange_111 (nle rfl) rfl ?_
        obtain ⟨n17, hw⟩ := hw
        refine r_pick (ls2 := [(0, ar v0), (1, ai v1), (2, ai v2), (4, ai (0 : Int32))]) [1, 2, 3, 0] rfl ?_
        exact s_M_laysExchange_L113 hd hQ hk17 hk28 n17 _ _ hw
      · replace hw := hw.2 (fun g9 => w9 (b2i_0.mpr g9))
        refine r_aload_n (j := 0) d_M_laysExchange_100 rfl ?_
        refine r_aload_n (j := 0) d_M_laysExchange_101 rfl ?_
        obtain ⟨q20, hw⟩ := hw
        refine r_callV (av := []) (rest := [ar v0]) (ci := 12) d_M_laysExchange_102 mk_M_planGain ll_M_331 im_M_planGain se_M_planGain rfl (nle rfl) rfl rfl (nle rfl) q20 (s_M_planGain (by omega) hw (fun r19 h18 hw => ?_))
        show aW none m_M_laysExchange (d + 1) 105 [(0, ar v0), (1, ai v1), (2, ai v2), (4, ai v4)] [ai r19, ar v0] h18 0 0 QQ
        refine r_iload_n (j := 2) d_M_laysExchange_105 rfl ?_
        refine r_iload_n (j := 1) d_M_laysExchange_106 rfl ?_
        obtain ⟨q22, hw⟩ := hw
        refine r_callV (av := [ai r19, ai v2, ai v1]) (rest := []) (ci := 12) d_M_laysExchange_107 mk_M_comesFor ll_M_509 im_M_comesFor se_M_comesFor rfl (nle rfl) rfl rfl (nle rfl) q22 (s_M_comesFor (by omega) hw (fun h21 hw => ?_))
        show aW none m_M_laysExchange (d + 1) 110 [(0, ar v0), (1, ai v1), (2, ai v2), (4, ai v4)] [] h21 0 0 QQ
        refine r_iconst d_M_laysExchange_110 kc_0 ?_
        refine r_istore (ls2 := [(4, ai (0 : Int32)), (0, ar v0), (1, ai v1), (2, ai v2)]) d_M_laysExchange_111 (nle rfl) rfl ?_
        obtain ⟨n23, hw⟩ := hw
        refine r_pick (ls2 := [(0, ar v0), (1, ai v1), (2, ai v2), (4, ai (0 : Int32))]) [1, 2, 3, 0] rfl ?_
        exact s_M_laysExchange_L113 hd hQ hk17 hk28 n23 _ _ hw
    · replace hw := hw.2 w9
      refine r_aload_n (j := 0) d_M_laysExchange_74 rfl ?_
      refine r_getR d_M_laysExchange_75 ok_12 (nle rfl) (nle rfl) rfl lf_M_104 q6 ?_
      refine r_iload (j := 3) d_M_laysExchange_78 rfl ?_
      refine r_aload_n (j := 0) d_M_laysExchange_80 rfl ?_
      refine r_iload (j := 3) d_M_laysExchange_81 rfl ?_
      refine r_callV (av := [ai v4]) (rest := [ai v4, ar (gR h v0 62)]) (ci := 12) d_M_laysExchange_83 mk_M_planSum ll_M_309 im_M_planSum se_M_planSum rfl (nle rfl) rfl rfl (nle rfl) q6 (s_M_planSum (by omega) hw (fun r25 h24 hw => ?_))
      show aW none m_M_laysExchange (d + 1) 86 [(0, ar v0), (1, ai v1), (2, ai v2), (4, ai v4)] [ai r25, ai v4, ar (gR h v0 62)] h24 0 0 QQ
      obtain ⟨q26, hw⟩ := hw
      obtain ⟨q27, hw⟩ := hw
      refine r_iast d_M_laysExchange_86 q26 q27 ?_
      refine r_iinc (j := 3) (ls2 := [(4, ai (v4 + (1 : Int32))), (0, ar v0), (1, ai v1), (2, ai v2)]) d_M_laysExchange_87 rfl (congrArg (HAdd.hAdd v4) kc_1) (nle rfl) rfl ?_
      refine r_goto d_M_laysExchange_90 ?_
      refine r_pick (ls2 := [(0, ar v0), (1, ai v1), (2, ai v2), (4, ai (v4 + (1 : Int32)))]) [1, 2, 3, 0] rfl ?_
      exact ih _ _ hw
set_option maxRecDepth 100000 in
set_option maxHeartbeats 4000000 in
theorem s_M_laysExchange_L35 {d : Nat} (hd : 4 ≤ d + 1) {Q : Bool → Hp → Prop} {QQ : Option AV → Hp → Prop} (hQ : ∀ r9 h9, Q r9 h9 → QQ (some (ai (b2i r9))) h9) {k17 : Int32 → Hp → Prop} {k28 : Int32 → Hp → Prop} (hk17 : ∀ v2 h9, k17 v2 h9 → aW none m_M_laysExchange (d + 1) 17 [(0, ar v0), (1, ai v1), (2, ai v2)] [] h9 0 0 QQ) (hk28 : ∀ v3 h9, k28 v3 h9 → aW none m_M_laysExchange (d + 1) 28 [(0, ar v0), (1, ai v1), (2, ai v2), (3, ai v3)] [] h9 0 0 QQ) {v0 : Nat} {v1 : Int32} {v2 : Int32} : ∀ (n : Nat) (v4 : Int32) (h : Hp), w_M_laysExchange_L35 Q k17 k28 v0 v1 v2 n v4 h → aW none m_M_laysExchange (d + 1) 35 [(0, ar v0), (1, ai v1), (2, ai v2), (4, ai v4)] [] h 0 0 QQ := by
  intro n
  induction n with
  | zero => intro v4 h hw; exact hw.elim
  | succ n ih =>
    intro v4 h hw
    unfold w_M_laysExchange_L35 at hw
    refine r_iload (j := 3) d_M_laysExchange_35 rfl ?_
    refine r_bipush d_M_laysExchange_37 kb_8 ?_
    refine r_icmp_ge d_M_laysExchange_39 (fun w9 => ?_) (fun w9 => ?_)
    · replace hw := hw.1 w9
      refine r_iconst d_M_laysExchange_62 kc_0 ?_
      refine r_istore (ls2 := [(4, ai (0 : Int32)), (0, ar v0), (1, ai v1), (2, ai v2)]) d_M_laysExchange_63 (nle rfl) rfl ?_
      obtain ⟨n28, hw⟩ := hw
      refine r_pick (ls2 := [(0, ar v0), (1, ai v1), (2, ai v2), (4, ai (0 : Int32))]) [1, 2, 3, 0] rfl ?_
      exact s_M_laysExchange_L65 hd hQ hk17 hk28 n28 _ _ hw
    · replace hw := hw.2 w9
      refine r_aload_n (j := 0) d_M_laysExchange_42 rfl ?_
      obtain ⟨q29, hw⟩ := hw
      refine r_getR d_M_laysExchange_43 ok_12 (nle rfl) (nle rfl) rfl lf_M_95 q29 ?_
      refine r_iload (j := 3) d_M_laysExchange_46 rfl ?_
      refine r_aload_n (j := 0) d_M_laysExchange_48 rfl ?_
      refine r_getR d_M_laysExchange_49 ok_12 (nle rfl) (nle rfl) rfl lf_M_36 q29 ?_
      refine r_iload (j := 3) d_M_laysExchange_52 rfl ?_
      obtain ⟨q30, hw⟩ := hw
      obtain ⟨q31, hw⟩ := hw
      refine r_iald d_M_laysExchange_54 q30 q31 ?_
      obtain ⟨q32, hw⟩ := hw
      obtain ⟨q33, hw⟩ := hw
      refine r_iast d_M_laysExchange_55 q32 q33 ?_
      refine r_iinc (j := 3) (ls2 := [(4, ai (v4 + (1 : Int32))), (0, ar v0), (1, ai v1), (2, ai v2)]) d_M_laysExchange_56 rfl (congrArg (HAdd.hAdd v4) kc_1) (nle rfl) rfl ?_
      refine r_goto d_M_laysExchange_59 ?_
      refine r_pick (ls2 := [(0, ar v0), (1, ai v1), (2, ai v2), (4, ai (v4 + (1 : Int32)))]) [1, 2, 3, 0] rfl ?_
      exact ih _ _ hw
set_option maxRecDepth 100000 in
set_option maxHeartbeats 4000000 in
theorem s_M_laysExchange_L28 {d : Nat} (hd : 4 ≤ d + 1) {Q : Bool → Hp → Prop} {QQ : Option AV → Hp → Prop} (hQ : ∀ r9 h9, Q r9 h9 → QQ (some (ai (b2i r9))) h9) {k17 : Int32 → Hp → Prop} (hk17 : ∀ v2 h9, k17 v2 h9 → aW none m_M_laysExchange (d + 1) 17 [(0, ar v0), (1, ai v1), (2, ai v2)] [] h9 0 0 QQ) {v0 : Nat} {v1 : Int32} {v2 : Int32} : ∀ (n : Nat) (v3 : Int32) (h : Hp), w_M_laysExchange_L28 Q k17 v0 v1 v2 n v3 h → aW none m_M_laysExchange (d + 1) 28 [(0, ar v0), (1, ai v1), (2, ai v2), (3, ai v3)] [] h 0 0 QQ := by
  intro n
  induction n with
  | zero => intro v3 h hw; exact hw.elim
  | succ n ih =>
    intro v3 h hw
    unfold w_M_laysExchange_L28 at hw
    refine r_iload_n (j := 3) d_M_laysExchange_28 rfl ?_
    refine r_if_eq d_M_laysExchange_29 (fun w9 => ?_) (fun w9 => ?_)
    · replace hw := hw.1 w9
      refine r_iinc (j := 2) (ls2 := [(2, ai (v2 + (1 : Int32))), (0, ar v0), (1, ai v1), (3, ai v3)]) d_M_laysExchange_148 rfl (congrArg (HAdd.hAdd v2) kc_1) (nle rfl) rfl ?_
      refine r_goto d_M_laysExchange_151 ?_
      refine r_pick (ls2 := [(0, ar v0), (1, ai v1), (2, ai (v2 + (1 : Int32)))]) [1, 2, 0] rfl ?_
      exact hk17 _ _ hw
    · replace hw := hw.2 w9
      refine r_iconst d_M_laysExchange_32 kc_0 ?_
      refine r_istore (ls2 := [(4, ai (0 : Int32)), (0, ar v0), (1, ai v1), (2, ai v2), (3, ai v3)]) d_M_laysExchange_33 (nle rfl) rfl ?_
      obtain ⟨n34, hw⟩ := hw
      refine r_pick (ls2 := [(0, ar v0), (1, ai v1), (2, ai v2), (4, ai (0 : Int32))]) [1, 2, 3, 0] rfl ?_
      exact s_M_laysExchange_L35 hd hQ hk17 ih n34 _ _ hw
set_option maxRecDepth 100000 in
set_option maxHeartbeats 4000000 in
theorem s_M_laysExchange_L17 {d : Nat} (hd : 4 ≤ d + 1) {Q : Bool → Hp → Prop} {QQ : Option AV → Hp → Prop} (hQ : ∀ r9 h9, Q r9 h9 → QQ (some (ai (b2i r9))) h9) {v0 : Nat} {v1 : Int32} : ∀ (n : Nat) (v2 : Int32) (h : Hp), w_M_laysExchange_L17 Q  v0 v1 n v2 h → aW none m_M_laysExchange (d + 1) 17 [(0, ar v0), (1, ai v1), (2, ai v2)] [] h 0 0 QQ := by
  intro n
  induction n with
  | zero => intro v2 h hw; exact hw.elim
  | succ n ih =>
    intro v2 h hw
    unfold w_M_laysExchange_L17 at hw
    refine r_iload_n (j := 2) d_M_laysExchange_17 rfl ?_
    refine r_iload_n (j := 1) d_M_laysExchange_18 rfl ?_
    refine r_icmp_gt d_M_laysExchange_19 (fun w9 => ?_) (fun w9 => ?_)
    · replace hw := hw.1 w9
      refine r_aload_n (j := 0) d_M_laysExchange_154 rfl ?_
      obtain ⟨q2, hw⟩ := hw
      refine r_getI d_M_laysExchange_155 ok_12 (nle rfl) (nle rfl) rfl lf_M_491 q2 ?_
      refine r_if_le d_M_laysExchange_158 (fun w9 => ?_) (fun w9 => ?_)
      · replace hw := hw.1 w9
        refine r_iconst d_M_laysExchange_165 kc_0 ?_
        exact r_zreturn d_M_laysExchange_166.1 rfl (Or.inl rfl) (hQ _ _ hw)
      · replace hw := hw.2 w9
        refine r_iconst d_M_laysExchange_161 kc_1 ?_
        refine r_goto d_M_laysExchange_162 ?_
        exact r_zreturn d_M_laysExchange_166.1 rfl (Or.inr rfl) (hQ _ _ hw)
    · replace hw := hw.2 w9
      refine r_aload_n (j := 0) d_M_laysExchange_22 rfl ?_
      refine r_iload_n (j := 2) d_M_laysExchange_23 rfl ?_
      obtain ⟨q5, hw⟩ := hw
      refine r_callV (av := [ai v2]) (rest := []) (ci := 12) d_M_laysExchange_24 mk_M_firstPlan ll_M_312 im_M_firstPlan se_M_firstPlan rfl (nle rfl) rfl rfl (nle rfl) q5 (s_M_firstPlan  hw (fun r4 h3 hw => ?_))
      show aW none m_M_laysExchange (d + 1) 27 [(0, ar v0), (1, ai v1), (2, ai v2)] [ai (b2i r4)] h3 0 0 QQ
      refine r_istore_n (ls2 := [(3, ai (b2i r4)), (0, ar v0), (1, ai v1), (2, ai v2)]) d_M_laysExchange_27 (nle rfl) rfl ?_
      obtain ⟨n35, hw⟩ := hw
      refine r_pick (ls2 := [(0, ar v0), (1, ai v1), (2, ai v2), (3, ai (b2i r4))]) [1, 2, 3, 0] rfl ?_
      exact s_M_laysExchange_L28 hd hQ ih n35 _ _ hw
set_option maxRecDepth 100000 in
set_option maxHeartbeats 4000000 in
theorem s_M_laysExchange {d : Nat} (hd : 4 ≤ d) {v0 : Nat} {v1 : Int32} {h : Hp} {Q : Bool → Hp → Prop} {QQ : Option AV → Hp → Prop} (hw : w_M_laysExchange v0 v1 h Q) (hQ : ∀ r9 h9, Q r9 h9 → QQ (some (ai (b2i r9))) h9) : aCall m_M_laysExchange d [ar v0, ai v1] h 0 0 QQ := by
  obtain ⟨d, rfl⟩ : ∃ d9, d = d9 + 1 := ⟨d - 1, by omega⟩
  refine aCall_in pl_M_laysExchange (nle rfl) ?_
  show aW none m_M_laysExchange (d + 1) 0 [(0, ar v0), (1, ai v1)] [] h 0 0 QQ
  unfold w_M_laysExchange at hw
  refine r_aload_n (j := 0) d_M_laysExchange_0 rfl ?_
  refine r_iconst d_M_laysExchange_1 kc_0 ?_
  obtain ⟨q1, hw⟩ := hw
  refine r_putI d_M_laysExchange_2 ok_12 (nle rfl) (nle rfl) rfl lf_M_491 rfl q1 ?_
  refine r_aload_n (j := 0) d_M_laysExchange_5 rfl ?_
  refine r_iconst d_M_laysExchange_6 kc_m1 ?_
  refine r_putI d_M_laysExchange_7 ok_12 (nle rfl) (nle rfl) rfl lf_M_494 rfl q1 ?_
  refine r_aload_n (j := 0) d_M_laysExchange_10 rfl ?_
  refine r_iconst d_M_laysExchange_11 kc_m1 ?_
  refine r_putI d_M_laysExchange_12 ok_12 (nle rfl) (nle rfl) rfl lf_M_497 rfl q1 ?_
  refine r_iconst d_M_laysExchange_15 kc_0 ?_
  refine r_istore_n (ls2 := [(2, ai (0 : Int32)), (0, ar v0), (1, ai v1)]) d_M_laysExchange_16 (nle rfl) rfl ?_
  obtain ⟨n36, hw⟩ := hw
  refine r_pick (ls2 := [(0, ar v0), (1, ai v1), (2, ai (0 : Int32))]) [1, 2, 0] rfl ?_
  exact s_M_laysExchange_L17 hd hQ  n36 _ _ hw
set_option maxRecDepth 100000 in
set_option maxHeartbeats 4000000 in
theorem s_M_exchange_B25 {d : Nat} (hd : 5 ≤ d + 1) {Q : Int32 → Hp → Prop} {QQ : Option AV → Hp → Prop} (hQ : ∀ r9 h9, Q r9 h9 → QQ (some (ai r9)) h9) {v0 : Nat} {v1 : Int32} {v2 : Int32} {s0 : Int32} {h : Hp} (hw : w_M_exchange_B25 Q  v0 v1 v2 s0 h) : aW none m_M_exchange (d + 1) 25 [(0, ar v0), (1, ai v1), (2, ai v2)] [ai s0] h 0 0 QQ := by
  unfold w_M_exchange_B25 at hw
  refine r_istore_n (ls2 := [(3, ai s0), (0, ar v0), (1, ai v1), (2, ai v2)]) d_M_exchange_25 (nle rfl) rfl ?_
  refine r_iload_n (j := 2) d_M_exchange_26 rfl ?_
  refine r_iconst d_M_exchange_27 kc_1 ?_
  refine r_iconst d_M_exchange_28 kc_3 ?_
  refine r_callS (av := [ai v1, ai (1 : Int32), ai (3 : Int32)]) (rest := []) d_M_exchange_29 mk_M_isIn ll_M_148 st_M_isIn rfl rfl (nle rfl) (s_M_isIn  hw (fun r4 h3 hw => ?_))
  show aW none m_M_exchange (d + 1) 32 [(3, ai s0), (0, ar v0), (1, ai v1), (2, ai v2)] [ai (b2i r4)] h3 0 0 QQ
  refine r_if_eq d_M_exchange_32 (fun w9 => ?_) (fun w9 => ?_)
  · replace hw := hw.1 (b2i_0.mp w9)
    refine r_ldcw d_M_exchange_47 lc_M_277 ?_
    exact r_ireturn d_M_exchange_50.1 rfl (hQ _ _ hw)
  · replace hw := hw.2 (fun g9 => w9 (b2i_0.mpr g9))
    refine r_iload_n (j := 0) d_M_exchange_35 rfl ?_
    refine r_if_eq d_M_exchange_36 (fun w9 => ?_) (fun w9 => ?_)
    · replace hw := hw.1 w9
      refine r_ldcw d_M_exchange_47 lc_M_277 ?_
      exact r_ireturn d_M_exchange_50.1 rfl (hQ _ _ hw)
    · replace hw := hw.2 w9
      refine r_aload_n (j := 1) d_M_exchange_39 rfl ?_
      refine r_iload_n (j := 2) d_M_exchange_40 rfl ?_
      obtain ⟨q7, hw⟩ := hw
      refine r_callV (av := [ai v1]) (rest := []) (ci := 12) d_M_exchange_41 mk_M_laysExchange ll_M_512 im_M_laysExchange se_M_laysExchange rfl (nle rfl) rfl rfl (nle rfl) q7 (s_M_laysExchange (by omega) hw (fun r6 h5 hw => ?_))
      show aW none m_M_exchange (d + 1) 44 [(3, ai s0), (0, ar v0), (1, ai v1), (2, ai v2)] [ai (b2i r6)] h5 0 0 QQ
      refine r_if_ne d_M_exchange_44 (fun w9 => ?_) (fun w9 => ?_)
      · replace hw := hw.2 (fun g9 => w9 (b2i_0.mpr g9))
        refine r_iload_n (j := 3) d_M_exchange_51 rfl ?_
        refine r_if_ne d_M_exchange_52 (fun w9 => ?_) (fun w9 => ?_)
        · replace hw := hw.2 w9
          refine r_iload_n (j := 3) d_M_exchange_62 rfl ?_
          refine r_iconst d_M_exchange_63 kc_1 ?_
          refine r_icmp_ne d_M_exchange_64 (fun w9 => ?_) (fun w9 => ?_)
          · replace hw := hw.2 w9
            refine r_iload_n (j := 3) d_M_exchange_74 rfl ?_
            refine r_iconst d_M_exchange_75 kc_2 ?_
            refine r_icmp_ne d_M_exchange_76 (fun w9 => ?_) (fun w9 => ?_)
            · replace hw := hw.2 w9
              refine r_aload_n (j := 1) d_M_exchange_86 rfl ?_
              obtain ⟨q8, hw⟩ := hw
              refine r_getR d_M_exchange_87 ok_12 (nle rfl) (nle rfl) rfl lf_M_101 q8 ?_
              refine r_iload_n (j := 3) d_M_exchange_90 rfl ?_
              refine r_bipush d_M_exchange_91 kb_10 ?_
              refine r_isub d_M_exchange_93 ?_
              obtain ⟨q9, hw⟩ := hw
              obtain ⟨q10, hw⟩ := hw
              refine r_iald d_M_exchange_94 q9 q10 ?_
              refine r_aload_n (j := 1) d_M_exchange_95 rfl ?_
              refine r_getR d_M_exchange_96 ok_12 (nle rfl) (nle rfl) rfl lf_M_98 q8 ?_
              refine r_iload_n (j := 3) d_M_exchange_99 rfl ?_
              refine r_bipush d_M_exchange_100 kb_10 ?_
              refine r_isub d_M_exchange_102 ?_
              obtain ⟨q11, hw⟩ := hw
              obtain ⟨q12, hw⟩ := hw
              refine r_iald d_M_exchange_103 q11 q12 ?_
              refine r_isub d_M_exchange_104 ?_
              exact r_ireturn d_M_exchange_105.1 rfl (hQ _ _ hw)
            · replace hw := hw.1 w9
              refine r_aload_n (j := 1) d_M_exchange_79 rfl ?_
              obtain ⟨q13, hw⟩ := hw
              refine r_getI d_M_exchange_80 ok_12 (nle rfl) (nle rfl) rfl lf_M_497 q13 ?_
              refine r_goto d_M_exchange_83 ?_
              exact r_ireturn d_M_exchange_105.1 rfl (hQ _ _ hw)
          · replace hw := hw.1 w9
            refine r_aload_n (j := 1) d_M_exchange_67 rfl ?_
            obtain ⟨q14, hw⟩ := hw
            refine r_getI d_M_exchange_68 ok_12 (nle rfl) (nle rfl) rfl lf_M_494 q14 ?_
            refine r_goto d_M_exchange_71 ?_
            exact r_ireturn d_M_exchange_105.1 rfl (hQ _ _ hw)
        · replace hw := hw.1 w9
          refine r_aload_n (j := 1) d_M_exchange_55 rfl ?_
          obtain ⟨q15, hw⟩ := hw
          refine r_getI d_M_exchange_56 ok_12 (nle rfl) (nle rfl) rfl lf_M_491 q15 ?_
          refine r_goto d_M_exchange_59 ?_
          exact r_ireturn d_M_exchange_105.1 rfl (hQ _ _ hw)
      · replace hw := hw.1 (b2i_0.mp w9)
        refine r_ldcw d_M_exchange_47 lc_M_277 ?_
        exact r_ireturn d_M_exchange_50.1 rfl (hQ _ _ hw)
set_option maxRecDepth 100000 in
set_option maxHeartbeats 4000000 in
theorem s_M_exchange_B20 {d : Nat} (hd : 5 ≤ d + 1) {Q : Int32 → Hp → Prop} {QQ : Option AV → Hp → Prop} (hQ : ∀ r9 h9, Q r9 h9 → QQ (some (ai r9)) h9) {v0 : Nat} {v1 : Int32} {v2 : Int32} {h : Hp} (hw : w_M_exchange_B20 Q  v0 v1 v2 h) : aW none m_M_exchange (d + 1) 20 [(0, ar v0), (1, ai v1), (2, ai v2)] [] h 0 0 QQ := by
  unfold w_M_exchange_B20 at hw
  refine r_iconst d_M_exchange_20 kc_1 ?_
  refine r_goto d_M_exchange_21 ?_
  exact s_M_exchange_B25 hd hQ  hw
set_option maxRecDepth 100000 in
set_option maxHeartbeats 4000000 in
theorem s_M_exchange {d : Nat} (hd : 5 ≤ d) {v0 : Nat} {v1 : Int32} {v2 : Int32} {h : Hp} {Q : Int32 → Hp → Prop} {QQ : Option AV → Hp → Prop} (hw : w_M_exchange v0 v1 v2 h Q) (hQ : ∀ r9 h9, Q r9 h9 → QQ (some (ai r9)) h9) : aCall m_M_exchange d [ar v0, ai v1, ai v2] h 0 0 QQ := by
  obtain ⟨d, rfl⟩ : ∃ d9, d = d9 + 1 := ⟨d - 1, by omega⟩
  refine aCall_in pl_M_exchange (nle rfl) ?_
  show aW none m_M_exchange (d + 1) 0 [(0, ar v0), (1, ai v1), (2, ai v2)] [] h 0 0 QQ
  unfold w_M_exchange at hw
  refine r_iload_n (j := 2) d_M_exchange_0 rfl ?_
  refine r_iconst d_M_exchange_1 kc_0 ?_
  refine r_iconst d_M_exchange_2 kc_2 ?_
  refine r_callS (av := [ai v2, ai (0 : Int32), ai (2 : Int32)]) (rest := []) d_M_exchange_3 mk_M_isIn ll_M_148 st_M_isIn rfl rfl (nle rfl) (s_M_isIn  hw (fun r2 h1 hw => ?_))
  show aW none m_M_exchange (d + 1) 6 [(0, ar v0), (1, ai v1), (2, ai v2)] [ai (b2i r2)] h1 0 0 QQ
  refine r_if_ne d_M_exchange_6 (fun w9 => ?_) (fun w9 => ?_)
  · replace hw := hw.2 (fun g9 => w9 (b2i_0.mpr g9))
    exact s_M_exchange_B20 hd hQ  hw
  · replace hw := hw.1 (b2i_0.mp w9)
    refine r_aload_n (j := 0) d_M_exchange_9 rfl ?_
    refine r_iload_n (j := 2) d_M_exchange_10 rfl ?_
    refine r_bipush d_M_exchange_11 kb_10 ?_
    refine r_isub d_M_exchange_13 ?_
    obtain ⟨q18, hw⟩ := hw
    refine r_callV (av := [ai (v2 - (10 : Int32))]) (rest := []) (ci := 12) d_M_exchange_14 mk_M_isColumn ll_M_268 im_M_isColumn se_M_isColumn rfl (nle rfl) rfl rfl (nle rfl) q18 (s_M_isColumn (by omega) hw (fun r17 h16 hw => ?_))
    show aW none m_M_exchange (d + 1) 17 [(0, ar v0), (1, ai v1), (2, ai v2)] [ai (b2i r17)] h16 0 0 QQ
    refine r_if_eq d_M_exchange_17 (fun w9 => ?_) (fun w9 => ?_)
    · replace hw := hw.1 (b2i_0.mp w9)
      refine r_iconst d_M_exchange_24 kc_0 ?_
      exact s_M_exchange_B25 hd hQ  hw
    · replace hw := hw.2 (fun g9 => w9 (b2i_0.mpr g9))
      exact s_M_exchange_B20 hd hQ  hw
set_option maxRecDepth 100000 in
set_option maxHeartbeats 4000000 in
theorem s_M_better_L27 {d : Nat} (hd : 5 ≤ d + 1) {Q : Int32 → Hp → Prop} {QQ : Option AV → Hp → Prop} (hQ : ∀ r9 h9, Q r9 h9 → QQ (some (ai r9)) h9) {v0 : Nat} : ∀ (n : Nat) (v2 : Int32) (h : Hp), w_M_better_L27 Q  v0 n v2 h → aW none m_M_better (d + 1) 27 [(0, ar v0), (2, ai v2)] [] h 0 0 QQ := by
  intro n
  induction n with
  | zero => intro v2 h hw; exact hw.elim
  | succ n ih =>
    intro v2 h hw
    unfold w_M_better_L27 at hw
    refine r_iload_n (j := 1) d_M_better_27 rfl ?_
    refine r_aload_n (j := 0) d_M_better_28 rfl ?_
    obtain ⟨q8, hw⟩ := hw
    refine r_getI d_M_better_29 ok_12 (nle rfl) (nle rfl) rfl lf_M_247 q8 ?_
    refine r_icmp_ge d_M_better_32 (fun w9 => ?_) (fun w9 => ?_)
    · replace hw := hw.1 w9
      refine r_aload_n (j := 0) d_M_better_66 rfl ?_
      refine r_callV (av := []) (rest := []) (ci := 12) d_M_better_67 mk_M_heldGain ll_M_299 im_M_heldGain se_M_heldGain rfl (nle rfl) rfl rfl (nle rfl) q8 (s_M_heldGain (by omega) hw (fun r10 h9 hw => ?_))
      show aW none m_M_better (d + 1) 70 [(0, ar v0), (2, ai v2)] [ai r10] h9 0 0 QQ
      exact r_ireturn d_M_better_70.1 rfl (hQ _ _ hw)
    · replace hw := hw.2 w9
      refine r_aload_n (j := 0) d_M_better_35 rfl ?_
      refine r_getR d_M_better_36 ok_12 (nle rfl) (nle rfl) rfl lf_M_30 q8 ?_
      refine r_bipush d_M_better_39 kb_36 ?_
      refine r_iload_n (j := 1) d_M_better_41 rfl ?_
      refine r_iadd d_M_better_42 ?_
      refine r_dup2 d_M_better_43 rfl rfl ?_
      obtain ⟨q11, hw⟩ := hw
      obtain ⟨q12, hw⟩ := hw
      refine r_iald d_M_better_44 q11 q12 ?_
      refine r_aload_n (j := 0) d_M_better_45 rfl ?_
      refine r_getR d_M_better_46 ok_12 (nle rfl) (nle rfl) rfl lf_M_101 q8 ?_
      refine r_iload_n (j := 1) d_M_better_49 rfl ?_
      obtain ⟨q13, hw⟩ := hw
      obtain ⟨q14, hw⟩ := hw
      refine r_iald d_M_better_50 q13 q14 ?_
      refine r_aload_n (j := 0) d_M_better_51 rfl ?_
      refine r_getR d_M_better_52 ok_12 (nle rfl) (nle rfl) rfl lf_M_98 q8 ?_
      refine r_iload_n (j := 1) d_M_better_55 rfl ?_
      obtain ⟨q15, hw⟩ := hw
      obtain ⟨q16, hw⟩ := hw
      refine r_iald d_M_better_56 q15 q16 ?_
      refine r_isub d_M_better_57 ?_
      refine r_iadd d_M_better_58 ?_
      refine r_iast d_M_better_59 q11 q12 ?_
      refine r_iinc (j := 1) (ls2 := [(2, ai (v2 + (1 : Int32))), (0, ar v0)]) d_M_better_60 rfl (congrArg (HAdd.hAdd v2) kc_1) (nle rfl) rfl ?_
      refine r_goto d_M_better_63 ?_
      refine r_pick (ls2 := [(0, ar v0), (2, ai (v2 + (1 : Int32)))]) [1, 0] rfl ?_
      exact ih _ _ hw
set_option maxRecDepth 100000 in
set_option maxHeartbeats 4000000 in
theorem s_M_better {d : Nat} (hd : 5 ≤ d) {v0 : Nat} {v1 : Int32} {h : Hp} {Q : Int32 → Hp → Prop} {QQ : Option AV → Hp → Prop} (hw : w_M_better v0 v1 h Q) (hQ : ∀ r9 h9, Q r9 h9 → QQ (some (ai r9)) h9) : aCall m_M_better d [ar v0, ai v1] h 0 0 QQ := by
  obtain ⟨d, rfl⟩ : ∃ d9, d = d9 + 1 := ⟨d - 1, by omega⟩
  refine aCall_in pl_M_better (nle rfl) ?_
  show aW none m_M_better (d + 1) 0 [(0, ar v0), (1, ai v1)] [] h 0 0 QQ
  unfold w_M_better at hw
  refine r_iload_n (j := 1) d_M_better_0 rfl ?_
  refine r_iconst d_M_better_1 kc_1 ?_
  refine r_iconst d_M_better_2 kc_3 ?_
  refine r_callS (av := [ai v1, ai (1 : Int32), ai (3 : Int32)]) (rest := []) d_M_better_3 mk_M_isIn ll_M_148 st_M_isIn rfl rfl (nle rfl) (s_M_isIn  hw (fun r2 h1 hw => ?_))
  show aW none m_M_better (d + 1) 6 [(0, ar v0), (1, ai v1)] [ai (b2i r2)] h1 0 0 QQ
  refine r_if_eq d_M_better_6 (fun w9 => ?_) (fun w9 => ?_)
  · replace hw := hw.1 (b2i_0.mp w9)
    refine r_ldcw d_M_better_17 lc_M_277 ?_
    exact r_ireturn d_M_better_20.1 rfl (hQ _ _ hw)
  · replace hw := hw.2 (fun g9 => w9 (b2i_0.mpr g9))
    refine r_aload_n (j := 0) d_M_better_9 rfl ?_
    refine r_iload_n (j := 1) d_M_better_10 rfl ?_
    obtain ⟨q5, hw⟩ := hw
    refine r_callV (av := [ai v1]) (rest := []) (ci := 12) d_M_better_11 mk_M_laysExchange ll_M_512 im_M_laysExchange se_M_laysExchange rfl (nle rfl) rfl rfl (nle rfl) q5 (s_M_laysExchange (by omega) hw (fun r4 h3 hw => ?_))
    show aW none m_M_better (d + 1) 14 [(0, ar v0), (1, ai v1)] [ai (b2i r4)] h3 0 0 QQ
    refine r_if_ne d_M_better_14 (fun w9 => ?_) (fun w9 => ?_)
    · replace hw := hw.2 (fun g9 => w9 (b2i_0.mpr g9))
      refine r_aload_n (j := 0) d_M_better_21 rfl ?_
      obtain ⟨q7, hw⟩ := hw
      refine r_callV (av := []) (rest := []) (ci := 12) d_M_better_22 mk_M_act ll_M_287 im_M_act se_M_act rfl (nle rfl) rfl rfl (nle rfl) q7 (s_M_act  hw (fun h6 hw => ?_))
      show aW none m_M_better (d + 1) 25 [(0, ar v0), (1, ai v1)] [] h6 0 0 QQ
      refine r_iconst d_M_better_25 kc_0 ?_
      refine r_istore_n (ls2 := [(2, ai (0 : Int32)), (0, ar v0), (1, ai v1)]) d_M_better_26 (nle rfl) rfl ?_
      obtain ⟨n17, hw⟩ := hw
      refine r_pick (ls2 := [(0, ar v0), (2, ai (0 : Int32))]) [1, 0] rfl ?_
      exact s_M_better_L27 hd hQ  n17 _ _ hw
    · replace hw := hw.1 (b2i_0.mp w9)
      refine r_ldcw d_M_better_17 lc_M_277 ?_
      exact r_ireturn d_M_better_20.1 rfl (hQ _ _ hw)
set_option maxRecDepth 100000 in
set_option maxHeartbeats 4000000 in
theorem s_M_draws_L19 {d : Nat} (hd : 2 ≤ d + 1) {Q : Hp → Prop} {QQ : Option AV → Hp → Prop} (hQ : ∀ h9, Q h9 → QQ none h9) {v0 : Nat} {v2 : Int32} : ∀ (n : Nat) (v3 : Int32) (v4 : Int32) (h : Hp), w_M_draws_L19 Q  v0 v2 n v3 v4 h → aW none m_M_draws (d + 1) 19 [(0, ar v0), (2, ai v2), (3, ai v3), (4, ai v4)] [] h 0 0 QQ := by
  intro n
  induction n with
  | zero => intro v3 v4 h hw; exact hw.elim
  | succ n ih =>
    intro v3 v4 h hw
    unfold w_M_draws_L19 at hw
    refine r_iload (j := 3) d_M_draws_19 rfl ?_
    refine r_iload_n (j := 1) d_M_draws_21 rfl ?_
    refine r_icmp_gt d_M_draws_22 (fun w9 => ?_) (fun w9 => ?_)
    · replace hw := hw.1 w9
      exact r_return d_M_draws_91.1 rfl (hQ _ hw)
    · replace hw := hw.2 w9
      refine r_sipush d_M_draws_25 ks_137 ?_
      refine r_iload_n (j := 2) d_M_draws_28 rfl ?_
      refine r_imul d_M_draws_29 ?_
      refine r_bipush d_M_draws_30 kb_71 ?_
      refine r_iadd d_M_draws_32 ?_
      refine r_sipush d_M_draws_33 ks_10007 ?_
      refine r_irem d_M_draws_36 (by decide) ?_
      refine r_istore_n (ls2 := [(3, ai (jrem (((137 : Int32) * v3) + (71 : Int32)) (10007 : Int32))), (0, ar v0), (2, ai v2), (4, ai v4)]) d_M_draws_37 (nle rfl) rfl ?_
      refine r_aload_n (j := 1) d_M_draws_38 rfl ?_
      refine r_iload_n (j := 0) d_M_draws_39 rfl ?_
      refine r_aload_n (j := 1) d_M_draws_40 rfl ?_
      obtain ⟨q4, hw⟩ := hw
      refine r_getI d_M_draws_41 ok_12 (nle rfl) (nle rfl) rfl lf_M_247 q4 ?_
      obtain ⟨q5, hw⟩ := hw
      refine r_irem d_M_draws_44 q5 ?_
      refine r_callV (av := [ai (jrem (jrem (((137 : Int32) * v3) + (71 : Int32)) (10007 : Int32)) (gI h v0 18))]) (rest := []) (ci := 12) d_M_draws_45 mk_M_adds ll_M_363 im_M_adds se_M_adds rfl (nle rfl) rfl rfl (nle rfl) q4 (s_M_adds (by omega) hw (fun h6 hw => ?_))
      show aW none m_M_draws (d + 1) 48 [(3, ai (jrem (((137 : Int32) * v3) + (71 : Int32)) (10007 : Int32))), (0, ar v0), (2, ai v2), (4, ai v4)] [] h6 0 0 QQ
      refine r_aload_n (j := 1) d_M_draws_48 rfl ?_
      refine r_dup d_M_draws_49 rfl ?_
      obtain ⟨q7, hw⟩ := hw
      refine r_getI d_M_draws_50 ok_12 (nle rfl) (nle rfl) rfl lf_M_518 q7 ?_
      refine r_aload_n (j := 1) d_M_draws_53 rfl ?_
      refine r_iload_n (j := 0) d_M_draws_54 rfl ?_
      refine r_aload_n (j := 1) d_M_draws_55 rfl ?_
      refine r_getI d_M_draws_56 ok_12 (nle rfl) (nle rfl) rfl lf_M_247 q7 ?_
      obtain ⟨q8, hw⟩ := hw
      refine r_irem d_M_draws_59 q8 ?_
      refine r_callV (av := [ai (jrem (jrem (((137 : Int32) * v3) + (71 : Int32)) (10007 : Int32)) (gI h6 v0 18))]) (rest := [ai (gI h6 v0 67), ar v0]) (ci := 12) d_M_draws_60 mk_M_gainOf ll_M_278 im_M_gainOf se_M_gainOf rfl (nle rfl) rfl rfl (nle rfl) q7 (s_M_gainOf  hw (fun r10 h9 hw => ?_))
      show aW none m_M_draws (d + 1) 63 [(3, ai (jrem (((137 : Int32) * v3) + (71 : Int32)) (10007 : Int32))), (0, ar v0), (2, ai v2), (4, ai v4)] [ai r10, ai (gI h6 v0 67), ar v0] h9 0 0 QQ
      refine r_iadd d_M_draws_63 ?_
      obtain ⟨q11, hw⟩ := hw
      refine r_putI d_M_draws_64 ok_12 (nle rfl) (nle rfl) rfl lf_M_518 rfl q11 ?_
      refine r_aload_n (j := 1) d_M_draws_67 rfl ?_
      refine r_aload_n (j := 1) d_M_draws_68 rfl ?_
      refine r_getI d_M_draws_69 ok_12 (nle rfl) (nle rfl) rfl lf_M_515 q11 ?_
      refine r_aload_n (j := 1) d_M_draws_72 rfl ?_
      refine r_iload (j := 3) d_M_draws_73 rfl ?_
      refine r_iload_n (j := 2) d_M_draws_75 rfl ?_
      refine r_callV (av := [ai v4, ai v2]) (rest := [ai (gI (sI h9 v0 67 ((gI h6 v0 67) + r10)) v0 66), ar v0]) (ci := 12) d_M_draws_76 mk_M_strayNow ll_M_366 im_M_strayNow se_M_strayNow rfl (nle rfl) rfl rfl (nle rfl) q11 (s_M_strayNow (by omega) hw (fun r13 h12 hw => ?_))
      show aW none m_M_draws (d + 1) 79 [(3, ai (jrem (((137 : Int32) * v3) + (71 : Int32)) (10007 : Int32))), (0, ar v0), (2, ai v2), (4, ai v4)] [ai r13, ai (gI (sI h9 v0 67 ((gI h6 v0 67) + r10)) v0 66), ar v0] h12 0 0 QQ
      refine r_callS (av := [ai (gI (sI h9 v0 67 ((gI h6 v0 67) + r10)) v0 66), ai r13]) (rest := [ar v0]) d_M_draws_79 mk_M_greater ll_M_343 st_M_greater rfl rfl (nle rfl) (s_M_greater  hw (fun r15 h14 hw => ?_))
      show aW none m_M_draws (d + 1) 82 [(3, ai (jrem (((137 : Int32) * v3) + (71 : Int32)) (10007 : Int32))), (0, ar v0), (2, ai v2), (4, ai v4)] [ai r15, ar v0] h14 0 0 QQ
      obtain ⟨q16, hw⟩ := hw
      refine r_putI d_M_draws_82 ok_12 (nle rfl) (nle rfl) rfl lf_M_515 rfl q16 ?_
      refine r_iinc (j := 3) (ls2 := [(4, ai (v4 + (1 : Int32))), (3, ai (jrem (((137 : Int32) * v3) + (71 : Int32)) (10007 : Int32))), (0, ar v0), (2, ai v2)]) d_M_draws_85 rfl (congrArg (HAdd.hAdd v4) kc_1) (nle rfl) rfl ?_
      refine r_goto d_M_draws_88 ?_
      refine r_pick (ls2 := [(0, ar v0), (2, ai v2), (3, ai (jrem (((137 : Int32) * v3) + (71 : Int32)) (10007 : Int32))), (4, ai (v4 + (1 : Int32)))]) [2, 3, 1, 0] rfl ?_
      exact ih _ _ _ hw
set_option maxRecDepth 100000 in
set_option maxHeartbeats 4000000 in
theorem s_M_draws {d : Nat} (hd : 2 ≤ d) {v0 : Nat} {v1 : Int32} {v2 : Int32} {h : Hp} {Q : Hp → Prop} {QQ : Option AV → Hp → Prop} (hw : w_M_draws v0 v1 v2 h Q) (hQ : ∀ h9, Q h9 → QQ none h9) : aCall m_M_draws d [ar v0, ai v1, ai v2] h 0 0 QQ := by
  obtain ⟨d, rfl⟩ : ∃ d9, d = d9 + 1 := ⟨d - 1, by omega⟩
  refine aCall_in pl_M_draws (nle rfl) ?_
  show aW none m_M_draws (d + 1) 0 [(0, ar v0), (1, ai v1), (2, ai v2)] [] h 0 0 QQ
  unfold w_M_draws at hw
  refine r_iload_n (j := 1) d_M_draws_0 rfl ?_
  refine r_istore_n (ls2 := [(3, ai v1), (0, ar v0), (1, ai v1), (2, ai v2)]) d_M_draws_1 (nle rfl) rfl ?_
  refine r_aload_n (j := 1) d_M_draws_2 rfl ?_
  obtain ⟨q2, hw⟩ := hw
  refine r_callV (av := []) (rest := []) (ci := 12) d_M_draws_3 mk_M_noSums ll_M_360 im_M_noSums se_M_noSums rfl (nle rfl) rfl rfl (nle rfl) q2 (s_M_noSums  hw (fun h1 hw => ?_))
  show aW none m_M_draws (d + 1) 6 [(3, ai v1), (0, ar v0), (1, ai v1), (2, ai v2)] [] h1 0 0 QQ
  refine r_aload_n (j := 1) d_M_draws_6 rfl ?_
  refine r_iconst d_M_draws_7 kc_0 ?_
  obtain ⟨q3, hw⟩ := hw
  refine r_putI d_M_draws_8 ok_12 (nle rfl) (nle rfl) rfl lf_M_515 rfl q3 ?_
  refine r_aload_n (j := 1) d_M_draws_11 rfl ?_
  refine r_iconst d_M_draws_12 kc_0 ?_
  refine r_putI d_M_draws_13 ok_12 (nle rfl) (nle rfl) rfl lf_M_518 rfl q3 ?_
  refine r_iconst d_M_draws_16 kc_1 ?_
  refine r_istore (ls2 := [(4, ai (1 : Int32)), (3, ai v1), (0, ar v0), (1, ai v1), (2, ai v2)]) d_M_draws_17 (nle rfl) rfl ?_
  obtain ⟨n17, hw⟩ := hw
  refine r_pick (ls2 := [(0, ar v0), (2, ai v2), (3, ai v1), (4, ai (1 : Int32))]) [2, 4, 1, 0] rfl ?_
  exact s_M_draws_L19 hd hQ  n17 _ _ _ hw
set_option maxRecDepth 100000 in
set_option maxHeartbeats 4000000 in
theorem s_M_drawn_L53 {d : Nat} (hd : 3 ≤ d + 1) {Q : Int32 → Hp → Prop} {QQ : Option AV → Hp → Prop} (hQ : ∀ r9 h9, Q r9 h9 → QQ (some (ai r9)) h9) {v0 : Nat} {v3 : Int32} : ∀ (n : Nat) (v4 : Int32) (v5 : Int32) (h : Hp), w_M_drawn_L53 Q  v0 v3 n v4 v5 h → aW none m_M_drawn (d + 1) 53 [(0, ar v0), (3, ai v3), (4, ai v4), (5, ai v5)] [] h 0 0 QQ := by
  intro n
  induction n with
  | zero => intro v4 v5 h hw; exact hw.elim
  | succ n ih =>
    intro v4 v5 h hw
    unfold w_M_drawn_L53 at hw
    refine r_iload (j := 3) d_M_drawn_53 rfl ?_
    refine r_aload_n (j := 0) d_M_drawn_55 rfl ?_
    obtain ⟨q9, hw⟩ := hw
    refine r_getI d_M_drawn_56 ok_12 (nle rfl) (nle rfl) rfl lf_M_244 q9 ?_
    refine r_icmp_ge d_M_drawn_59 (fun w9 => ?_) (fun w9 => ?_)
    · replace hw := hw.1 w9
      refine r_iload_n (j := 1) d_M_drawn_90 rfl ?_
      refine r_if_ne d_M_drawn_91 (fun w9 => ?_) (fun w9 => ?_)
      · replace hw := hw.2 w9
        refine r_iload_n (j := 1) d_M_drawn_101 rfl ?_
        refine r_iconst d_M_drawn_102 kc_1 ?_
        refine r_icmp_ne d_M_drawn_103 (fun w9 => ?_) (fun w9 => ?_)
        · replace hw := hw.2 w9
          refine r_iload (j := 2) d_M_drawn_113 rfl ?_
          exact r_ireturn d_M_drawn_115.1 rfl (hQ _ _ hw)
        · replace hw := hw.1 w9
          refine r_aload_n (j := 0) d_M_drawn_106 rfl ?_
          refine r_getI d_M_drawn_107 ok_12 (nle rfl) (nle rfl) rfl lf_M_518 q9 ?_
          refine r_goto d_M_drawn_110 ?_
          exact r_ireturn d_M_drawn_115.1 rfl (hQ _ _ hw)
      · replace hw := hw.1 w9
        refine r_aload_n (j := 0) d_M_drawn_94 rfl ?_
        refine r_getI d_M_drawn_95 ok_12 (nle rfl) (nle rfl) rfl lf_M_515 q9 ?_
        refine r_goto d_M_drawn_98 ?_
        exact r_ireturn d_M_drawn_115.1 rfl (hQ _ _ hw)
    · replace hw := hw.2 w9
      refine r_iload (j := 2) d_M_drawn_62 rfl ?_
      refine r_aload_n (j := 0) d_M_drawn_64 rfl ?_
      refine r_getR d_M_drawn_65 ok_12 (nle rfl) (nle rfl) rfl lf_M_48 q9 ?_
      refine r_iload (j := 3) d_M_drawn_68 rfl ?_
      obtain ⟨q10, hw⟩ := hw
      obtain ⟨q11, hw⟩ := hw
      refine r_iald d_M_drawn_70 q10 q11 ?_
      refine r_aload_n (j := 0) d_M_drawn_71 rfl ?_
      refine r_iload (j := 3) d_M_drawn_72 rfl ?_
      refine r_callV (av := [ai v5]) (rest := [ai (gI h (gR h v0 32) (ix v5)), ai v4]) (ci := 12) d_M_drawn_74 mk_M_needOf ll_M_281 im_M_needOf se_M_needOf rfl (nle rfl) rfl rfl (nle rfl) q9 (s_M_needOf  hw (fun r13 h12 hw => ?_))
      show aW none m_M_drawn (d + 1) 77 [(0, ar v0), (3, ai v3), (4, ai v4), (5, ai v5)] [ai r13, ai (gI h (gR h v0 32) (ix v5)), ai v4] h12 0 0 QQ
      refine r_isub d_M_drawn_77 ?_
      refine r_callS (av := [ai ((gI h (gR h v0 32) (ix v5)) - r13)]) (rest := [ai v4]) d_M_drawn_78 mk_M_plus ll_M_296 st_M_plus rfl rfl (nle rfl) (s_M_plus  hw (fun r15 h14 hw => ?_))
      show aW none m_M_drawn (d + 1) 81 [(0, ar v0), (3, ai v3), (4, ai v4), (5, ai v5)] [ai r15, ai v4] h14 0 0 QQ
      refine r_iadd d_M_drawn_81 ?_
      refine r_istore (ls2 := [(4, ai (v4 + r15)), (0, ar v0), (3, ai v3), (5, ai v5)]) d_M_drawn_82 (nle rfl) rfl ?_
      refine r_iinc (j := 3) (ls2 := [(5, ai (v5 + (1 : Int32))), (4, ai (v4 + r15)), (0, ar v0), (3, ai v3)]) d_M_drawn_84 rfl (congrArg (HAdd.hAdd v5) kc_1) (nle rfl) rfl ?_
      refine r_goto d_M_drawn_87 ?_
      refine r_pick (ls2 := [(0, ar v0), (3, ai v3), (4, ai (v4 + r15)), (5, ai (v5 + (1 : Int32)))]) [2, 3, 1, 0] rfl ?_
      exact ih _ _ _ hw
set_option maxRecDepth 100000 in
set_option maxHeartbeats 4000000 in
theorem s_M_drawn {d : Nat} (hd : 3 ≤ d) {v0 : Nat} {v1 : Int32} {v2 : Int32} {v3 : Int32} {h : Hp} {Q : Int32 → Hp → Prop} {QQ : Option AV → Hp → Prop} (hw : w_M_drawn v0 v1 v2 v3 h Q) (hQ : ∀ r9 h9, Q r9 h9 → QQ (some (ai r9)) h9) : aCall m_M_drawn d [ar v0, ai v1, ai v2, ai v3] h 0 0 QQ := by
  obtain ⟨d, rfl⟩ : ∃ d9, d = d9 + 1 := ⟨d - 1, by omega⟩
  refine aCall_in pl_M_drawn (nle rfl) ?_
  show aW none m_M_drawn (d + 1) 0 [(0, ar v0), (1, ai v1), (2, ai v2), (3, ai v3)] [] h 0 0 QQ
  unfold w_M_drawn at hw
  refine r_iload_n (j := 1) d_M_drawn_0 rfl ?_
  refine r_iconst d_M_drawn_1 kc_0 ?_
  refine r_sipush d_M_drawn_2 ks_9999 ?_
  refine r_callS (av := [ai v1, ai (0 : Int32), ai (9999 : Int32)]) (rest := []) d_M_drawn_5 mk_M_isIn ll_M_148 st_M_isIn rfl rfl (nle rfl) (s_M_isIn  hw (fun r2 h1 hw => ?_))
  show aW none m_M_drawn (d + 1) 8 [(0, ar v0), (1, ai v1), (2, ai v2), (3, ai v3)] [ai (b2i r2)] h1 0 0 QQ
  refine r_if_eq d_M_drawn_8 (fun w9 => ?_) (fun w9 => ?_)
  · replace hw := hw.1 (b2i_0.mp w9)
    refine r_ldcw d_M_drawn_37 lc_M_277 ?_
    exact r_ireturn d_M_drawn_40.1 rfl (hQ _ _ hw)
  · replace hw := hw.2 (fun g9 => w9 (b2i_0.mpr g9))
    refine r_iload_n (j := 2) d_M_drawn_11 rfl ?_
    refine r_iconst d_M_drawn_12 kc_0 ?_
    refine r_bipush d_M_drawn_13 kb_12 ?_
    refine r_callS (av := [ai v2, ai (0 : Int32), ai (12 : Int32)]) (rest := []) d_M_drawn_15 mk_M_isIn ll_M_148 st_M_isIn rfl rfl (nle rfl) (s_M_isIn  hw (fun r4 h3 hw => ?_))
    show aW none m_M_drawn (d + 1) 18 [(0, ar v0), (1, ai v1), (2, ai v2), (3, ai v3)] [ai (b2i r4)] h3 0 0 QQ
    refine r_if_eq d_M_drawn_18 (fun w9 => ?_) (fun w9 => ?_)
    · replace hw := hw.1 (b2i_0.mp w9)
      refine r_ldcw d_M_drawn_37 lc_M_277 ?_
      exact r_ireturn d_M_drawn_40.1 rfl (hQ _ _ hw)
    · replace hw := hw.2 (fun g9 => w9 (b2i_0.mpr g9))
      refine r_iload_n (j := 3) d_M_drawn_21 rfl ?_
      refine r_iconst d_M_drawn_22 kc_0 ?_
      refine r_iconst d_M_drawn_23 kc_2 ?_
      refine r_callS (av := [ai v3, ai (0 : Int32), ai (2 : Int32)]) (rest := []) d_M_drawn_24 mk_M_isIn ll_M_148 st_M_isIn rfl rfl (nle rfl) (s_M_isIn  hw (fun r6 h5 hw => ?_))
      show aW none m_M_drawn (d + 1) 27 [(0, ar v0), (1, ai v1), (2, ai v2), (3, ai v3)] [ai (b2i r6)] h5 0 0 QQ
      refine r_if_eq d_M_drawn_27 (fun w9 => ?_) (fun w9 => ?_)
      · replace hw := hw.1 (b2i_0.mp w9)
        refine r_ldcw d_M_drawn_37 lc_M_277 ?_
        exact r_ireturn d_M_drawn_40.1 rfl (hQ _ _ hw)
      · replace hw := hw.2 (fun g9 => w9 (b2i_0.mpr g9))
        refine r_aload_n (j := 0) d_M_drawn_30 rfl ?_
        obtain ⟨q7, hw⟩ := hw
        refine r_getI d_M_drawn_31 ok_12 (nle rfl) (nle rfl) rfl lf_M_247 q7 ?_
        refine r_if_ne d_M_drawn_34 (fun w9 => ?_) (fun w9 => ?_)
        · replace hw := hw.2 w9
          refine r_aload_n (j := 0) d_M_drawn_41 rfl ?_
          refine r_iload_n (j := 1) d_M_drawn_42 rfl ?_
          refine r_iload_n (j := 2) d_M_drawn_43 rfl ?_
          refine r_callV (av := [ai v1, ai v2]) (rest := []) (ci := 12) d_M_drawn_44 mk_M_draws ll_M_521 im_M_draws se_M_draws rfl (nle rfl) rfl rfl (nle rfl) q7 (s_M_draws (by omega) hw (fun h8 hw => ?_))
          show aW none m_M_drawn (d + 1) 47 [(0, ar v0), (1, ai v1), (2, ai v2), (3, ai v3)] [] h8 0 0 QQ
          refine r_iconst d_M_drawn_47 kc_0 ?_
          refine r_istore (ls2 := [(4, ai (0 : Int32)), (0, ar v0), (1, ai v1), (2, ai v2), (3, ai v3)]) d_M_drawn_48 (nle rfl) rfl ?_
          refine r_iconst d_M_drawn_50 kc_0 ?_
          refine r_istore (ls2 := [(5, ai (0 : Int32)), (4, ai (0 : Int32)), (0, ar v0), (1, ai v1), (2, ai v2), (3, ai v3)]) d_M_drawn_51 (nle rfl) rfl ?_
          obtain ⟨n16, hw⟩ := hw
          refine r_pick (ls2 := [(0, ar v0), (3, ai v3), (4, ai (0 : Int32)), (5, ai (0 : Int32))]) [2, 5, 1, 0] rfl ?_
          exact s_M_drawn_L53 hd hQ  n16 _ _ _ hw
        · replace hw := hw.1 w9
          refine r_ldcw d_M_drawn_37 lc_M_277 ?_
          exact r_ireturn d_M_drawn_40.1 rfl (hQ _ _ hw)
set_option maxRecDepth 100000 in
set_option maxHeartbeats 4000000 in
theorem s_M_chance_B52 {d : Nat} (hd : 3 ≤ d + 1) {Q : Int32 → Hp → Prop} {QQ : Option AV → Hp → Prop} (hQ : ∀ r9 h9, Q r9 h9 → QQ (some (ai r9)) h9) {k22 : Int32 → Int32 → Hp → Prop} (hk22 : ∀ v3 v4 h9, k22 v3 v4 h9 → aW none m_M_chance (d + 1) 22 [(0, ar v0), (1, ai v1), (2, ai v2), (3, ai v3), (4, ai v4)] [] h9 0 0 QQ) {v0 : Nat} {v1 : Int32} {v2 : Int32} {v4 : Int32} {s0 : Int32} {s1 : Int32} {h : Hp} (hw : w_M_chance_B52 Q k22 v0 v1 v2 v4 s0 s1 h) : aW none m_M_chance (d + 1) 52 [(0, ar v0), (1, ai v1), (2, ai v2), (4, ai v4)] [ai s0, ai s1] h 0 0 QQ := by
  unfold w_M_chance_B52 at hw
  refine r_callS (av := [ai s1]) (rest := [ai s0]) d_M_chance_52 mk_M_truth ll_M_318 st_M_truth rfl rfl (nle rfl) (s_M_truth  hw (fun r8 h7 hw => ?_))
  show aW none m_M_chance (d + 1) 55 [(0, ar v0), (1, ai v1), (2, ai v2), (4, ai v4)] [ai r8, ai s0] h7 0 0 QQ
  refine r_iadd d_M_chance_55 ?_
  refine r_istore_n (ls2 := [(3, ai (s0 + r8)), (0, ar v0), (1, ai v1), (2, ai v2), (4, ai v4)]) d_M_chance_56 (nle rfl) rfl ?_
  refine r_iinc (j := 4) (ls2 := [(4, ai (v4 + (1 : Int32))), (3, ai (s0 + r8)), (0, ar v0), (1, ai v1), (2, ai v2)]) d_M_chance_57 rfl (congrArg (HAdd.hAdd v4) kc_1) (nle rfl) rfl ?_
  refine r_goto d_M_chance_60 ?_
  refine r_pick (ls2 := [(0, ar v0), (1, ai v1), (2, ai v2), (3, ai (s0 + r8)), (4, ai (v4 + (1 : Int32)))]) [2, 3, 4, 1, 0] rfl ?_
  exact hk22 _ _ _ hw
set_option maxRecDepth 100000 in
set_option maxHeartbeats 4000000 in
theorem s_M_chance_L22 {d : Nat} (hd : 3 ≤ d + 1) {Q : Int32 → Hp → Prop} {QQ : Option AV → Hp → Prop} (hQ : ∀ r9 h9, Q r9 h9 → QQ (some (ai r9)) h9) {v0 : Nat} {v1 : Int32} {v2 : Int32} : ∀ (n : Nat) (v3 : Int32) (v4 : Int32) (h : Hp), w_M_chance_L22 Q  v0 v1 v2 n v3 v4 h → aW none m_M_chance (d + 1) 22 [(0, ar v0), (1, ai v1), (2, ai v2), (3, ai v3), (4, ai v4)] [] h 0 0 QQ := by
  intro n
  induction n with
  | zero => intro v3 v4 h hw; exact hw.elim
  | succ n ih =>
    intro v3 v4 h hw
    unfold w_M_chance_L22 at hw
    refine r_iload (j := 4) d_M_chance_22 rfl ?_
    refine r_bipush d_M_chance_24 kb_100 ?_
    refine r_icmp_ge d_M_chance_26 (fun w9 => ?_) (fun w9 => ?_)
    · replace hw := hw.1 w9
      refine r_iload_n (j := 3) d_M_chance_63 rfl ?_
      exact r_ireturn d_M_chance_64.1 rfl (hQ _ _ hw)
    · replace hw := hw.2 w9
      refine r_aload_n (j := 0) d_M_chance_29 rfl ?_
      refine r_iload (j := 4) d_M_chance_30 rfl ?_
      refine r_iload_n (j := 1) d_M_chance_32 rfl ?_
      obtain ⟨q5, hw⟩ := hw
      refine r_callV (av := [ai v4, ai v1]) (rest := []) (ci := 12) d_M_chance_33 mk_M_draws ll_M_521 im_M_draws se_M_draws rfl (nle rfl) rfl rfl (nle rfl) q5 (s_M_draws (by omega) hw (fun h4 hw => ?_))
      show aW none m_M_chance (d + 1) 36 [(0, ar v0), (1, ai v1), (2, ai v2), (3, ai v3), (4, ai v4)] [] h4 0 0 QQ
      refine r_iload_n (j := 3) d_M_chance_36 rfl ?_
      refine r_aload_n (j := 0) d_M_chance_37 rfl ?_
      obtain ⟨q6, hw⟩ := hw
      refine r_getI d_M_chance_38 ok_12 (nle rfl) (nle rfl) rfl lf_M_515 q6 ?_
      refine r_iload_n (j := 2) d_M_chance_41 rfl ?_
      refine r_iload_n (j := 1) d_M_chance_42 rfl ?_
      refine r_imul d_M_chance_43 ?_
      refine r_icmp_gt d_M_chance_44 (fun w9 => ?_) (fun w9 => ?_)
      · replace hw := hw.1 w9
        refine r_iconst d_M_chance_51 kc_0 ?_
        refine r_pick (ls2 := [(0, ar v0), (1, ai v1), (2, ai v2), (4, ai v4)]) [0, 1, 2, 4] rfl ?_
        exact s_M_chance_B52 hd hQ ih hw
      · replace hw := hw.2 w9
        refine r_iconst d_M_chance_47 kc_1 ?_
        refine r_goto d_M_chance_48 ?_
        refine r_pick (ls2 := [(0, ar v0), (1, ai v1), (2, ai v2), (4, ai v4)]) [0, 1, 2, 4] rfl ?_
        exact s_M_chance_B52 hd hQ ih hw
set_option maxRecDepth 100000 in
set_option maxHeartbeats 4000000 in
theorem s_M_chance {d : Nat} (hd : 3 ≤ d) {v0 : Nat} {v1 : Int32} {v2 : Int32} {h : Hp} {Q : Int32 → Hp → Prop} {QQ : Option AV → Hp → Prop} (hw : w_M_chance v0 v1 v2 h Q) (hQ : ∀ r9 h9, Q r9 h9 → QQ (some (ai r9)) h9) : aCall m_M_chance d [ar v0, ai v1, ai v2] h 0 0 QQ := by
  obtain ⟨d, rfl⟩ : ∃ d9, d = d9 + 1 := ⟨d - 1, by omega⟩
  refine aCall_in pl_M_chance (nle rfl) ?_
  show aW none m_M_chance (d + 1) 0 [(0, ar v0), (1, ai v1), (2, ai v2)] [] h 0 0 QQ
  unfold w_M_chance at hw
  refine r_iload_n (j := 1) d_M_chance_0 rfl ?_
  refine r_iload_n (j := 2) d_M_chance_1 rfl ?_
  refine r_callS (av := [ai v1, ai v2]) (rest := []) d_M_chance_2 mk_M_isStrip ll_M_406 st_M_isStrip rfl rfl (nle rfl) (s_M_isStrip (by omega) hw (fun r2 h1 hw => ?_))
  show aW none m_M_chance (d + 1) 5 [(0, ar v0), (1, ai v1), (2, ai v2)] [ai (b2i r2)] h1 0 0 QQ
  refine r_if_eq d_M_chance_5 (fun w9 => ?_) (fun w9 => ?_)
  · replace hw := hw.1 (b2i_0.mp w9)
    refine r_iconst d_M_chance_15 kc_m1 ?_
    exact r_ireturn d_M_chance_16.1 rfl (hQ _ _ hw)
  · replace hw := hw.2 (fun g9 => w9 (b2i_0.mpr g9))
    refine r_aload_n (j := 0) d_M_chance_8 rfl ?_
    obtain ⟨q3, hw⟩ := hw
    refine r_getI d_M_chance_9 ok_12 (nle rfl) (nle rfl) rfl lf_M_247 q3 ?_
    refine r_if_ne d_M_chance_12 (fun w9 => ?_) (fun w9 => ?_)
    · replace hw := hw.2 w9
      refine r_iconst d_M_chance_17 kc_0 ?_
      refine r_istore_n (ls2 := [(3, ai (0 : Int32)), (0, ar v0), (1, ai v1), (2, ai v2)]) d_M_chance_18 (nle rfl) rfl ?_
      refine r_iconst d_M_chance_19 kc_0 ?_
      refine r_istore (ls2 := [(4, ai (0 : Int32)), (3, ai (0 : Int32)), (0, ar v0), (1, ai v1), (2, ai v2)]) d_M_chance_20 (nle rfl) rfl ?_
      obtain ⟨n9, hw⟩ := hw
      refine r_pick (ls2 := [(0, ar v0), (1, ai v1), (2, ai v2), (3, ai (0 : Int32)), (4, ai (0 : Int32))]) [2, 3, 4, 1, 0] rfl ?_
      exact s_M_chance_L22 hd hQ  n9 _ _ _ hw
    · replace hw := hw.1 w9
      refine r_iconst d_M_chance_15 kc_m1 ?_
      exact r_ireturn d_M_chance_16.1 rfl (hQ _ _ hw)
set_option maxRecDepth 100000 in
set_option maxHeartbeats 4000000 in
theorem s_M_isFar {d : Nat} (hd : 1 ≤ d) {v0 : Int32} {h : Hp} {Q : Bool → Hp → Prop} {QQ : Option AV → Hp → Prop} (hw : w_M_isFar v0 h Q) (hQ : ∀ r9 h9, Q r9 h9 → QQ (some (ai (b2i r9))) h9) : aCall m_M_isFar d [ai v0] h 0 0 QQ := by
  obtain ⟨d, rfl⟩ : ∃ d9, d = d9 + 1 := ⟨d - 1, by omega⟩
  refine aCall_in pl_M_isFar (nle rfl) ?_
  show aW none m_M_isFar (d + 1) 0 [(0, ai v0)] [] h 0 0 QQ
  unfold w_M_isFar at hw
  refine r_iload_n (j := 0) d_M_isFar_0 rfl ?_
  refine r_bipush d_M_isFar_1 kb_m80 ?_
  refine r_bipush d_M_isFar_3 kb_80 ?_
  refine r_callS (av := [ai v0, ai (-80 : Int32), ai (80 : Int32)]) (rest := []) d_M_isFar_5 mk_M_isIn ll_M_148 st_M_isIn rfl rfl (nle rfl) (s_M_isIn  hw (fun r2 h1 hw => ?_))
  show aW none m_M_isFar (d + 1) 8 [(0, ai v0)] [ai (b2i r2)] h1 0 0 QQ
  exact r_zreturn d_M_isFar_8.1 rfl (b2i_B _) (hQ _ _ hw)
set_option maxRecDepth 100000 in
set_option maxHeartbeats 4000000 in
theorem s_M_seen {d : Nat} (hd : 2 ≤ d) {v0 : Nat} {v1 : Int32} {v2 : Int32} {v3 : Int32} {v4 : Int32} {v5 : Int32} {h : Hp} {Q : Int32 → Hp → Prop} {QQ : Option AV → Hp → Prop} (hw : w_M_seen v0 v1 v2 v3 v4 v5 h Q) (hQ : ∀ r9 h9, Q r9 h9 → QQ (some (ai r9)) h9) : aCall m_M_seen d [ar v0, ai v1, ai v2, ai v3, ai v4, ai v5] h 0 0 QQ := by
  obtain ⟨d, rfl⟩ : ∃ d9, d = d9 + 1 := ⟨d - 1, by omega⟩
  refine aCall_in pl_M_seen (nle rfl) ?_
  show aW none m_M_seen (d + 1) 0 [(0, ar v0), (1, ai v1), (2, ai v2), (3, ai v3), (4, ai v4), (5, ai v5)] [] h 0 0 QQ
  unfold w_M_seen at hw
  refine r_iload_n (j := 1) d_M_seen_0 rfl ?_
  refine r_iconst d_M_seen_1 kc_0 ?_
  refine r_bipush d_M_seen_2 kb_8 ?_
  refine r_callS (av := [ai v1, ai (0 : Int32), ai (8 : Int32)]) (rest := []) d_M_seen_4 mk_M_isIn ll_M_148 st_M_isIn rfl rfl (nle rfl) (s_M_isIn  hw (fun r2 h1 hw => ?_))
  show aW none m_M_seen (d + 1) 7 [(0, ar v0), (1, ai v1), (2, ai v2), (3, ai v3), (4, ai v4), (5, ai v5)] [ai (b2i r2)] h1 0 0 QQ
  refine r_if_eq d_M_seen_7 (fun w9 => ?_) (fun w9 => ?_)
  · replace hw := hw.1 (b2i_0.mp w9)
    refine r_iconst d_M_seen_41 kc_m1 ?_
    exact r_ireturn d_M_seen_42.1 rfl (hQ _ _ hw)
  · replace hw := hw.2 (fun g9 => w9 (b2i_0.mpr g9))
    refine r_iload_n (j := 2) d_M_seen_10 rfl ?_
    refine r_callS (av := [ai v2]) (rest := []) d_M_seen_11 mk_M_isFar ll_M_524 st_M_isFar rfl rfl (nle rfl) (s_M_isFar (by omega) hw (fun r4 h3 hw => ?_))
    show aW none m_M_seen (d + 1) 14 [(0, ar v0), (1, ai v1), (2, ai v2), (3, ai v3), (4, ai v4), (5, ai v5)] [ai (b2i r4)] h3 0 0 QQ
    refine r_if_eq d_M_seen_14 (fun w9 => ?_) (fun w9 => ?_)
    · replace hw := hw.1 (b2i_0.mp w9)
      refine r_iconst d_M_seen_41 kc_m1 ?_
      exact r_ireturn d_M_seen_42.1 rfl (hQ _ _ hw)
    · replace hw := hw.2 (fun g9 => w9 (b2i_0.mpr g9))
      refine r_iload_n (j := 3) d_M_seen_17 rfl ?_
      refine r_callS (av := [ai v3]) (rest := []) d_M_seen_18 mk_M_isFar ll_M_524 st_M_isFar rfl rfl (nle rfl) (s_M_isFar (by omega) hw (fun r6 h5 hw => ?_))
      show aW none m_M_seen (d + 1) 21 [(0, ar v0), (1, ai v1), (2, ai v2), (3, ai v3), (4, ai v4), (5, ai v5)] [ai (b2i r6)] h5 0 0 QQ
      refine r_if_eq d_M_seen_21 (fun w9 => ?_) (fun w9 => ?_)
      · replace hw := hw.1 (b2i_0.mp w9)
        refine r_iconst d_M_seen_41 kc_m1 ?_
        exact r_ireturn d_M_seen_42.1 rfl (hQ _ _ hw)
      · replace hw := hw.2 (fun g9 => w9 (b2i_0.mpr g9))
        refine r_iload (j := 4) d_M_seen_24 rfl ?_
        refine r_callS (av := [ai v4]) (rest := []) d_M_seen_26 mk_M_isFar ll_M_524 st_M_isFar rfl rfl (nle rfl) (s_M_isFar (by omega) hw (fun r8 h7 hw => ?_))
        show aW none m_M_seen (d + 1) 29 [(0, ar v0), (1, ai v1), (2, ai v2), (3, ai v3), (4, ai v4), (5, ai v5)] [ai (b2i r8)] h7 0 0 QQ
        refine r_if_eq d_M_seen_29 (fun w9 => ?_) (fun w9 => ?_)
        · replace hw := hw.1 (b2i_0.mp w9)
          refine r_iconst d_M_seen_41 kc_m1 ?_
          exact r_ireturn d_M_seen_42.1 rfl (hQ _ _ hw)
        · replace hw := hw.2 (fun g9 => w9 (b2i_0.mpr g9))
          refine r_aload_n (j := 0) d_M_seen_32 rfl ?_
          obtain ⟨q9, hw⟩ := hw
          refine r_getI d_M_seen_33 ok_12 (nle rfl) (nle rfl) rfl lf_M_256 q9 ?_
          refine r_bipush d_M_seen_36 kb_20 ?_
          refine r_icmp_ne d_M_seen_38 (fun w9 => ?_) (fun w9 => ?_)
          · replace hw := hw.2 w9
            refine r_aload_n (j := 0) d_M_seen_43 rfl ?_
            refine r_getR d_M_seen_44 ok_12 (nle rfl) (nle rfl) rfl lf_M_107 q9 ?_
            refine r_aload_n (j := 0) d_M_seen_47 rfl ?_
            refine r_getI d_M_seen_48 ok_12 (nle rfl) (nle rfl) rfl lf_M_256 q9 ?_
            refine r_iload_n (j := 1) d_M_seen_51 rfl ?_
            obtain ⟨q10, hw⟩ := hw
            obtain ⟨q11, hw⟩ := hw
            refine r_iast d_M_seen_52 q10 q11 ?_
            refine r_aload_n (j := 0) d_M_seen_53 rfl ?_
            refine r_getR d_M_seen_54 ok_12 (nle rfl) (nle rfl) rfl lf_M_110 q9 ?_
            refine r_iconst d_M_seen_57 kc_3 ?_
            refine r_aload_n (j := 0) d_M_seen_58 rfl ?_
            refine r_getI d_M_seen_59 ok_12 (nle rfl) (nle rfl) rfl lf_M_256 q9 ?_
            refine r_imul d_M_seen_62 ?_
            refine r_iload_n (j := 2) d_M_seen_63 rfl ?_
            obtain ⟨q12, hw⟩ := hw
            obtain ⟨q13, hw⟩ := hw
            refine r_iast d_M_seen_64 q12 q13 ?_
            refine r_aload_n (j := 0) d_M_seen_65 rfl ?_
            refine r_getR d_M_seen_66 ok_12 (nle rfl) (nle rfl) rfl lf_M_110 q9 ?_
            refine r_iconst d_M_seen_69 kc_3 ?_
            refine r_aload_n (j := 0) d_M_seen_70 rfl ?_
            refine r_getI d_M_seen_71 ok_12 (nle rfl) (nle rfl) rfl lf_M_256 q9 ?_
            refine r_imul d_M_seen_74 ?_
            refine r_iconst d_M_seen_75 kc_1 ?_
            refine r_iadd d_M_seen_76 ?_
            refine r_iload_n (j := 3) d_M_seen_77 rfl ?_
            obtain ⟨q14, hw⟩ := hw
            refine r_iast d_M_seen_78 q12 q14 ?_
            refine r_aload_n (j := 0) d_M_seen_79 rfl ?_
            refine r_getR d_M_seen_80 ok_12 (nle rfl) (nle rfl) rfl lf_M_110 q9 ?_
            refine r_iconst d_M_seen_83 kc_3 ?_
            refine r_aload_n (j := 0) d_M_seen_84 rfl ?_
            refine r_getI d_M_seen_85 ok_12 (nle rfl) (nle rfl) rfl lf_M_256 q9 ?_
            refine r_imul d_M_seen_88 ?_
            refine r_iconst d_M_seen_89 kc_2 ?_
            refine r_iadd d_M_seen_90 ?_
            refine r_iload (j := 4) d_M_seen_91 rfl ?_
            obtain ⟨q15, hw⟩ := hw
            refine r_iast d_M_seen_93 q12 q15 ?_
            refine r_aload_n (j := 0) d_M_seen_94 rfl ?_
            refine r_getR d_M_seen_95 ok_12 (nle rfl) (nle rfl) rfl lf_M_113 q9 ?_
            refine r_aload_n (j := 0) d_M_seen_98 rfl ?_
            refine r_getI d_M_seen_99 ok_12 (nle rfl) (nle rfl) rfl lf_M_256 q9 ?_
            refine r_iload (j := 5) d_M_seen_102 rfl ?_
            refine r_callS (av := [ai v5]) (rest := [ai (gI (sI (sI (sI (sI h7 (gR h7 v0 68) (ix (gI h7 v0 73)) v1) (gR h7 v0 69) (ix ((3 : Int32) * (gI (sI h7 (gR h7 v0 68) (ix (gI h7 v0 73)) v1) v0 73))) v2) (gR h7 v0 69) (ix (((3 : Int32) * (gI (sI (sI h7 (gR h7 v0 68) (ix (gI h7 v0 73)) v1) (gR h7 v0 69) (ix ((3 : Int32) * (gI (sI h7 (gR h7 v0 68) (ix (gI h7 v0 73)) v1) v0 73))) v2) v0 73)) + (1 : Int32))) v3) (gR h7 v0 69) (ix (((3 : Int32) * (gI (sI (sI (sI h7 (gR h7 v0 68) (ix (gI h7 v0 73)) v1) (gR h7 v0 69) (ix ((3 : Int32) * (gI (sI h7 (gR h7 v0 68) (ix (gI h7 v0 73)) v1) v0 73))) v2) (gR h7 v0 69) (ix (((3 : Int32) * (gI (sI (sI h7 (gR h7 v0 68) (ix (gI h7 v0 73)) v1) (gR h7 v0 69) (ix ((3 : Int32) * (gI (sI h7 (gR h7 v0 68) (ix (gI h7 v0 73)) v1) v0 73))) v2) v0 73)) + (1 : Int32))) v3) v0 73)) + (2 : Int32))) v4) v0 73), ar (gR h7 v0 70)]) d_M_seen_104 mk_M_truth ll_M_318 st_M_truth rfl rfl (nle rfl) (s_M_truth  hw (fun r17 h16 hw => ?_))
            show aW none m_M_seen (d + 1) 107 [(0, ar v0), (1, ai v1), (2, ai v2), (3, ai v3), (4, ai v4), (5, ai v5)] [ai r17, ai (gI (sI (sI (sI (sI h7 (gR h7 v0 68) (ix (gI h7 v0 73)) v1) (gR h7 v0 69) (ix ((3 : Int32) * (gI (sI h7 (gR h7 v0 68) (ix (gI h7 v0 73)) v1) v0 73))) v2) (gR h7 v0 69) (ix (((3 : Int32) * (gI (sI (sI h7 (gR h7 v0 68) (ix (gI h7 v0 73)) v1) (gR h7 v0 69) (ix ((3 : Int32) * (gI (sI h7 (gR h7 v0 68) (ix (gI h7 v0 73)) v1) v0 73))) v2) v0 73)) + (1 : Int32))) v3) (gR h7 v0 69) (ix (((3 : Int32) * (gI (sI (sI (sI h7 (gR h7 v0 68) (ix (gI h7 v0 73)) v1) (gR h7 v0 69) (ix ((3 : Int32) * (gI (sI h7 (gR h7 v0 68) (ix (gI h7 v0 73)) v1) v0 73))) v2) (gR h7 v0 69) (ix (((3 : Int32) * (gI (sI (sI h7 (gR h7 v0 68) (ix (gI h7 v0 73)) v1) (gR h7 v0 69) (ix ((3 : Int32) * (gI (sI h7 (gR h7 v0 68) (ix (gI h7 v0 73)) v1) v0 73))) v2) v0 73)) + (1 : Int32))) v3) v0 73)) + (2 : Int32))) v4) v0 73), ar (gR h7 v0 70)] h16 0 0 QQ
            obtain ⟨q18, hw⟩ := hw
            obtain ⟨q19, hw⟩ := hw
            refine r_iast d_M_seen_107 q18 q19 ?_
            refine r_aload_n (j := 0) d_M_seen_108 rfl ?_
            obtain ⟨q20, hw⟩ := hw
            refine r_getR d_M_seen_109 ok_12 (nle rfl) (nle rfl) rfl lf_M_116 q20 ?_
            refine r_aload_n (j := 0) d_M_seen_112 rfl ?_
            refine r_getI d_M_seen_113 ok_12 (nle rfl) (nle rfl) rfl lf_M_256 q20 ?_
            refine r_aload_n (j := 0) d_M_seen_116 rfl ?_
            refine r_getI d_M_seen_117 ok_12 (nle rfl) (nle rfl) rfl lf_M_527 q20 ?_
            obtain ⟨q21, hw⟩ := hw
            obtain ⟨q22, hw⟩ := hw
            refine r_iast d_M_seen_120 q21 q22 ?_
            refine r_aload_n (j := 0) d_M_seen_121 rfl ?_
            refine r_getR d_M_seen_122 ok_12 (nle rfl) (nle rfl) rfl lf_M_119 q20 ?_
            refine r_aload_n (j := 0) d_M_seen_125 rfl ?_
            refine r_getI d_M_seen_126 ok_12 (nle rfl) (nle rfl) rfl lf_M_256 q20 ?_
            refine r_iconst d_M_seen_129 kc_m1 ?_
            obtain ⟨q23, hw⟩ := hw
            obtain ⟨q24, hw⟩ := hw
            refine r_iast d_M_seen_130 q23 q24 ?_
            refine r_aload_n (j := 0) d_M_seen_131 rfl ?_
            refine r_dup d_M_seen_132 rfl ?_
            refine r_getI d_M_seen_133 ok_12 (nle rfl) (nle rfl) rfl lf_M_256 q20 ?_
            refine r_iconst d_M_seen_136 kc_1 ?_
            refine r_iadd d_M_seen_137 ?_
            refine r_putI d_M_seen_138 ok_12 (nle rfl) (nle rfl) rfl lf_M_256 rfl q20 ?_
            refine r_aload_n (j := 0) d_M_seen_141 rfl ?_
            refine r_getI d_M_seen_142 ok_12 (nle rfl) (nle rfl) rfl lf_M_256 q20 ?_
            refine r_iconst d_M_seen_145 kc_1 ?_
            refine r_isub d_M_seen_146 ?_
            exact r_ireturn d_M_seen_147.1 rfl (hQ _ _ hw)
          · replace hw := hw.1 w9
            refine r_iconst d_M_seen_41 kc_m1 ?_
            exact r_ireturn d_M_seen_42.1 rfl (hQ _ _ hw)
set_option maxRecDepth 100000 in
set_option maxHeartbeats 4000000 in
theorem s_M_untell {d : Nat} (hd : 1 ≤ d) {v0 : Nat} {v1 : Int32} {h : Hp} {Q : Bool → Hp → Prop} {QQ : Option AV → Hp → Prop} (hw : w_M_untell v0 v1 h Q) (hQ : ∀ r9 h9, Q r9 h9 → QQ (some (ai (b2i r9))) h9) : aCall m_M_untell d [ar v0, ai v1] h 0 0 QQ := by
  obtain ⟨d, rfl⟩ : ∃ d9, d = d9 + 1 := ⟨d - 1, by omega⟩
  refine aCall_in pl_M_untell (nle rfl) ?_
  show aW none m_M_untell (d + 1) 0 [(0, ar v0), (1, ai v1)] [] h 0 0 QQ
  unfold w_M_untell at hw
  refine r_iload_n (j := 1) d_M_untell_0 rfl ?_
  refine r_iconst d_M_untell_1 kc_0 ?_
  refine r_aload_n (j := 0) d_M_untell_2 rfl ?_
  obtain ⟨q1, hw⟩ := hw
  refine r_getI d_M_untell_3 ok_12 (nle rfl) (nle rfl) rfl lf_M_256 q1 ?_
  refine r_iconst d_M_untell_6 kc_1 ?_
  refine r_isub d_M_untell_7 ?_
  refine r_callS (av := [ai v1, ai (0 : Int32), ai ((gI h v0 73) - (1 : Int32))]) (rest := []) d_M_untell_8 mk_M_isIn ll_M_148 st_M_isIn rfl rfl (nle rfl) (s_M_isIn  hw (fun r3 h2 hw => ?_))
  show aW none m_M_untell (d + 1) 11 [(0, ar v0), (1, ai v1)] [ai (b2i r3)] h2 0 0 QQ
  refine r_if_eq d_M_untell_11 (fun w9 => ?_) (fun w9 => ?_)
  · replace hw := hw.1 (b2i_0.mp w9)
    refine r_iconst d_M_untell_24 kc_0 ?_
    exact r_zreturn d_M_untell_25.1 rfl (Or.inl rfl) (hQ _ _ hw)
  · replace hw := hw.2 (fun g9 => w9 (b2i_0.mpr g9))
    refine r_aload_n (j := 0) d_M_untell_14 rfl ?_
    obtain ⟨q4, hw⟩ := hw
    refine r_getR d_M_untell_15 ok_12 (nle rfl) (nle rfl) rfl lf_M_119 q4 ?_
    refine r_iload_n (j := 1) d_M_untell_18 rfl ?_
    obtain ⟨q5, hw⟩ := hw
    obtain ⟨q6, hw⟩ := hw
    refine r_iald d_M_untell_19 q5 q6 ?_
    refine r_iconst d_M_untell_20 kc_m1 ?_
    refine r_icmp_eq d_M_untell_21 (fun w9 => ?_) (fun w9 => ?_)
    · replace hw := hw.1 w9
      refine r_aload_n (j := 0) d_M_untell_26 rfl ?_
      refine r_getR d_M_untell_27 ok_12 (nle rfl) (nle rfl) rfl lf_M_119 q4 ?_
      refine r_iload_n (j := 1) d_M_untell_30 rfl ?_
      refine r_aload_n (j := 0) d_M_untell_31 rfl ?_
      refine r_getI d_M_untell_32 ok_12 (nle rfl) (nle rfl) rfl lf_M_527 q4 ?_
      refine r_iast d_M_untell_35 q5 q6 ?_
      refine r_iconst d_M_untell_36 kc_1 ?_
      exact r_zreturn d_M_untell_37.1 rfl (Or.inr rfl) (hQ _ _ hw)
    · replace hw := hw.2 w9
      refine r_iconst d_M_untell_24 kc_0 ?_
      exact r_zreturn d_M_untell_25.1 rfl (Or.inl rfl) (hQ _ _ hw)
set_option maxRecDepth 100000 in
set_option maxHeartbeats 4000000 in
theorem s_M_later {d : Nat} (hd : 1 ≤ d) {v0 : Nat} {v1 : Int32} {h : Hp} {Q : Int32 → Hp → Prop} {QQ : Option AV → Hp → Prop} (hw : w_M_later v0 v1 h Q) (hQ : ∀ r9 h9, Q r9 h9 → QQ (some (ai r9)) h9) : aCall m_M_later d [ar v0, ai v1] h 0 0 QQ := by
  obtain ⟨d, rfl⟩ : ∃ d9, d = d9 + 1 := ⟨d - 1, by omega⟩
  refine aCall_in pl_M_later (nle rfl) ?_
  show aW none m_M_later (d + 1) 0 [(0, ar v0), (1, ai v1)] [] h 0 0 QQ
  unfold w_M_later at hw
  refine r_iload_n (j := 1) d_M_later_0 rfl ?_
  refine r_iconst d_M_later_1 kc_0 ?_
  refine r_sipush d_M_later_2 ks_1000 ?_
  refine r_callS (av := [ai v1, ai (0 : Int32), ai (1000 : Int32)]) (rest := []) d_M_later_5 mk_M_isIn ll_M_148 st_M_isIn rfl rfl (nle rfl) (s_M_isIn  hw (fun r2 h1 hw => ?_))
  show aW none m_M_later (d + 1) 8 [(0, ar v0), (1, ai v1)] [ai (b2i r2)] h1 0 0 QQ
  refine r_if_eq d_M_later_8 (fun w9 => ?_) (fun w9 => ?_)
  · replace hw := hw.1 (b2i_0.mp w9)
    refine r_iconst d_M_later_23 kc_m1 ?_
    exact r_ireturn d_M_later_24.1 rfl (hQ _ _ hw)
  · replace hw := hw.2 (fun g9 => w9 (b2i_0.mpr g9))
    refine r_aload_n (j := 0) d_M_later_11 rfl ?_
    obtain ⟨q3, hw⟩ := hw
    refine r_getI d_M_later_12 ok_12 (nle rfl) (nle rfl) rfl lf_M_527 q3 ?_
    refine r_iload_n (j := 1) d_M_later_15 rfl ?_
    refine r_iadd d_M_later_16 ?_
    refine r_ldcw d_M_later_17 lc_M_530 ?_
    refine r_icmp_le d_M_later_20 (fun w9 => ?_) (fun w9 => ?_)
    · replace hw := hw.1 w9
      refine r_aload_n (j := 0) d_M_later_25 rfl ?_
      refine r_dup d_M_later_26 rfl ?_
      refine r_getI d_M_later_27 ok_12 (nle rfl) (nle rfl) rfl lf_M_527 q3 ?_
      refine r_iload_n (j := 1) d_M_later_30 rfl ?_
      refine r_iadd d_M_later_31 ?_
      refine r_putI d_M_later_32 ok_12 (nle rfl) (nle rfl) rfl lf_M_527 rfl q3 ?_
      refine r_aload_n (j := 0) d_M_later_35 rfl ?_
      refine r_getI d_M_later_36 ok_12 (nle rfl) (nle rfl) rfl lf_M_527 q3 ?_
      exact r_ireturn d_M_later_39.1 rfl (hQ _ _ hw)
    · replace hw := hw.2 w9
      refine r_iconst d_M_later_23 kc_m1 ?_
      exact r_ireturn d_M_later_24.1 rfl (hQ _ _ hw)
set_option maxRecDepth 100000 in
set_option maxHeartbeats 4000000 in
theorem s_M_doesCount {d : Nat} {v0 : Nat} {v1 : Int32} {v2 : Int32} {h : Hp} {Q : Bool → Hp → Prop} {QQ : Option AV → Hp → Prop} (hw : w_M_doesCount v0 v1 v2 h Q) (hQ : ∀ r9 h9, Q r9 h9 → QQ (some (ai (b2i r9))) h9) : aCall m_M_doesCount d [ar v0, ai v1, ai v2] h 0 0 QQ := by
  refine aCall_in pl_M_doesCount (nle rfl) ?_
  show aW none m_M_doesCount d 0 [(0, ar v0), (1, ai v1), (2, ai v2)] [] h 0 0 QQ
  unfold w_M_doesCount at hw
  refine r_aload_n (j := 0) d_M_doesCount_0 rfl ?_
  obtain ⟨q1, hw⟩ := hw
  refine r_getR d_M_doesCount_1 ok_12 (nle rfl) (nle rfl) rfl lf_M_116 q1 ?_
  refine r_iload_n (j := 1) d_M_doesCount_4 rfl ?_
  obtain ⟨q2, hw⟩ := hw
  obtain ⟨q3, hw⟩ := hw
  refine r_iald d_M_doesCount_5 q2 q3 ?_
  refine r_iload_n (j := 2) d_M_doesCount_6 rfl ?_
  refine r_icmp_gt d_M_doesCount_7 (fun w9 => ?_) (fun w9 => ?_)
  · replace hw := hw.1 w9
    refine r_iconst d_M_doesCount_34 kc_0 ?_
    exact r_zreturn d_M_doesCount_35.1 rfl (Or.inl rfl) (hQ _ _ hw)
  · replace hw := hw.2 w9
    refine r_aload_n (j := 0) d_M_doesCount_10 rfl ?_
    refine r_getR d_M_doesCount_11 ok_12 (nle rfl) (nle rfl) rfl lf_M_119 q1 ?_
    refine r_iload_n (j := 1) d_M_doesCount_14 rfl ?_
    obtain ⟨q4, hw⟩ := hw
    obtain ⟨q5, hw⟩ := hw
    refine r_iald d_M_doesCount_15 q4 q5 ?_
    refine r_iconst d_M_doesCount_16 kc_m1 ?_
    refine r_icmp_eq d_M_doesCount_17 (fun w9 => ?_) (fun w9 => ?_)
    · replace hw := hw.1 w9
      refine r_iconst d_M_doesCount_30 kc_1 ?_
      refine r_goto d_M_doesCount_31 ?_
      exact r_zreturn d_M_doesCount_35.1 rfl (Or.inr rfl) (hQ _ _ hw)
    · replace hw := hw.2 w9
      refine r_aload_n (j := 0) d_M_doesCount_20 rfl ?_
      refine r_getR d_M_doesCount_21 ok_12 (nle rfl) (nle rfl) rfl lf_M_119 q1 ?_
      refine r_iload_n (j := 1) d_M_doesCount_24 rfl ?_
      refine r_iald d_M_doesCount_25 q4 q5 ?_
      refine r_iload_n (j := 2) d_M_doesCount_26 rfl ?_
      refine r_icmp_le d_M_doesCount_27 (fun w9 => ?_) (fun w9 => ?_)
      · replace hw := hw.1 w9
        refine r_iconst d_M_doesCount_34 kc_0 ?_
        exact r_zreturn d_M_doesCount_35.1 rfl (Or.inl rfl) (hQ _ _ hw)
      · replace hw := hw.2 w9
        refine r_iconst d_M_doesCount_30 kc_1 ?_
        refine r_goto d_M_doesCount_31 ?_
        exact r_zreturn d_M_doesCount_35.1 rfl (Or.inr rfl) (hQ _ _ hw)
set_option maxRecDepth 100000 in
set_option maxHeartbeats 4000000 in
theorem s_M_toldSum_L5 {d : Nat} {Q : Int32 → Hp → Prop} {QQ : Option AV → Hp → Prop} (hQ : ∀ r9 h9, Q r9 h9 → QQ (some (ai r9)) h9) {v0 : Nat} {v1 : Int32} {v2 : Int32} : ∀ (n : Nat) (v3 : Int32) (v4 : Int32) (h : Hp), w_M_toldSum_L5 Q  v0 v1 v2 n v3 v4 h → aW none m_M_toldSum d 5 [(0, ar v0), (1, ai v1), (2, ai v2), (3, ai v3), (4, ai v4)] [] h 0 0 QQ := by
  intro n
  induction n with
  | zero => intro v3 v4 h hw; exact hw.elim
  | succ n ih =>
    intro v3 v4 h hw
    unfold w_M_toldSum_L5 at hw
    refine r_iload (j := 4) d_M_toldSum_5 rfl ?_
    refine r_aload_n (j := 0) d_M_toldSum_7 rfl ?_
    obtain ⟨q1, hw⟩ := hw
    refine r_getI d_M_toldSum_8 ok_12 (nle rfl) (nle rfl) rfl lf_M_247 q1 ?_
    refine r_icmp_ge d_M_toldSum_11 (fun w9 => ?_) (fun w9 => ?_)
    · replace hw := hw.1 w9
      refine r_iload_n (j := 3) d_M_toldSum_63 rfl ?_
      exact r_ireturn d_M_toldSum_64.1 rfl (hQ _ _ hw)
    · replace hw := hw.2 w9
      refine r_iload_n (j := 3) d_M_toldSum_14 rfl ?_
      refine r_aload_n (j := 0) d_M_toldSum_15 rfl ?_
      refine r_getR d_M_toldSum_16 ok_12 (nle rfl) (nle rfl) rfl lf_M_36 q1 ?_
      refine r_iload (j := 4) d_M_toldSum_19 rfl ?_
      obtain ⟨q2, hw⟩ := hw
      obtain ⟨q3, hw⟩ := hw
      refine r_iald d_M_toldSum_21 q2 q3 ?_
      refine r_iload (j := 4) d_M_toldSum_22 rfl ?_
      refine r_iload_n (j := 2) d_M_toldSum_24 rfl ?_
      refine r_icmp_ne d_M_toldSum_25 (fun w9 => ?_) (fun w9 => ?_)
      · replace hw := hw.2 w9
        refine r_aload_n (j := 0) d_M_toldSum_43 rfl ?_
        refine r_getR d_M_toldSum_44 ok_12 (nle rfl) (nle rfl) rfl lf_M_23 q1 ?_
        refine r_iconst d_M_toldSum_47 kc_3 ?_
        refine r_iload (j := 4) d_M_toldSum_48 rfl ?_
        refine r_imul d_M_toldSum_50 ?_
        refine r_iload_n (j := 1) d_M_toldSum_51 rfl ?_
        refine r_iadd d_M_toldSum_52 ?_
        obtain ⟨q4, hw⟩ := hw
        obtain ⟨q5, hw⟩ := hw
        refine r_iald d_M_toldSum_53 q4 q5 ?_
        refine r_imul d_M_toldSum_54 ?_
        refine r_iadd d_M_toldSum_55 ?_
        refine r_istore_n (ls2 := [(3, ai (v3 + ((gI h (gR h v0 26) (ix v4)) * (gI h (gR h v0 13) (ix (((3 : Int32) * v4) + v1)))))), (0, ar v0), (1, ai v1), (2, ai v2), (4, ai v4)]) d_M_toldSum_56 (nle rfl) rfl ?_
        refine r_iinc (j := 4) (ls2 := [(4, ai (v4 + (1 : Int32))), (3, ai (v3 + ((gI h (gR h v0 26) (ix v4)) * (gI h (gR h v0 13) (ix (((3 : Int32) * v4) + v1)))))), (0, ar v0), (1, ai v1), (2, ai v2)]) d_M_toldSum_57 rfl (congrArg (HAdd.hAdd v4) kc_1) (nle rfl) rfl ?_
        refine r_goto d_M_toldSum_60 ?_
        refine r_pick (ls2 := [(0, ar v0), (1, ai v1), (2, ai v2), (3, ai (v3 + ((gI h (gR h v0 26) (ix v4)) * (gI h (gR h v0 13) (ix (((3 : Int32) * v4) + v1)))))), (4, ai (v4 + (1 : Int32)))]) [2, 3, 4, 1, 0] rfl ?_
        exact ih _ _ _ hw
      · replace hw := hw.1 w9
        refine r_aload_n (j := 0) d_M_toldSum_28 rfl ?_
        refine r_getR d_M_toldSum_29 ok_12 (nle rfl) (nle rfl) rfl lf_M_23 q1 ?_
        refine r_iconst d_M_toldSum_32 kc_3 ?_
        refine r_iload (j := 4) d_M_toldSum_33 rfl ?_
        refine r_imul d_M_toldSum_35 ?_
        refine r_iload_n (j := 1) d_M_toldSum_36 rfl ?_
        refine r_iadd d_M_toldSum_37 ?_
        obtain ⟨q6, hw⟩ := hw
        obtain ⟨q7, hw⟩ := hw
        refine r_iald d_M_toldSum_38 q6 q7 ?_
        refine r_ineg d_M_toldSum_39 ?_
        refine r_goto d_M_toldSum_40 ?_
        refine r_imul d_M_toldSum_54 ?_
        refine r_iadd d_M_toldSum_55 ?_
        refine r_istore_n (ls2 := [(3, ai (v3 + ((gI h (gR h v0 26) (ix v4)) * (-(gI h (gR h v0 13) (ix (((3 : Int32) * v4) + v1))))))), (0, ar v0), (1, ai v1), (2, ai v2), (4, ai v4)]) d_M_toldSum_56 (nle rfl) rfl ?_
        refine r_iinc (j := 4) (ls2 := [(4, ai (v4 + (1 : Int32))), (3, ai (v3 + ((gI h (gR h v0 26) (ix v4)) * (-(gI h (gR h v0 13) (ix (((3 : Int32) * v4) + v1))))))), (0, ar v0), (1, ai v1), (2, ai v2)]) d_M_toldSum_57 rfl (congrArg (HAdd.hAdd v4) kc_1) (nle rfl) rfl ?_
        refine r_goto d_M_toldSum_60 ?_
        refine r_pick (ls2 := [(0, ar v0), (1, ai v1), (2, ai v2), (3, ai (v3 + ((gI h (gR h v0 26) (ix v4)) * (-(gI h (gR h v0 13) (ix (((3 : Int32) * v4) + v1))))))), (4, ai (v4 + (1 : Int32)))]) [2, 3, 4, 1, 0] rfl ?_
        exact ih _ _ _ hw
set_option maxRecDepth 100000 in
set_option maxHeartbeats 4000000 in
theorem s_M_toldSum {d : Nat} {v0 : Nat} {v1 : Int32} {v2 : Int32} {h : Hp} {Q : Int32 → Hp → Prop} {QQ : Option AV → Hp → Prop} (hw : w_M_toldSum v0 v1 v2 h Q) (hQ : ∀ r9 h9, Q r9 h9 → QQ (some (ai r9)) h9) : aCall m_M_toldSum d [ar v0, ai v1, ai v2] h 0 0 QQ := by
  refine aCall_in pl_M_toldSum (nle rfl) ?_
  show aW none m_M_toldSum d 0 [(0, ar v0), (1, ai v1), (2, ai v2)] [] h 0 0 QQ
  unfold w_M_toldSum at hw
  refine r_iconst d_M_toldSum_0 kc_0 ?_
  refine r_istore_n (ls2 := [(3, ai (0 : Int32)), (0, ar v0), (1, ai v1), (2, ai v2)]) d_M_toldSum_1 (nle rfl) rfl ?_
  refine r_iconst d_M_toldSum_2 kc_0 ?_
  refine r_istore (ls2 := [(4, ai (0 : Int32)), (3, ai (0 : Int32)), (0, ar v0), (1, ai v1), (2, ai v2)]) d_M_toldSum_3 (nle rfl) rfl ?_
  obtain ⟨n8, hw⟩ := hw
  refine r_pick (ls2 := [(0, ar v0), (1, ai v1), (2, ai v2), (3, ai (0 : Int32)), (4, ai (0 : Int32))]) [2, 3, 4, 1, 0] rfl ?_
  exact s_M_toldSum_L5 hQ  n8 _ _ _ hw
set_option maxRecDepth 100000 in
set_option maxHeartbeats 4000000 in
theorem s_M_isSum_L5 {d : Nat} (hd : 1 ≤ d + 1) {Q : Bool → Hp → Prop} {QQ : Option AV → Hp → Prop} (hQ : ∀ r9 h9, Q r9 h9 → QQ (some (ai (b2i r9))) h9) {v0 : Nat} {v1 : Int32} {v2 : Int32} : ∀ (n : Nat) (v3 : Int32) (v4 : Int32) (h : Hp), w_M_isSum_L5 Q  v0 v1 v2 n v3 v4 h → aW none m_M_isSum (d + 1) 5 [(0, ar v0), (1, ai v1), (2, ai v2), (3, ai v3), (4, ai v4)] [] h 0 0 QQ := by
  intro n
  induction n with
  | zero => intro v3 v4 h hw; exact hw.elim
  | succ n ih =>
    intro v3 v4 h hw
    unfold w_M_isSum_L5 at hw
    refine r_iload (j := 4) d_M_isSum_5 rfl ?_
    refine r_aload_n (j := 0) d_M_isSum_7 rfl ?_
    obtain ⟨q1, hw⟩ := hw
    refine r_getI d_M_isSum_8 ok_12 (nle rfl) (nle rfl) rfl lf_M_244 q1 ?_
    refine r_icmp_ge d_M_isSum_11 (fun w9 => ?_) (fun w9 => ?_)
    · replace hw := hw.1 w9
      refine r_iload_n (j := 3) d_M_isSum_51 rfl ?_
      obtain ⟨q2, hw⟩ := hw
      exact r_zreturn d_M_isSum_52.1 rfl q2 (by have g9 := hQ _ _ hw; rwa [b2i_i q2] at g9)
    · replace hw := hw.2 w9
      refine r_iload_n (j := 3) d_M_isSum_14 rfl ?_
      refine r_if_eq d_M_isSum_15 (fun w9 => ?_) (fun w9 => ?_)
      · replace hw := hw.1 w9
        refine r_iconst d_M_isSum_43 kc_0 ?_
        refine r_istore_n (ls2 := [(3, ai (0 : Int32)), (0, ar v0), (1, ai v1), (2, ai v2), (4, ai v4)]) d_M_isSum_44 (nle rfl) rfl ?_
        refine r_iinc (j := 4) (ls2 := [(4, ai (v4 + (1 : Int32))), (3, ai (0 : Int32)), (0, ar v0), (1, ai v1), (2, ai v2)]) d_M_isSum_45 rfl (congrArg (HAdd.hAdd v4) kc_1) (nle rfl) rfl ?_
        refine r_goto d_M_isSum_48 ?_
        refine r_pick (ls2 := [(0, ar v0), (1, ai v1), (2, ai v2), (3, ai (0 : Int32)), (4, ai (v4 + (1 : Int32)))]) [2, 3, 4, 1, 0] rfl ?_
        exact ih _ _ _ hw
      · replace hw := hw.2 w9
        refine r_aload_n (j := 0) d_M_isSum_18 rfl ?_
        refine r_iload (j := 4) d_M_isSum_19 rfl ?_
        refine r_iload_n (j := 2) d_M_isSum_21 rfl ?_
        refine r_callV (av := [ai v4, ai v2]) (rest := []) (ci := 12) d_M_isSum_22 mk_M_toldSum ll_M_531 im_M_toldSum se_M_toldSum rfl (nle rfl) rfl rfl (nle rfl) q1 (s_M_toldSum  hw (fun r4 h3 hw => ?_))
        show aW none m_M_isSum (d + 1) 25 [(0, ar v0), (1, ai v1), (2, ai v2), (3, ai v3), (4, ai v4)] [ai r4] h3 0 0 QQ
        refine r_aload_n (j := 0) d_M_isSum_25 rfl ?_
        obtain ⟨q5, hw⟩ := hw
        refine r_getR d_M_isSum_26 ok_12 (nle rfl) (nle rfl) rfl lf_M_110 q5 ?_
        refine r_iconst d_M_isSum_29 kc_3 ?_
        refine r_iload_n (j := 1) d_M_isSum_30 rfl ?_
        refine r_imul d_M_isSum_31 ?_
        refine r_iload (j := 4) d_M_isSum_32 rfl ?_
        refine r_iadd d_M_isSum_34 ?_
        obtain ⟨q6, hw⟩ := hw
        obtain ⟨q7, hw⟩ := hw
        refine r_iald d_M_isSum_35 q6 q7 ?_
        refine r_icmp_ne d_M_isSum_36 (fun w9 => ?_) (fun w9 => ?_)
        · replace hw := hw.2 w9
          refine r_iconst d_M_isSum_43 kc_0 ?_
          refine r_istore_n (ls2 := [(3, ai (0 : Int32)), (0, ar v0), (1, ai v1), (2, ai v2), (4, ai v4)]) d_M_isSum_44 (nle rfl) rfl ?_
          refine r_iinc (j := 4) (ls2 := [(4, ai (v4 + (1 : Int32))), (3, ai (0 : Int32)), (0, ar v0), (1, ai v1), (2, ai v2)]) d_M_isSum_45 rfl (congrArg (HAdd.hAdd v4) kc_1) (nle rfl) rfl ?_
          refine r_goto d_M_isSum_48 ?_
          refine r_pick (ls2 := [(0, ar v0), (1, ai v1), (2, ai v2), (3, ai (0 : Int32)), (4, ai (v4 + (1 : Int32)))]) [2, 3, 4, 1, 0] rfl ?_
          exact ih _ _ _ hw
        · replace hw := hw.1 w9
          refine r_iconst d_M_isSum_39 kc_1 ?_
          refine r_goto d_M_isSum_40 ?_
          refine r_istore_n (ls2 := [(3, ai (1 : Int32)), (0, ar v0), (1, ai v1), (2, ai v2), (4, ai v4)]) d_M_isSum_44 (nle rfl) rfl ?_
          refine r_iinc (j := 4) (ls2 := [(4, ai (v4 + (1 : Int32))), (3, ai (1 : Int32)), (0, ar v0), (1, ai v1), (2, ai v2)]) d_M_isSum_45 rfl (congrArg (HAdd.hAdd v4) kc_1) (nle rfl) rfl ?_
          refine r_goto d_M_isSum_48 ?_
          refine r_pick (ls2 := [(0, ar v0), (1, ai v1), (2, ai v2), (3, ai (1 : Int32)), (4, ai (v4 + (1 : Int32)))]) [2, 3, 4, 1, 0] rfl ?_
          exact ih _ _ _ hw
set_option maxRecDepth 100000 in
set_option maxHeartbeats 4000000 in
theorem s_M_isSum {d : Nat} (hd : 1 ≤ d) {v0 : Nat} {v1 : Int32} {v2 : Int32} {h : Hp} {Q : Bool → Hp → Prop} {QQ : Option AV → Hp → Prop} (hw : w_M_isSum v0 v1 v2 h Q) (hQ : ∀ r9 h9, Q r9 h9 → QQ (some (ai (b2i r9))) h9) : aCall m_M_isSum d [ar v0, ai v1, ai v2] h 0 0 QQ := by
  obtain ⟨d, rfl⟩ : ∃ d9, d = d9 + 1 := ⟨d - 1, by omega⟩
  refine aCall_in pl_M_isSum (nle rfl) ?_
  show aW none m_M_isSum (d + 1) 0 [(0, ar v0), (1, ai v1), (2, ai v2)] [] h 0 0 QQ
  unfold w_M_isSum at hw
  refine r_iconst d_M_isSum_0 kc_1 ?_
  refine r_istore_n (ls2 := [(3, ai (1 : Int32)), (0, ar v0), (1, ai v1), (2, ai v2)]) d_M_isSum_1 (nle rfl) rfl ?_
  refine r_iconst d_M_isSum_2 kc_0 ?_
  refine r_istore (ls2 := [(4, ai (0 : Int32)), (3, ai (1 : Int32)), (0, ar v0), (1, ai v1), (2, ai v2)]) d_M_isSum_3 (nle rfl) rfl ?_
  obtain ⟨n8, hw⟩ := hw
  refine r_pick (ls2 := [(0, ar v0), (1, ai v1), (2, ai v2), (3, ai (1 : Int32)), (4, ai (0 : Int32))]) [2, 3, 4, 1, 0] rfl ?_
  exact s_M_isSum_L5 hd hQ  n8 _ _ _ hw
set_option maxRecDepth 100000 in
set_option maxHeartbeats 4000000 in
theorem s_M_hasSum_L11 {d : Nat} (hd : 2 ≤ d + 1) {Q : Bool → Hp → Prop} {QQ : Option AV → Hp → Prop} (hQ : ∀ r9 h9, Q r9 h9 → QQ (some (ai (b2i r9))) h9) {v0 : Nat} {v1 : Int32} {v2 : Int32} : ∀ (n : Nat) (v3 : Int32) (h : Hp), w_M_hasSum_L11 Q  v0 v1 v2 n v3 h → aW none m_M_hasSum (d + 1) 11 [(0, ar v0), (1, ai v1), (2, ai v2), (3, ai v3)] [] h 0 0 QQ := by
  intro n
  induction n with
  | zero => intro v3 h hw; exact hw.elim
  | succ n ih =>
    intro v3 h hw
    unfold w_M_hasSum_L11 at hw
    refine r_iload_n (j := 3) d_M_hasSum_11 rfl ?_
    refine r_if_eq d_M_hasSum_12 (fun w9 => ?_) (fun w9 => ?_)
    · replace hw := hw.1 w9
      refine r_iconst d_M_hasSum_34 kc_0 ?_
      exact r_zreturn d_M_hasSum_35.1 rfl (Or.inl rfl) (hQ _ _ hw)
    · replace hw := hw.2 w9
      refine r_aload_n (j := 0) d_M_hasSum_15 rfl ?_
      refine r_iload_n (j := 1) d_M_hasSum_16 rfl ?_
      refine r_iload_n (j := 2) d_M_hasSum_17 rfl ?_
      obtain ⟨q8, hw⟩ := hw
      refine r_callV (av := [ai v1, ai v2]) (rest := []) (ci := 12) d_M_hasSum_18 mk_M_isSum ll_M_534 im_M_isSum se_M_isSum rfl (nle rfl) rfl rfl (nle rfl) q8 (s_M_isSum (by omega) hw (fun r7 h6 hw => ?_))
      show aW none m_M_hasSum (d + 1) 21 [(0, ar v0), (1, ai v1), (2, ai v2), (3, ai v3)] [ai (b2i r7)] h6 0 0 QQ
      refine r_if_eq d_M_hasSum_21 (fun w9 => ?_) (fun w9 => ?_)
      · replace hw := hw.1 (b2i_0.mp w9)
        refine r_aload_n (j := 0) d_M_hasSum_26 rfl ?_
        obtain ⟨q11, hw⟩ := hw
        refine r_callV (av := []) (rest := []) (ci := 12) d_M_hasSum_27 mk_M_nextPlan ll_M_322 im_M_nextPlan se_M_nextPlan rfl (nle rfl) rfl rfl (nle rfl) q11 (s_M_nextPlan  hw (fun r10 h9 hw => ?_))
        show aW none m_M_hasSum (d + 1) 30 [(0, ar v0), (1, ai v1), (2, ai v2), (3, ai v3)] [ai (b2i r10)] h9 0 0 QQ
        refine r_istore_n (ls2 := [(3, ai (b2i r10)), (0, ar v0), (1, ai v1), (2, ai v2)]) d_M_hasSum_30 (nle rfl) rfl ?_
        refine r_goto d_M_hasSum_31 ?_
        refine r_pick (ls2 := [(0, ar v0), (1, ai v1), (2, ai v2), (3, ai (b2i r10))]) [1, 2, 3, 0] rfl ?_
        exact ih _ _ hw
      · replace hw := hw.2 (fun g9 => w9 (b2i_0.mpr g9))
        refine r_iconst d_M_hasSum_24 kc_1 ?_
        exact r_zreturn d_M_hasSum_25.1 rfl (Or.inr rfl) (hQ _ _ hw)
set_option maxRecDepth 100000 in
set_option maxHeartbeats 4000000 in
theorem s_M_hasSum {d : Nat} (hd : 2 ≤ d) {v0 : Nat} {v1 : Int32} {v2 : Int32} {h : Hp} {Q : Bool → Hp → Prop} {QQ : Option AV → Hp → Prop} (hw : w_M_hasSum v0 v1 v2 h Q) (hQ : ∀ r9 h9, Q r9 h9 → QQ (some (ai (b2i r9))) h9) : aCall m_M_hasSum d [ar v0, ai v1, ai v2] h 0 0 QQ := by
  obtain ⟨d, rfl⟩ : ∃ d9, d = d9 + 1 := ⟨d - 1, by omega⟩
  refine aCall_in pl_M_hasSum (nle rfl) ?_
  show aW none m_M_hasSum (d + 1) 0 [(0, ar v0), (1, ai v1), (2, ai v2)] [] h 0 0 QQ
  unfold w_M_hasSum at hw
  refine r_aload_n (j := 0) d_M_hasSum_0 rfl ?_
  refine r_aload_n (j := 0) d_M_hasSum_1 rfl ?_
  obtain ⟨q1, hw⟩ := hw
  refine r_getR d_M_hasSum_2 ok_12 (nle rfl) (nle rfl) rfl lf_M_107 q1 ?_
  refine r_iload_n (j := 1) d_M_hasSum_5 rfl ?_
  obtain ⟨q2, hw⟩ := hw
  obtain ⟨q3, hw⟩ := hw
  refine r_iald d_M_hasSum_6 q2 q3 ?_
  refine r_callV (av := [ai (gI h (gR h v0 68) (ix v1))]) (rest := []) (ci := 12) d_M_hasSum_7 mk_M_firstPlan ll_M_312 im_M_firstPlan se_M_firstPlan rfl (nle rfl) rfl rfl (nle rfl) q1 (s_M_firstPlan  hw (fun r5 h4 hw => ?_))
  show aW none m_M_hasSum (d + 1) 10 [(0, ar v0), (1, ai v1), (2, ai v2)] [ai (b2i r5)] h4 0 0 QQ
  refine r_istore_n (ls2 := [(3, ai (b2i r5)), (0, ar v0), (1, ai v1), (2, ai v2)]) d_M_hasSum_10 (nle rfl) rfl ?_
  obtain ⟨n12, hw⟩ := hw
  refine r_pick (ls2 := [(0, ar v0), (1, ai v1), (2, ai v2), (3, ai (b2i r5))]) [1, 2, 3, 0] rfl ?_
  exact s_M_hasSum_L11 hd hQ  n12 _ _ hw
set_option maxRecDepth 100000 in
set_option maxHeartbeats 4000000 in
theorem s_M_isTurnable_L11 {d : Nat} {Q : Bool → Hp → Prop} {QQ : Option AV → Hp → Prop} (hQ : ∀ r9 h9, Q r9 h9 → QQ (some (ai (b2i r9))) h9) {v0 : Nat} {v1 : Int32} : ∀ (n : Nat) (v2 : Int32) (v3 : Int32) (h : Hp), w_M_isTurnable_L11 Q  v0 v1 n v2 v3 h → aW none m_M_isTurnable d 11 [(0, ar v0), (1, ai v1), (2, ai v2), (3, ai v3)] [] h 0 0 QQ := by
  intro n
  induction n with
  | zero => intro v2 v3 h hw; exact hw.elim
  | succ n ih =>
    intro v2 v3 h hw
    unfold w_M_isTurnable_L11 at hw
    refine r_iload_n (j := 3) d_M_isTurnable_11 rfl ?_
    refine r_aload_n (j := 0) d_M_isTurnable_12 rfl ?_
    obtain ⟨q1, hw⟩ := hw
    refine r_getI d_M_isTurnable_13 ok_12 (nle rfl) (nle rfl) rfl lf_M_244 q1 ?_
    refine r_icmp_ge d_M_isTurnable_16 (fun w9 => ?_) (fun w9 => ?_)
    · replace hw := hw.1 w9
      refine r_iload_n (j := 2) d_M_isTurnable_48 rfl ?_
      obtain ⟨q2, hw⟩ := hw
      exact r_zreturn d_M_isTurnable_49.1 rfl q2 (by have g9 := hQ _ _ hw; rwa [b2i_i q2] at g9)
    · replace hw := hw.2 w9
      refine r_iload_n (j := 2) d_M_isTurnable_19 rfl ?_
      refine r_if_ne d_M_isTurnable_20 (fun w9 => ?_) (fun w9 => ?_)
      · replace hw := hw.2 w9
        refine r_iconst d_M_isTurnable_36 kc_1 ?_
        refine r_goto d_M_isTurnable_37 ?_
        refine r_istore_n (ls2 := [(2, ai (1 : Int32)), (0, ar v0), (1, ai v1), (3, ai v3)]) d_M_isTurnable_41 (nle rfl) rfl ?_
        refine r_iinc (j := 3) (ls2 := [(3, ai (v3 + (1 : Int32))), (2, ai (1 : Int32)), (0, ar v0), (1, ai v1)]) d_M_isTurnable_42 rfl (congrArg (HAdd.hAdd v3) kc_1) (nle rfl) rfl ?_
        refine r_goto d_M_isTurnable_45 ?_
        refine r_pick (ls2 := [(0, ar v0), (1, ai v1), (2, ai (1 : Int32)), (3, ai (v3 + (1 : Int32)))]) [2, 3, 1, 0] rfl ?_
        exact ih _ _ _ hw
      · replace hw := hw.1 w9
        refine r_aload_n (j := 0) d_M_isTurnable_23 rfl ?_
        refine r_getR d_M_isTurnable_24 ok_12 (nle rfl) (nle rfl) rfl lf_M_23 q1 ?_
        refine r_iconst d_M_isTurnable_27 kc_3 ?_
        refine r_iload_n (j := 1) d_M_isTurnable_28 rfl ?_
        refine r_imul d_M_isTurnable_29 ?_
        refine r_iload_n (j := 3) d_M_isTurnable_30 rfl ?_
        refine r_iadd d_M_isTurnable_31 ?_
        obtain ⟨q3, hw⟩ := hw
        obtain ⟨q4, hw⟩ := hw
        refine r_iald d_M_isTurnable_32 q3 q4 ?_
        refine r_if_eq d_M_isTurnable_33 (fun w9 => ?_) (fun w9 => ?_)
        · replace hw := hw.1 w9
          refine r_iconst d_M_isTurnable_40 kc_0 ?_
          refine r_istore_n (ls2 := [(2, ai (0 : Int32)), (0, ar v0), (1, ai v1), (3, ai v3)]) d_M_isTurnable_41 (nle rfl) rfl ?_
          refine r_iinc (j := 3) (ls2 := [(3, ai (v3 + (1 : Int32))), (2, ai (0 : Int32)), (0, ar v0), (1, ai v1)]) d_M_isTurnable_42 rfl (congrArg (HAdd.hAdd v3) kc_1) (nle rfl) rfl ?_
          refine r_goto d_M_isTurnable_45 ?_
          refine r_pick (ls2 := [(0, ar v0), (1, ai v1), (2, ai (0 : Int32)), (3, ai (v3 + (1 : Int32)))]) [2, 3, 1, 0] rfl ?_
          exact ih _ _ _ hw
        · replace hw := hw.2 w9
          refine r_iconst d_M_isTurnable_36 kc_1 ?_
          refine r_goto d_M_isTurnable_37 ?_
          refine r_istore_n (ls2 := [(2, ai (1 : Int32)), (0, ar v0), (1, ai v1), (3, ai v3)]) d_M_isTurnable_41 (nle rfl) rfl ?_
          refine r_iinc (j := 3) (ls2 := [(3, ai (v3 + (1 : Int32))), (2, ai (1 : Int32)), (0, ar v0), (1, ai v1)]) d_M_isTurnable_42 rfl (congrArg (HAdd.hAdd v3) kc_1) (nle rfl) rfl ?_
          refine r_goto d_M_isTurnable_45 ?_
          refine r_pick (ls2 := [(0, ar v0), (1, ai v1), (2, ai (1 : Int32)), (3, ai (v3 + (1 : Int32)))]) [2, 3, 1, 0] rfl ?_
          exact ih _ _ _ hw
set_option maxRecDepth 100000 in
set_option maxHeartbeats 4000000 in
theorem s_M_isTurnable {d : Nat} {v0 : Nat} {v1 : Int32} {h : Hp} {Q : Bool → Hp → Prop} {QQ : Option AV → Hp → Prop} (hw : w_M_isTurnable v0 v1 h Q) (hQ : ∀ r9 h9, Q r9 h9 → QQ (some (ai (b2i r9))) h9) : aCall m_M_isTurnable d [ar v0, ai v1] h 0 0 QQ := by
  refine aCall_in pl_M_isTurnable (nle rfl) ?_
  show aW none m_M_isTurnable d 0 [(0, ar v0), (1, ai v1)] [] h 0 0 QQ
  unfold w_M_isTurnable at hw
  refine r_iload_n (j := 1) d_M_isTurnable_0 rfl ?_
  refine r_iconst d_M_isTurnable_1 kc_m1 ?_
  refine r_icmp_ne d_M_isTurnable_2 (fun w9 => ?_) (fun w9 => ?_)
  · replace hw := hw.2 w9
    refine r_iconst d_M_isTurnable_7 kc_0 ?_
    refine r_istore_n (ls2 := [(2, ai (0 : Int32)), (0, ar v0), (1, ai v1)]) d_M_isTurnable_8 (nle rfl) rfl ?_
    refine r_iconst d_M_isTurnable_9 kc_0 ?_
    refine r_istore_n (ls2 := [(3, ai (0 : Int32)), (2, ai (0 : Int32)), (0, ar v0), (1, ai v1)]) d_M_isTurnable_10 (nle rfl) rfl ?_
    obtain ⟨n5, hw⟩ := hw
    refine r_pick (ls2 := [(0, ar v0), (1, ai v1), (2, ai (0 : Int32)), (3, ai (0 : Int32))]) [2, 3, 1, 0] rfl ?_
    exact s_M_isTurnable_L11 hQ  n5 _ _ _ hw
  · replace hw := hw.1 w9
    refine r_iconst d_M_isTurnable_5 kc_1 ?_
    exact r_zreturn d_M_isTurnable_6.1 rfl (Or.inr rfl) (hQ _ _ hw)
set_option maxRecDepth 100000 in
set_option maxHeartbeats 4000000 in
theorem s_M_laysFits_B79 {d : Nat} (hd : 3 ≤ d + 1) {Q : Int32 → Hp → Prop} {QQ : Option AV → Hp → Prop} (hQ : ∀ r9 h9, Q r9 h9 → QQ (some (ai r9)) h9) {k4 : Int32 → Int32 → Hp → Prop} (hk4 : ∀ v2 v3 h9, k4 v2 v3 h9 → aW none m_M_laysFits (d + 1) 4 [(0, ar v0), (1, ai v1), (2, ai v2), (3, ai v3)] [] h9 0 0 QQ) {v0 : Nat} {v1 : Int32} {v2 : Int32} {v3 : Int32} {v4 : Int32} {h : Hp} (hw : w_M_laysFits_B79 Q k4 v0 v1 v2 v3 v4 h) : aW none m_M_laysFits (d + 1) 79 [(0, ar v0), (1, ai v1), (2, ai v2), (3, ai v3), (4, ai v4)] [] h 0 0 QQ := by
  unfold w_M_laysFits_B79 at hw
  refine r_aload_n (j := 0) d_M_laysFits_79 rfl ?_
  obtain ⟨q5, hw⟩ := hw
  refine r_getR d_M_laysFits_80 ok_12 (nle rfl) (nle rfl) rfl lf_M_122 q5 ?_
  refine r_iload_n (j := 3) d_M_laysFits_83 rfl ?_
  refine r_iconst d_M_laysFits_84 kc_1 ?_
  refine r_iadd d_M_laysFits_85 ?_
  refine r_iload (j := 4) d_M_laysFits_86 rfl ?_
  obtain ⟨q6, hw⟩ := hw
  obtain ⟨q7, hw⟩ := hw
  obtain ⟨q8, hw⟩ := hw
  refine r_zast d_M_laysFits_88 q6 q7 q8 ?_
  refine r_iload_n (j := 2) d_M_laysFits_89 rfl ?_
  refine r_iload (j := 4) d_M_laysFits_90 rfl ?_
  refine r_callS (av := [ai v4]) (rest := [ai v2]) d_M_laysFits_92 mk_M_truth ll_M_318 st_M_truth rfl rfl (nle rfl) (s_M_truth  hw (fun r10 h9 hw => ?_))
  show aW none m_M_laysFits (d + 1) 95 [(0, ar v0), (1, ai v1), (2, ai v2), (3, ai v3), (4, ai v4)] [ai r10, ai v2] h9 0 0 QQ
  refine r_iadd d_M_laysFits_95 ?_
  refine r_istore_n (ls2 := [(2, ai (v2 + r10)), (0, ar v0), (1, ai v1), (3, ai v3), (4, ai v4)]) d_M_laysFits_96 (nle rfl) rfl ?_
  refine r_iinc (j := 3) (ls2 := [(3, ai (v3 + (1 : Int32))), (2, ai (v2 + r10)), (0, ar v0), (1, ai v1), (4, ai v4)]) d_M_laysFits_97 rfl (congrArg (HAdd.hAdd v3) kc_1) (nle rfl) rfl ?_
  refine r_goto d_M_laysFits_100 ?_
  refine r_pick (ls2 := [(0, ar v0), (1, ai v1), (2, ai (v2 + r10)), (3, ai (v3 + (1 : Int32)))]) [2, 3, 1, 0] rfl ?_
  exact hk4 _ _ _ hw
set_option maxRecDepth 100000 in
set_option maxHeartbeats 4000000 in
theorem s_M_laysFits_L22 {d : Nat} (hd : 3 ≤ d + 1) {Q : Int32 → Hp → Prop} {QQ : Option AV → Hp → Prop} (hQ : ∀ r9 h9, Q r9 h9 → QQ (some (ai r9)) h9) {k4 : Int32 → Int32 → Hp → Prop} (hk4 : ∀ v2 v3 h9, k4 v2 v3 h9 → aW none m_M_laysFits (d + 1) 4 [(0, ar v0), (1, ai v1), (2, ai v2), (3, ai v3)] [] h9 0 0 QQ) {v0 : Nat} {v1 : Int32} {v2 : Int32} {v3 : Int32} : ∀ (n : Nat) (v4 : Int32) (v5 : Int32) (h : Hp), w_M_laysFits_L22 Q k4 v0 v1 v2 v3 n v4 v5 h → aW none m_M_laysFits (d + 1) 22 [(0, ar v0), (1, ai v1), (2, ai v2), (3, ai v3), (4, ai v4), (5, ai v5)] [] h 0 0 QQ := by
  intro n
  induction n with
  | zero => intro v4 v5 h hw; exact hw.elim
  | succ n ih =>
    intro v4 v5 h hw
    unfold w_M_laysFits_L22 at hw
    refine r_iload (j := 5) d_M_laysFits_22 rfl ?_
    refine r_aload_n (j := 0) d_M_laysFits_24 rfl ?_
    obtain ⟨q4, hw⟩ := hw
    refine r_getI d_M_laysFits_25 ok_12 (nle rfl) (nle rfl) rfl lf_M_256 q4 ?_
    refine r_icmp_ge d_M_laysFits_28 (fun w9 => ?_) (fun w9 => ?_)
    · replace hw := hw.1 w9
      refine r_pick (ls2 := [(0, ar v0), (1, ai v1), (2, ai v2), (3, ai v3), (4, ai v4)]) [0, 1, 2, 3, 4] rfl ?_
      exact s_M_laysFits_B79 hd hQ hk4 hw
    · replace hw := hw.2 w9
      refine r_iload (j := 4) d_M_laysFits_31 rfl ?_
      refine r_if_eq d_M_laysFits_33 (fun w9 => ?_) (fun w9 => ?_)
      · replace hw := hw.1 w9
        refine r_pick (ls2 := [(0, ar v0), (1, ai v1), (2, ai v2), (3, ai v3), (4, ai v4)]) [0, 1, 2, 3, 4] rfl ?_
        exact s_M_laysFits_B79 hd hQ hk4 hw
      · replace hw := hw.2 w9
        refine r_aload_n (j := 0) d_M_laysFits_36 rfl ?_
        refine r_iload (j := 5) d_M_laysFits_37 rfl ?_
        refine r_iload_n (j := 1) d_M_laysFits_39 rfl ?_
        refine r_callV (av := [ai v5, ai v1]) (rest := []) (ci := 12) d_M_laysFits_40 mk_M_doesCount ll_M_540 im_M_doesCount se_M_doesCount rfl (nle rfl) rfl rfl (nle rfl) q4 (s_M_doesCount  hw (fun r12 h11 hw => ?_))
        show aW none m_M_laysFits (d + 1) 43 [(0, ar v0), (1, ai v1), (2, ai v2), (3, ai v3), (4, ai v4), (5, ai v5)] [ai (b2i r12)] h11 0 0 QQ
        refine r_if_eq d_M_laysFits_43 (fun w9 => ?_) (fun w9 => ?_)
        · replace hw := hw.1 (b2i_0.mp w9)
          refine r_iinc (j := 5) (ls2 := [(5, ai (v5 + (1 : Int32))), (0, ar v0), (1, ai v1), (2, ai v2), (3, ai v3), (4, ai v4)]) d_M_laysFits_73 rfl (congrArg (HAdd.hAdd v5) kc_1) (nle rfl) rfl ?_
          refine r_goto d_M_laysFits_76 ?_
          refine r_pick (ls2 := [(0, ar v0), (1, ai v1), (2, ai v2), (3, ai v3), (4, ai v4), (5, ai (v5 + (1 : Int32)))]) [1, 2, 3, 4, 5, 0] rfl ?_
          exact ih _ _ _ hw
        · replace hw := hw.2 (fun g9 => w9 (b2i_0.mpr g9))
          refine r_aload_n (j := 0) d_M_laysFits_46 rfl ?_
          refine r_iload (j := 5) d_M_laysFits_47 rfl ?_
          refine r_iload_n (j := 3) d_M_laysFits_49 rfl ?_
          obtain ⟨q15, hw⟩ := hw
          refine r_callV (av := [ai v5, ai v3]) (rest := []) (ci := 12) d_M_laysFits_50 mk_M_hasSum ll_M_543 im_M_hasSum se_M_hasSum rfl (nle rfl) rfl rfl (nle rfl) q15 (s_M_hasSum (by omega) hw (fun r14 h13 hw => ?_))
          show aW none m_M_laysFits (d + 1) 53 [(0, ar v0), (1, ai v1), (2, ai v2), (3, ai v3), (4, ai v4), (5, ai v5)] [ai (b2i r14)] h13 0 0 QQ
          refine r_callS (av := [ai (b2i r14)]) (rest := []) d_M_laysFits_53 mk_M_truth ll_M_318 st_M_truth rfl rfl (nle rfl) (s_M_truth  hw (fun r17 h16 hw => ?_))
          show aW none m_M_laysFits (d + 1) 56 [(0, ar v0), (1, ai v1), (2, ai v2), (3, ai v3), (4, ai v4), (5, ai v5)] [ai r17] h16 0 0 QQ
          refine r_aload_n (j := 0) d_M_laysFits_56 rfl ?_
          obtain ⟨q18, hw⟩ := hw
          refine r_getR d_M_laysFits_57 ok_12 (nle rfl) (nle rfl) rfl lf_M_113 q18 ?_
          refine r_iload (j := 5) d_M_laysFits_60 rfl ?_
          obtain ⟨q19, hw⟩ := hw
          obtain ⟨q20, hw⟩ := hw
          refine r_iald d_M_laysFits_62 q19 q20 ?_
          refine r_icmp_ne d_M_laysFits_63 (fun w9 => ?_) (fun w9 => ?_)
          · replace hw := hw.2 w9
            refine r_iconst d_M_laysFits_70 kc_0 ?_
            refine r_istore (ls2 := [(4, ai (0 : Int32)), (0, ar v0), (1, ai v1), (2, ai v2), (3, ai v3), (5, ai v5)]) d_M_laysFits_71 (nle rfl) rfl ?_
            refine r_iinc (j := 5) (ls2 := [(5, ai (v5 + (1 : Int32))), (4, ai (0 : Int32)), (0, ar v0), (1, ai v1), (2, ai v2), (3, ai v3)]) d_M_laysFits_73 rfl (congrArg (HAdd.hAdd v5) kc_1) (nle rfl) rfl ?_
            refine r_goto d_M_laysFits_76 ?_
            refine r_pick (ls2 := [(0, ar v0), (1, ai v1), (2, ai v2), (3, ai v3), (4, ai (0 : Int32)), (5, ai (v5 + (1 : Int32)))]) [2, 3, 4, 5, 1, 0] rfl ?_
            exact ih _ _ _ hw
          · replace hw := hw.1 w9
            refine r_iconst d_M_laysFits_66 kc_1 ?_
            refine r_goto d_M_laysFits_67 ?_
            refine r_istore (ls2 := [(4, ai (1 : Int32)), (0, ar v0), (1, ai v1), (2, ai v2), (3, ai v3), (5, ai v5)]) d_M_laysFits_71 (nle rfl) rfl ?_
            refine r_iinc (j := 5) (ls2 := [(5, ai (v5 + (1 : Int32))), (4, ai (1 : Int32)), (0, ar v0), (1, ai v1), (2, ai v2), (3, ai v3)]) d_M_laysFits_73 rfl (congrArg (HAdd.hAdd v5) kc_1) (nle rfl) rfl ?_
            refine r_goto d_M_laysFits_76 ?_
            refine r_pick (ls2 := [(0, ar v0), (1, ai v1), (2, ai v2), (3, ai v3), (4, ai (1 : Int32)), (5, ai (v5 + (1 : Int32)))]) [2, 3, 4, 5, 1, 0] rfl ?_
            exact ih _ _ _ hw
set_option maxRecDepth 100000 in
set_option maxHeartbeats 4000000 in
theorem s_M_laysFits_L4 {d : Nat} (hd : 3 ≤ d + 1) {Q : Int32 → Hp → Prop} {QQ : Option AV → Hp → Prop} (hQ : ∀ r9 h9, Q r9 h9 → QQ (some (ai r9)) h9) {v0 : Nat} {v1 : Int32} : ∀ (n : Nat) (v2 : Int32) (v3 : Int32) (h : Hp), w_M_laysFits_L4 Q  v0 v1 n v2 v3 h → aW none m_M_laysFits (d + 1) 4 [(0, ar v0), (1, ai v1), (2, ai v2), (3, ai v3)] [] h 0 0 QQ := by
  intro n
  induction n with
  | zero => intro v2 v3 h hw; exact hw.elim
  | succ n ih =>
    intro v2 v3 h hw
    unfold w_M_laysFits_L4 at hw
    refine r_iload_n (j := 3) d_M_laysFits_4 rfl ?_
    refine r_aload_n (j := 0) d_M_laysFits_5 rfl ?_
    obtain ⟨q1, hw⟩ := hw
    refine r_getI d_M_laysFits_6 ok_12 (nle rfl) (nle rfl) rfl lf_M_247 q1 ?_
    refine r_icmp_ge d_M_laysFits_9 (fun w9 => ?_) (fun w9 => ?_)
    · replace hw := hw.1 w9
      refine r_iload_n (j := 2) d_M_laysFits_103 rfl ?_
      exact r_ireturn d_M_laysFits_104.1 rfl (hQ _ _ hw)
    · replace hw := hw.2 w9
      refine r_aload_n (j := 0) d_M_laysFits_12 rfl ?_
      refine r_iload_n (j := 3) d_M_laysFits_13 rfl ?_
      refine r_callV (av := [ai v3]) (rest := []) (ci := 12) d_M_laysFits_14 mk_M_isTurnable ll_M_537 im_M_isTurnable se_M_isTurnable rfl (nle rfl) rfl rfl (nle rfl) q1 (s_M_isTurnable  hw (fun r3 h2 hw => ?_))
      show aW none m_M_laysFits (d + 1) 17 [(0, ar v0), (1, ai v1), (2, ai v2), (3, ai v3)] [ai (b2i r3)] h2 0 0 QQ
      refine r_istore (ls2 := [(4, ai (b2i r3)), (0, ar v0), (1, ai v1), (2, ai v2), (3, ai v3)]) d_M_laysFits_17 (nle rfl) rfl ?_
      refine r_iconst d_M_laysFits_19 kc_0 ?_
      refine r_istore (ls2 := [(5, ai (0 : Int32)), (4, ai (b2i r3)), (0, ar v0), (1, ai v1), (2, ai v2), (3, ai v3)]) d_M_laysFits_20 (nle rfl) rfl ?_
      obtain ⟨n21, hw⟩ := hw
      refine r_pick (ls2 := [(0, ar v0), (1, ai v1), (2, ai v2), (3, ai v3), (4, ai (b2i r3)), (5, ai (0 : Int32))]) [2, 3, 4, 5, 1, 0] rfl ?_
      exact s_M_laysFits_L22 hd hQ ih n21 _ _ _ hw
set_option maxRecDepth 100000 in
set_option maxHeartbeats 4000000 in
theorem s_M_laysFits {d : Nat} (hd : 3 ≤ d) {v0 : Nat} {v1 : Int32} {h : Hp} {Q : Int32 → Hp → Prop} {QQ : Option AV → Hp → Prop} (hw : w_M_laysFits v0 v1 h Q) (hQ : ∀ r9 h9, Q r9 h9 → QQ (some (ai r9)) h9) : aCall m_M_laysFits d [ar v0, ai v1] h 0 0 QQ := by
  obtain ⟨d, rfl⟩ : ∃ d9, d = d9 + 1 := ⟨d - 1, by omega⟩
  refine aCall_in pl_M_laysFits (nle rfl) ?_
  show aW none m_M_laysFits (d + 1) 0 [(0, ar v0), (1, ai v1)] [] h 0 0 QQ
  unfold w_M_laysFits at hw
  refine r_iconst d_M_laysFits_0 kc_0 ?_
  refine r_istore_n (ls2 := [(2, ai (0 : Int32)), (0, ar v0), (1, ai v1)]) d_M_laysFits_1 (nle rfl) rfl ?_
  refine r_iconst d_M_laysFits_2 kc_m1 ?_
  refine r_istore_n (ls2 := [(3, ai (-1 : Int32)), (2, ai (0 : Int32)), (0, ar v0), (1, ai v1)]) d_M_laysFits_3 (nle rfl) rfl ?_
  obtain ⟨n22, hw⟩ := hw
  refine r_pick (ls2 := [(0, ar v0), (1, ai v1), (2, ai (0 : Int32)), (3, ai (-1 : Int32))]) [2, 3, 1, 0] rfl ?_
  exact s_M_laysFits_L4 hd hQ  n22 _ _ _ hw
set_option maxRecDepth 100000 in
set_option maxHeartbeats 4000000 in
theorem s_M_fits {d : Nat} (hd : 4 ≤ d) {v0 : Nat} {v1 : Int32} {h : Hp} {Q : Int32 → Hp → Prop} {QQ : Option AV → Hp → Prop} (hw : w_M_fits v0 v1 h Q) (hQ : ∀ r9 h9, Q r9 h9 → QQ (some (ai r9)) h9) : aCall m_M_fits d [ar v0, ai v1] h 0 0 QQ := by
  obtain ⟨d, rfl⟩ : ∃ d9, d = d9 + 1 := ⟨d - 1, by omega⟩
  refine aCall_in pl_M_fits (nle rfl) ?_
  show aW none m_M_fits (d + 1) 0 [(0, ar v0), (1, ai v1)] [] h 0 0 QQ
  unfold w_M_fits at hw
  refine r_aload_n (j := 0) d_M_fits_0 rfl ?_
  refine r_iload_n (j := 1) d_M_fits_1 rfl ?_
  obtain ⟨q3, hw⟩ := hw
  refine r_callV (av := [ai v1]) (rest := []) (ci := 12) d_M_fits_2 mk_M_laysFits ll_M_546 im_M_laysFits se_M_laysFits rfl (nle rfl) rfl rfl (nle rfl) q3 (s_M_laysFits (by omega) hw (fun r2 h1 hw => ?_))
  show aW none m_M_fits (d + 1) 5 [(0, ar v0), (1, ai v1)] [ai r2] h1 0 0 QQ
  exact r_ireturn d_M_fits_5.1 rfl (hQ _ _ hw)
set_option maxRecDepth 100000 in
set_option maxHeartbeats 4000000 in
theorem s_M_fit_L12 {d : Nat} (hd : 4 ≤ d + 1) {Q : Int32 → Hp → Prop} {QQ : Option AV → Hp → Prop} (hQ : ∀ r9 h9, Q r9 h9 → QQ (some (ai r9)) h9) {v0 : Nat} {v1 : Int32} {v3 : Int32} : ∀ (n : Nat) (v4 : Int32) (v5 : Int32) (h : Hp), w_M_fit_L12 Q  v0 v1 v3 n v4 v5 h → aW none m_M_fit (d + 1) 12 [(0, ar v0), (1, ai v1), (3, ai v3), (4, ai v4), (5, ai v5)] [] h 0 0 QQ := by
  intro n
  induction n with
  | zero => intro v4 v5 h hw; exact hw.elim
  | succ n ih =>
    intro v4 v5 h hw
    unfold w_M_fit_L12 at hw
    refine r_iload (j := 4) d_M_fit_12 rfl ?_
    refine r_aload_n (j := 0) d_M_fit_14 rfl ?_
    obtain ⟨q4, hw⟩ := hw
    refine r_getI d_M_fit_15 ok_12 (nle rfl) (nle rfl) rfl lf_M_247 q4 ?_
    refine r_icmp_ge d_M_fit_18 (fun w9 => ?_) (fun w9 => ?_)
    · replace hw := hw.1 w9
      refine r_bipush d_M_fit_65 kb_m2 ?_
      exact r_ireturn d_M_fit_67.1 rfl (hQ _ _ hw)
    · replace hw := hw.2 w9
      refine r_iload_n (j := 1) d_M_fit_21 rfl ?_
      refine r_iconst d_M_fit_22 kc_0 ?_
      refine r_iload_n (j := 2) d_M_fit_23 rfl ?_
      refine r_iconst d_M_fit_24 kc_1 ?_
      refine r_isub d_M_fit_25 ?_
      refine r_callS (av := [ai v1, ai (0 : Int32), ai (v3 - (1 : Int32))]) (rest := []) d_M_fit_26 mk_M_isIn ll_M_148 st_M_isIn rfl rfl (nle rfl) (s_M_isIn  hw (fun r6 h5 hw => ?_))
      show aW none m_M_fit (d + 1) 29 [(0, ar v0), (1, ai v1), (3, ai v3), (4, ai v4), (5, ai v5)] [ai (b2i r6)] h5 0 0 QQ
      refine r_if_eq d_M_fit_29 (fun w9 => ?_) (fun w9 => ?_)
      · replace hw := hw.1 (b2i_0.mp w9)
        refine r_bipush d_M_fit_65 kb_m2 ?_
        exact r_ireturn d_M_fit_67.1 rfl (hQ _ _ hw)
      · replace hw := hw.2 (fun g9 => w9 (b2i_0.mpr g9))
        refine r_aload_n (j := 0) d_M_fit_32 rfl ?_
        obtain ⟨q7, hw⟩ := hw
        refine r_getR d_M_fit_33 ok_12 (nle rfl) (nle rfl) rfl lf_M_122 q7 ?_
        refine r_iload (j := 4) d_M_fit_36 rfl ?_
        refine r_iconst d_M_fit_38 kc_1 ?_
        refine r_iadd d_M_fit_39 ?_
        obtain ⟨q8, hw⟩ := hw
        obtain ⟨q9, hw⟩ := hw
        refine r_zald d_M_fit_40 q8 q9 ?_
        refine r_if_ne d_M_fit_41 (fun w9 => ?_) (fun w9 => ?_)
        · replace hw := hw.2 w9
          refine r_iload (j := 3) d_M_fit_47 rfl ?_
          refine r_iload_n (j := 1) d_M_fit_49 rfl ?_
          refine r_icmp_ne d_M_fit_50 (fun w9 => ?_) (fun w9 => ?_)
          · replace hw := hw.2 w9
            refine r_iinc (j := 3) (ls2 := [(4, ai (v4 + (1 : Int32))), (0, ar v0), (1, ai v1), (3, ai v3), (5, ai v5)]) d_M_fit_56 rfl (congrArg (HAdd.hAdd v4) kc_1) (nle rfl) rfl ?_
            refine r_iinc (j := 4) (ls2 := [(5, ai (v5 + (1 : Int32))), (4, ai (v4 + (1 : Int32))), (0, ar v0), (1, ai v1), (3, ai v3)]) d_M_fit_59 rfl (congrArg (HAdd.hAdd v5) kc_1) (nle rfl) rfl ?_
            refine r_goto d_M_fit_62 ?_
            refine r_pick (ls2 := [(0, ar v0), (1, ai v1), (3, ai v3), (4, ai (v4 + (1 : Int32))), (5, ai (v5 + (1 : Int32)))]) [2, 3, 4, 1, 0] rfl ?_
            exact ih _ _ _ hw
          · replace hw := hw.1 w9
            refine r_iload (j := 4) d_M_fit_53 rfl ?_
            exact r_ireturn d_M_fit_55.1 rfl (hQ _ _ hw)
        · replace hw := hw.1 w9
          refine r_goto d_M_fit_44 ?_
          refine r_iinc (j := 4) (ls2 := [(5, ai (v5 + (1 : Int32))), (0, ar v0), (1, ai v1), (3, ai v3), (4, ai v4)]) d_M_fit_59 rfl (congrArg (HAdd.hAdd v5) kc_1) (nle rfl) rfl ?_
          refine r_goto d_M_fit_62 ?_
          refine r_pick (ls2 := [(0, ar v0), (1, ai v1), (3, ai v3), (4, ai v4), (5, ai (v5 + (1 : Int32)))]) [1, 2, 3, 4, 0] rfl ?_
          exact ih _ _ _ hw
set_option maxRecDepth 100000 in
set_option maxHeartbeats 4000000 in
theorem s_M_fit {d : Nat} (hd : 4 ≤ d) {v0 : Nat} {v1 : Int32} {v2 : Int32} {h : Hp} {Q : Int32 → Hp → Prop} {QQ : Option AV → Hp → Prop} (hw : w_M_fit v0 v1 v2 h Q) (hQ : ∀ r9 h9, Q r9 h9 → QQ (some (ai r9)) h9) : aCall m_M_fit d [ar v0, ai v1, ai v2] h 0 0 QQ := by
  obtain ⟨d, rfl⟩ : ∃ d9, d = d9 + 1 := ⟨d - 1, by omega⟩
  refine aCall_in pl_M_fit (nle rfl) ?_
  show aW none m_M_fit (d + 1) 0 [(0, ar v0), (1, ai v1), (2, ai v2)] [] h 0 0 QQ
  unfold w_M_fit at hw
  refine r_aload_n (j := 0) d_M_fit_0 rfl ?_
  refine r_iload_n (j := 2) d_M_fit_1 rfl ?_
  obtain ⟨q3, hw⟩ := hw
  refine r_callV (av := [ai v2]) (rest := []) (ci := 12) d_M_fit_2 mk_M_laysFits ll_M_546 im_M_laysFits se_M_laysFits rfl (nle rfl) rfl rfl (nle rfl) q3 (s_M_laysFits (by omega) hw (fun r2 h1 hw => ?_))
  show aW none m_M_fit (d + 1) 5 [(0, ar v0), (1, ai v1), (2, ai v2)] [ai r2] h1 0 0 QQ
  refine r_istore_n (ls2 := [(3, ai r2), (0, ar v0), (1, ai v1), (2, ai v2)]) d_M_fit_5 (nle rfl) rfl ?_
  refine r_iconst d_M_fit_6 kc_0 ?_
  refine r_istore (ls2 := [(4, ai (0 : Int32)), (3, ai r2), (0, ar v0), (1, ai v1), (2, ai v2)]) d_M_fit_7 (nle rfl) rfl ?_
  refine r_iconst d_M_fit_9 kc_m1 ?_
  refine r_istore (ls2 := [(5, ai (-1 : Int32)), (4, ai (0 : Int32)), (3, ai r2), (0, ar v0), (1, ai v1), (2, ai v2)]) d_M_fit_10 (nle rfl) rfl ?_
  obtain ⟨n10, hw⟩ := hw
  refine r_pick (ls2 := [(0, ar v0), (1, ai v1), (3, ai r2), (4, ai (0 : Int32)), (5, ai (-1 : Int32))]) [3, 4, 2, 1, 0] rfl ?_
  exact s_M_fit_L12 hd hQ  n10 _ _ _ hw
set_option maxRecDepth 100000 in
set_option maxHeartbeats 4000000 in
theorem s_M_laysFirst_L34 {d : Nat} (hd : 1 ≤ d + 1) {Q : Hp → Prop} {QQ : Option AV → Hp → Prop} (hQ : ∀ h9, Q h9 → QQ none h9) {k28 : Int32 → Hp → Prop} (hk28 : ∀ v2 h9, k28 v2 h9 → aW none m_M_laysFirst (d + 1) 28 [(0, ar v0), (2, ai v2)] [] h9 0 0 QQ) {v0 : Nat} : ∀ (n : Nat) (v3 : Int32) (h : Hp), w_M_laysFirst_L34 Q k28 v0 n v3 h → aW none m_M_laysFirst (d + 1) 34 [(0, ar v0), (3, ai v3)] [] h 0 0 QQ := by
  intro n
  induction n with
  | zero => intro v3 h hw; exact hw.elim
  | succ n ih =>
    intro v3 h hw
    unfold w_M_laysFirst_L34 at hw
    refine r_iload_n (j := 1) d_M_laysFirst_34 rfl ?_
    refine r_aload_n (j := 0) d_M_laysFirst_35 rfl ?_
    obtain ⟨q4, hw⟩ := hw
    refine r_getI d_M_laysFirst_36 ok_12 (nle rfl) (nle rfl) rfl lf_M_247 q4 ?_
    refine r_icmp_ge d_M_laysFirst_39 (fun w9 => ?_) (fun w9 => ?_)
    · replace hw := hw.1 w9
      refine r_aload_n (j := 0) d_M_laysFirst_86 rfl ?_
      refine r_callV (av := []) (rest := []) (ci := 12) d_M_laysFirst_87 mk_M_nextPlan ll_M_322 im_M_nextPlan se_M_nextPlan rfl (nle rfl) rfl rfl (nle rfl) q4 (s_M_nextPlan  hw (fun r6 h5 hw => ?_))
      show aW none m_M_laysFirst (d + 1) 90 [(0, ar v0), (3, ai v3)] [ai (b2i r6)] h5 0 0 QQ
      refine r_istore_n (ls2 := [(2, ai (b2i r6)), (0, ar v0), (3, ai v3)]) d_M_laysFirst_90 (nle rfl) rfl ?_
      refine r_goto d_M_laysFirst_91 ?_
      refine r_pick (ls2 := [(0, ar v0), (2, ai (b2i r6))]) [1, 0] rfl ?_
      exact hk28 _ _ hw
    · replace hw := hw.2 w9
      refine r_aload_n (j := 0) d_M_laysFirst_42 rfl ?_
      refine r_iconst d_M_laysFirst_43 kc_0 ?_
      refine r_iload_n (j := 1) d_M_laysFirst_44 rfl ?_
      refine r_callV (av := [ai (0 : Int32), ai v3]) (rest := []) (ci := 12) d_M_laysFirst_45 mk_M_toldSum ll_M_531 im_M_toldSum se_M_toldSum rfl (nle rfl) rfl rfl (nle rfl) q4 (s_M_toldSum  hw (fun r8 h7 hw => ?_))
      show aW none m_M_laysFirst (d + 1) 48 [(0, ar v0), (3, ai v3)] [ai r8] h7 0 0 QQ
      refine r_istore (ls2 := [(4, ai r8), (0, ar v0), (3, ai v3)]) d_M_laysFirst_48 (nle rfl) rfl ?_
      refine r_iload (j := 0) d_M_laysFirst_50 rfl ?_
      refine r_bipush d_M_laysFirst_52 kb_m20 ?_
      refine r_bipush d_M_laysFirst_54 kb_20 ?_
      refine r_callS (av := [ai r8, ai (-20 : Int32), ai (20 : Int32)]) (rest := []) d_M_laysFirst_56 mk_M_isIn ll_M_148 st_M_isIn rfl rfl (nle rfl) (s_M_isIn  hw (fun r10 h9 hw => ?_))
      show aW none m_M_laysFirst (d + 1) 59 [(4, ai r8), (0, ar v0), (3, ai v3)] [ai (b2i r10)] h9 0 0 QQ
      refine r_if_eq d_M_laysFirst_59 (fun w9 => ?_) (fun w9 => ?_)
      · replace hw := hw.1 (b2i_0.mp w9)
        refine r_iinc (j := 2) (ls2 := [(3, ai (v3 + (1 : Int32))), (4, ai r8), (0, ar v0)]) d_M_laysFirst_80 rfl (congrArg (HAdd.hAdd v3) kc_1) (nle rfl) rfl ?_
        refine r_goto d_M_laysFirst_83 ?_
        refine r_pick (ls2 := [(0, ar v0), (3, ai (v3 + (1 : Int32)))]) [2, 0] rfl ?_
        exact ih _ _ hw
      · replace hw := hw.2 (fun g9 => w9 (b2i_0.mpr g9))
        refine r_aload_n (j := 1) d_M_laysFirst_62 rfl ?_
        obtain ⟨q11, hw⟩ := hw
        refine r_getR d_M_laysFirst_63 ok_12 (nle rfl) (nle rfl) rfl lf_M_126 q11 ?_
        refine r_bipush d_M_laysFirst_66 kb_41 ?_
        refine r_iload_n (j := 2) d_M_laysFirst_68 rfl ?_
        refine r_iconst d_M_laysFirst_69 kc_1 ?_
        refine r_iadd d_M_laysFirst_70 ?_
        refine r_imul d_M_laysFirst_71 ?_
        refine r_iload (j := 0) d_M_laysFirst_72 rfl ?_
        refine r_iadd d_M_laysFirst_74 ?_
        refine r_bipush d_M_laysFirst_75 kb_20 ?_
        refine r_iadd d_M_laysFirst_77 ?_
        refine r_iconst d_M_laysFirst_78 kc_1 ?_
        obtain ⟨q12, hw⟩ := hw
        obtain ⟨q13, hw⟩ := hw
        refine r_zast d_M_laysFirst_79 q12 q13 (Or.inr rfl) ?_
        refine r_iinc (j := 2) (ls2 := [(3, ai (v3 + (1 : Int32))), (4, ai r8), (0, ar v0)]) d_M_laysFirst_80 rfl (congrArg (HAdd.hAdd v3) kc_1) (nle rfl) rfl ?_
        refine r_goto d_M_laysFirst_83 ?_
        refine r_pick (ls2 := [(0, ar v0), (3, ai (v3 + (1 : Int32)))]) [2, 0] rfl ?_
        exact ih _ _ hw
set_option maxRecDepth 100000 in
set_option maxHeartbeats 4000000 in
theorem s_M_laysFirst_L28 {d : Nat} (hd : 1 ≤ d + 1) {Q : Hp → Prop} {QQ : Option AV → Hp → Prop} (hQ : ∀ h9, Q h9 → QQ none h9) {v0 : Nat} : ∀ (n : Nat) (v2 : Int32) (h : Hp), w_M_laysFirst_L28 Q  v0 n v2 h → aW none m_M_laysFirst (d + 1) 28 [(0, ar v0), (2, ai v2)] [] h 0 0 QQ := by
  intro n
  induction n with
  | zero => intro v2 h hw; exact hw.elim
  | succ n ih =>
    intro v2 h hw
    unfold w_M_laysFirst_L28 at hw
    refine r_iload_n (j := 1) d_M_laysFirst_28 rfl ?_
    refine r_if_eq d_M_laysFirst_29 (fun w9 => ?_) (fun w9 => ?_)
    · replace hw := hw.1 w9
      exact r_return d_M_laysFirst_94.1 rfl (hQ _ hw)
    · replace hw := hw.2 w9
      refine r_iconst d_M_laysFirst_32 kc_m1 ?_
      refine r_istore_n (ls2 := [(3, ai (-1 : Int32)), (0, ar v0), (2, ai v2)]) d_M_laysFirst_33 (nle rfl) rfl ?_
      obtain ⟨n14, hw⟩ := hw
      refine r_pick (ls2 := [(0, ar v0), (3, ai (-1 : Int32))]) [1, 0] rfl ?_
      exact s_M_laysFirst_L34 hd hQ ih n14 _ _ hw
set_option maxRecDepth 100000 in
set_option maxHeartbeats 4000000 in
theorem s_M_laysFirst_L2 {d : Nat} (hd : 1 ≤ d + 1) {Q : Hp → Prop} {QQ : Option AV → Hp → Prop} (hQ : ∀ h9, Q h9 → QQ none h9) {v0 : Nat} {v1 : Int32} : ∀ (n : Nat) (v2 : Int32) (h : Hp), w_M_laysFirst_L2 Q  v0 v1 n v2 h → aW none m_M_laysFirst (d + 1) 2 [(0, ar v0), (1, ai v1), (2, ai v2)] [] h 0 0 QQ := by
  intro n
  induction n with
  | zero => intro v2 h hw; exact hw.elim
  | succ n ih =>
    intro v2 h hw
    unfold w_M_laysFirst_L2 at hw
    refine r_iload_n (j := 2) d_M_laysFirst_2 rfl ?_
    refine r_sipush d_M_laysFirst_3 ks_369 ?_
    refine r_icmp_ge d_M_laysFirst_6 (fun w9 => ?_) (fun w9 => ?_)
    · replace hw := hw.1 w9
      refine r_aload_n (j := 0) d_M_laysFirst_22 rfl ?_
      refine r_iload_n (j := 1) d_M_laysFirst_23 rfl ?_
      obtain ⟨q3, hw⟩ := hw
      refine r_callV (av := [ai v1]) (rest := []) (ci := 12) d_M_laysFirst_24 mk_M_firstPlan ll_M_312 im_M_firstPlan se_M_firstPlan rfl (nle rfl) rfl rfl (nle rfl) q3 (s_M_firstPlan  hw (fun r2 h1 hw => ?_))
      show aW none m_M_laysFirst (d + 1) 27 [(0, ar v0), (1, ai v1), (2, ai v2)] [ai (b2i r2)] h1 0 0 QQ
      refine r_istore_n (ls2 := [(2, ai (b2i r2)), (0, ar v0), (1, ai v1)]) d_M_laysFirst_27 (nle rfl) rfl ?_
      obtain ⟨n15, hw⟩ := hw
      refine r_pick (ls2 := [(0, ar v0), (2, ai (b2i r2))]) [1, 0] rfl ?_
      exact s_M_laysFirst_L28 hd hQ  n15 _ _ hw
    · replace hw := hw.2 w9
      refine r_aload_n (j := 0) d_M_laysFirst_9 rfl ?_
      obtain ⟨q16, hw⟩ := hw
      refine r_getR d_M_laysFirst_10 ok_12 (nle rfl) (nle rfl) rfl lf_M_126 q16 ?_
      refine r_iload_n (j := 2) d_M_laysFirst_13 rfl ?_
      refine r_iconst d_M_laysFirst_14 kc_0 ?_
      obtain ⟨q17, hw⟩ := hw
      obtain ⟨q18, hw⟩ := hw
      refine r_zast d_M_laysFirst_15 q17 q18 (Or.inl rfl) ?_
      refine r_iinc (j := 2) (ls2 := [(2, ai (v2 + (1 : Int32))), (0, ar v0), (1, ai v1)]) d_M_laysFirst_16 rfl (congrArg (HAdd.hAdd v2) kc_1) (nle rfl) rfl ?_
      refine r_goto d_M_laysFirst_19 ?_
      refine r_pick (ls2 := [(0, ar v0), (1, ai v1), (2, ai (v2 + (1 : Int32)))]) [1, 2, 0] rfl ?_
      exact ih _ _ hw
set_option maxRecDepth 100000 in
set_option maxHeartbeats 4000000 in
theorem s_M_laysFirst {d : Nat} (hd : 1 ≤ d) {v0 : Nat} {v1 : Int32} {h : Hp} {Q : Hp → Prop} {QQ : Option AV → Hp → Prop} (hw : w_M_laysFirst v0 v1 h Q) (hQ : ∀ h9, Q h9 → QQ none h9) : aCall m_M_laysFirst d [ar v0, ai v1] h 0 0 QQ := by
  obtain ⟨d, rfl⟩ : ∃ d9, d = d9 + 1 := ⟨d - 1, by omega⟩
  refine aCall_in pl_M_laysFirst (nle rfl) ?_
  show aW none m_M_laysFirst (d + 1) 0 [(0, ar v0), (1, ai v1)] [] h 0 0 QQ
  unfold w_M_laysFirst at hw
  refine r_iconst d_M_laysFirst_0 kc_0 ?_
  refine r_istore_n (ls2 := [(2, ai (0 : Int32)), (0, ar v0), (1, ai v1)]) d_M_laysFirst_1 (nle rfl) rfl ?_
  obtain ⟨n19, hw⟩ := hw
  refine r_pick (ls2 := [(0, ar v0), (1, ai v1), (2, ai (0 : Int32))]) [1, 2, 0] rfl ?_
  exact s_M_laysFirst_L2 hd hQ  n19 _ _ hw
set_option maxRecDepth 100000 in
set_option maxHeartbeats 4000000 in
theorem s_M_ask_B118 {d : Nat} (hd : 4 ≤ d + 1) {Q : Int32 → Hp → Prop} {QQ : Option AV → Hp → Prop} (hQ : ∀ r9 h9, Q r9 h9 → QQ (some (ai r9)) h9) {k56 : Int32 → Int32 → Int32 → Hp → Prop} {k69 : Int32 → Int32 → Hp → Prop} (hk56 : ∀ v5 v6 v7 h9, k56 v5 v6 v7 h9 → aW none m_M_ask (d + 1) 56 [(0, ar v0), (2, ai v2), (4, ai v4), (5, ai v5), (6, ai v6), (7, ai v7)] [] h9 0 0 QQ) (hk69 : ∀ v8 v9 h9, k69 v8 v9 h9 → aW none m_M_ask (d + 1) 69 [(0, ar v0), (2, ai v2), (4, ai v4), (5, ai v5), (6, ai v6), (7, ai v7), (8, ai v8), (9, ai v9)] [] h9 0 0 QQ) {v0 : Nat} {v2 : Int32} {v4 : Int32} {v5 : Int32} {v6 : Int32} {v7 : Int32} {v9 : Int32} {s0 : Int32} {s1 : Int32} {h : Hp} (hw : w_M_ask_B118 Q k56 k69 v0 v2 v4 v5 v6 v7 v9 s0 s1 h) : aW none m_M_ask (d + 1) 118 [(0, ar v0), (2, ai v2), (4, ai v4), (5, ai v5), (6, ai v6), (7, ai v7), (9, ai v9)] [ai s0, ai s1] h 0 0 QQ := by
  unfold w_M_ask_B118 at hw
  refine r_callS (av := [ai s1]) (rest := [ai s0]) d_M_ask_118 mk_M_truth ll_M_318 st_M_truth rfl rfl (nle rfl) (s_M_truth  hw (fun r16 h15 hw => ?_))
  show aW none m_M_ask (d + 1) 121 [(0, ar v0), (2, ai v2), (4, ai v4), (5, ai v5), (6, ai v6), (7, ai v7), (9, ai v9)] [ai r16, ai s0] h15 0 0 QQ
  refine r_iadd d_M_ask_121 ?_
  refine r_istore (ls2 := [(8, ai (s0 + r16)), (0, ar v0), (2, ai v2), (4, ai v4), (5, ai v5), (6, ai v6), (7, ai v7), (9, ai v9)]) d_M_ask_122 (nle rfl) rfl ?_
  refine r_iinc (j := 7) (ls2 := [(9, ai (v9 + (1 : Int32))), (8, ai (s0 + r16)), (0, ar v0), (2, ai v2), (4, ai v4), (5, ai v5), (6, ai v6), (7, ai v7)]) d_M_ask_124 rfl (congrArg (HAdd.hAdd v9) kc_1) (nle rfl) rfl ?_
  refine r_goto d_M_ask_127 ?_
  refine r_pick (ls2 := [(0, ar v0), (2, ai v2), (4, ai v4), (5, ai v5), (6, ai v6), (7, ai v7), (8, ai (s0 + r16)), (9, ai (v9 + (1 : Int32)))]) [2, 3, 4, 5, 6, 7, 1, 0] rfl ?_
  exact hk69 _ _ _ hw
set_option maxRecDepth 100000 in
set_option maxHeartbeats 4000000 in
theorem s_M_ask_B117 {d : Nat} (hd : 4 ≤ d + 1) {Q : Int32 → Hp → Prop} {QQ : Option AV → Hp → Prop} (hQ : ∀ r9 h9, Q r9 h9 → QQ (some (ai r9)) h9) {k56 : Int32 → Int32 → Int32 → Hp → Prop} {k69 : Int32 → Int32 → Hp → Prop} (hk56 : ∀ v5 v6 v7 h9, k56 v5 v6 v7 h9 → aW none m_M_ask (d + 1) 56 [(0, ar v0), (2, ai v2), (4, ai v4), (5, ai v5), (6, ai v6), (7, ai v7)] [] h9 0 0 QQ) (hk69 : ∀ v8 v9 h9, k69 v8 v9 h9 → aW none m_M_ask (d + 1) 69 [(0, ar v0), (2, ai v2), (4, ai v4), (5, ai v5), (6, ai v6), (7, ai v7), (8, ai v8), (9, ai v9)] [] h9 0 0 QQ) {v0 : Nat} {v2 : Int32} {v4 : Int32} {v5 : Int32} {v6 : Int32} {v7 : Int32} {v9 : Int32} {s0 : Int32} {h : Hp} (hw : w_M_ask_B117 Q k56 k69 v0 v2 v4 v5 v6 v7 v9 s0 h) : aW none m_M_ask (d + 1) 117 [(0, ar v0), (2, ai v2), (4, ai v4), (5, ai v5), (6, ai v6), (7, ai v7), (9, ai v9)] [ai s0] h 0 0 QQ := by
  unfold w_M_ask_B117 at hw
  refine r_iconst d_M_ask_117 kc_0 ?_
  exact s_M_ask_B118 hd hQ hk56 hk69 hw
set_option maxRecDepth 100000 in
set_option maxHeartbeats 4000000 in
theorem s_M_ask_L69 {d : Nat} (hd : 4 ≤ d + 1) {Q : Int32 → Hp → Prop} {QQ : Option AV → Hp → Prop} (hQ : ∀ r9 h9, Q r9 h9 → QQ (some (ai r9)) h9) {k56 : Int32 → Int32 → Int32 → Hp → Prop} (hk56 : ∀ v5 v6 v7 h9, k56 v5 v6 v7 h9 → aW none m_M_ask (d + 1) 56 [(0, ar v0), (2, ai v2), (4, ai v4), (5, ai v5), (6, ai v6), (7, ai v7)] [] h9 0 0 QQ) {v0 : Nat} {v2 : Int32} {v4 : Int32} {v5 : Int32} {v6 : Int32} {v7 : Int32} : ∀ (n : Nat) (v8 : Int32) (v9 : Int32) (h : Hp), w_M_ask_L69 Q k56 v0 v2 v4 v5 v6 v7 n v8 v9 h → aW none m_M_ask (d + 1) 69 [(0, ar v0), (2, ai v2), (4, ai v4), (5, ai v5), (6, ai v6), (7, ai v7), (8, ai v8), (9, ai v9)] [] h 0 0 QQ := by
  intro n
  induction n with
  | zero => intro v8 v9 h hw; exact hw.elim
  | succ n ih =>
    intro v8 v9 h hw
    unfold w_M_ask_L69 at hw
    refine r_iload (j := 7) d_M_ask_69 rfl ?_
    refine r_aload_n (j := 0) d_M_ask_71 rfl ?_
    obtain ⟨q10, hw⟩ := hw
    refine r_getI d_M_ask_72 ok_12 (nle rfl) (nle rfl) rfl lf_M_247 q10 ?_
    refine r_icmp_ge d_M_ask_75 (fun w9 => ?_) (fun w9 => ?_)
    · replace hw := hw.1 w9
      refine r_iload (j := 6) d_M_ask_130 rfl ?_
      refine r_iload (j := 2) d_M_ask_132 rfl ?_
      refine r_iload (j := 6) d_M_ask_134 rfl ?_
      refine r_isub d_M_ask_136 ?_
      refine r_callS (av := [ai v8, ai (v4 - v8)]) (rest := []) d_M_ask_137 mk_M_greater ll_M_343 st_M_greater rfl rfl (nle rfl) (s_M_greater  hw (fun r12 h11 hw => ?_))
      show aW none m_M_ask (d + 1) 140 [(0, ar v0), (2, ai v2), (4, ai v4), (5, ai v5), (6, ai v6), (7, ai v7), (8, ai v8), (9, ai v9)] [ai r12] h11 0 0 QQ
      refine r_istore (ls2 := [(9, ai r12), (0, ar v0), (2, ai v2), (4, ai v4), (5, ai v5), (6, ai v6), (7, ai v7), (8, ai v8)]) d_M_ask_140 (nle rfl) rfl ?_
      refine r_iload (j := 4) d_M_ask_142 rfl ?_
      refine r_ldcw d_M_ask_144 lc_M_277 ?_
      refine r_icmp_eq d_M_ask_147 (fun w9 => ?_) (fun w9 => ?_)
      · replace hw := hw.1 w9
        refine r_iload (j := 6) d_M_ask_160 rfl ?_
        refine r_istore (ls2 := [(5, ai v7), (9, ai r12), (0, ar v0), (2, ai v2), (4, ai v4), (6, ai v6), (7, ai v7), (8, ai v8)]) d_M_ask_162 (nle rfl) rfl ?_
        refine r_iload (j := 1) d_M_ask_164 rfl ?_
        refine r_istore (ls2 := [(6, ai r12), (5, ai v7), (9, ai r12), (0, ar v0), (2, ai v2), (4, ai v4), (7, ai v7), (8, ai v8)]) d_M_ask_166 (nle rfl) rfl ?_
        refine r_iinc (j := 6) (ls2 := [(7, ai (v7 + (1 : Int32))), (6, ai r12), (5, ai v7), (9, ai r12), (0, ar v0), (2, ai v2), (4, ai v4), (8, ai v8)]) d_M_ask_168 rfl (congrArg (HAdd.hAdd v7) kc_1) (nle rfl) rfl ?_
        refine r_goto d_M_ask_171 ?_
        refine r_pick (ls2 := [(0, ar v0), (2, ai v2), (4, ai v4), (5, ai v7), (6, ai r12), (7, ai (v7 + (1 : Int32)))]) [4, 5, 6, 2, 1, 0] rfl ?_
        exact hk56 _ _ _ _ hw
      · replace hw := hw.2 w9
        refine r_iload (j := 0) d_M_ask_150 rfl ?_
        refine r_iload (j := 5) d_M_ask_152 rfl ?_
        refine r_icmp_lt d_M_ask_154 (fun w9 => ?_) (fun w9 => ?_)
        · replace hw := hw.1 w9
          refine r_iload (j := 6) d_M_ask_160 rfl ?_
          refine r_istore (ls2 := [(5, ai v7), (9, ai r12), (0, ar v0), (2, ai v2), (4, ai v4), (6, ai v6), (7, ai v7), (8, ai v8)]) d_M_ask_162 (nle rfl) rfl ?_
          refine r_iload (j := 1) d_M_ask_164 rfl ?_
          refine r_istore (ls2 := [(6, ai r12), (5, ai v7), (9, ai r12), (0, ar v0), (2, ai v2), (4, ai v4), (7, ai v7), (8, ai v8)]) d_M_ask_166 (nle rfl) rfl ?_
          refine r_iinc (j := 6) (ls2 := [(7, ai (v7 + (1 : Int32))), (6, ai r12), (5, ai v7), (9, ai r12), (0, ar v0), (2, ai v2), (4, ai v4), (8, ai v8)]) d_M_ask_168 rfl (congrArg (HAdd.hAdd v7) kc_1) (nle rfl) rfl ?_
          refine r_goto d_M_ask_171 ?_
          refine r_pick (ls2 := [(0, ar v0), (2, ai v2), (4, ai v4), (5, ai v7), (6, ai r12), (7, ai (v7 + (1 : Int32)))]) [4, 5, 6, 2, 1, 0] rfl ?_
          exact hk56 _ _ _ _ hw
        · replace hw := hw.2 w9
          refine r_goto d_M_ask_157 ?_
          refine r_iinc (j := 6) (ls2 := [(7, ai (v7 + (1 : Int32))), (9, ai r12), (0, ar v0), (2, ai v2), (4, ai v4), (5, ai v5), (6, ai v6), (8, ai v8)]) d_M_ask_168 rfl (congrArg (HAdd.hAdd v7) kc_1) (nle rfl) rfl ?_
          refine r_goto d_M_ask_171 ?_
          refine r_pick (ls2 := [(0, ar v0), (2, ai v2), (4, ai v4), (5, ai v5), (6, ai v6), (7, ai (v7 + (1 : Int32)))]) [2, 3, 4, 5, 6, 0] rfl ?_
          exact hk56 _ _ _ _ hw
    · replace hw := hw.2 w9
      refine r_iload (j := 6) d_M_ask_78 rfl ?_
      refine r_aload_n (j := 0) d_M_ask_80 rfl ?_
      refine r_getR d_M_ask_81 ok_12 (nle rfl) (nle rfl) rfl lf_M_122 q10 ?_
      refine r_iload (j := 7) d_M_ask_84 rfl ?_
      refine r_iconst d_M_ask_86 kc_1 ?_
      refine r_iadd d_M_ask_87 ?_
      obtain ⟨q13, hw⟩ := hw
      obtain ⟨q14, hw⟩ := hw
      refine r_zald d_M_ask_88 q13 q14 ?_
      refine r_if_eq d_M_ask_89 (fun w9 => ?_) (fun w9 => ?_)
      · replace hw := hw.1 w9
        refine r_pick (ls2 := [(0, ar v0), (2, ai v2), (4, ai v4), (5, ai v5), (6, ai v6), (7, ai v7), (9, ai v9)]) [0, 1, 2, 3, 4, 5, 7] rfl ?_
        exact s_M_ask_B117 hd hQ hk56 ih hw
      · replace hw := hw.2 w9
        refine r_aload_n (j := 0) d_M_ask_92 rfl ?_
        refine r_getR d_M_ask_93 ok_12 (nle rfl) (nle rfl) rfl lf_M_126 q10 ?_
        refine r_bipush d_M_ask_96 kb_41 ?_
        refine r_iload (j := 7) d_M_ask_98 rfl ?_
        refine r_iconst d_M_ask_100 kc_1 ?_
        refine r_iadd d_M_ask_101 ?_
        refine r_imul d_M_ask_102 ?_
        refine r_iload (j := 5) d_M_ask_103 rfl ?_
        refine r_iadd d_M_ask_105 ?_
        refine r_bipush d_M_ask_106 kb_20 ?_
        refine r_iadd d_M_ask_108 ?_
        obtain ⟨q17, hw⟩ := hw
        obtain ⟨q18, hw⟩ := hw
        refine r_zald d_M_ask_109 q17 q18 ?_
        refine r_if_eq d_M_ask_110 (fun w9 => ?_) (fun w9 => ?_)
        · replace hw := hw.1 w9
          refine r_pick (ls2 := [(0, ar v0), (2, ai v2), (4, ai v4), (5, ai v5), (6, ai v6), (7, ai v7), (9, ai v9)]) [0, 1, 2, 3, 4, 5, 7] rfl ?_
          exact s_M_ask_B117 hd hQ hk56 ih hw
        · replace hw := hw.2 w9
          refine r_iconst d_M_ask_113 kc_1 ?_
          refine r_goto d_M_ask_114 ?_
          refine r_pick (ls2 := [(0, ar v0), (2, ai v2), (4, ai v4), (5, ai v5), (6, ai v6), (7, ai v7), (9, ai v9)]) [0, 1, 2, 3, 4, 5, 7] rfl ?_
          exact s_M_ask_B118 hd hQ hk56 ih hw
set_option maxRecDepth 100000 in
set_option maxHeartbeats 4000000 in
theorem s_M_ask_L56 {d : Nat} (hd : 4 ≤ d + 1) {Q : Int32 → Hp → Prop} {QQ : Option AV → Hp → Prop} (hQ : ∀ r9 h9, Q r9 h9 → QQ (some (ai r9)) h9) {v0 : Nat} {v2 : Int32} {v4 : Int32} : ∀ (n : Nat) (v5 : Int32) (v6 : Int32) (v7 : Int32) (h : Hp), w_M_ask_L56 Q  v0 v2 v4 n v5 v6 v7 h → aW none m_M_ask (d + 1) 56 [(0, ar v0), (2, ai v2), (4, ai v4), (5, ai v5), (6, ai v6), (7, ai v7)] [] h 0 0 QQ := by
  intro n
  induction n with
  | zero => intro v5 v6 v7 h hw; exact hw.elim
  | succ n ih =>
    intro v5 v6 v7 h hw
    unfold w_M_ask_L56 at hw
    refine r_iload (j := 5) d_M_ask_56 rfl ?_
    refine r_bipush d_M_ask_58 kb_20 ?_
    refine r_icmp_gt d_M_ask_60 (fun w9 => ?_) (fun w9 => ?_)
    · replace hw := hw.1 w9
      refine r_iload_n (j := 1) d_M_ask_174 rfl ?_
      refine r_if_ne d_M_ask_175 (fun w9 => ?_) (fun w9 => ?_)
      · replace hw := hw.2 w9
        refine r_iload (j := 4) d_M_ask_183 rfl ?_
        exact r_ireturn d_M_ask_185.1 rfl (hQ _ _ hw)
      · replace hw := hw.1 w9
        refine r_iload (j := 3) d_M_ask_178 rfl ?_
        refine r_goto d_M_ask_180 ?_
        exact r_ireturn d_M_ask_185.1 rfl (hQ _ _ hw)
    · replace hw := hw.2 w9
      refine r_iconst d_M_ask_63 kc_0 ?_
      refine r_istore (ls2 := [(8, ai (0 : Int32)), (0, ar v0), (2, ai v2), (4, ai v4), (5, ai v5), (6, ai v6), (7, ai v7)]) d_M_ask_64 (nle rfl) rfl ?_
      refine r_iconst d_M_ask_66 kc_m1 ?_
      refine r_istore (ls2 := [(9, ai (-1 : Int32)), (8, ai (0 : Int32)), (0, ar v0), (2, ai v2), (4, ai v4), (5, ai v5), (6, ai v6), (7, ai v7)]) d_M_ask_67 (nle rfl) rfl ?_
      obtain ⟨n19, hw⟩ := hw
      refine r_pick (ls2 := [(0, ar v0), (2, ai v2), (4, ai v4), (5, ai v5), (6, ai v6), (7, ai v7), (8, ai (0 : Int32)), (9, ai (-1 : Int32))]) [2, 3, 4, 5, 6, 7, 1, 0] rfl ?_
      exact s_M_ask_L69 hd hQ ih n19 _ _ _ hw
set_option maxRecDepth 100000 in
set_option maxHeartbeats 4000000 in
theorem s_M_ask {d : Nat} (hd : 4 ≤ d) {v0 : Nat} {v1 : Int32} {v2 : Int32} {v3 : Int32} {h : Hp} {Q : Int32 → Hp → Prop} {QQ : Option AV → Hp → Prop} (hw : w_M_ask v0 v1 v2 v3 h Q) (hQ : ∀ r9 h9, Q r9 h9 → QQ (some (ai r9)) h9) : aCall m_M_ask d [ar v0, ai v1, ai v2, ai v3] h 0 0 QQ := by
  obtain ⟨d, rfl⟩ : ∃ d9, d = d9 + 1 := ⟨d - 1, by omega⟩
  refine aCall_in pl_M_ask (nle rfl) ?_
  show aW none m_M_ask (d + 1) 0 [(0, ar v0), (1, ai v1), (2, ai v2), (3, ai v3)] [] h 0 0 QQ
  unfold w_M_ask at hw
  refine r_iload_n (j := 1) d_M_ask_0 rfl ?_
  refine r_iconst d_M_ask_1 kc_0 ?_
  refine r_bipush d_M_ask_2 kb_8 ?_
  refine r_callS (av := [ai v1, ai (0 : Int32), ai (8 : Int32)]) (rest := []) d_M_ask_4 mk_M_isIn ll_M_148 st_M_isIn rfl rfl (nle rfl) (s_M_isIn  hw (fun r2 h1 hw => ?_))
  show aW none m_M_ask (d + 1) 7 [(0, ar v0), (1, ai v1), (2, ai v2), (3, ai v3)] [ai (b2i r2)] h1 0 0 QQ
  refine r_if_eq d_M_ask_7 (fun w9 => ?_) (fun w9 => ?_)
  · replace hw := hw.1 (b2i_0.mp w9)
    refine r_ldcw d_M_ask_19 lc_M_277 ?_
    exact r_ireturn d_M_ask_22.1 rfl (hQ _ _ hw)
  · replace hw := hw.2 (fun g9 => w9 (b2i_0.mpr g9))
    refine r_iload_n (j := 2) d_M_ask_10 rfl ?_
    refine r_iconst d_M_ask_11 kc_0 ?_
    refine r_iconst d_M_ask_12 kc_1 ?_
    refine r_callS (av := [ai v2, ai (0 : Int32), ai (1 : Int32)]) (rest := []) d_M_ask_13 mk_M_isIn ll_M_148 st_M_isIn rfl rfl (nle rfl) (s_M_isIn  hw (fun r4 h3 hw => ?_))
    show aW none m_M_ask (d + 1) 16 [(0, ar v0), (1, ai v1), (2, ai v2), (3, ai v3)] [ai (b2i r4)] h3 0 0 QQ
    refine r_if_ne d_M_ask_16 (fun w9 => ?_) (fun w9 => ?_)
    · replace hw := hw.2 (fun g9 => w9 (b2i_0.mpr g9))
      refine r_aload_n (j := 0) d_M_ask_23 rfl ?_
      refine r_iload_n (j := 3) d_M_ask_24 rfl ?_
      obtain ⟨q7, hw⟩ := hw
      refine r_callV (av := [ai v3]) (rest := []) (ci := 12) d_M_ask_25 mk_M_laysFits ll_M_546 im_M_laysFits se_M_laysFits rfl (nle rfl) rfl rfl (nle rfl) q7 (s_M_laysFits (by omega) hw (fun r6 h5 hw => ?_))
      show aW none m_M_ask (d + 1) 28 [(0, ar v0), (1, ai v1), (2, ai v2), (3, ai v3)] [ai r6] h5 0 0 QQ
      refine r_istore (ls2 := [(4, ai r6), (0, ar v0), (1, ai v1), (2, ai v2), (3, ai v3)]) d_M_ask_28 (nle rfl) rfl ?_
      refine r_iload (j := 0) d_M_ask_30 rfl ?_
      refine r_if_ne d_M_ask_32 (fun w9 => ?_) (fun w9 => ?_)
      · replace hw := hw.2 w9
        refine r_aload_n (j := 1) d_M_ask_39 rfl ?_
        refine r_iload_n (j := 2) d_M_ask_40 rfl ?_
        obtain ⟨q9, hw⟩ := hw
        refine r_callV (av := [ai v1]) (rest := []) (ci := 12) d_M_ask_41 mk_M_laysFirst ll_M_549 im_M_laysFirst se_M_laysFirst rfl (nle rfl) rfl rfl (nle rfl) q9 (s_M_laysFirst (by omega) hw (fun h8 hw => ?_))
        show aW none m_M_ask (d + 1) 44 [(4, ai r6), (0, ar v0), (1, ai v1), (2, ai v2), (3, ai v3)] [] h8 0 0 QQ
        refine r_ldcw d_M_ask_44 lc_M_277 ?_
        refine r_istore (ls2 := [(5, ai (-1000001 : Int32)), (4, ai r6), (0, ar v0), (1, ai v1), (2, ai v2), (3, ai v3)]) d_M_ask_47 (nle rfl) rfl ?_
        refine r_iconst d_M_ask_49 kc_0 ?_
        refine r_istore (ls2 := [(6, ai (0 : Int32)), (5, ai (-1000001 : Int32)), (4, ai r6), (0, ar v0), (1, ai v1), (2, ai v2), (3, ai v3)]) d_M_ask_50 (nle rfl) rfl ?_
        refine r_bipush d_M_ask_52 kb_m20 ?_
        refine r_istore (ls2 := [(7, ai (-20 : Int32)), (6, ai (0 : Int32)), (5, ai (-1000001 : Int32)), (4, ai r6), (0, ar v0), (1, ai v1), (2, ai v2), (3, ai v3)]) d_M_ask_54 (nle rfl) rfl ?_
        obtain ⟨n20, hw⟩ := hw
        refine r_pick (ls2 := [(0, ar v0), (2, ai v2), (4, ai r6), (5, ai (-1000001 : Int32)), (6, ai (0 : Int32)), (7, ai (-20 : Int32))]) [4, 6, 3, 2, 1, 0] rfl ?_
        exact s_M_ask_L56 hd hQ  n20 _ _ _ _ hw
      · replace hw := hw.1 w9
        refine r_ldcw d_M_ask_35 lc_M_277 ?_
        exact r_ireturn d_M_ask_38.1 rfl (hQ _ _ hw)
    · replace hw := hw.1 (b2i_0.mp w9)
      refine r_ldcw d_M_ask_19 lc_M_277 ?_
      exact r_ireturn d_M_ask_22.1 rfl (hQ _ _ hw)
set_option maxRecDepth 100000 in
set_option maxHeartbeats 4000000 in
theorem s_M_image_L20 {d : Nat} (hd : 1 ≤ d + 1) {Q : Int32 → Hp → Prop} {QQ : Option AV → Hp → Prop} (hQ : ∀ r9 h9, Q r9 h9 → QQ (some (ai r9)) h9) {v0 : Nat} {v1 : Int32} : ∀ (n : Nat) (v2 : Int32) (h : Hp), w_M_image_L20 Q  v0 v1 n v2 h → aW none m_M_image (d + 1) 20 [(0, ar v0), (1, ai v1), (2, ai v2)] [] h 0 0 QQ := by
  intro n
  induction n with
  | zero => intro v2 h hw; exact hw.elim
  | succ n ih =>
    intro v2 h hw
    unfold w_M_image_L20 at hw
    refine r_iload_n (j := 2) d_M_image_20 rfl ?_
    refine r_bipush d_M_image_21 kb_44 ?_
    refine r_icmp_ge d_M_image_23 (fun w9 => ?_) (fun w9 => ?_)
    · replace hw := hw.1 w9
      refine r_aload_n (j := 0) d_M_image_49 rfl ?_
      obtain ⟨q6, hw⟩ := hw
      refine r_getI d_M_image_50 ok_12 (nle rfl) (nle rfl) rfl lf_M_247 q6 ?_
      exact r_ireturn d_M_image_53.1 rfl (hQ _ _ hw)
    · replace hw := hw.2 w9
      refine r_aload_n (j := 0) d_M_image_26 rfl ?_
      obtain ⟨q7, hw⟩ := hw
      refine r_getR d_M_image_27 ok_12 (nle rfl) (nle rfl) rfl lf_M_129 q7 ?_
      refine r_bipush d_M_image_30 kb_44 ?_
      refine r_iload_n (j := 1) d_M_image_32 rfl ?_
      refine r_imul d_M_image_33 ?_
      refine r_iload_n (j := 2) d_M_image_34 rfl ?_
      refine r_iadd d_M_image_35 ?_
      refine r_aload_n (j := 0) d_M_image_36 rfl ?_
      refine r_getR d_M_image_37 ok_12 (nle rfl) (nle rfl) rfl lf_M_30 q7 ?_
      refine r_iload_n (j := 2) d_M_image_40 rfl ?_
      obtain ⟨q8, hw⟩ := hw
      obtain ⟨q9, hw⟩ := hw
      refine r_iald d_M_image_41 q8 q9 ?_
      obtain ⟨q10, hw⟩ := hw
      obtain ⟨q11, hw⟩ := hw
      refine r_iast d_M_image_42 q10 q11 ?_
      refine r_iinc (j := 2) (ls2 := [(2, ai (v2 + (1 : Int32))), (0, ar v0), (1, ai v1)]) d_M_image_43 rfl (congrArg (HAdd.hAdd v2) kc_1) (nle rfl) rfl ?_
      refine r_goto d_M_image_46 ?_
      refine r_pick (ls2 := [(0, ar v0), (1, ai v1), (2, ai (v2 + (1 : Int32)))]) [1, 2, 0] rfl ?_
      exact ih _ _ hw
set_option maxRecDepth 100000 in
set_option maxHeartbeats 4000000 in
theorem s_M_image {d : Nat} (hd : 1 ≤ d) {v0 : Nat} {v1 : Int32} {h : Hp} {Q : Int32 → Hp → Prop} {QQ : Option AV → Hp → Prop} (hw : w_M_image v0 v1 h Q) (hQ : ∀ r9 h9, Q r9 h9 → QQ (some (ai r9)) h9) : aCall m_M_image d [ar v0, ai v1] h 0 0 QQ := by
  obtain ⟨d, rfl⟩ : ∃ d9, d = d9 + 1 := ⟨d - 1, by omega⟩
  refine aCall_in pl_M_image (nle rfl) ?_
  show aW none m_M_image (d + 1) 0 [(0, ar v0), (1, ai v1)] [] h 0 0 QQ
  unfold w_M_image at hw
  refine r_iload_n (j := 1) d_M_image_0 rfl ?_
  refine r_iconst d_M_image_1 kc_0 ?_
  refine r_iconst d_M_image_2 kc_1 ?_
  refine r_callS (av := [ai v1, ai (0 : Int32), ai (1 : Int32)]) (rest := []) d_M_image_3 mk_M_isIn ll_M_148 st_M_isIn rfl rfl (nle rfl) (s_M_isIn  hw (fun r2 h1 hw => ?_))
  show aW none m_M_image (d + 1) 6 [(0, ar v0), (1, ai v1)] [ai (b2i r2)] h1 0 0 QQ
  refine r_if_ne d_M_image_6 (fun w9 => ?_) (fun w9 => ?_)
  · replace hw := hw.2 (fun g9 => w9 (b2i_0.mpr g9))
    refine r_aload_n (j := 0) d_M_image_11 rfl ?_
    obtain ⟨q3, hw⟩ := hw
    refine r_getR d_M_image_12 ok_12 (nle rfl) (nle rfl) rfl lf_M_132 q3 ?_
    refine r_iload_n (j := 1) d_M_image_15 rfl ?_
    refine r_iconst d_M_image_16 kc_1 ?_
    obtain ⟨q4, hw⟩ := hw
    obtain ⟨q5, hw⟩ := hw
    refine r_zast d_M_image_17 q4 q5 (Or.inr rfl) ?_
    refine r_iconst d_M_image_18 kc_0 ?_
    refine r_istore_n (ls2 := [(2, ai (0 : Int32)), (0, ar v0), (1, ai v1)]) d_M_image_19 (nle rfl) rfl ?_
    obtain ⟨n12, hw⟩ := hw
    refine r_pick (ls2 := [(0, ar v0), (1, ai v1), (2, ai (0 : Int32))]) [1, 2, 0] rfl ?_
    exact s_M_image_L20 hd hQ  n12 _ _ hw
  · replace hw := hw.1 (b2i_0.mp w9)
    refine r_iconst d_M_image_9 kc_m1 ?_
    exact r_ireturn d_M_image_10.1 rfl (hQ _ _ hw)
set_option maxRecDepth 100000 in
set_option maxHeartbeats 4000000 in
theorem s_M_back_L22 {d : Nat} (hd : 1 ≤ d + 1) {Q : Int32 → Hp → Prop} {QQ : Option AV → Hp → Prop} (hQ : ∀ r9 h9, Q r9 h9 → QQ (some (ai r9)) h9) {v0 : Nat} {v1 : Int32} : ∀ (n : Nat) (v2 : Int32) (h : Hp), w_M_back_L22 Q  v0 v1 n v2 h → aW none m_M_back (d + 1) 22 [(0, ar v0), (1, ai v1), (2, ai v2)] [] h 0 0 QQ := by
  intro n
  induction n with
  | zero => intro v2 h hw; exact hw.elim
  | succ n ih =>
    intro v2 h hw
    unfold w_M_back_L22 at hw
    refine r_iload_n (j := 2) d_M_back_22 rfl ?_
    refine r_bipush d_M_back_23 kb_44 ?_
    refine r_icmp_ge d_M_back_25 (fun w9 => ?_) (fun w9 => ?_)
    · replace hw := hw.1 w9
      refine r_aload_n (j := 0) d_M_back_51 rfl ?_
      refine r_iconst d_M_back_52 kc_0 ?_
      obtain ⟨q6, hw⟩ := hw
      refine r_putI d_M_back_53 ok_12 (nle rfl) (nle rfl) rfl lf_M_250 rfl q6 ?_
      refine r_aload_n (j := 0) d_M_back_56 rfl ?_
      refine r_iconst d_M_back_57 kc_0 ?_
      refine r_putI d_M_back_58 ok_12 (nle rfl) (nle rfl) rfl lf_M_253 rfl q6 ?_
      refine r_aload_n (j := 0) d_M_back_61 rfl ?_
      refine r_iconst d_M_back_62 kc_0 ?_
      refine r_putZ d_M_back_63 ok_12 (nle rfl) (nle rfl) rfl lf_M_259 rfl q6 (Or.inl rfl) ?_
      refine r_aload_n (j := 0) d_M_back_66 rfl ?_
      refine r_getI d_M_back_67 ok_12 (nle rfl) (nle rfl) rfl lf_M_247 q6 ?_
      exact r_ireturn d_M_back_70.1 rfl (hQ _ _ hw)
    · replace hw := hw.2 w9
      refine r_aload_n (j := 0) d_M_back_28 rfl ?_
      obtain ⟨q7, hw⟩ := hw
      refine r_getR d_M_back_29 ok_12 (nle rfl) (nle rfl) rfl lf_M_30 q7 ?_
      refine r_iload_n (j := 2) d_M_back_32 rfl ?_
      refine r_aload_n (j := 0) d_M_back_33 rfl ?_
      refine r_getR d_M_back_34 ok_12 (nle rfl) (nle rfl) rfl lf_M_129 q7 ?_
      refine r_bipush d_M_back_37 kb_44 ?_
      refine r_iload_n (j := 1) d_M_back_39 rfl ?_
      refine r_imul d_M_back_40 ?_
      refine r_iload_n (j := 2) d_M_back_41 rfl ?_
      refine r_iadd d_M_back_42 ?_
      obtain ⟨q8, hw⟩ := hw
      obtain ⟨q9, hw⟩ := hw
      refine r_iald d_M_back_43 q8 q9 ?_
      obtain ⟨q10, hw⟩ := hw
      obtain ⟨q11, hw⟩ := hw
      refine r_iast d_M_back_44 q10 q11 ?_
      refine r_iinc (j := 2) (ls2 := [(2, ai (v2 + (1 : Int32))), (0, ar v0), (1, ai v1)]) d_M_back_45 rfl (congrArg (HAdd.hAdd v2) kc_1) (nle rfl) rfl ?_
      refine r_goto d_M_back_48 ?_
      refine r_pick (ls2 := [(0, ar v0), (1, ai v1), (2, ai (v2 + (1 : Int32)))]) [1, 2, 0] rfl ?_
      exact ih _ _ hw
set_option maxRecDepth 100000 in
set_option maxHeartbeats 4000000 in
theorem s_M_back {d : Nat} (hd : 1 ≤ d) {v0 : Nat} {v1 : Int32} {h : Hp} {Q : Int32 → Hp → Prop} {QQ : Option AV → Hp → Prop} (hw : w_M_back v0 v1 h Q) (hQ : ∀ r9 h9, Q r9 h9 → QQ (some (ai r9)) h9) : aCall m_M_back d [ar v0, ai v1] h 0 0 QQ := by
  obtain ⟨d, rfl⟩ : ∃ d9, d = d9 + 1 := ⟨d - 1, by omega⟩
  refine aCall_in pl_M_back (nle rfl) ?_
  show aW none m_M_back (d + 1) 0 [(0, ar v0), (1, ai v1)] [] h 0 0 QQ
  unfold w_M_back at hw
  refine r_iload_n (j := 1) d_M_back_0 rfl ?_
  refine r_iconst d_M_back_1 kc_0 ?_
  refine r_iconst d_M_back_2 kc_1 ?_
  refine r_callS (av := [ai v1, ai (0 : Int32), ai (1 : Int32)]) (rest := []) d_M_back_3 mk_M_isIn ll_M_148 st_M_isIn rfl rfl (nle rfl) (s_M_isIn  hw (fun r2 h1 hw => ?_))
  show aW none m_M_back (d + 1) 6 [(0, ar v0), (1, ai v1)] [ai (b2i r2)] h1 0 0 QQ
  refine r_if_eq d_M_back_6 (fun w9 => ?_) (fun w9 => ?_)
  · replace hw := hw.1 (b2i_0.mp w9)
    refine r_iconst d_M_back_18 kc_m1 ?_
    exact r_ireturn d_M_back_19.1 rfl (hQ _ _ hw)
  · replace hw := hw.2 (fun g9 => w9 (b2i_0.mpr g9))
    refine r_aload_n (j := 0) d_M_back_9 rfl ?_
    obtain ⟨q3, hw⟩ := hw
    refine r_getR d_M_back_10 ok_12 (nle rfl) (nle rfl) rfl lf_M_132 q3 ?_
    refine r_iload_n (j := 1) d_M_back_13 rfl ?_
    obtain ⟨q4, hw⟩ := hw
    obtain ⟨q5, hw⟩ := hw
    refine r_zald d_M_back_14 q4 q5 ?_
    refine r_if_ne d_M_back_15 (fun w9 => ?_) (fun w9 => ?_)
    · replace hw := hw.2 w9
      refine r_iconst d_M_back_20 kc_0 ?_
      refine r_istore_n (ls2 := [(2, ai (0 : Int32)), (0, ar v0), (1, ai v1)]) d_M_back_21 (nle rfl) rfl ?_
      obtain ⟨n12, hw⟩ := hw
      refine r_pick (ls2 := [(0, ar v0), (1, ai v1), (2, ai (0 : Int32))]) [1, 2, 0] rfl ?_
      exact s_M_back_L22 hd hQ  n12 _ _ hw
    · replace hw := hw.1 w9
      refine r_iconst d_M_back_18 kc_m1 ?_
      exact r_ireturn d_M_back_19.1 rfl (hQ _ _ hw)
set_option maxRecDepth 100000 in
set_option maxHeartbeats 4000000 in
theorem s_M_greatest_L14 {d : Nat} (hd : 1 ≤ d + 1) {Q : Int32 → Hp → Prop} {QQ : Option AV → Hp → Prop} (hQ : ∀ r9 h9, Q r9 h9 → QQ (some (ai r9)) h9) {k4 : Int32 → Int32 → Hp → Prop} (hk4 : ∀ v1 v2 h9, k4 v1 v2 h9 → aW none m_M_greatest (d + 1) 4 [(0, ar v0), (1, ai v1), (2, ai v2)] [] h9 0 0 QQ) {v0 : Nat} {v2 : Int32} : ∀ (n : Nat) (v1 : Int32) (v3 : Int32) (h : Hp), w_M_greatest_L14 Q k4 v0 v2 n v1 v3 h → aW none m_M_greatest (d + 1) 14 [(0, ar v0), (1, ai v1), (2, ai v2), (3, ai v3)] [] h 0 0 QQ := by
  intro n
  induction n with
  | zero => intro v1 v3 h hw; exact hw.elim
  | succ n ih =>
    intro v1 v3 h hw
    unfold w_M_greatest_L14 at hw
    refine r_iload_n (j := 3) d_M_greatest_14 rfl ?_
    refine r_aload_n (j := 0) d_M_greatest_15 rfl ?_
    obtain ⟨q2, hw⟩ := hw
    refine r_getI d_M_greatest_16 ok_12 (nle rfl) (nle rfl) rfl lf_M_244 q2 ?_
    refine r_icmp_ge d_M_greatest_19 (fun w9 => ?_) (fun w9 => ?_)
    · replace hw := hw.1 w9
      refine r_iinc (j := 2) (ls2 := [(2, ai (v2 + (1 : Int32))), (0, ar v0), (1, ai v1), (3, ai v3)]) d_M_greatest_42 rfl (congrArg (HAdd.hAdd v2) kc_1) (nle rfl) rfl ?_
      refine r_goto d_M_greatest_45 ?_
      refine r_pick (ls2 := [(0, ar v0), (1, ai v1), (2, ai (v2 + (1 : Int32)))]) [1, 2, 0] rfl ?_
      exact hk4 _ _ _ hw
    · replace hw := hw.2 w9
      refine r_iload_n (j := 1) d_M_greatest_22 rfl ?_
      refine r_aload_n (j := 0) d_M_greatest_23 rfl ?_
      refine r_iload_n (j := 2) d_M_greatest_24 rfl ?_
      refine r_iload_n (j := 3) d_M_greatest_25 rfl ?_
      refine r_callV (av := [ai v2, ai v3]) (rest := [ai v1]) (ci := 12) d_M_greatest_26 mk_M_numberOf ll_M_274 im_M_numberOf se_M_numberOf rfl (nle rfl) rfl rfl (nle rfl) q2 (s_M_numberOf  hw (fun r4 h3 hw => ?_))
      show aW none m_M_greatest (d + 1) 29 [(0, ar v0), (1, ai v1), (2, ai v2), (3, ai v3)] [ai r4, ai v1] h3 0 0 QQ
      refine r_callS (av := [ai r4]) (rest := [ai v1]) d_M_greatest_29 mk_M_plus ll_M_296 st_M_plus rfl rfl (nle rfl) (s_M_plus  hw (fun r6 h5 hw => ?_))
      show aW none m_M_greatest (d + 1) 32 [(0, ar v0), (1, ai v1), (2, ai v2), (3, ai v3)] [ai r6, ai v1] h5 0 0 QQ
      refine r_callS (av := [ai v1, ai r6]) (rest := []) d_M_greatest_32 mk_M_greater ll_M_343 st_M_greater rfl rfl (nle rfl) (s_M_greater  hw (fun r8 h7 hw => ?_))
      show aW none m_M_greatest (d + 1) 35 [(0, ar v0), (1, ai v1), (2, ai v2), (3, ai v3)] [ai r8] h7 0 0 QQ
      refine r_istore_n (ls2 := [(1, ai r8), (0, ar v0), (2, ai v2), (3, ai v3)]) d_M_greatest_35 (nle rfl) rfl ?_
      refine r_iinc (j := 3) (ls2 := [(3, ai (v3 + (1 : Int32))), (1, ai r8), (0, ar v0), (2, ai v2)]) d_M_greatest_36 rfl (congrArg (HAdd.hAdd v3) kc_1) (nle rfl) rfl ?_
      refine r_goto d_M_greatest_39 ?_
      refine r_pick (ls2 := [(0, ar v0), (1, ai r8), (2, ai v2), (3, ai (v3 + (1 : Int32)))]) [2, 1, 3, 0] rfl ?_
      exact ih _ _ _ hw
set_option maxRecDepth 100000 in
set_option maxHeartbeats 4000000 in
theorem s_M_greatest_L4 {d : Nat} (hd : 1 ≤ d + 1) {Q : Int32 → Hp → Prop} {QQ : Option AV → Hp → Prop} (hQ : ∀ r9 h9, Q r9 h9 → QQ (some (ai r9)) h9) {v0 : Nat} : ∀ (n : Nat) (v1 : Int32) (v2 : Int32) (h : Hp), w_M_greatest_L4 Q  v0 n v1 v2 h → aW none m_M_greatest (d + 1) 4 [(0, ar v0), (1, ai v1), (2, ai v2)] [] h 0 0 QQ := by
  intro n
  induction n with
  | zero => intro v1 v2 h hw; exact hw.elim
  | succ n ih =>
    intro v1 v2 h hw
    unfold w_M_greatest_L4 at hw
    refine r_iload_n (j := 2) d_M_greatest_4 rfl ?_
    refine r_aload_n (j := 0) d_M_greatest_5 rfl ?_
    obtain ⟨q1, hw⟩ := hw
    refine r_getI d_M_greatest_6 ok_12 (nle rfl) (nle rfl) rfl lf_M_247 q1 ?_
    refine r_icmp_ge d_M_greatest_9 (fun w9 => ?_) (fun w9 => ?_)
    · replace hw := hw.1 w9
      refine r_iload_n (j := 1) d_M_greatest_48 rfl ?_
      exact r_ireturn d_M_greatest_49.1 rfl (hQ _ _ hw)
    · replace hw := hw.2 w9
      refine r_iconst d_M_greatest_12 kc_0 ?_
      refine r_istore_n (ls2 := [(3, ai (0 : Int32)), (0, ar v0), (1, ai v1), (2, ai v2)]) d_M_greatest_13 (nle rfl) rfl ?_
      obtain ⟨n9, hw⟩ := hw
      refine r_pick (ls2 := [(0, ar v0), (1, ai v1), (2, ai v2), (3, ai (0 : Int32))]) [1, 2, 3, 0] rfl ?_
      exact s_M_greatest_L14 hd hQ ih n9 _ _ _ hw
set_option maxRecDepth 100000 in
set_option maxHeartbeats 4000000 in
theorem s_M_greatest {d : Nat} (hd : 1 ≤ d) {v0 : Nat} {h : Hp} {Q : Int32 → Hp → Prop} {QQ : Option AV → Hp → Prop} (hw : w_M_greatest v0 h Q) (hQ : ∀ r9 h9, Q r9 h9 → QQ (some (ai r9)) h9) : aCall m_M_greatest d [ar v0] h 0 0 QQ := by
  obtain ⟨d, rfl⟩ : ∃ d9, d = d9 + 1 := ⟨d - 1, by omega⟩
  refine aCall_in pl_M_greatest (nle rfl) ?_
  show aW none m_M_greatest (d + 1) 0 [(0, ar v0)] [] h 0 0 QQ
  unfold w_M_greatest at hw
  refine r_iconst d_M_greatest_0 kc_0 ?_
  refine r_istore_n (ls2 := [(1, ai (0 : Int32)), (0, ar v0)]) d_M_greatest_1 (nle rfl) rfl ?_
  refine r_iconst d_M_greatest_2 kc_0 ?_
  refine r_istore_n (ls2 := [(2, ai (0 : Int32)), (1, ai (0 : Int32)), (0, ar v0)]) d_M_greatest_3 (nle rfl) rfl ?_
  obtain ⟨n10, hw⟩ := hw
  refine r_pick (ls2 := [(0, ar v0), (1, ai (0 : Int32)), (2, ai (0 : Int32))]) [2, 1, 0] rfl ?_
  exact s_M_greatest_L4 hd hQ  n10 _ _ _ hw
set_option maxRecDepth 100000 in
set_option maxHeartbeats 4000000 in
theorem s_M_about {d : Nat} (hd : 2 ≤ d) {v0 : Nat} {v1 : Int32} {h : Hp} {Q : Int32 → Hp → Prop} {QQ : Option AV → Hp → Prop} (hw : w_M_about v0 v1 h Q) (hQ : ∀ r9 h9, Q r9 h9 → QQ (some (ai r9)) h9) : aCall m_M_about d [ar v0, ai v1] h 0 0 QQ := by
  obtain ⟨d, rfl⟩ : ∃ d9, d = d9 + 1 := ⟨d - 1, by omega⟩
  refine aCall_in pl_M_about (nle rfl) ?_
  show aW none m_M_about (d + 1) 0 [(0, ar v0), (1, ai v1)] [] h 0 0 QQ
  unfold w_M_about at hw
  refine r_iload_n (j := 1) d_M_about_0 rfl ?_
  by_cases o9 : v1.toInt < 0 ∨ 8 < v1.toInt
  · refine r_tabOut d_M_about_1 o9 (by decide) ?_
    replace hw := hw.1 o9
    refine r_iconst d_M_about_100 kc_m1 ?_
    exact r_ireturn d_M_about_101.1 rfl (hQ _ _ hw)
  · have o8 : v1.toInt = 0 ∨ v1.toInt = 1 ∨ v1.toInt = 2 ∨ v1.toInt = 3 ∨ v1.toInt = 4 ∨ v1.toInt = 5 ∨ v1.toInt = 6 ∨ v1.toInt = 7 ∨ v1.toInt = 8 := by omega
    replace hw := hw.2
    rcases o8 with o8 | o8 | o8 | o8 | o8 | o8 | o8 | o8 | o8
    · refine r_tabIn (off := 51) d_M_about_1 (by omega) (by omega) (by rw [o8]; rfl) (by decide) ?_
      replace hw := hw.1 o8
      refine r_aload_n (j := 0) d_M_about_52 rfl ?_
      obtain ⟨q1, hw⟩ := hw
      refine r_getI d_M_about_53 ok_12 (nle rfl) (nle rfl) rfl lf_M_244 q1 ?_
      exact r_ireturn d_M_about_56.1 rfl (hQ _ _ hw)
    · refine r_tabIn (off := 56) d_M_about_1 (by omega) (by omega) (by rw [o8]; rfl) (by decide) ?_
      replace hw := hw.2.1 o8
      refine r_aload_n (j := 0) d_M_about_57 rfl ?_
      obtain ⟨q2, hw⟩ := hw
      refine r_getI d_M_about_58 ok_12 (nle rfl) (nle rfl) rfl lf_M_247 q2 ?_
      exact r_ireturn d_M_about_61.1 rfl (hQ _ _ hw)
    · refine r_tabIn (off := 61) d_M_about_1 (by omega) (by omega) (by rw [o8]; rfl) (by decide) ?_
      replace hw := hw.2.2.1 o8
      refine r_aload_n (j := 0) d_M_about_62 rfl ?_
      obtain ⟨q3, hw⟩ := hw
      refine r_getR d_M_about_63 ok_12 (nle rfl) (nle rfl) rfl lf_M_30 q3 ?_
      refine r_bipush d_M_about_66 kb_35 ?_
      obtain ⟨q4, hw⟩ := hw
      obtain ⟨q5, hw⟩ := hw
      refine r_iald d_M_about_68 q4 q5 ?_
      exact r_ireturn d_M_about_69.1 rfl (hQ _ _ hw)
    · refine r_tabIn (off := 69) d_M_about_1 (by omega) (by omega) (by rw [o8]; rfl) (by decide) ?_
      replace hw := hw.2.2.2.1 o8
      refine r_aload_n (j := 0) d_M_about_70 rfl ?_
      obtain ⟨q8, hw⟩ := hw
      refine r_callV (av := []) (rest := []) (ci := 12) d_M_about_71 mk_M_greatest ll_M_552 im_M_greatest se_M_greatest rfl (nle rfl) rfl rfl (nle rfl) q8 (s_M_greatest (by omega) hw (fun r7 h6 hw => ?_))
      show aW none m_M_about (d + 1) 74 [(0, ar v0), (1, ai v1)] [ai r7] h6 0 0 QQ
      exact r_ireturn d_M_about_74.1 rfl (hQ _ _ hw)
    · refine r_tabIn (off := 74) d_M_about_1 (by omega) (by omega) (by rw [o8]; rfl) (by decide) ?_
      replace hw := hw.2.2.2.2.1 o8
      refine r_aload_n (j := 0) d_M_about_75 rfl ?_
      obtain ⟨q9, hw⟩ := hw
      refine r_getI d_M_about_76 ok_12 (nle rfl) (nle rfl) rfl lf_M_250 q9 ?_
      exact r_ireturn d_M_about_79.1 rfl (hQ _ _ hw)
    · refine r_tabIn (off := 79) d_M_about_1 (by omega) (by omega) (by rw [o8]; rfl) (by decide) ?_
      replace hw := hw.2.2.2.2.2.1 o8
      refine r_aload_n (j := 0) d_M_about_80 rfl ?_
      obtain ⟨q10, hw⟩ := hw
      refine r_getI d_M_about_81 ok_12 (nle rfl) (nle rfl) rfl lf_M_253 q10 ?_
      exact r_ireturn d_M_about_84.1 rfl (hQ _ _ hw)
    · refine r_tabIn (off := 84) d_M_about_1 (by omega) (by omega) (by rw [o8]; rfl) (by decide) ?_
      replace hw := hw.2.2.2.2.2.2.1 o8
      refine r_aload_n (j := 0) d_M_about_85 rfl ?_
      obtain ⟨q11, hw⟩ := hw
      refine r_getI d_M_about_86 ok_12 (nle rfl) (nle rfl) rfl lf_M_256 q11 ?_
      exact r_ireturn d_M_about_89.1 rfl (hQ _ _ hw)
    · refine r_tabIn (off := 89) d_M_about_1 (by omega) (by omega) (by rw [o8]; rfl) (by decide) ?_
      replace hw := hw.2.2.2.2.2.2.2.1 o8
      refine r_aload_n (j := 0) d_M_about_90 rfl ?_
      obtain ⟨q12, hw⟩ := hw
      refine r_getI d_M_about_91 ok_12 (nle rfl) (nle rfl) rfl lf_M_527 q12 ?_
      exact r_ireturn d_M_about_94.1 rfl (hQ _ _ hw)
    · refine r_tabIn (off := 94) d_M_about_1 (by omega) (by omega) (by rw [o8]; rfl) (by decide) ?_
      replace hw := hw.2.2.2.2.2.2.2.2 o8
      refine r_aload_n (j := 0) d_M_about_95 rfl ?_
      obtain ⟨q13, hw⟩ := hw
      refine r_getI d_M_about_96 ok_12 (nle rfl) (nle rfl) rfl lf_M_141 q13 ?_
      exact r_ireturn d_M_about_99.1 rfl (hQ _ _ hw)
set_option maxRecDepth 100000 in
set_option maxHeartbeats 4000000 in
theorem s_L_law_B1537 {L : Nat} {xs : Nat → Int32} {d : Nat} (hd : 65 ≤ d + 1) {Q : Bool → Hp → Prop} {QQ : Option AV → Hp → Prop} (hQ : ∀ r9 h9, Q r9 h9 → QQ (some (ai (b2i r9))) h9) {k18 : Int32 → Nat → Nat → Hp → Prop} (hk18 : ∀ v3 bc bs h9, k18 v3 bc bs h9 → aW (some (L, xs)) m_L_law (d + 1) 18 [(0, ar 1), (1, ar v1), (2, ar v2), (3, ai v3)] [] h9 bc bs QQ) {v1 : Nat} {v2 : Nat} {v3 : Int32} {bc : Nat} {bs : Nat} {h : Hp} (hw : w_L_law_B1537 L xs Q k18 v1 v2 v3 bc bs h) : aW (some (L, xs)) m_L_law (d + 1) 1537 [(0, ar 1), (1, ar v1), (2, ar v2), (3, ai v3)] [] h bc bs QQ := by
  unfold w_L_law_B1537 at hw
  refine r_iinc (j := 3) (ls2 := [(3, ai (v3 + (6 : Int32))), (0, ar 1), (1, ar v1), (2, ar v2)]) d_L_law_1537 rfl (congrArg (HAdd.hAdd v3) kc_6) (nle rfl) rfl ?_
  refine r_goto d_L_law_1540 ?_
  refine r_pick (ls2 := [(0, ar 1), (1, ar v1), (2, ar v2), (3, ai (v3 + (6 : Int32)))]) [1, 2, 3, 0] rfl ?_
  exact hk18 _ _ _ _ hw
set_option maxRecDepth 100000 in
set_option maxHeartbeats 4000000 in
theorem s_L_law_B232 {L : Nat} {xs : Nat → Int32} {d : Nat} (hd : 65 ≤ d + 1) {Q : Bool → Hp → Prop} {QQ : Option AV → Hp → Prop} (hQ : ∀ r9 h9, Q r9 h9 → QQ (some (ai (b2i r9))) h9) {k18 : Int32 → Nat → Nat → Hp → Prop} (hk18 : ∀ v3 bc bs h9, k18 v3 bc bs h9 → aW (some (L, xs)) m_L_law (d + 1) 18 [(0, ar 1), (1, ar v1), (2, ar v2), (3, ai v3)] [] h9 bc bs QQ) {v1 : Nat} {v2 : Nat} {v3 : Int32} {bc : Nat} {bs : Nat} {h : Hp} (hw : w_L_law_B232 L xs Q k18 v1 v2 v3 bc bs h) : aW (some (L, xs)) m_L_law (d + 1) 232 [(0, ar 1), (1, ar v1), (2, ar v2), (3, ai v3)] [] h bc bs QQ := by
  unfold w_L_law_B232 at hw
  refine r_aload_n (j := 1) d_L_law_232 rfl ?_
  refine r_aload_n (j := 0) d_L_law_233 rfl ?_
  refine r_iload_n (j := 3) d_L_law_234 rfl ?_
  refine r_iconst d_L_law_235 kc_1 ?_
  refine r_iadd d_L_law_236 ?_
  obtain ⟨q30, hw⟩ := hw
  refine r_sld rfl d_L_law_237 q30 ?_
  refine r_aload_n (j := 0) d_L_law_238 rfl ?_
  refine r_iload_n (j := 3) d_L_law_239 rfl ?_
  refine r_iconst d_L_law_240 kc_2 ?_
  refine r_iadd d_L_law_241 ?_
  obtain ⟨q31, hw⟩ := hw
  refine r_sld rfl d_L_law_242 q31 ?_
  refine r_aload_n (j := 0) d_L_law_243 rfl ?_
  refine r_iload_n (j := 3) d_L_law_244 rfl ?_
  refine r_iconst d_L_law_245 kc_3 ?_
  refine r_iadd d_L_law_246 ?_
  obtain ⟨q32, hw⟩ := hw
  refine r_sld rfl d_L_law_247 q32 ?_
  refine r_aload_n (j := 0) d_L_law_248 rfl ?_
  refine r_iload_n (j := 3) d_L_law_249 rfl ?_
  refine r_iconst d_L_law_250 kc_4 ?_
  refine r_iadd d_L_law_251 ?_
  obtain ⟨q33, hw⟩ := hw
  refine r_sld rfl d_L_law_252 q33 ?_
  refine r_aload_n (j := 0) d_L_law_253 rfl ?_
  refine r_iload_n (j := 3) d_L_law_254 rfl ?_
  refine r_iconst d_L_law_255 kc_5 ?_
  refine r_iadd d_L_law_256 ?_
  obtain ⟨q34, hw⟩ := hw
  refine r_sld rfl d_L_law_257 q34 ?_
  obtain ⟨q37, hw⟩ := hw
  refine r_callV (av := [ai (xs (ix (v3 + (1 : Int32)))), ai (xs (ix (v3 + (2 : Int32)))), ai (xs (ix (v3 + (3 : Int32)))), ai (xs (ix (v3 + (4 : Int32)))), ai (xs (ix (v3 + (5 : Int32))))]) (rest := []) (ci := 11) d_L_law_258 mk_X_feed ll_L_13 im_X_feed se_X_feed rfl (nle rfl) rfl rfl (nle rfl) q37 (s_X_feed (by omega) hw (fun r36 h35 hw => ?_))
  show aW (some (L, xs)) m_L_law (d + 1) 261 [(0, ar 1), (1, ar v1), (2, ar v2), (3, ai v3)] [ai r36] h35 bc bs QQ
  refine r_aload_n (j := 2) d_L_law_261 rfl ?_
  refine r_aload_n (j := 0) d_L_law_262 rfl ?_
  refine r_iload_n (j := 3) d_L_law_263 rfl ?_
  refine r_iconst d_L_law_264 kc_1 ?_
  refine r_iadd d_L_law_265 ?_
  obtain ⟨q38, hw⟩ := hw
  refine r_sld rfl d_L_law_266 q38 ?_
  refine r_aload_n (j := 0) d_L_law_267 rfl ?_
  refine r_iload_n (j := 3) d_L_law_268 rfl ?_
  refine r_iconst d_L_law_269 kc_2 ?_
  refine r_iadd d_L_law_270 ?_
  obtain ⟨q39, hw⟩ := hw
  refine r_sld rfl d_L_law_271 q39 ?_
  refine r_aload_n (j := 0) d_L_law_272 rfl ?_
  refine r_iload_n (j := 3) d_L_law_273 rfl ?_
  refine r_iconst d_L_law_274 kc_3 ?_
  refine r_iadd d_L_law_275 ?_
  obtain ⟨q40, hw⟩ := hw
  refine r_sld rfl d_L_law_276 q40 ?_
  refine r_aload_n (j := 0) d_L_law_277 rfl ?_
  refine r_iload_n (j := 3) d_L_law_278 rfl ?_
  refine r_iconst d_L_law_279 kc_4 ?_
  refine r_iadd d_L_law_280 ?_
  obtain ⟨q41, hw⟩ := hw
  refine r_sld rfl d_L_law_281 q41 ?_
  refine r_aload_n (j := 0) d_L_law_282 rfl ?_
  refine r_iload_n (j := 3) d_L_law_283 rfl ?_
  refine r_iconst d_L_law_284 kc_5 ?_
  refine r_iadd d_L_law_285 ?_
  obtain ⟨q42, hw⟩ := hw
  refine r_sld rfl d_L_law_286 q42 ?_
  obtain ⟨q45, hw⟩ := hw
  refine r_callV (av := [ai (xs (ix (v3 + (1 : Int32)))), ai (xs (ix (v3 + (2 : Int32)))), ai (xs (ix (v3 + (3 : Int32)))), ai (xs (ix (v3 + (4 : Int32)))), ai (xs (ix (v3 + (5 : Int32))))]) (rest := [ai r36]) (ci := 12) d_L_law_287 mk_M_feed ll_L_17 im_M_feed se_M_feed rfl (nle rfl) rfl rfl (nle rfl) q45 (s_M_feed (by omega) hw (fun r44 h43 hw => ?_))
  show aW (some (L, xs)) m_L_law (d + 1) 290 [(0, ar 1), (1, ar v1), (2, ar v2), (3, ai v3)] [ai r44, ai r36] h43 bc bs QQ
  refine r_icmp_eq d_L_law_290 (fun w9 => ?_) (fun w9 => ?_)
  · replace hw := hw.1 w9
    exact s_L_law_B1537 hd hQ hk18 hw
  · replace hw := hw.2 w9
    refine r_iconst d_L_law_293 kc_0 ?_
    exact r_zreturn d_L_law_294.1 rfl (Or.inl rfl) (hQ _ _ hw)
set_option maxRecDepth 100000 in
set_option maxHeartbeats 4000000 in
theorem s_L_law_B295 {L : Nat} {xs : Nat → Int32} {d : Nat} (hd : 65 ≤ d + 1) {Q : Bool → Hp → Prop} {QQ : Option AV → Hp → Prop} (hQ : ∀ r9 h9, Q r9 h9 → QQ (some (ai (b2i r9))) h9) {k18 : Int32 → Nat → Nat → Hp → Prop} (hk18 : ∀ v3 bc bs h9, k18 v3 bc bs h9 → aW (some (L, xs)) m_L_law (d + 1) 18 [(0, ar 1), (1, ar v1), (2, ar v2), (3, ai v3)] [] h9 bc bs QQ) {v1 : Nat} {v2 : Nat} {v3 : Int32} {bc : Nat} {bs : Nat} {h : Hp} (hw : w_L_law_B295 L xs Q k18 v1 v2 v3 bc bs h) : aW (some (L, xs)) m_L_law (d + 1) 295 [(0, ar 1), (1, ar v1), (2, ar v2), (3, ai v3)] [] h bc bs QQ := by
  unfold w_L_law_B295 at hw
  refine r_aload_n (j := 1) d_L_law_295 rfl ?_
  refine r_aload_n (j := 0) d_L_law_296 rfl ?_
  refine r_iload_n (j := 3) d_L_law_297 rfl ?_
  refine r_iconst d_L_law_298 kc_1 ?_
  refine r_iadd d_L_law_299 ?_
  obtain ⟨q46, hw⟩ := hw
  refine r_sld rfl d_L_law_300 q46 ?_
  obtain ⟨q49, hw⟩ := hw
  refine r_callV (av := [ai (xs (ix (v3 + (1 : Int32))))]) (rest := []) (ci := 11) d_L_law_301 mk_X_end ll_L_18 im_X_end se_X_end rfl (nle rfl) rfl rfl (nle rfl) q49 (s_X_end  hw (fun r48 h47 hw => ?_))
  show aW (some (L, xs)) m_L_law (d + 1) 304 [(0, ar 1), (1, ar v1), (2, ar v2), (3, ai v3)] [ai r48] h47 bc bs QQ
  refine r_aload_n (j := 2) d_L_law_304 rfl ?_
  refine r_aload_n (j := 0) d_L_law_305 rfl ?_
  refine r_iload_n (j := 3) d_L_law_306 rfl ?_
  refine r_iconst d_L_law_307 kc_1 ?_
  refine r_iadd d_L_law_308 ?_
  obtain ⟨q50, hw⟩ := hw
  refine r_sld rfl d_L_law_309 q50 ?_
  obtain ⟨q53, hw⟩ := hw
  refine r_callV (av := [ai (xs (ix (v3 + (1 : Int32))))]) (rest := [ai r48]) (ci := 12) d_L_law_310 mk_M_end ll_L_22 im_M_end se_M_end rfl (nle rfl) rfl rfl (nle rfl) q53 (s_M_end (by omega) hw (fun r52 h51 hw => ?_))
  show aW (some (L, xs)) m_L_law (d + 1) 313 [(0, ar 1), (1, ar v1), (2, ar v2), (3, ai v3)] [ai r52, ai r48] h51 bc bs QQ
  refine r_icmp_eq d_L_law_313 (fun w9 => ?_) (fun w9 => ?_)
  · replace hw := hw.1 w9
    exact s_L_law_B1537 hd hQ hk18 hw
  · replace hw := hw.2 w9
    refine r_iconst d_L_law_316 kc_0 ?_
    exact r_zreturn d_L_law_317.1 rfl (Or.inl rfl) (hQ _ _ hw)
set_option maxRecDepth 100000 in
set_option maxHeartbeats 4000000 in
theorem s_L_law_B318 {L : Nat} {xs : Nat → Int32} {d : Nat} (hd : 65 ≤ d + 1) {Q : Bool → Hp → Prop} {QQ : Option AV → Hp → Prop} (hQ : ∀ r9 h9, Q r9 h9 → QQ (some (ai (b2i r9))) h9) {k18 : Int32 → Nat → Nat → Hp → Prop} (hk18 : ∀ v3 bc bs h9, k18 v3 bc bs h9 → aW (some (L, xs)) m_L_law (d + 1) 18 [(0, ar 1), (1, ar v1), (2, ar v2), (3, ai v3)] [] h9 bc bs QQ) {v1 : Nat} {v2 : Nat} {v3 : Int32} {bc : Nat} {bs : Nat} {h : Hp} (hw : w_L_law_B318 L xs Q k18 v1 v2 v3 bc bs h) : aW (some (L, xs)) m_L_law (d + 1) 318 [(0, ar 1), (1, ar v1), (2, ar v2), (3, ai v3)] [] h bc bs QQ := by
  unfold w_L_law_B318 at hw
  refine r_aload_n (j := 1) d_L_law_318 rfl ?_
  obtain ⟨q56, hw⟩ := hw
  refine r_callV (av := []) (rest := []) (ci := 11) d_L_law_319 mk_X_program ll_L_23 im_X_program se_X_program rfl (nle rfl) rfl rfl (nle rfl) q56 (s_X_program (by omega) hw (fun r55 h54 hw => ?_))
  show aW (some (L, xs)) m_L_law (d + 1) 322 [(0, ar 1), (1, ar v1), (2, ar v2), (3, ai v3)] [ai r55] h54 bc bs QQ
  refine r_aload_n (j := 2) d_L_law_322 rfl ?_
  obtain ⟨q59, hw⟩ := hw
  refine r_callV (av := []) (rest := [ai r55]) (ci := 12) d_L_law_323 mk_M_program ll_L_27 im_M_program se_M_program rfl (nle rfl) rfl rfl (nle rfl) q59 (s_M_program (by omega) hw (fun r58 h57 hw => ?_))
  show aW (some (L, xs)) m_L_law (d + 1) 326 [(0, ar 1), (1, ar v1), (2, ar v2), (3, ai v3)] [ai r58, ai r55] h57 bc bs QQ
  refine r_icmp_eq d_L_law_326 (fun w9 => ?_) (fun w9 => ?_)
  · replace hw := hw.1 w9
    exact s_L_law_B1537 hd hQ hk18 hw
  · replace hw := hw.2 w9
    refine r_iconst d_L_law_329 kc_0 ?_
    exact r_zreturn d_L_law_330.1 rfl (Or.inl rfl) (hQ _ _ hw)
set_option maxRecDepth 100000 in
set_option maxHeartbeats 4000000 in
theorem s_L_law_B331 {L : Nat} {xs : Nat → Int32} {d : Nat} (hd : 65 ≤ d + 1) {Q : Bool → Hp → Prop} {QQ : Option AV → Hp → Prop} (hQ : ∀ r9 h9, Q r9 h9 → QQ (some (ai (b2i r9))) h9) {k18 : Int32 → Nat → Nat → Hp → Prop} (hk18 : ∀ v3 bc bs h9, k18 v3 bc bs h9 → aW (some (L, xs)) m_L_law (d + 1) 18 [(0, ar 1), (1, ar v1), (2, ar v2), (3, ai v3)] [] h9 bc bs QQ) {v1 : Nat} {v2 : Nat} {v3 : Int32} {bc : Nat} {bs : Nat} {h : Hp} (hw : w_L_law_B331 L xs Q k18 v1 v2 v3 bc bs h) : aW (some (L, xs)) m_L_law (d + 1) 331 [(0, ar 1), (1, ar v1), (2, ar v2), (3, ai v3)] [] h bc bs QQ := by
  unfold w_L_law_B331 at hw
  refine r_aload_n (j := 1) d_L_law_331 rfl ?_
  refine r_aload_n (j := 0) d_L_law_332 rfl ?_
  refine r_iload_n (j := 3) d_L_law_333 rfl ?_
  refine r_iconst d_L_law_334 kc_1 ?_
  refine r_iadd d_L_law_335 ?_
  obtain ⟨q60, hw⟩ := hw
  refine r_sld rfl d_L_law_336 q60 ?_
  obtain ⟨q63, hw⟩ := hw
  refine r_callV (av := [ai (xs (ix (v3 + (1 : Int32))))]) (rest := []) (ci := 11) d_L_law_337 mk_X_fault ll_L_28 im_X_fault se_X_fault rfl (nle rfl) rfl rfl (nle rfl) q63 (s_X_fault  hw (fun r62 h61 hw => ?_))
  show aW (some (L, xs)) m_L_law (d + 1) 340 [(0, ar 1), (1, ar v1), (2, ar v2), (3, ai v3)] [ai r62] h61 bc bs QQ
  refine r_aload_n (j := 2) d_L_law_340 rfl ?_
  refine r_aload_n (j := 0) d_L_law_341 rfl ?_
  refine r_iload_n (j := 3) d_L_law_342 rfl ?_
  refine r_iconst d_L_law_343 kc_1 ?_
  refine r_iadd d_L_law_344 ?_
  obtain ⟨q64, hw⟩ := hw
  refine r_sld rfl d_L_law_345 q64 ?_
  obtain ⟨q67, hw⟩ := hw
  refine r_callV (av := [ai (xs (ix (v3 + (1 : Int32))))]) (rest := [ai r62]) (ci := 12) d_L_law_346 mk_M_fault ll_L_31 im_M_fault se_M_fault rfl (nle rfl) rfl rfl (nle rfl) q67 (s_M_fault  hw (fun r66 h65 hw => ?_))
  show aW (some (L, xs)) m_L_law (d + 1) 349 [(0, ar 1), (1, ar v1), (2, ar v2), (3, ai v3)] [ai r66, ai r62] h65 bc bs QQ
  refine r_icmp_eq d_L_law_349 (fun w9 => ?_) (fun w9 => ?_)
  · replace hw := hw.1 w9
    exact s_L_law_B1537 hd hQ hk18 hw
  · replace hw := hw.2 w9
    refine r_iconst d_L_law_352 kc_0 ?_
    exact r_zreturn d_L_law_353.1 rfl (Or.inl rfl) (hQ _ _ hw)
set_option maxRecDepth 100000 in
set_option maxHeartbeats 4000000 in
theorem s_L_law_B354 {L : Nat} {xs : Nat → Int32} {d : Nat} (hd : 65 ≤ d + 1) {Q : Bool → Hp → Prop} {QQ : Option AV → Hp → Prop} (hQ : ∀ r9 h9, Q r9 h9 → QQ (some (ai (b2i r9))) h9) {k18 : Int32 → Nat → Nat → Hp → Prop} (hk18 : ∀ v3 bc bs h9, k18 v3 bc bs h9 → aW (some (L, xs)) m_L_law (d + 1) 18 [(0, ar 1), (1, ar v1), (2, ar v2), (3, ai v3)] [] h9 bc bs QQ) {v1 : Nat} {v2 : Nat} {v3 : Int32} {bc : Nat} {bs : Nat} {h : Hp} (hw : w_L_law_B354 L xs Q k18 v1 v2 v3 bc bs h) : aW (some (L, xs)) m_L_law (d + 1) 354 [(0, ar 1), (1, ar v1), (2, ar v2), (3, ai v3)] [] h bc bs QQ := by
  unfold w_L_law_B354 at hw
  refine r_aload_n (j := 1) d_L_law_354 rfl ?_
  refine r_aload_n (j := 0) d_L_law_355 rfl ?_
  refine r_iload_n (j := 3) d_L_law_356 rfl ?_
  refine r_iconst d_L_law_357 kc_1 ?_
  refine r_iadd d_L_law_358 ?_
  obtain ⟨q68, hw⟩ := hw
  refine r_sld rfl d_L_law_359 q68 ?_
  refine r_aload_n (j := 0) d_L_law_360 rfl ?_
  refine r_iload_n (j := 3) d_L_law_361 rfl ?_
  refine r_iconst d_L_law_362 kc_2 ?_
  refine r_iadd d_L_law_363 ?_
  obtain ⟨q69, hw⟩ := hw
  refine r_sld rfl d_L_law_364 q69 ?_
  obtain ⟨q72, hw⟩ := hw
  refine r_callV (av := [ai (xs (ix (v3 + (1 : Int32)))), ai (xs (ix (v3 + (2 : Int32))))]) (rest := []) (ci := 11) d_L_law_365 mk_X_number ll_L_32 im_X_number se_X_number rfl (nle rfl) rfl rfl (nle rfl) q72 (s_X_number (by omega) hw (fun r71 h70 hw => ?_))
  show aW (some (L, xs)) m_L_law (d + 1) 368 [(0, ar 1), (1, ar v1), (2, ar v2), (3, ai v3)] [ai r71] h70 bc bs QQ
  refine r_aload_n (j := 2) d_L_law_368 rfl ?_
  refine r_aload_n (j := 0) d_L_law_369 rfl ?_
  refine r_iload_n (j := 3) d_L_law_370 rfl ?_
  refine r_iconst d_L_law_371 kc_1 ?_
  refine r_iadd d_L_law_372 ?_
  obtain ⟨q73, hw⟩ := hw
  refine r_sld rfl d_L_law_373 q73 ?_
  refine r_aload_n (j := 0) d_L_law_374 rfl ?_
  refine r_iload_n (j := 3) d_L_law_375 rfl ?_
  refine r_iconst d_L_law_376 kc_2 ?_
  refine r_iadd d_L_law_377 ?_
  obtain ⟨q74, hw⟩ := hw
  refine r_sld rfl d_L_law_378 q74 ?_
  obtain ⟨q77, hw⟩ := hw
  refine r_callV (av := [ai (xs (ix (v3 + (1 : Int32)))), ai (xs (ix (v3 + (2 : Int32))))]) (rest := [ai r71]) (ci := 12) d_L_law_379 mk_M_number ll_L_36 im_M_number se_M_number rfl (nle rfl) rfl rfl (nle rfl) q77 (s_M_number (by omega) hw (fun r76 h75 hw => ?_))
  show aW (some (L, xs)) m_L_law (d + 1) 382 [(0, ar 1), (1, ar v1), (2, ar v2), (3, ai v3)] [ai r76, ai r71] h75 bc bs QQ
  refine r_icmp_eq d_L_law_382 (fun w9 => ?_) (fun w9 => ?_)
  · replace hw := hw.1 w9
    exact s_L_law_B1537 hd hQ hk18 hw
  · replace hw := hw.2 w9
    refine r_iconst d_L_law_385 kc_0 ?_
    exact r_zreturn d_L_law_386.1 rfl (Or.inl rfl) (hQ _ _ hw)
set_option maxRecDepth 100000 in
set_option maxHeartbeats 4000000 in
theorem s_L_law_B387 {L : Nat} {xs : Nat → Int32} {d : Nat} (hd : 65 ≤ d + 1) {Q : Bool → Hp → Prop} {QQ : Option AV → Hp → Prop} (hQ : ∀ r9 h9, Q r9 h9 → QQ (some (ai (b2i r9))) h9) {k18 : Int32 → Nat → Nat → Hp → Prop} (hk18 : ∀ v3 bc bs h9, k18 v3 bc bs h9 → aW (some (L, xs)) m_L_law (d + 1) 18 [(0, ar 1), (1, ar v1), (2, ar v2), (3, ai v3)] [] h9 bc bs QQ) {v1 : Nat} {v2 : Nat} {v3 : Int32} {bc : Nat} {bs : Nat} {h : Hp} (hw : w_L_law_B387 L xs Q k18 v1 v2 v3 bc bs h) : aW (some (L, xs)) m_L_law (d + 1) 387 [(0, ar 1), (1, ar v1), (2, ar v2), (3, ai v3)] [] h bc bs QQ := by
  unfold w_L_law_B387 at hw
  refine r_aload_n (j := 1) d_L_law_387 rfl ?_
  refine r_aload_n (j := 0) d_L_law_388 rfl ?_
  refine r_iload_n (j := 3) d_L_law_389 rfl ?_
  refine r_iconst d_L_law_390 kc_1 ?_
  refine r_iadd d_L_law_391 ?_
  obtain ⟨q78, hw⟩ := hw
  refine r_sld rfl d_L_law_392 q78 ?_
  obtain ⟨q81, hw⟩ := hw
  refine r_callV (av := [ai (xs (ix (v3 + (1 : Int32))))]) (rest := []) (ci := 11) d_L_law_393 mk_X_gain ll_L_37 im_X_gain se_X_gain rfl (nle rfl) rfl rfl (nle rfl) q81 (s_X_gain (by omega) hw (fun r80 h79 hw => ?_))
  show aW (some (L, xs)) m_L_law (d + 1) 396 [(0, ar 1), (1, ar v1), (2, ar v2), (3, ai v3)] [ai r80] h79 bc bs QQ
  refine r_aload_n (j := 2) d_L_law_396 rfl ?_
  refine r_aload_n (j := 0) d_L_law_397 rfl ?_
  refine r_iload_n (j := 3) d_L_law_398 rfl ?_
  refine r_iconst d_L_law_399 kc_1 ?_
  refine r_iadd d_L_law_400 ?_
  obtain ⟨q82, hw⟩ := hw
  refine r_sld rfl d_L_law_401 q82 ?_
  obtain ⟨q85, hw⟩ := hw
  refine r_callV (av := [ai (xs (ix (v3 + (1 : Int32))))]) (rest := [ai r80]) (ci := 12) d_L_law_402 mk_M_gain ll_L_40 im_M_gain se_M_gain rfl (nle rfl) rfl rfl (nle rfl) q85 (s_M_gain (by omega) hw (fun r84 h83 hw => ?_))
  show aW (some (L, xs)) m_L_law (d + 1) 405 [(0, ar 1), (1, ar v1), (2, ar v2), (3, ai v3)] [ai r84, ai r80] h83 bc bs QQ
  refine r_icmp_eq d_L_law_405 (fun w9 => ?_) (fun w9 => ?_)
  · replace hw := hw.1 w9
    exact s_L_law_B1537 hd hQ hk18 hw
  · replace hw := hw.2 w9
    refine r_iconst d_L_law_408 kc_0 ?_
    exact r_zreturn d_L_law_409.1 rfl (Or.inl rfl) (hQ _ _ hw)
set_option maxRecDepth 100000 in
set_option maxHeartbeats 4000000 in
theorem s_L_law_B410 {L : Nat} {xs : Nat → Int32} {d : Nat} (hd : 65 ≤ d + 1) {Q : Bool → Hp → Prop} {QQ : Option AV → Hp → Prop} (hQ : ∀ r9 h9, Q r9 h9 → QQ (some (ai (b2i r9))) h9) {k18 : Int32 → Nat → Nat → Hp → Prop} (hk18 : ∀ v3 bc bs h9, k18 v3 bc bs h9 → aW (some (L, xs)) m_L_law (d + 1) 18 [(0, ar 1), (1, ar v1), (2, ar v2), (3, ai v3)] [] h9 bc bs QQ) {v1 : Nat} {v2 : Nat} {v3 : Int32} {bc : Nat} {bs : Nat} {h : Hp} (hw : w_L_law_B410 L xs Q k18 v1 v2 v3 bc bs h) : aW (some (L, xs)) m_L_law (d + 1) 410 [(0, ar 1), (1, ar v1), (2, ar v2), (3, ai v3)] [] h bc bs QQ := by
  unfold w_L_law_B410 at hw
  refine r_aload_n (j := 1) d_L_law_410 rfl ?_
  refine r_aload_n (j := 0) d_L_law_411 rfl ?_
  refine r_iload_n (j := 3) d_L_law_412 rfl ?_
  refine r_iconst d_L_law_413 kc_1 ?_
  refine r_iadd d_L_law_414 ?_
  obtain ⟨q86, hw⟩ := hw
  refine r_sld rfl d_L_law_415 q86 ?_
  obtain ⟨q89, hw⟩ := hw
  refine r_callV (av := [ai (xs (ix (v3 + (1 : Int32))))]) (rest := []) (ci := 11) d_L_law_416 mk_X_need ll_L_41 im_X_need se_X_need rfl (nle rfl) rfl rfl (nle rfl) q89 (s_X_need (by omega) hw (fun r88 h87 hw => ?_))
  show aW (some (L, xs)) m_L_law (d + 1) 419 [(0, ar 1), (1, ar v1), (2, ar v2), (3, ai v3)] [ai r88] h87 bc bs QQ
  refine r_aload_n (j := 2) d_L_law_419 rfl ?_
  refine r_aload_n (j := 0) d_L_law_420 rfl ?_
  refine r_iload_n (j := 3) d_L_law_421 rfl ?_
  refine r_iconst d_L_law_422 kc_1 ?_
  refine r_iadd d_L_law_423 ?_
  obtain ⟨q90, hw⟩ := hw
  refine r_sld rfl d_L_law_424 q90 ?_
  obtain ⟨q93, hw⟩ := hw
  refine r_callV (av := [ai (xs (ix (v3 + (1 : Int32))))]) (rest := [ai r88]) (ci := 12) d_L_law_425 mk_M_need ll_L_44 im_M_need se_M_need rfl (nle rfl) rfl rfl (nle rfl) q93 (s_M_need (by omega) hw (fun r92 h91 hw => ?_))
  show aW (some (L, xs)) m_L_law (d + 1) 428 [(0, ar 1), (1, ar v1), (2, ar v2), (3, ai v3)] [ai r92, ai r88] h91 bc bs QQ
  refine r_icmp_eq d_L_law_428 (fun w9 => ?_) (fun w9 => ?_)
  · replace hw := hw.1 w9
    exact s_L_law_B1537 hd hQ hk18 hw
  · replace hw := hw.2 w9
    refine r_iconst d_L_law_431 kc_0 ?_
    exact r_zreturn d_L_law_432.1 rfl (Or.inl rfl) (hQ _ _ hw)
set_option maxRecDepth 100000 in
set_option maxHeartbeats 4000000 in
theorem s_L_law_B433 {L : Nat} {xs : Nat → Int32} {d : Nat} (hd : 65 ≤ d + 1) {Q : Bool → Hp → Prop} {QQ : Option AV → Hp → Prop} (hQ : ∀ r9 h9, Q r9 h9 → QQ (some (ai (b2i r9))) h9) {k18 : Int32 → Nat → Nat → Hp → Prop} (hk18 : ∀ v3 bc bs h9, k18 v3 bc bs h9 → aW (some (L, xs)) m_L_law (d + 1) 18 [(0, ar 1), (1, ar v1), (2, ar v2), (3, ai v3)] [] h9 bc bs QQ) {v1 : Nat} {v2 : Nat} {v3 : Int32} {bc : Nat} {bs : Nat} {h : Hp} (hw : w_L_law_B433 L xs Q k18 v1 v2 v3 bc bs h) : aW (some (L, xs)) m_L_law (d + 1) 433 [(0, ar 1), (1, ar v1), (2, ar v2), (3, ai v3)] [] h bc bs QQ := by
  unfold w_L_law_B433 at hw
  refine r_aload_n (j := 1) d_L_law_433 rfl ?_
  refine r_aload_n (j := 0) d_L_law_434 rfl ?_
  refine r_iload_n (j := 3) d_L_law_435 rfl ?_
  refine r_iconst d_L_law_436 kc_1 ?_
  refine r_iadd d_L_law_437 ?_
  obtain ⟨q94, hw⟩ := hw
  refine r_sld rfl d_L_law_438 q94 ?_
  refine r_aload_n (j := 0) d_L_law_439 rfl ?_
  refine r_iload_n (j := 3) d_L_law_440 rfl ?_
  refine r_iconst d_L_law_441 kc_2 ?_
  refine r_iadd d_L_law_442 ?_
  obtain ⟨q95, hw⟩ := hw
  refine r_sld rfl d_L_law_443 q95 ?_
  refine r_aload_n (j := 0) d_L_law_444 rfl ?_
  refine r_iload_n (j := 3) d_L_law_445 rfl ?_
  refine r_iconst d_L_law_446 kc_3 ?_
  refine r_iadd d_L_law_447 ?_
  obtain ⟨q96, hw⟩ := hw
  refine r_sld rfl d_L_law_448 q96 ?_
  obtain ⟨q99, hw⟩ := hw
  refine r_callV (av := [ai (xs (ix (v3 + (1 : Int32)))), ai (xs (ix (v3 + (2 : Int32)))), ai (xs (ix (v3 + (3 : Int32))))]) (rest := []) (ci := 11) d_L_law_449 mk_X_change ll_L_45 im_X_change se_X_change rfl (nle rfl) rfl rfl (nle rfl) q99 (s_X_change (by omega) hw (fun r98 h97 hw => ?_))
  show aW (some (L, xs)) m_L_law (d + 1) 452 [(0, ar 1), (1, ar v1), (2, ar v2), (3, ai v3)] [ai r98] h97 bc bs QQ
  refine r_aload_n (j := 2) d_L_law_452 rfl ?_
  refine r_aload_n (j := 0) d_L_law_453 rfl ?_
  refine r_iload_n (j := 3) d_L_law_454 rfl ?_
  refine r_iconst d_L_law_455 kc_1 ?_
  refine r_iadd d_L_law_456 ?_
  obtain ⟨q100, hw⟩ := hw
  refine r_sld rfl d_L_law_457 q100 ?_
  refine r_aload_n (j := 0) d_L_law_458 rfl ?_
  refine r_iload_n (j := 3) d_L_law_459 rfl ?_
  refine r_iconst d_L_law_460 kc_2 ?_
  refine r_iadd d_L_law_461 ?_
  obtain ⟨q101, hw⟩ := hw
  refine r_sld rfl d_L_law_462 q101 ?_
  refine r_aload_n (j := 0) d_L_law_463 rfl ?_
  refine r_iload_n (j := 3) d_L_law_464 rfl ?_
  refine r_iconst d_L_law_465 kc_3 ?_
  refine r_iadd d_L_law_466 ?_
  obtain ⟨q102, hw⟩ := hw
  refine r_sld rfl d_L_law_467 q102 ?_
  obtain ⟨q105, hw⟩ := hw
  refine r_callV (av := [ai (xs (ix (v3 + (1 : Int32)))), ai (xs (ix (v3 + (2 : Int32)))), ai (xs (ix (v3 + (3 : Int32))))]) (rest := [ai r98]) (ci := 12) d_L_law_468 mk_M_change ll_L_49 im_M_change se_M_change rfl (nle rfl) rfl rfl (nle rfl) q105 (s_M_change (by omega) hw (fun r104 h103 hw => ?_))
  show aW (some (L, xs)) m_L_law (d + 1) 471 [(0, ar 1), (1, ar v1), (2, ar v2), (3, ai v3)] [ai r104, ai r98] h103 bc bs QQ
  refine r_icmp_eq d_L_law_471 (fun w9 => ?_) (fun w9 => ?_)
  · replace hw := hw.1 w9
    exact s_L_law_B1537 hd hQ hk18 hw
  · replace hw := hw.2 w9
    refine r_iconst d_L_law_474 kc_0 ?_
    exact r_zreturn d_L_law_475.1 rfl (Or.inl rfl) (hQ _ _ hw)
set_option maxRecDepth 100000 in
set_option maxHeartbeats 4000000 in
theorem s_L_law_B476 {L : Nat} {xs : Nat → Int32} {d : Nat} (hd : 65 ≤ d + 1) {Q : Bool → Hp → Prop} {QQ : Option AV → Hp → Prop} (hQ : ∀ r9 h9, Q r9 h9 → QQ (some (ai (b2i r9))) h9) {k18 : Int32 → Nat → Nat → Hp → Prop} (hk18 : ∀ v3 bc bs h9, k18 v3 bc bs h9 → aW (some (L, xs)) m_L_law (d + 1) 18 [(0, ar 1), (1, ar v1), (2, ar v2), (3, ai v3)] [] h9 bc bs QQ) {v1 : Nat} {v2 : Nat} {v3 : Int32} {bc : Nat} {bs : Nat} {h : Hp} (hw : w_L_law_B476 L xs Q k18 v1 v2 v3 bc bs h) : aW (some (L, xs)) m_L_law (d + 1) 476 [(0, ar 1), (1, ar v1), (2, ar v2), (3, ai v3)] [] h bc bs QQ := by
  unfold w_L_law_B476 at hw
  refine r_aload_n (j := 1) d_L_law_476 rfl ?_
  refine r_aload_n (j := 0) d_L_law_477 rfl ?_
  refine r_iload_n (j := 3) d_L_law_478 rfl ?_
  refine r_iconst d_L_law_479 kc_1 ?_
  refine r_iadd d_L_law_480 ?_
  obtain ⟨q106, hw⟩ := hw
  refine r_sld rfl d_L_law_481 q106 ?_
  refine r_aload_n (j := 0) d_L_law_482 rfl ?_
  refine r_iload_n (j := 3) d_L_law_483 rfl ?_
  refine r_iconst d_L_law_484 kc_2 ?_
  refine r_iadd d_L_law_485 ?_
  obtain ⟨q107, hw⟩ := hw
  refine r_sld rfl d_L_law_486 q107 ?_
  obtain ⟨q110, hw⟩ := hw
  refine r_callV (av := [ai (xs (ix (v3 + (1 : Int32)))), ai (xs (ix (v3 + (2 : Int32))))]) (rest := []) (ci := 11) d_L_law_487 mk_X_worth ll_L_50 im_X_worth se_X_worth rfl (nle rfl) rfl rfl (nle rfl) q110 (s_X_worth (by omega) hw (fun r109 h108 hw => ?_))
  show aW (some (L, xs)) m_L_law (d + 1) 490 [(0, ar 1), (1, ar v1), (2, ar v2), (3, ai v3)] [ai r109] h108 bc bs QQ
  refine r_aload_n (j := 2) d_L_law_490 rfl ?_
  refine r_aload_n (j := 0) d_L_law_491 rfl ?_
  refine r_iload_n (j := 3) d_L_law_492 rfl ?_
  refine r_iconst d_L_law_493 kc_1 ?_
  refine r_iadd d_L_law_494 ?_
  obtain ⟨q111, hw⟩ := hw
  refine r_sld rfl d_L_law_495 q111 ?_
  refine r_aload_n (j := 0) d_L_law_496 rfl ?_
  refine r_iload_n (j := 3) d_L_law_497 rfl ?_
  refine r_iconst d_L_law_498 kc_2 ?_
  refine r_iadd d_L_law_499 ?_
  obtain ⟨q112, hw⟩ := hw
  refine r_sld rfl d_L_law_500 q112 ?_
  obtain ⟨q115, hw⟩ := hw
  refine r_callV (av := [ai (xs (ix (v3 + (1 : Int32)))), ai (xs (ix (v3 + (2 : Int32))))]) (rest := [ai r109]) (ci := 12) d_L_law_501 mk_M_worth ll_L_53 im_M_worth se_M_worth rfl (nle rfl) rfl rfl (nle rfl) q115 (s_M_worth (by omega) hw (fun r114 h113 hw => ?_))
  show aW (some (L, xs)) m_L_law (d + 1) 504 [(0, ar 1), (1, ar v1), (2, ar v2), (3, ai v3)] [ai r114, ai r109] h113 bc bs QQ
  refine r_icmp_eq d_L_law_504 (fun w9 => ?_) (fun w9 => ?_)
  · replace hw := hw.1 w9
    exact s_L_law_B1537 hd hQ hk18 hw
  · replace hw := hw.2 w9
    refine r_iconst d_L_law_507 kc_0 ?_
    exact r_zreturn d_L_law_508.1 rfl (Or.inl rfl) (hQ _ _ hw)
set_option maxRecDepth 100000 in
set_option maxHeartbeats 4000000 in
theorem s_L_law_B509 {L : Nat} {xs : Nat → Int32} {d : Nat} (hd : 65 ≤ d + 1) {Q : Bool → Hp → Prop} {QQ : Option AV → Hp → Prop} (hQ : ∀ r9 h9, Q r9 h9 → QQ (some (ai (b2i r9))) h9) {k18 : Int32 → Nat → Nat → Hp → Prop} (hk18 : ∀ v3 bc bs h9, k18 v3 bc bs h9 → aW (some (L, xs)) m_L_law (d + 1) 18 [(0, ar 1), (1, ar v1), (2, ar v2), (3, ai v3)] [] h9 bc bs QQ) {v1 : Nat} {v2 : Nat} {v3 : Int32} {bc : Nat} {bs : Nat} {h : Hp} (hw : w_L_law_B509 L xs Q k18 v1 v2 v3 bc bs h) : aW (some (L, xs)) m_L_law (d + 1) 509 [(0, ar 1), (1, ar v1), (2, ar v2), (3, ai v3)] [] h bc bs QQ := by
  unfold w_L_law_B509 at hw
  refine r_aload_n (j := 1) d_L_law_509 rfl ?_
  refine r_aload_n (j := 0) d_L_law_510 rfl ?_
  refine r_iload_n (j := 3) d_L_law_511 rfl ?_
  refine r_iconst d_L_law_512 kc_1 ?_
  refine r_iadd d_L_law_513 ?_
  obtain ⟨q116, hw⟩ := hw
  refine r_sld rfl d_L_law_514 q116 ?_
  refine r_aload_n (j := 0) d_L_law_515 rfl ?_
  refine r_iload_n (j := 3) d_L_law_516 rfl ?_
  refine r_iconst d_L_law_517 kc_2 ?_
  refine r_iadd d_L_law_518 ?_
  obtain ⟨q117, hw⟩ := hw
  refine r_sld rfl d_L_law_519 q117 ?_
  obtain ⟨q120, hw⟩ := hw
  refine r_callV (av := [ai (xs (ix (v3 + (1 : Int32)))), ai (xs (ix (v3 + (2 : Int32))))]) (rest := []) (ci := 11) d_L_law_520 mk_X_want ll_L_54 im_X_want se_X_want rfl (nle rfl) rfl rfl (nle rfl) q120 (s_X_want (by omega) hw (fun r119 h118 hw => ?_))
  show aW (some (L, xs)) m_L_law (d + 1) 523 [(0, ar 1), (1, ar v1), (2, ar v2), (3, ai v3)] [ai r119] h118 bc bs QQ
  refine r_aload_n (j := 2) d_L_law_523 rfl ?_
  refine r_aload_n (j := 0) d_L_law_524 rfl ?_
  refine r_iload_n (j := 3) d_L_law_525 rfl ?_
  refine r_iconst d_L_law_526 kc_1 ?_
  refine r_iadd d_L_law_527 ?_
  obtain ⟨q121, hw⟩ := hw
  refine r_sld rfl d_L_law_528 q121 ?_
  refine r_aload_n (j := 0) d_L_law_529 rfl ?_
  refine r_iload_n (j := 3) d_L_law_530 rfl ?_
  refine r_iconst d_L_law_531 kc_2 ?_
  refine r_iadd d_L_law_532 ?_
  obtain ⟨q122, hw⟩ := hw
  refine r_sld rfl d_L_law_533 q122 ?_
  obtain ⟨q125, hw⟩ := hw
  refine r_callV (av := [ai (xs (ix (v3 + (1 : Int32)))), ai (xs (ix (v3 + (2 : Int32))))]) (rest := [ai r119]) (ci := 12) d_L_law_534 mk_M_want ll_L_57 im_M_want se_M_want rfl (nle rfl) rfl rfl (nle rfl) q125 (s_M_want (by omega) hw (fun r124 h123 hw => ?_))
  show aW (some (L, xs)) m_L_law (d + 1) 537 [(0, ar 1), (1, ar v1), (2, ar v2), (3, ai v3)] [ai r124, ai r119] h123 bc bs QQ
  refine r_icmp_eq d_L_law_537 (fun w9 => ?_) (fun w9 => ?_)
  · replace hw := hw.1 w9
    exact s_L_law_B1537 hd hQ hk18 hw
  · replace hw := hw.2 w9
    refine r_iconst d_L_law_540 kc_0 ?_
    exact r_zreturn d_L_law_541.1 rfl (Or.inl rfl) (hQ _ _ hw)
set_option maxRecDepth 100000 in
set_option maxHeartbeats 4000000 in
theorem s_L_law_B542 {L : Nat} {xs : Nat → Int32} {d : Nat} (hd : 65 ≤ d + 1) {Q : Bool → Hp → Prop} {QQ : Option AV → Hp → Prop} (hQ : ∀ r9 h9, Q r9 h9 → QQ (some (ai (b2i r9))) h9) {k18 : Int32 → Nat → Nat → Hp → Prop} (hk18 : ∀ v3 bc bs h9, k18 v3 bc bs h9 → aW (some (L, xs)) m_L_law (d + 1) 18 [(0, ar 1), (1, ar v1), (2, ar v2), (3, ai v3)] [] h9 bc bs QQ) {v1 : Nat} {v2 : Nat} {v3 : Int32} {bc : Nat} {bs : Nat} {h : Hp} (hw : w_L_law_B542 L xs Q k18 v1 v2 v3 bc bs h) : aW (some (L, xs)) m_L_law (d + 1) 542 [(0, ar 1), (1, ar v1), (2, ar v2), (3, ai v3)] [] h bc bs QQ := by
  unfold w_L_law_B542 at hw
  refine r_aload_n (j := 1) d_L_law_542 rfl ?_
  refine r_aload_n (j := 0) d_L_law_543 rfl ?_
  refine r_iload_n (j := 3) d_L_law_544 rfl ?_
  refine r_iconst d_L_law_545 kc_1 ?_
  refine r_iadd d_L_law_546 ?_
  obtain ⟨q126, hw⟩ := hw
  refine r_sld rfl d_L_law_547 q126 ?_
  obtain ⟨q129, hw⟩ := hw
  refine r_callV (av := [ai (xs (ix (v3 + (1 : Int32))))]) (rest := []) (ci := 11) d_L_law_548 mk_X_allow ll_L_58 im_X_allow se_X_allow rfl (nle rfl) rfl rfl (nle rfl) q129 (s_X_allow (by omega) hw (fun r128 h127 hw => ?_))
  show aW (some (L, xs)) m_L_law (d + 1) 551 [(0, ar 1), (1, ar v1), (2, ar v2), (3, ai v3)] [ai r128] h127 bc bs QQ
  refine r_aload_n (j := 2) d_L_law_551 rfl ?_
  refine r_aload_n (j := 0) d_L_law_552 rfl ?_
  refine r_iload_n (j := 3) d_L_law_553 rfl ?_
  refine r_iconst d_L_law_554 kc_1 ?_
  refine r_iadd d_L_law_555 ?_
  obtain ⟨q130, hw⟩ := hw
  refine r_sld rfl d_L_law_556 q130 ?_
  obtain ⟨q133, hw⟩ := hw
  refine r_callV (av := [ai (xs (ix (v3 + (1 : Int32))))]) (rest := [ai r128]) (ci := 12) d_L_law_557 mk_M_allow ll_L_61 im_M_allow se_M_allow rfl (nle rfl) rfl rfl (nle rfl) q133 (s_M_allow (by omega) hw (fun r132 h131 hw => ?_))
  show aW (some (L, xs)) m_L_law (d + 1) 560 [(0, ar 1), (1, ar v1), (2, ar v2), (3, ai v3)] [ai r132, ai r128] h131 bc bs QQ
  refine r_icmp_eq d_L_law_560 (fun w9 => ?_) (fun w9 => ?_)
  · replace hw := hw.1 w9
    exact s_L_law_B1537 hd hQ hk18 hw
  · replace hw := hw.2 w9
    refine r_iconst d_L_law_563 kc_0 ?_
    exact r_zreturn d_L_law_564.1 rfl (Or.inl rfl) (hQ _ _ hw)
set_option maxRecDepth 100000 in
set_option maxHeartbeats 4000000 in
theorem s_L_law_B565 {L : Nat} {xs : Nat → Int32} {d : Nat} (hd : 65 ≤ d + 1) {Q : Bool → Hp → Prop} {QQ : Option AV → Hp → Prop} (hQ : ∀ r9 h9, Q r9 h9 → QQ (some (ai (b2i r9))) h9) {k18 : Int32 → Nat → Nat → Hp → Prop} (hk18 : ∀ v3 bc bs h9, k18 v3 bc bs h9 → aW (some (L, xs)) m_L_law (d + 1) 18 [(0, ar 1), (1, ar v1), (2, ar v2), (3, ai v3)] [] h9 bc bs QQ) {v1 : Nat} {v2 : Nat} {v3 : Int32} {bc : Nat} {bs : Nat} {h : Hp} (hw : w_L_law_B565 L xs Q k18 v1 v2 v3 bc bs h) : aW (some (L, xs)) m_L_law (d + 1) 565 [(0, ar 1), (1, ar v1), (2, ar v2), (3, ai v3)] [] h bc bs QQ := by
  unfold w_L_law_B565 at hw
  refine r_aload_n (j := 1) d_L_law_565 rfl ?_
  refine r_aload_n (j := 0) d_L_law_566 rfl ?_
  refine r_iload_n (j := 3) d_L_law_567 rfl ?_
  refine r_iconst d_L_law_568 kc_1 ?_
  refine r_iadd d_L_law_569 ?_
  obtain ⟨q134, hw⟩ := hw
  refine r_sld rfl d_L_law_570 q134 ?_
  refine r_aload_n (j := 0) d_L_law_571 rfl ?_
  refine r_iload_n (j := 3) d_L_law_572 rfl ?_
  refine r_iconst d_L_law_573 kc_2 ?_
  refine r_iadd d_L_law_574 ?_
  obtain ⟨q135, hw⟩ := hw
  refine r_sld rfl d_L_law_575 q135 ?_
  obtain ⟨q138, hw⟩ := hw
  refine r_callV (av := [ai (xs (ix (v3 + (1 : Int32)))), ai (xs (ix (v3 + (2 : Int32))))]) (rest := []) (ci := 11) d_L_law_576 mk_X_hold ll_L_62 im_X_hold se_X_hold rfl (nle rfl) rfl rfl (nle rfl) q138 (s_X_hold (by omega) hw (fun r137 h136 hw => ?_))
  show aW (some (L, xs)) m_L_law (d + 1) 579 [(0, ar 1), (1, ar v1), (2, ar v2), (3, ai v3)] [ai r137] h136 bc bs QQ
  refine r_aload_n (j := 2) d_L_law_579 rfl ?_
  refine r_aload_n (j := 0) d_L_law_580 rfl ?_
  refine r_iload_n (j := 3) d_L_law_581 rfl ?_
  refine r_iconst d_L_law_582 kc_1 ?_
  refine r_iadd d_L_law_583 ?_
  obtain ⟨q139, hw⟩ := hw
  refine r_sld rfl d_L_law_584 q139 ?_
  refine r_aload_n (j := 0) d_L_law_585 rfl ?_
  refine r_iload_n (j := 3) d_L_law_586 rfl ?_
  refine r_iconst d_L_law_587 kc_2 ?_
  refine r_iadd d_L_law_588 ?_
  obtain ⟨q140, hw⟩ := hw
  refine r_sld rfl d_L_law_589 q140 ?_
  obtain ⟨q143, hw⟩ := hw
  refine r_callV (av := [ai (xs (ix (v3 + (1 : Int32)))), ai (xs (ix (v3 + (2 : Int32))))]) (rest := [ai r137]) (ci := 12) d_L_law_590 mk_M_hold ll_L_65 im_M_hold se_M_hold rfl (nle rfl) rfl rfl (nle rfl) q143 (s_M_hold (by omega) hw (fun r142 h141 hw => ?_))
  show aW (some (L, xs)) m_L_law (d + 1) 593 [(0, ar 1), (1, ar v1), (2, ar v2), (3, ai v3)] [ai r142, ai r137] h141 bc bs QQ
  refine r_icmp_eq d_L_law_593 (fun w9 => ?_) (fun w9 => ?_)
  · replace hw := hw.1 w9
    exact s_L_law_B1537 hd hQ hk18 hw
  · replace hw := hw.2 w9
    refine r_iconst d_L_law_596 kc_0 ?_
    exact r_zreturn d_L_law_597.1 rfl (Or.inl rfl) (hQ _ _ hw)
set_option maxRecDepth 100000 in
set_option maxHeartbeats 4000000 in
theorem s_L_law_B598 {L : Nat} {xs : Nat → Int32} {d : Nat} (hd : 65 ≤ d + 1) {Q : Bool → Hp → Prop} {QQ : Option AV → Hp → Prop} (hQ : ∀ r9 h9, Q r9 h9 → QQ (some (ai (b2i r9))) h9) {k18 : Int32 → Nat → Nat → Hp → Prop} (hk18 : ∀ v3 bc bs h9, k18 v3 bc bs h9 → aW (some (L, xs)) m_L_law (d + 1) 18 [(0, ar 1), (1, ar v1), (2, ar v2), (3, ai v3)] [] h9 bc bs QQ) {v1 : Nat} {v2 : Nat} {v3 : Int32} {bc : Nat} {bs : Nat} {h : Hp} (hw : w_L_law_B598 L xs Q k18 v1 v2 v3 bc bs h) : aW (some (L, xs)) m_L_law (d + 1) 598 [(0, ar 1), (1, ar v1), (2, ar v2), (3, ai v3)] [] h bc bs QQ := by
  unfold w_L_law_B598 at hw
  refine r_aload_n (j := 1) d_L_law_598 rfl ?_
  refine r_aload_n (j := 0) d_L_law_599 rfl ?_
  refine r_iload_n (j := 3) d_L_law_600 rfl ?_
  refine r_iconst d_L_law_601 kc_1 ?_
  refine r_iadd d_L_law_602 ?_
  obtain ⟨q144, hw⟩ := hw
  refine r_sld rfl d_L_law_603 q144 ?_
  obtain ⟨q147, hw⟩ := hw
  refine r_callV (av := [ai (xs (ix (v3 + (1 : Int32))))]) (rest := []) (ci := 11) d_L_law_604 mk_X_better ll_L_66 im_X_better se_X_better rfl (nle rfl) rfl rfl (nle rfl) q147 (s_X_better (by omega) hw (fun r146 h145 hw => ?_))
  show aW (some (L, xs)) m_L_law (d + 1) 607 [(0, ar 1), (1, ar v1), (2, ar v2), (3, ai v3)] [ai r146] h145 bc bs QQ
  refine r_aload_n (j := 2) d_L_law_607 rfl ?_
  refine r_aload_n (j := 0) d_L_law_608 rfl ?_
  refine r_iload_n (j := 3) d_L_law_609 rfl ?_
  refine r_iconst d_L_law_610 kc_1 ?_
  refine r_iadd d_L_law_611 ?_
  obtain ⟨q148, hw⟩ := hw
  refine r_sld rfl d_L_law_612 q148 ?_
  obtain ⟨q151, hw⟩ := hw
  refine r_callV (av := [ai (xs (ix (v3 + (1 : Int32))))]) (rest := [ai r146]) (ci := 12) d_L_law_613 mk_M_better ll_L_69 im_M_better se_M_better rfl (nle rfl) rfl rfl (nle rfl) q151 (s_M_better (by omega) hw (fun r150 h149 hw => ?_))
  show aW (some (L, xs)) m_L_law (d + 1) 616 [(0, ar 1), (1, ar v1), (2, ar v2), (3, ai v3)] [ai r150, ai r146] h149 bc bs QQ
  refine r_icmp_eq d_L_law_616 (fun w9 => ?_) (fun w9 => ?_)
  · replace hw := hw.1 w9
    exact s_L_law_B1537 hd hQ hk18 hw
  · replace hw := hw.2 w9
    refine r_iconst d_L_law_619 kc_0 ?_
    exact r_zreturn d_L_law_620.1 rfl (Or.inl rfl) (hQ _ _ hw)
