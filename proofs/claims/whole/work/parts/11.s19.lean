set_option maxRecDepth 100000 in
set_option maxHeartbeats 4000000 in
theorem s_M_comesBy_L4 {d : Nat} (hd : 1 ≤ d + 1) {Q : Bool → Hp → Prop} {QQ : Option AV → Hp → Prop} (hQ : ∀ r9 h9, Q r9 h9 → QQ (some (ai (b2i r9))) h9) {v0 : Nat} {v1 : Int32} : ∀ (n : Nat) (v2 : Int32) (v3 : Int32) (h : Hp), w_M_comesBy_L4 Q  v0 v1 n v2 v3 h → aW none m_M_comesBy (d + 1) 4 [(0, ar v0), (1, ai v1), (2, ai v2), (3, ai v3)] [] h 0 0 QQ := by
  intro n
  induction n with
  | zero => intro v2 v3 h hw; exact hw.elim
  | succ n ih =>
    intro v2 v3 h hw
    unfold w_M_comesBy_L4 at hw
    refine r_iload_n (j := 3) d_M_comesBy_4 rfl ?_
    refine r_aload_n (j := 0) d_M_comesBy_5 rfl ?_
    obtain ⟨q1, hw⟩ := hw
    refine r_getI d_M_comesBy_6 ok_12 (nle rfl) (nle rfl) rfl lf_M_247 q1 ?_
    refine r_icmp_ge d_M_comesBy_9 (fun w9 => ?_) (fun w9 => ?_)
    · replace hw := hw.1 w9
      refine r_iload_n (j := 2) d_M_comesBy_53 rfl ?_
      refine r_aload_n (j := 0) d_M_comesBy_54 rfl ?_
      refine r_getI d_M_comesBy_55 ok_12 (nle rfl) (nle rfl) rfl lf_M_244 q1 ?_
      refine r_icmp_le d_M_comesBy_58 (fun w9 => ?_) (fun w9 => ?_)
      · replace hw := hw.1 w9
        refine r_iconst d_M_comesBy_63 kc_0 ?_
        refine r_istore_n (ls2 := [(3, ai (0 : Int32)), (0, ar v0), (1, ai v1), (2, ai v2)]) d_M_comesBy_64 (nle rfl) rfl ?_
        obtain ⟨n54, hw⟩ := hw
        refine r_pick (ls2 := [(0, ar v0), (2, ai v2), (3, ai (0 : Int32))]) [1, 3, 0] rfl ?_
        exact s_M_comesBy_L65 hd hQ  n54 _ _ hw
      · replace hw := hw.2 w9
        refine r_iconst d_M_comesBy_61 kc_0 ?_
        exact r_zreturn d_M_comesBy_62.1 rfl (Or.inl rfl) (hQ _ _ hw)
    · replace hw := hw.2 w9
      refine r_aload_n (j := 0) d_M_comesBy_12 rfl ?_
      refine r_getR d_M_comesBy_13 ok_12 (nle rfl) (nle rfl) rfl lf_M_77 q1 ?_
      refine r_iload_n (j := 3) d_M_comesBy_16 rfl ?_
      refine r_lconst d_M_comesBy_17 kl_0 ?_
      obtain ⟨q55, hw⟩ := hw
      obtain ⟨q56, hw⟩ := hw
      refine r_last d_M_comesBy_18 q55 q56 ?_
      refine r_aload_n (j := 0) d_M_comesBy_19 rfl ?_
      refine r_getRb eRL d_M_comesBy_20 ok_12 (nle rfl) (nle rfl) rfl lf_M_80 (kt eKL q1) ?_
      refine r_iload_n (j := 3) d_M_comesBy_23 rfl ?_
      refine r_lconst d_M_comesBy_24 kl_1 ?_
      obtain ⟨q57, hw⟩ := hw
      obtain ⟨q58, hw⟩ := hw
      refine r_last d_M_comesBy_25 (kt eKL q57) (nt eNL q58) ?_
      refine r_iload_n (j := 1) d_M_comesBy_26 rfl ?_
      refine r_iload_n (j := 3) d_M_comesBy_27 rfl ?_
      refine r_ishr d_M_comesBy_28 ?_
      refine r_iconst d_M_comesBy_29 kc_1 ?_
      refine r_iand d_M_comesBy_30 ?_
      refine r_if_ne d_M_comesBy_31 (fun w9 => ?_) (fun w9 => ?_)
      · replace hw := hw.2 w9
        refine r_aload_n (j := 0) d_M_comesBy_37 rfl ?_
        refine r_getRb (eRL.trans eRL) d_M_comesBy_38 ok_12 (nle rfl) (nle rfl) rfl lf_M_89 (kt (eKL.trans eKL) q1) ?_
        refine r_iload_n (j := 2) d_M_comesBy_41 rfl ?_
        refine r_iload_n (j := 3) d_M_comesBy_42 rfl ?_
        obtain ⟨q59, hw⟩ := hw
        obtain ⟨q60, hw⟩ := hw
        refine r_iast d_M_comesBy_43 (kt (eKL.trans eKL) q59) (nt (eNL.trans eNL) q60) ?_
        refine r_iinc (j := 2) (ls2 := [(2, ai (v2 + (1 : Int32))), (0, ar v0), (1, ai v1), (3, ai v3)]) d_M_comesBy_44 rfl (congrArg (HAdd.hAdd v2) kc_1) (nle rfl) rfl ?_
        refine r_iinc (j := 3) (ls2 := [(3, ai (v3 + (1 : Int32))), (2, ai (v2 + (1 : Int32))), (0, ar v0), (1, ai v1)]) d_M_comesBy_47 rfl (congrArg (HAdd.hAdd v3) kc_1) (nle rfl) rfl ?_
        refine r_goto d_M_comesBy_50 ?_
        refine r_pick (ls2 := [(0, ar v0), (1, ai v1), (2, ai (v2 + (1 : Int32))), (3, ai (v3 + (1 : Int32)))]) [2, 3, 1, 0] rfl ?_
        exact ih _ _ _ hw
      · replace hw := hw.1 w9
        refine r_goto d_M_comesBy_34 ?_
        refine r_iinc (j := 3) (ls2 := [(3, ai (v3 + (1 : Int32))), (0, ar v0), (1, ai v1), (2, ai v2)]) d_M_comesBy_47 rfl (congrArg (HAdd.hAdd v3) kc_1) (nle rfl) rfl ?_
        refine r_goto d_M_comesBy_50 ?_
        refine r_pick (ls2 := [(0, ar v0), (1, ai v1), (2, ai v2), (3, ai (v3 + (1 : Int32)))]) [1, 2, 3, 0] rfl ?_
        exact ih _ _ _ hw
set_option maxRecDepth 100000 in
set_option maxHeartbeats 4000000 in
theorem s_M_comesBy {d : Nat} (hd : 1 ≤ d) {v0 : Nat} {v1 : Int32} {h : Hp} {Q : Bool → Hp → Prop} {QQ : Option AV → Hp → Prop} (hw : w_M_comesBy v0 v1 h Q) (hQ : ∀ r9 h9, Q r9 h9 → QQ (some (ai (b2i r9))) h9) : aCall m_M_comesBy d [ar v0, ai v1] h 0 0 QQ := by
  obtain ⟨d, rfl⟩ : ∃ d9, d = d9 + 1 := ⟨d - 1, by omega⟩
  refine aCall_in pl_M_comesBy (nle rfl) ?_
  show aW none m_M_comesBy (d + 1) 0 [(0, ar v0), (1, ai v1)] [] h 0 0 QQ
  unfold w_M_comesBy at hw
  refine r_iconst d_M_comesBy_0 kc_0 ?_
  refine r_istore_n (ls2 := [(2, ai (0 : Int32)), (0, ar v0), (1, ai v1)]) d_M_comesBy_1 (nle rfl) rfl ?_
  refine r_iconst d_M_comesBy_2 kc_0 ?_
  refine r_istore_n (ls2 := [(3, ai (0 : Int32)), (2, ai (0 : Int32)), (0, ar v0), (1, ai v1)]) d_M_comesBy_3 (nle rfl) rfl ?_
  obtain ⟨n61, hw⟩ := hw
  refine r_pick (ls2 := [(0, ar v0), (1, ai v1), (2, ai (0 : Int32)), (3, ai (0 : Int32))]) [2, 3, 1, 0] rfl ?_
  exact s_M_comesBy_L4 hd hQ  n61 _ _ _ hw
set_option maxRecDepth 100000 in
set_option maxHeartbeats 4000000 in
theorem s_M_gains_L12 {d : Nat} (hd : 2 ≤ d + 1) {Q : Hp → Prop} {QQ : Option AV → Hp → Prop} (hQ : ∀ h9, Q h9 → QQ none h9) {v0 : Nat} : ∀ (n : Nat) (v1 : Int32) (h : Hp), w_M_gains_L12 Q  v0 n v1 h → aW none m_M_gains (d + 1) 12 [(0, ar v0), (1, ai v1)] [] h 0 0 QQ := by
  intro n
  induction n with
  | zero => intro v1 h hw; exact hw.elim
  | succ n ih =>
    intro v1 h hw
    unfold w_M_gains_L12 at hw
    refine r_iload_n (j := 1) d_M_gains_12 rfl ?_
    refine r_aload_n (j := 0) d_M_gains_13 rfl ?_
    obtain ⟨q2, hw⟩ := hw
    refine r_getI d_M_gains_14 ok_12 (nle rfl) (nle rfl) rfl lf_M_247 q2 ?_
    refine r_icmp_ge d_M_gains_17 (fun w9 => ?_) (fun w9 => ?_)
    · replace hw := hw.1 w9
      exact r_return d_M_gains_49.1 rfl (hQ _ hw)
    · replace hw := hw.2 w9
      refine r_aload_n (j := 0) d_M_gains_20 rfl ?_
      refine r_aload_n (j := 0) d_M_gains_21 rfl ?_
      refine r_iload_n (j := 1) d_M_gains_22 rfl ?_
      refine r_callV (av := [ai v1]) (rest := [ar v0]) (ci := 12) d_M_gains_23 mk_M_gainOf ll_M_278 im_M_gainOf se_M_gainOf rfl (nle rfl) rfl rfl (nle rfl) q2 (s_M_gainOf  hw (fun r4 h3 hw => ?_))
      show aW none m_M_gains (d + 1) 26 [(0, ar v0), (1, ai v1)] [ai r4, ar v0] h3 0 0 QQ
      refine r_i2l d_M_gains_26 ?_
      refine r_aload_n (j := 0) d_M_gains_27 rfl ?_
      obtain ⟨q5, hw⟩ := hw
      refine r_getR d_M_gains_28 ok_12 (nle rfl) (nle rfl) rfl lf_M_77 q5 ?_
      refine r_iload_n (j := 1) d_M_gains_31 rfl ?_
      obtain ⟨q6, hw⟩ := hw
      obtain ⟨q7, hw⟩ := hw
      refine r_lald d_M_gains_32 q6 q7 ?_
      refine r_lmul d_M_gains_33 ?_
      refine r_aload_n (j := 0) d_M_gains_34 rfl ?_
      refine r_getR d_M_gains_35 ok_12 (nle rfl) (nle rfl) rfl lf_M_80 q5 ?_
      refine r_iload_n (j := 1) d_M_gains_38 rfl ?_
      obtain ⟨q8, hw⟩ := hw
      obtain ⟨q9, hw⟩ := hw
      refine r_lald d_M_gains_39 q8 q9 ?_
      refine r_callV (av := [al ((r4.toInt64) * (gL h3 (gR h3 v0 46) (ix v1))), al (gL h3 (gR h3 v0 47) (ix v1))]) (rest := []) (ci := 12) d_M_gains_40 mk_M_pluses ll_M_451 im_M_pluses se_M_pluses rfl (nle rfl) rfl rfl (nle rfl) q5 (s_M_pluses (by omega) hw (fun h10 hw => ?_))
      show aW none m_M_gains (d + 1) 43 [(0, ar v0), (1, ai v1)] [] h10 0 0 QQ
      refine r_iinc (j := 1) (ls2 := [(1, ai (v1 + (1 : Int32))), (0, ar v0)]) d_M_gains_43 rfl (congrArg (HAdd.hAdd v1) kc_1) (nle rfl) rfl ?_
      refine r_goto d_M_gains_46 ?_
      refine r_pick (ls2 := [(0, ar v0), (1, ai (v1 + (1 : Int32)))]) [1, 0] rfl ?_
      exact ih _ _ hw
set_option maxRecDepth 100000 in
set_option maxHeartbeats 4000000 in
theorem s_M_gains {d : Nat} (hd : 2 ≤ d) {v0 : Nat} {h : Hp} {Q : Hp → Prop} {QQ : Option AV → Hp → Prop} (hw : w_M_gains v0 h Q) (hQ : ∀ h9, Q h9 → QQ none h9) : aCall m_M_gains d [ar v0] h 0 0 QQ := by
  obtain ⟨d, rfl⟩ : ∃ d9, d = d9 + 1 := ⟨d - 1, by omega⟩
  refine aCall_in pl_M_gains (nle rfl) ?_
  show aW none m_M_gains (d + 1) 0 [(0, ar v0)] [] h 0 0 QQ
  unfold w_M_gains at hw
  refine r_aload_n (j := 0) d_M_gains_0 rfl ?_
  refine r_lconst d_M_gains_1 kl_0 ?_
  obtain ⟨q1, hw⟩ := hw
  refine r_putL d_M_gains_2 ok_12 (nle rfl) (nle rfl) rfl lf_M_434 rfl q1 ?_
  refine r_aload_n (j := 0) d_M_gains_5 rfl ?_
  refine r_lconst d_M_gains_6 kl_1 ?_
  refine r_putL d_M_gains_7 ok_12 (nle rfl) (nle rfl) rfl lf_M_437 rfl (kt eKL q1) ?_
  refine r_iconst d_M_gains_10 kc_0 ?_
  refine r_istore_n (ls2 := [(1, ai (0 : Int32)), (0, ar v0)]) d_M_gains_11 (nle rfl) rfl ?_
  obtain ⟨n11, hw⟩ := hw
  refine r_pick (ls2 := [(0, ar v0), (1, ai (0 : Int32))]) [1, 0] rfl ?_
  exact s_M_gains_L12 hd hQ  n11 _ _ hw
set_option maxRecDepth 100000 in
set_option maxHeartbeats 4000000 in
theorem s_M_aimsAtNeed_L2 {d : Nat} (hd : 1 ≤ d + 1) {Q : Hp → Prop} {QQ : Option AV → Hp → Prop} (hQ : ∀ h9, Q h9 → QQ none h9) {v0 : Nat} : ∀ (n : Nat) (v1 : Int32) (h : Hp), w_M_aimsAtNeed_L2 Q  v0 n v1 h → aW none m_M_aimsAtNeed (d + 1) 2 [(0, ar v0), (1, ai v1)] [] h 0 0 QQ := by
  intro n
  induction n with
  | zero => intro v1 h hw; exact hw.elim
  | succ n ih =>
    intro v1 h hw
    unfold w_M_aimsAtNeed_L2 at hw
    refine r_iload_n (j := 1) d_M_aimsAtNeed_2 rfl ?_
    refine r_aload_n (j := 0) d_M_aimsAtNeed_3 rfl ?_
    obtain ⟨q1, hw⟩ := hw
    refine r_getI d_M_aimsAtNeed_4 ok_12 (nle rfl) (nle rfl) rfl lf_M_244 q1 ?_
    refine r_icmp_ge d_M_aimsAtNeed_7 (fun w9 => ?_) (fun w9 => ?_)
    · replace hw := hw.1 w9
      exact r_return d_M_aimsAtNeed_27.1 rfl (hQ _ hw)
    · replace hw := hw.2 w9
      refine r_aload_n (j := 0) d_M_aimsAtNeed_10 rfl ?_
      refine r_getR d_M_aimsAtNeed_11 ok_12 (nle rfl) (nle rfl) rfl lf_M_92 q1 ?_
      refine r_iload_n (j := 1) d_M_aimsAtNeed_14 rfl ?_
      refine r_aload_n (j := 0) d_M_aimsAtNeed_15 rfl ?_
      refine r_iload_n (j := 1) d_M_aimsAtNeed_16 rfl ?_
      refine r_callV (av := [ai v1]) (rest := [ai v1, ar (gR h v0 51)]) (ci := 12) d_M_aimsAtNeed_17 mk_M_needOf ll_M_281 im_M_needOf se_M_needOf rfl (nle rfl) rfl rfl (nle rfl) q1 (s_M_needOf  hw (fun r3 h2 hw => ?_))
      show aW none m_M_aimsAtNeed (d + 1) 20 [(0, ar v0), (1, ai v1)] [ai r3, ai v1, ar (gR h v0 51)] h2 0 0 QQ
      obtain ⟨q4, hw⟩ := hw
      obtain ⟨q5, hw⟩ := hw
      refine r_iast d_M_aimsAtNeed_20 q4 q5 ?_
      refine r_iinc (j := 1) (ls2 := [(1, ai (v1 + (1 : Int32))), (0, ar v0)]) d_M_aimsAtNeed_21 rfl (congrArg (HAdd.hAdd v1) kc_1) (nle rfl) rfl ?_
      refine r_goto d_M_aimsAtNeed_24 ?_
      refine r_pick (ls2 := [(0, ar v0), (1, ai (v1 + (1 : Int32)))]) [1, 0] rfl ?_
      exact ih _ _ hw
set_option maxRecDepth 100000 in
set_option maxHeartbeats 4000000 in
theorem s_M_aimsAtNeed {d : Nat} (hd : 1 ≤ d) {v0 : Nat} {h : Hp} {Q : Hp → Prop} {QQ : Option AV → Hp → Prop} (hw : w_M_aimsAtNeed v0 h Q) (hQ : ∀ h9, Q h9 → QQ none h9) : aCall m_M_aimsAtNeed d [ar v0] h 0 0 QQ := by
  obtain ⟨d, rfl⟩ : ∃ d9, d = d9 + 1 := ⟨d - 1, by omega⟩
  refine aCall_in pl_M_aimsAtNeed (nle rfl) ?_
  show aW none m_M_aimsAtNeed (d + 1) 0 [(0, ar v0)] [] h 0 0 QQ
  unfold w_M_aimsAtNeed at hw
  refine r_iconst d_M_aimsAtNeed_0 kc_0 ?_
  refine r_istore_n (ls2 := [(1, ai (0 : Int32)), (0, ar v0)]) d_M_aimsAtNeed_1 (nle rfl) rfl ?_
  obtain ⟨n6, hw⟩ := hw
  refine r_pick (ls2 := [(0, ar v0), (1, ai (0 : Int32))]) [1, 0] rfl ?_
  exact s_M_aimsAtNeed_L2 hd hQ  n6 _ _ hw
set_option maxRecDepth 100000 in
set_option maxHeartbeats 4000000 in
theorem s_M_many_L4 {d : Nat} {Q : Int32 → Hp → Prop} {QQ : Option AV → Hp → Prop} (hQ : ∀ r9 h9, Q r9 h9 → QQ (some (ai r9)) h9) {v0 : Int32} : ∀ (n : Nat) (v1 : Int32) (v2 : Int32) (h : Hp), w_M_many_L4 Q  v0 n v1 v2 h → aW none m_M_many d 4 [(0, ai v0), (1, ai v1), (2, ai v2)] [] h 0 0 QQ := by
  intro n
  induction n with
  | zero => intro v1 v2 h hw; exact hw.elim
  | succ n ih =>
    intro v1 v2 h hw
    unfold w_M_many_L4 at hw
    refine r_iload_n (j := 2) d_M_many_4 rfl ?_
    refine r_bipush d_M_many_5 kb_8 ?_
    refine r_icmp_ge d_M_many_7 (fun w9 => ?_) (fun w9 => ?_)
    · replace hw := hw.1 w9
      refine r_iload_n (j := 1) d_M_many_24 rfl ?_
      exact r_ireturn d_M_many_25.1 rfl (hQ _ _ hw)
    · replace hw := hw.2 w9
      refine r_iload_n (j := 1) d_M_many_10 rfl ?_
      refine r_iload_n (j := 0) d_M_many_11 rfl ?_
      refine r_iload_n (j := 2) d_M_many_12 rfl ?_
      refine r_ishr d_M_many_13 ?_
      refine r_iconst d_M_many_14 kc_1 ?_
      refine r_iand d_M_many_15 ?_
      refine r_iadd d_M_many_16 ?_
      refine r_istore_n (ls2 := [(1, ai (v1 + ((jshr v0 v2) &&& (1 : Int32)))), (0, ai v0), (2, ai v2)]) d_M_many_17 (nle rfl) rfl ?_
      refine r_iinc (j := 2) (ls2 := [(2, ai (v2 + (1 : Int32))), (1, ai (v1 + ((jshr v0 v2) &&& (1 : Int32)))), (0, ai v0)]) d_M_many_18 rfl (congrArg (HAdd.hAdd v2) kc_1) (nle rfl) rfl ?_
      refine r_goto d_M_many_21 ?_
      refine r_pick (ls2 := [(0, ai v0), (1, ai (v1 + ((jshr v0 v2) &&& (1 : Int32)))), (2, ai (v2 + (1 : Int32)))]) [2, 1, 0] rfl ?_
      exact ih _ _ _ hw
set_option maxRecDepth 100000 in
set_option maxHeartbeats 4000000 in
theorem s_M_many {d : Nat} {v0 : Int32} {h : Hp} {Q : Int32 → Hp → Prop} {QQ : Option AV → Hp → Prop} (hw : w_M_many v0 h Q) (hQ : ∀ r9 h9, Q r9 h9 → QQ (some (ai r9)) h9) : aCall m_M_many d [ai v0] h 0 0 QQ := by
  refine aCall_in pl_M_many (nle rfl) ?_
  show aW none m_M_many d 0 [(0, ai v0)] [] h 0 0 QQ
  unfold w_M_many at hw
  refine r_iconst d_M_many_0 kc_0 ?_
  refine r_istore_n (ls2 := [(1, ai (0 : Int32)), (0, ai v0)]) d_M_many_1 (nle rfl) rfl ?_
  refine r_iconst d_M_many_2 kc_0 ?_
  refine r_istore_n (ls2 := [(2, ai (0 : Int32)), (1, ai (0 : Int32)), (0, ai v0)]) d_M_many_3 (nle rfl) rfl ?_
  obtain ⟨n1, hw⟩ := hw
  refine r_pick (ls2 := [(0, ai v0), (1, ai (0 : Int32)), (2, ai (0 : Int32))]) [2, 1, 0] rfl ?_
  exact s_M_many_L4 hQ  n1 _ _ _ hw
set_option maxRecDepth 100000 in
set_option maxHeartbeats 4000000 in
theorem s_M_goesRound_L41 {d : Nat} (hd : 3 ≤ d + 1) {Q : Bool → Hp → Prop} {QQ : Option AV → Hp → Prop} (hQ : ∀ r9 h9, Q r9 h9 → QQ (some (ai (b2i r9))) h9) {v0 : Nat} {v1 : Int32} {k2 : Int32 → Hp → Prop} (hk2 : ∀ v1 h9, k2 v1 h9 → aW none m_M_goesRound (d + 1) 2 [(0, ar v0), (1, ai v1)] [] h9 0 0 QQ) : ∀ (n : Nat) (v2 : Int32) (h : Hp), w_M_goesRound_L41 Q k2 v0 v1 n v2 h → aW none m_M_goesRound (d + 1) 41 [(0, ar v0), (1, ai v1), (2, ai v2)] [] h 0 0 QQ := by
  intro n
  induction n with
  | zero => intro v2 h hw; exact hw.elim
  | succ n ih =>
    intro v2 h hw
    unfold w_M_goesRound_L41 at hw
    refine r_iload_n (j := 2) d_M_goesRound_41 rfl ?_
    refine r_iconst d_M_goesRound_42 kc_1 ?_
    refine r_aload_n (j := 0) d_M_goesRound_43 rfl ?_
    obtain ⟨q3, hw⟩ := hw
    refine r_getI d_M_goesRound_44 ok_12 (nle rfl) (nle rfl) rfl lf_M_247 q3 ?_
    refine r_ishl d_M_goesRound_47 ?_
    refine r_icmp_ge d_M_goesRound_48 (fun w9 => ?_) (fun w9 => ?_)
    · replace hw := hw.1 w9
      refine r_iinc (j := 1) (ls2 := [(1, ai (v1 + (1 : Int32))), (0, ar v0), (2, ai v2)]) d_M_goesRound_115 rfl (congrArg (HAdd.hAdd v1) kc_1) (nle rfl) rfl ?_
      refine r_goto d_M_goesRound_118 ?_
      refine r_pick (ls2 := [(0, ar v0), (1, ai (v1 + (1 : Int32)))]) [1, 0] rfl ?_
      exact hk2 _ _ hw
    · replace hw := hw.2 w9
      refine r_iload_n (j := 2) d_M_goesRound_51 rfl ?_
      refine r_iload_n (j := 1) d_M_goesRound_52 rfl ?_
      refine r_ishr d_M_goesRound_53 ?_
      refine r_iconst d_M_goesRound_54 kc_1 ?_
      refine r_iand d_M_goesRound_55 ?_
      refine r_iconst d_M_goesRound_56 kc_1 ?_
      refine r_icmp_eq d_M_goesRound_57 (fun w9 => ?_) (fun w9 => ?_)
      · replace hw := hw.1 w9
        refine r_iinc (j := 2) (ls2 := [(2, ai (v2 + (1 : Int32))), (0, ar v0), (1, ai v1)]) d_M_goesRound_109 rfl (congrArg (HAdd.hAdd v2) kc_1) (nle rfl) rfl ?_
        refine r_goto d_M_goesRound_112 ?_
        refine r_pick (ls2 := [(0, ar v0), (1, ai v1), (2, ai (v2 + (1 : Int32)))]) [1, 2, 0] rfl ?_
        exact ih _ _ hw
      · replace hw := hw.2 w9
        refine r_iload_n (j := 2) d_M_goesRound_60 rfl ?_
        refine r_callS (av := [ai v2]) (rest := []) d_M_goesRound_61 mk_M_many ll_M_455 st_M_many rfl rfl (nle rfl) (s_M_many  hw (fun r5 h4 hw => ?_))
        show aW none m_M_goesRound (d + 1) 64 [(0, ar v0), (1, ai v1), (2, ai v2)] [ai r5] h4 0 0 QQ
        refine r_aload_n (j := 0) d_M_goesRound_64 rfl ?_
        obtain ⟨q6, hw⟩ := hw
        refine r_getI d_M_goesRound_65 ok_12 (nle rfl) (nle rfl) rfl lf_M_244 q6 ?_
        refine r_icmp_gt d_M_goesRound_68 (fun w9 => ?_) (fun w9 => ?_)
        · replace hw := hw.1 w9
          refine r_iinc (j := 2) (ls2 := [(2, ai (v2 + (1 : Int32))), (0, ar v0), (1, ai v1)]) d_M_goesRound_109 rfl (congrArg (HAdd.hAdd v2) kc_1) (nle rfl) rfl ?_
          refine r_goto d_M_goesRound_112 ?_
          refine r_pick (ls2 := [(0, ar v0), (1, ai v1), (2, ai (v2 + (1 : Int32)))]) [1, 2, 0] rfl ?_
          exact ih _ _ hw
        · replace hw := hw.2 w9
          refine r_aload_n (j := 0) d_M_goesRound_71 rfl ?_
          refine r_iload_n (j := 2) d_M_goesRound_72 rfl ?_
          refine r_callV (av := [ai v2]) (rest := []) (ci := 12) d_M_goesRound_73 mk_M_comesBy ll_M_458 im_M_comesBy se_M_comesBy rfl (nle rfl) rfl rfl (nle rfl) q6 (s_M_comesBy (by omega) hw (fun r8 h7 hw => ?_))
          show aW none m_M_goesRound (d + 1) 76 [(0, ar v0), (1, ai v1), (2, ai v2)] [ai (b2i r8)] h7 0 0 QQ
          refine r_if_ne d_M_goesRound_76 (fun w9 => ?_) (fun w9 => ?_)
          · replace hw := hw.2 (fun g9 => w9 (b2i_0.mpr g9))
            refine r_aload_n (j := 0) d_M_goesRound_82 rfl ?_
            obtain ⟨q10, hw⟩ := hw
            refine r_callV (av := []) (rest := []) (ci := 12) d_M_goesRound_83 mk_M_gains ll_M_461 im_M_gains se_M_gains rfl (nle rfl) rfl rfl (nle rfl) q10 (s_M_gains (by omega) hw (fun h9 hw => ?_))
            show aW none m_M_goesRound (d + 1) 86 [(0, ar v0), (1, ai v1), (2, ai v2)] [] h9 0 0 QQ
            refine r_aload_n (j := 0) d_M_goesRound_86 rfl ?_
            obtain ⟨q11, hw⟩ := hw
            refine r_getL d_M_goesRound_87 ok_12 (nle rfl) (nle rfl) rfl lf_M_434 q11 ?_
            refine r_aload_n (j := 0) d_M_goesRound_90 rfl ?_
            refine r_iload_n (j := 1) d_M_goesRound_91 rfl ?_
            refine r_callV (av := [ai v1]) (rest := [al (gL h9 v0 52)]) (ci := 12) d_M_goesRound_92 mk_M_gainOf ll_M_278 im_M_gainOf se_M_gainOf rfl (nle rfl) rfl rfl (nle rfl) q11 (s_M_gainOf  hw (fun r13 h12 hw => ?_))
            show aW none m_M_goesRound (d + 1) 95 [(0, ar v0), (1, ai v1), (2, ai v2)] [ai r13, al (gL h9 v0 52)] h12 0 0 QQ
            refine r_i2l d_M_goesRound_95 ?_
            refine r_aload_n (j := 0) d_M_goesRound_96 rfl ?_
            obtain ⟨q14, hw⟩ := hw
            refine r_getL d_M_goesRound_97 ok_12 (nle rfl) (nle rfl) rfl lf_M_437 q14 ?_
            refine r_lmul d_M_goesRound_100 ?_
            refine r_ladd d_M_goesRound_101 ?_
            refine r_lconst d_M_goesRound_102 kl_0 ?_
            refine r_lcmp d_M_goesRound_103 ?_
            refine r_if_le d_M_goesRound_104 (fun w9 => ?_) (fun w9 => ?_)
            · replace hw := hw.1 ((lg_cmp_le _ _).mp w9)
              refine r_iinc (j := 2) (ls2 := [(2, ai (v2 + (1 : Int32))), (0, ar v0), (1, ai v1)]) d_M_goesRound_109 rfl (congrArg (HAdd.hAdd v2) kc_1) (nle rfl) rfl ?_
              refine r_goto d_M_goesRound_112 ?_
              refine r_pick (ls2 := [(0, ar v0), (1, ai v1), (2, ai (v2 + (1 : Int32)))]) [1, 2, 0] rfl ?_
              exact ih _ _ hw
            · replace hw := hw.2 (fun g9 => w9 ((lg_cmp_le _ _).mpr g9))
              refine r_iconst d_M_goesRound_107 kc_1 ?_
              exact r_zreturn d_M_goesRound_108.1 rfl (Or.inr rfl) (hQ _ _ hw)
          · replace hw := hw.1 (b2i_0.mp w9)
            refine r_goto d_M_goesRound_79 ?_
            refine r_iinc (j := 2) (ls2 := [(2, ai (v2 + (1 : Int32))), (0, ar v0), (1, ai v1)]) d_M_goesRound_109 rfl (congrArg (HAdd.hAdd v2) kc_1) (nle rfl) rfl ?_
            refine r_goto d_M_goesRound_112 ?_
            refine r_pick (ls2 := [(0, ar v0), (1, ai v1), (2, ai (v2 + (1 : Int32)))]) [1, 2, 0] rfl ?_
            exact ih _ _ hw
set_option maxRecDepth 100000 in
set_option maxHeartbeats 4000000 in
theorem s_M_goesRound_L12 {d : Nat} (hd : 3 ≤ d + 1) {Q : Bool → Hp → Prop} {QQ : Option AV → Hp → Prop} (hQ : ∀ r9 h9, Q r9 h9 → QQ (some (ai (b2i r9))) h9) {v0 : Nat} {v1 : Int32} {k2 : Int32 → Hp → Prop} (hk2 : ∀ v1 h9, k2 v1 h9 → aW none m_M_goesRound (d + 1) 2 [(0, ar v0), (1, ai v1)] [] h9 0 0 QQ) : ∀ (n : Nat) (v2 : Int32) (h : Hp), w_M_goesRound_L12 Q k2 v0 v1 n v2 h → aW none m_M_goesRound (d + 1) 12 [(0, ar v0), (1, ai v1), (2, ai v2)] [] h 0 0 QQ := by
  intro n
  induction n with
  | zero => intro v2 h hw; exact hw.elim
  | succ n ih =>
    intro v2 h hw
    unfold w_M_goesRound_L12 at hw
    refine r_iload_n (j := 2) d_M_goesRound_12 rfl ?_
    refine r_aload_n (j := 0) d_M_goesRound_13 rfl ?_
    obtain ⟨q2, hw⟩ := hw
    refine r_getI d_M_goesRound_14 ok_12 (nle rfl) (nle rfl) rfl lf_M_244 q2 ?_
    refine r_icmp_ge d_M_goesRound_17 (fun w9 => ?_) (fun w9 => ?_)
    · replace hw := hw.1 w9
      refine r_iconst d_M_goesRound_39 kc_0 ?_
      refine r_istore_n (ls2 := [(2, ai (0 : Int32)), (0, ar v0), (1, ai v1)]) d_M_goesRound_40 (nle rfl) rfl ?_
      obtain ⟨n15, hw⟩ := hw
      refine r_pick (ls2 := [(0, ar v0), (1, ai v1), (2, ai (0 : Int32))]) [1, 2, 0] rfl ?_
      exact s_M_goesRound_L41 hd hQ hk2 n15 _ _ hw
    · replace hw := hw.2 w9
      refine r_aload_n (j := 0) d_M_goesRound_20 rfl ?_
      refine r_getR d_M_goesRound_21 ok_12 (nle rfl) (nle rfl) rfl lf_M_92 q2 ?_
      refine r_iload_n (j := 2) d_M_goesRound_24 rfl ?_
      refine r_aload_n (j := 0) d_M_goesRound_25 rfl ?_
      refine r_iload_n (j := 1) d_M_goesRound_26 rfl ?_
      refine r_iload_n (j := 2) d_M_goesRound_27 rfl ?_
      refine r_callV (av := [ai v1, ai v2]) (rest := [ai v2, ar (gR h v0 51)]) (ci := 12) d_M_goesRound_28 mk_M_numberOf ll_M_274 im_M_numberOf se_M_numberOf rfl (nle rfl) rfl rfl (nle rfl) q2 (s_M_numberOf  hw (fun r17 h16 hw => ?_))
      show aW none m_M_goesRound (d + 1) 31 [(0, ar v0), (1, ai v1), (2, ai v2)] [ai r17, ai v2, ar (gR h v0 51)] h16 0 0 QQ
      refine r_ineg d_M_goesRound_31 ?_
      obtain ⟨q18, hw⟩ := hw
      obtain ⟨q19, hw⟩ := hw
      refine r_iast d_M_goesRound_32 q18 q19 ?_
      refine r_iinc (j := 2) (ls2 := [(2, ai (v2 + (1 : Int32))), (0, ar v0), (1, ai v1)]) d_M_goesRound_33 rfl (congrArg (HAdd.hAdd v2) kc_1) (nle rfl) rfl ?_
      refine r_goto d_M_goesRound_36 ?_
      refine r_pick (ls2 := [(0, ar v0), (1, ai v1), (2, ai (v2 + (1 : Int32)))]) [1, 2, 0] rfl ?_
      exact ih _ _ hw
set_option maxRecDepth 100000 in
set_option maxHeartbeats 4000000 in
theorem s_M_goesRound_L2 {d : Nat} (hd : 3 ≤ d + 1) {Q : Bool → Hp → Prop} {QQ : Option AV → Hp → Prop} (hQ : ∀ r9 h9, Q r9 h9 → QQ (some (ai (b2i r9))) h9) {v0 : Nat} : ∀ (n : Nat) (v1 : Int32) (h : Hp), w_M_goesRound_L2 Q  v0 n v1 h → aW none m_M_goesRound (d + 1) 2 [(0, ar v0), (1, ai v1)] [] h 0 0 QQ := by
  intro n
  induction n with
  | zero => intro v1 h hw; exact hw.elim
  | succ n ih =>
    intro v1 h hw
    unfold w_M_goesRound_L2 at hw
    refine r_iload_n (j := 1) d_M_goesRound_2 rfl ?_
    refine r_aload_n (j := 0) d_M_goesRound_3 rfl ?_
    obtain ⟨q1, hw⟩ := hw
    refine r_getI d_M_goesRound_4 ok_12 (nle rfl) (nle rfl) rfl lf_M_247 q1 ?_
    refine r_icmp_ge d_M_goesRound_7 (fun w9 => ?_) (fun w9 => ?_)
    · replace hw := hw.1 w9
      refine r_iconst d_M_goesRound_121 kc_0 ?_
      exact r_zreturn d_M_goesRound_122.1 rfl (Or.inl rfl) (hQ _ _ hw)
    · replace hw := hw.2 w9
      refine r_iconst d_M_goesRound_10 kc_0 ?_
      refine r_istore_n (ls2 := [(2, ai (0 : Int32)), (0, ar v0), (1, ai v1)]) d_M_goesRound_11 (nle rfl) rfl ?_
      obtain ⟨n20, hw⟩ := hw
      refine r_pick (ls2 := [(0, ar v0), (1, ai v1), (2, ai (0 : Int32))]) [1, 2, 0] rfl ?_
      exact s_M_goesRound_L12 hd hQ ih n20 _ _ hw
set_option maxRecDepth 100000 in
set_option maxHeartbeats 4000000 in
theorem s_M_goesRound {d : Nat} (hd : 3 ≤ d) {v0 : Nat} {h : Hp} {Q : Bool → Hp → Prop} {QQ : Option AV → Hp → Prop} (hw : w_M_goesRound v0 h Q) (hQ : ∀ r9 h9, Q r9 h9 → QQ (some (ai (b2i r9))) h9) : aCall m_M_goesRound d [ar v0] h 0 0 QQ := by
  obtain ⟨d, rfl⟩ : ∃ d9, d = d9 + 1 := ⟨d - 1, by omega⟩
  refine aCall_in pl_M_goesRound (nle rfl) ?_
  show aW none m_M_goesRound (d + 1) 0 [(0, ar v0)] [] h 0 0 QQ
  unfold w_M_goesRound at hw
  refine r_iconst d_M_goesRound_0 kc_0 ?_
  refine r_istore_n (ls2 := [(1, ai (0 : Int32)), (0, ar v0)]) d_M_goesRound_1 (nle rfl) rfl ?_
  obtain ⟨n21, hw⟩ := hw
  refine r_pick (ls2 := [(0, ar v0), (1, ai (0 : Int32))]) [1, 0] rfl ?_
  exact s_M_goesRound_L2 hd hQ  n21 _ _ hw
set_option maxRecDepth 100000 in
set_option maxHeartbeats 4000000 in
theorem s_M_laysCorners_B137 {d : Nat} (hd : 3 ≤ d + 1) {Q : Bool → Hp → Prop} {QQ : Option AV → Hp → Prop} (hQ : ∀ r9 h9, Q r9 h9 → QQ (some (ai (b2i r9))) h9) {v0 : Nat} {v1 : Int32} {h : Hp} {k11 : Int32 → Hp → Prop} (hk11 : ∀ v1 h9, k11 v1 h9 → aW none m_M_laysCorners (d + 1) 11 [(0, ar v0), (1, ai v1)] [] h9 0 0 QQ) (hw : w_M_laysCorners_B137 Q k11 v0 v1 h) : aW none m_M_laysCorners (d + 1) 137 [(0, ar v0), (1, ai v1)] [] h 0 0 QQ := by
  unfold w_M_laysCorners_B137 at hw
  refine r_aload_n (j := 0) d_M_laysCorners_137 rfl ?_
  refine r_dup d_M_laysCorners_138 rfl ?_
  obtain ⟨q14, hw⟩ := hw
  refine r_getI d_M_laysCorners_139 ok_12 (nle rfl) (nle rfl) rfl lf_M_464 q14 ?_
  refine r_iconst d_M_laysCorners_142 kc_1 ?_
  refine r_iadd d_M_laysCorners_143 ?_
  refine r_putI d_M_laysCorners_144 ok_12 (nle rfl) (nle rfl) rfl lf_M_464 rfl q14 ?_
  refine r_iinc (j := 1) (ls2 := [(1, ai (v1 + (1 : Int32))), (0, ar v0)]) d_M_laysCorners_147 rfl (congrArg (HAdd.hAdd v1) kc_1) (nle rfl) rfl ?_
  refine r_goto d_M_laysCorners_150 ?_
  refine r_pick (ls2 := [(0, ar v0), (1, ai (v1 + (1 : Int32)))]) [1, 0] rfl ?_
  exact hk11 _ _ hw
set_option maxRecDepth 100000 in
set_option maxHeartbeats 4000000 in
theorem s_M_laysCorners_L99 {d : Nat} (hd : 3 ≤ d + 1) {Q : Bool → Hp → Prop} {QQ : Option AV → Hp → Prop} (hQ : ∀ r9 h9, Q r9 h9 → QQ (some (ai (b2i r9))) h9) {v0 : Nat} {v1 : Int32} {k11 : Int32 → Hp → Prop} (hk11 : ∀ v1 h9, k11 v1 h9 → aW none m_M_laysCorners (d + 1) 11 [(0, ar v0), (1, ai v1)] [] h9 0 0 QQ) : ∀ (n : Nat) (v2 : Int32) (h : Hp), w_M_laysCorners_L99 Q k11 v0 v1 n v2 h → aW none m_M_laysCorners (d + 1) 99 [(0, ar v0), (1, ai v1), (2, ai v2)] [] h 0 0 QQ := by
  intro n
  induction n with
  | zero => intro v2 h hw; exact hw.elim
  | succ n ih =>
    intro v2 h hw
    unfold w_M_laysCorners_L99 at hw
    refine r_iload_n (j := 2) d_M_laysCorners_99 rfl ?_
    refine r_aload_n (j := 0) d_M_laysCorners_100 rfl ?_
    obtain ⟨q13, hw⟩ := hw
    refine r_getI d_M_laysCorners_101 ok_12 (nle rfl) (nle rfl) rfl lf_M_247 q13 ?_
    refine r_icmp_ge d_M_laysCorners_104 (fun w9 => ?_) (fun w9 => ?_)
    · replace hw := hw.1 w9
      refine r_pick (ls2 := [(0, ar v0), (1, ai v1)]) [0, 1] rfl ?_
      exact s_M_laysCorners_B137 hd hQ hk11 hw
    · replace hw := hw.2 w9
      refine r_aload_n (j := 0) d_M_laysCorners_107 rfl ?_
      refine r_getR d_M_laysCorners_108 ok_12 (nle rfl) (nle rfl) rfl lf_M_83 q13 ?_
      refine r_iload_n (j := 2) d_M_laysCorners_111 rfl ?_
      refine r_aload_n (j := 0) d_M_laysCorners_112 rfl ?_
      refine r_getR d_M_laysCorners_113 ok_12 (nle rfl) (nle rfl) rfl lf_M_77 q13 ?_
      refine r_iload_n (j := 2) d_M_laysCorners_116 rfl ?_
      obtain ⟨q15, hw⟩ := hw
      obtain ⟨q16, hw⟩ := hw
      refine r_lald d_M_laysCorners_117 q15 q16 ?_
      obtain ⟨q17, hw⟩ := hw
      obtain ⟨q18, hw⟩ := hw
      refine r_last d_M_laysCorners_118 q17 q18 ?_
      refine r_aload_n (j := 0) d_M_laysCorners_119 rfl ?_
      refine r_getRb eRL d_M_laysCorners_120 ok_12 (nle rfl) (nle rfl) rfl lf_M_86 (kt eKL q13) ?_
      refine r_iload_n (j := 2) d_M_laysCorners_123 rfl ?_
      refine r_aload_n (j := 0) d_M_laysCorners_124 rfl ?_
      refine r_getRb eRL d_M_laysCorners_125 ok_12 (nle rfl) (nle rfl) rfl lf_M_80 (kt eKL q13) ?_
      refine r_iload_n (j := 2) d_M_laysCorners_128 rfl ?_
      obtain ⟨q19, hw⟩ := hw
      obtain ⟨q20, hw⟩ := hw
      refine r_lald d_M_laysCorners_129 (kt eKL q19) (nt eNL q20) ?_
      obtain ⟨q21, hw⟩ := hw
      obtain ⟨q22, hw⟩ := hw
      refine r_last d_M_laysCorners_130 (kt eKL q21) (nt eNL q22) ?_
      refine r_iinc (j := 2) (ls2 := [(2, ai (v2 + (1 : Int32))), (0, ar v0), (1, ai v1)]) d_M_laysCorners_131 rfl (congrArg (HAdd.hAdd v2) kc_1) (nle rfl) rfl ?_
      refine r_goto d_M_laysCorners_134 ?_
      refine r_pick (ls2 := [(0, ar v0), (1, ai v1), (2, ai (v2 + (1 : Int32)))]) [1, 2, 0] rfl ?_
      exact ih _ _ hw
set_option maxRecDepth 100000 in
set_option maxHeartbeats 4000000 in
theorem s_M_laysCorners_B76 {d : Nat} (hd : 3 ≤ d + 1) {Q : Bool → Hp → Prop} {QQ : Option AV → Hp → Prop} (hQ : ∀ r9 h9, Q r9 h9 → QQ (some (ai (b2i r9))) h9) {v0 : Nat} {v1 : Int32} {h : Hp} {k11 : Int32 → Hp → Prop} (hk11 : ∀ v1 h9, k11 v1 h9 → aW none m_M_laysCorners (d + 1) 11 [(0, ar v0), (1, ai v1)] [] h9 0 0 QQ) (hw : w_M_laysCorners_B76 Q k11 v0 v1 h) : aW none m_M_laysCorners (d + 1) 76 [(0, ar v0), (1, ai v1)] [] h 0 0 QQ := by
  unfold w_M_laysCorners_B76 at hw
  refine r_aload_n (j := 0) d_M_laysCorners_76 rfl ?_
  refine r_aload_n (j := 0) d_M_laysCorners_77 rfl ?_
  obtain ⟨q12, hw⟩ := hw
  refine r_getL d_M_laysCorners_78 ok_12 (nle rfl) (nle rfl) rfl lf_M_434 q12 ?_
  refine r_putL d_M_laysCorners_81 ok_12 (nle rfl) (nle rfl) rfl lf_M_473 rfl q12 ?_
  refine r_aload_n (j := 0) d_M_laysCorners_84 rfl ?_
  refine r_aload_n (j := 0) d_M_laysCorners_85 rfl ?_
  refine r_getL d_M_laysCorners_86 ok_12 (nle rfl) (nle rfl) rfl lf_M_437 (kt eKL q12) ?_
  refine r_putL d_M_laysCorners_89 ok_12 (nle rfl) (nle rfl) rfl lf_M_470 rfl (kt eKL q12) ?_
  refine r_aload_n (j := 0) d_M_laysCorners_92 rfl ?_
  refine r_iload_n (j := 1) d_M_laysCorners_93 rfl ?_
  refine r_putI d_M_laysCorners_94 ok_12 (nle rfl) (nle rfl) rfl lf_M_476 rfl (kt (eKL.trans eKL) q12) ?_
  refine r_iconst d_M_laysCorners_97 kc_0 ?_
  refine r_istore_n (ls2 := [(2, ai (0 : Int32)), (0, ar v0), (1, ai v1)]) d_M_laysCorners_98 (nle rfl) rfl ?_
  obtain ⟨n23, hw⟩ := hw
  refine r_pick (ls2 := [(0, ar v0), (1, ai v1), (2, ai (0 : Int32))]) [1, 2, 0] rfl ?_
  exact s_M_laysCorners_L99 hd hQ hk11 n23 _ _ hw
set_option maxRecDepth 100000 in
set_option maxHeartbeats 4000000 in
theorem s_M_laysCorners_L11 {d : Nat} (hd : 3 ≤ d + 1) {Q : Bool → Hp → Prop} {QQ : Option AV → Hp → Prop} (hQ : ∀ r9 h9, Q r9 h9 → QQ (some (ai (b2i r9))) h9) {v0 : Nat} : ∀ (n : Nat) (v1 : Int32) (h : Hp), w_M_laysCorners_L11 Q  v0 n v1 h → aW none m_M_laysCorners (d + 1) 11 [(0, ar v0), (1, ai v1)] [] h 0 0 QQ := by
  intro n
  induction n with
  | zero => intro v1 h hw; exact hw.elim
  | succ n ih =>
    intro v1 h hw
    unfold w_M_laysCorners_L11 at hw
    refine r_iload_n (j := 1) d_M_laysCorners_11 rfl ?_
    refine r_iconst d_M_laysCorners_12 kc_1 ?_
    refine r_aload_n (j := 0) d_M_laysCorners_13 rfl ?_
    obtain ⟨q3, hw⟩ := hw
    refine r_getI d_M_laysCorners_14 ok_12 (nle rfl) (nle rfl) rfl lf_M_247 q3 ?_
    refine r_ishl d_M_laysCorners_17 ?_
    refine r_icmp_ge d_M_laysCorners_18 (fun w9 => ?_) (fun w9 => ?_)
    · replace hw := hw.1 w9
      refine r_aload_n (j := 0) d_M_laysCorners_153 rfl ?_
      refine r_getI d_M_laysCorners_154 ok_12 (nle rfl) (nle rfl) rfl lf_M_464 q3 ?_
      refine r_if_le d_M_laysCorners_157 (fun w9 => ?_) (fun w9 => ?_)
      · replace hw := hw.1 w9
        refine r_iconst d_M_laysCorners_164 kc_0 ?_
        exact r_zreturn d_M_laysCorners_165.1 rfl (Or.inl rfl) (hQ _ _ hw)
      · replace hw := hw.2 w9
        refine r_iconst d_M_laysCorners_160 kc_1 ?_
        refine r_goto d_M_laysCorners_161 ?_
        exact r_zreturn d_M_laysCorners_165.1 rfl (Or.inr rfl) (hQ _ _ hw)
    · replace hw := hw.2 w9
      refine r_iload_n (j := 1) d_M_laysCorners_21 rfl ?_
      refine r_callS (av := [ai v1]) (rest := []) d_M_laysCorners_22 mk_M_many ll_M_455 st_M_many rfl rfl (nle rfl) (s_M_many  hw (fun r5 h4 hw => ?_))
      show aW none m_M_laysCorners (d + 1) 25 [(0, ar v0), (1, ai v1)] [ai r5] h4 0 0 QQ
      refine r_aload_n (j := 0) d_M_laysCorners_25 rfl ?_
      obtain ⟨q6, hw⟩ := hw
      refine r_getI d_M_laysCorners_26 ok_12 (nle rfl) (nle rfl) rfl lf_M_244 q6 ?_
      refine r_icmp_gt d_M_laysCorners_29 (fun w9 => ?_) (fun w9 => ?_)
      · replace hw := hw.1 w9
        refine r_iinc (j := 1) (ls2 := [(1, ai (v1 + (1 : Int32))), (0, ar v0)]) d_M_laysCorners_147 rfl (congrArg (HAdd.hAdd v1) kc_1) (nle rfl) rfl ?_
        refine r_goto d_M_laysCorners_150 ?_
        refine r_pick (ls2 := [(0, ar v0), (1, ai (v1 + (1 : Int32)))]) [1, 0] rfl ?_
        exact ih _ _ hw
      · replace hw := hw.2 w9
        refine r_aload_n (j := 0) d_M_laysCorners_32 rfl ?_
        refine r_iload_n (j := 1) d_M_laysCorners_33 rfl ?_
        refine r_callV (av := [ai v1]) (rest := []) (ci := 12) d_M_laysCorners_34 mk_M_comesBy ll_M_458 im_M_comesBy se_M_comesBy rfl (nle rfl) rfl rfl (nle rfl) q6 (s_M_comesBy (by omega) hw (fun r8 h7 hw => ?_))
        show aW none m_M_laysCorners (d + 1) 37 [(0, ar v0), (1, ai v1)] [ai (b2i r8)] h7 0 0 QQ
        refine r_if_ne d_M_laysCorners_37 (fun w9 => ?_) (fun w9 => ?_)
        · replace hw := hw.2 (fun g9 => w9 (b2i_0.mpr g9))
          refine r_aload_n (j := 0) d_M_laysCorners_43 rfl ?_
          obtain ⟨q10, hw⟩ := hw
          refine r_callV (av := []) (rest := []) (ci := 12) d_M_laysCorners_44 mk_M_gains ll_M_461 im_M_gains se_M_gains rfl (nle rfl) rfl rfl (nle rfl) q10 (s_M_gains (by omega) hw (fun h9 hw => ?_))
          show aW none m_M_laysCorners (d + 1) 47 [(0, ar v0), (1, ai v1)] [] h9 0 0 QQ
          refine r_aload_n (j := 0) d_M_laysCorners_47 rfl ?_
          obtain ⟨q11, hw⟩ := hw
          refine r_getI d_M_laysCorners_48 ok_12 (nle rfl) (nle rfl) rfl lf_M_464 q11 ?_
          refine r_if_eq d_M_laysCorners_51 (fun w9 => ?_) (fun w9 => ?_)
          · replace hw := hw.1 w9
            exact s_M_laysCorners_B76 hd hQ ih hw
          · replace hw := hw.2 w9
            refine r_aload_n (j := 0) d_M_laysCorners_54 rfl ?_
            refine r_getL d_M_laysCorners_55 ok_12 (nle rfl) (nle rfl) rfl lf_M_434 q11 ?_
            refine r_aload_n (j := 0) d_M_laysCorners_58 rfl ?_
            refine r_getL d_M_laysCorners_59 ok_12 (nle rfl) (nle rfl) rfl lf_M_470 q11 ?_
            refine r_lmul d_M_laysCorners_62 ?_
            refine r_aload_n (j := 0) d_M_laysCorners_63 rfl ?_
            refine r_getL d_M_laysCorners_64 ok_12 (nle rfl) (nle rfl) rfl lf_M_473 q11 ?_
            refine r_aload_n (j := 0) d_M_laysCorners_67 rfl ?_
            refine r_getL d_M_laysCorners_68 ok_12 (nle rfl) (nle rfl) rfl lf_M_437 q11 ?_
            refine r_lmul d_M_laysCorners_71 ?_
            refine r_lcmp d_M_laysCorners_72 ?_
            refine r_if_le d_M_laysCorners_73 (fun w9 => ?_) (fun w9 => ?_)
            · replace hw := hw.1 ((lg_cmp_le _ _).mp w9)
              exact s_M_laysCorners_B137 hd hQ ih hw
            · replace hw := hw.2 (fun g9 => w9 ((lg_cmp_le _ _).mpr g9))
              exact s_M_laysCorners_B76 hd hQ ih hw
        · replace hw := hw.1 (b2i_0.mp w9)
          refine r_goto d_M_laysCorners_40 ?_
          refine r_iinc (j := 1) (ls2 := [(1, ai (v1 + (1 : Int32))), (0, ar v0)]) d_M_laysCorners_147 rfl (congrArg (HAdd.hAdd v1) kc_1) (nle rfl) rfl ?_
          refine r_goto d_M_laysCorners_150 ?_
          refine r_pick (ls2 := [(0, ar v0), (1, ai (v1 + (1 : Int32)))]) [1, 0] rfl ?_
          exact ih _ _ hw
set_option maxRecDepth 100000 in
set_option maxHeartbeats 4000000 in
theorem s_M_laysCorners {d : Nat} (hd : 3 ≤ d) {v0 : Nat} {h : Hp} {Q : Bool → Hp → Prop} {QQ : Option AV → Hp → Prop} (hw : w_M_laysCorners v0 h Q) (hQ : ∀ r9 h9, Q r9 h9 → QQ (some (ai (b2i r9))) h9) : aCall m_M_laysCorners d [ar v0] h 0 0 QQ := by
  obtain ⟨d, rfl⟩ : ∃ d9, d = d9 + 1 := ⟨d - 1, by omega⟩
  refine aCall_in pl_M_laysCorners (nle rfl) ?_
  show aW none m_M_laysCorners (d + 1) 0 [(0, ar v0)] [] h 0 0 QQ
  unfold w_M_laysCorners at hw
  refine r_aload_n (j := 0) d_M_laysCorners_0 rfl ?_
  refine r_iconst d_M_laysCorners_1 kc_0 ?_
  obtain ⟨q1, hw⟩ := hw
  refine r_putI d_M_laysCorners_2 ok_12 (nle rfl) (nle rfl) rfl lf_M_464 rfl q1 ?_
  refine r_aload_n (j := 0) d_M_laysCorners_5 rfl ?_
  refine r_callV (av := []) (rest := []) (ci := 12) d_M_laysCorners_6 mk_M_aimsAtNeed ll_M_467 im_M_aimsAtNeed se_M_aimsAtNeed rfl (nle rfl) rfl rfl (nle rfl) (kt eKI q1) (s_M_aimsAtNeed (by omega) hw (fun h2 hw => ?_))
  show aW none m_M_laysCorners (d + 1) 9 [(0, ar v0)] [] h2 0 0 QQ
  refine r_iconst d_M_laysCorners_9 kc_0 ?_
  refine r_istore_n (ls2 := [(1, ai (0 : Int32)), (0, ar v0)]) d_M_laysCorners_10 (nle rfl) rfl ?_
  obtain ⟨n24, hw⟩ := hw
  refine r_pick (ls2 := [(0, ar v0), (1, ai (0 : Int32))]) [1, 0] rfl ?_
  exact s_M_laysCorners_L11 hd hQ  n24 _ _ hw
set_option maxRecDepth 100000 in
set_option maxHeartbeats 4000000 in
theorem s_M_corners {d : Nat} (hd : 4 ≤ d) {v0 : Nat} {h : Hp} {Q : Int32 → Hp → Prop} {QQ : Option AV → Hp → Prop} (hw : w_M_corners v0 h Q) (hQ : ∀ r9 h9, Q r9 h9 → QQ (some (ai r9)) h9) : aCall m_M_corners d [ar v0] h 0 0 QQ := by
  obtain ⟨d, rfl⟩ : ∃ d9, d = d9 + 1 := ⟨d - 1, by omega⟩
  refine aCall_in pl_M_corners (nle rfl) ?_
  show aW none m_M_corners (d + 1) 0 [(0, ar v0)] [] h 0 0 QQ
  unfold w_M_corners at hw
  refine r_aload_n (j := 0) d_M_corners_0 rfl ?_
  obtain ⟨q3, hw⟩ := hw
  refine r_callV (av := []) (rest := []) (ci := 12) d_M_corners_1 mk_M_laysCorners ll_M_479 im_M_laysCorners se_M_laysCorners rfl (nle rfl) rfl rfl (nle rfl) q3 (s_M_laysCorners (by omega) hw (fun r2 h1 hw => ?_))
  show aW none m_M_corners (d + 1) 4 [(0, ar v0)] [ai (b2i r2)] h1 0 0 QQ
  refine r_istore_n (ls2 := [(1, ai (b2i r2)), (0, ar v0)]) d_M_corners_4 (nle rfl) rfl ?_
  refine r_aload_n (j := 1) d_M_corners_5 rfl ?_
  obtain ⟨q4, hw⟩ := hw
  refine r_getI d_M_corners_6 ok_12 (nle rfl) (nle rfl) rfl lf_M_464 q4 ?_
  exact r_ireturn d_M_corners_9.1 rfl (hQ _ _ hw)
set_option maxRecDepth 100000 in
set_option maxHeartbeats 4000000 in
theorem s_M_laysRelaxed {d : Nat} (hd : 4 ≤ d) {v0 : Nat} {h : Hp} {Q : Bool → Hp → Prop} {QQ : Option AV → Hp → Prop} (hw : w_M_laysRelaxed v0 h Q) (hQ : ∀ r9 h9, Q r9 h9 → QQ (some (ai (b2i r9))) h9) : aCall m_M_laysRelaxed d [ar v0] h 0 0 QQ := by
  obtain ⟨d, rfl⟩ : ∃ d9, d = d9 + 1 := ⟨d - 1, by omega⟩
  refine aCall_in pl_M_laysRelaxed (nle rfl) ?_
  show aW none m_M_laysRelaxed (d + 1) 0 [(0, ar v0)] [] h 0 0 QQ
  unfold w_M_laysRelaxed at hw
  refine r_aload_n (j := 0) d_M_laysRelaxed_0 rfl ?_
  obtain ⟨q3, hw⟩ := hw
  refine r_callV (av := []) (rest := []) (ci := 12) d_M_laysRelaxed_1 mk_M_laysCorners ll_M_479 im_M_laysCorners se_M_laysCorners rfl (nle rfl) rfl rfl (nle rfl) q3 (s_M_laysCorners (by omega) hw (fun r2 h1 hw => ?_))
  show aW none m_M_laysRelaxed (d + 1) 4 [(0, ar v0)] [ai (b2i r2)] h1 0 0 QQ
  refine r_istore_n (ls2 := [(1, ai (b2i r2)), (0, ar v0)]) d_M_laysRelaxed_4 (nle rfl) rfl ?_
  refine r_aload_n (j := 1) d_M_laysRelaxed_5 rfl ?_
  refine r_iload_n (j := 0) d_M_laysRelaxed_6 rfl ?_
  refine r_if_eq d_M_laysRelaxed_7 (fun w9 => ?_) (fun w9 => ?_)
  · replace hw := hw.1 w9
    refine r_iconst d_M_laysRelaxed_21 kc_0 ?_
    obtain ⟨q4, hw⟩ := hw
    refine r_putZ d_M_laysRelaxed_22 ok_12 (nle rfl) (nle rfl) rfl lf_M_485 rfl q4 (Or.inl rfl) ?_
    refine r_iload_n (j := 0) d_M_laysRelaxed_25 rfl ?_
    obtain ⟨q5, hw⟩ := hw
    exact r_zreturn d_M_laysRelaxed_26.1 rfl q5 (by have g9 := hQ _ _ hw; rwa [b2i_i q5] at g9)
  · replace hw := hw.2 w9
    refine r_aload_n (j := 1) d_M_laysRelaxed_10 rfl ?_
    obtain ⟨q8, hw⟩ := hw
    refine r_callV (av := []) (rest := [ar v0]) (ci := 12) d_M_laysRelaxed_11 mk_M_goesRound ll_M_482 im_M_goesRound se_M_goesRound rfl (nle rfl) rfl rfl (nle rfl) q8 (s_M_goesRound (by omega) hw (fun r7 h6 hw => ?_))
    show aW none m_M_laysRelaxed (d + 1) 14 [(1, ai (b2i r2)), (0, ar v0)] [ai (b2i r7), ar v0] h6 0 0 QQ
    refine r_if_eq d_M_laysRelaxed_14 (fun w9 => ?_) (fun w9 => ?_)
    · replace hw := hw.1 (b2i_0.mp w9)
      refine r_iconst d_M_laysRelaxed_21 kc_0 ?_
      obtain ⟨q9, hw⟩ := hw
      refine r_putZ d_M_laysRelaxed_22 ok_12 (nle rfl) (nle rfl) rfl lf_M_485 rfl q9 (Or.inl rfl) ?_
      refine r_iload_n (j := 0) d_M_laysRelaxed_25 rfl ?_
      obtain ⟨q10, hw⟩ := hw
      exact r_zreturn d_M_laysRelaxed_26.1 rfl q10 (by have g9 := hQ _ _ hw; rwa [b2i_i q10] at g9)
    · replace hw := hw.2 (fun g9 => w9 (b2i_0.mpr g9))
      refine r_iconst d_M_laysRelaxed_17 kc_1 ?_
      refine r_goto d_M_laysRelaxed_18 ?_
      obtain ⟨q11, hw⟩ := hw
      refine r_putZ d_M_laysRelaxed_22 ok_12 (nle rfl) (nle rfl) rfl lf_M_485 rfl q11 (Or.inr rfl) ?_
      refine r_iload_n (j := 0) d_M_laysRelaxed_25 rfl ?_
      obtain ⟨q12, hw⟩ := hw
      exact r_zreturn d_M_laysRelaxed_26.1 rfl q12 (by have g9 := hQ _ _ hw; rwa [b2i_i q12] at g9)
set_option maxRecDepth 100000 in
set_option maxHeartbeats 4000000 in
theorem s_M_relaxed {d : Nat} (hd : 5 ≤ d) {v0 : Nat} {v1 : Int32} {h : Hp} {Q : Int32 → Hp → Prop} {QQ : Option AV → Hp → Prop} (hw : w_M_relaxed v0 v1 h Q) (hQ : ∀ r9 h9, Q r9 h9 → QQ (some (ai r9)) h9) : aCall m_M_relaxed d [ar v0, ai v1] h 0 0 QQ := by
  obtain ⟨d, rfl⟩ : ∃ d9, d = d9 + 1 := ⟨d - 1, by omega⟩
  refine aCall_in pl_M_relaxed (nle rfl) ?_
  show aW none m_M_relaxed (d + 1) 0 [(0, ar v0), (1, ai v1)] [] h 0 0 QQ
  unfold w_M_relaxed at hw
  refine r_iload_n (j := 1) d_M_relaxed_0 rfl ?_
  refine r_iconst d_M_relaxed_1 kc_0 ?_
  refine r_iconst d_M_relaxed_2 kc_3 ?_
  refine r_callS (av := [ai v1, ai (0 : Int32), ai (3 : Int32)]) (rest := []) d_M_relaxed_3 mk_M_isIn ll_M_148 st_M_isIn rfl rfl (nle rfl) (s_M_isIn  hw (fun r2 h1 hw => ?_))
  show aW none m_M_relaxed (d + 1) 6 [(0, ar v0), (1, ai v1)] [ai (b2i r2)] h1 0 0 QQ
  refine r_if_eq d_M_relaxed_6 (fun w9 => ?_) (fun w9 => ?_)
  · replace hw := hw.1 (b2i_0.mp w9)
    refine r_ldcw d_M_relaxed_16 lc_M_277 ?_
    exact r_ireturn d_M_relaxed_19.1 rfl (hQ _ _ hw)
  · replace hw := hw.2 (fun g9 => w9 (b2i_0.mpr g9))
    refine r_aload_n (j := 0) d_M_relaxed_9 rfl ?_
    obtain ⟨q5, hw⟩ := hw
    refine r_callV (av := []) (rest := []) (ci := 12) d_M_relaxed_10 mk_M_laysRelaxed ll_M_488 im_M_laysRelaxed se_M_laysRelaxed rfl (nle rfl) rfl rfl (nle rfl) q5 (s_M_laysRelaxed (by omega) hw (fun r4 h3 hw => ?_))
    show aW none m_M_relaxed (d + 1) 13 [(0, ar v0), (1, ai v1)] [ai (b2i r4)] h3 0 0 QQ
    refine r_if_ne d_M_relaxed_13 (fun w9 => ?_) (fun w9 => ?_)
    · replace hw := hw.2 (fun g9 => w9 (b2i_0.mpr g9))
      refine r_iload_n (j := 1) d_M_relaxed_20 rfl ?_
      refine r_iconst d_M_relaxed_21 kc_3 ?_
      refine r_icmp_ne d_M_relaxed_22 (fun w9 => ?_) (fun w9 => ?_)
      · replace hw := hw.2 w9
        refine r_aload_n (j := 0) d_M_relaxed_33 rfl ?_
        obtain ⟨q6, hw⟩ := hw
        refine r_getI d_M_relaxed_34 ok_12 (nle rfl) (nle rfl) rfl lf_M_485 q6 ?_
        refine r_if_eq d_M_relaxed_37 (fun w9 => ?_) (fun w9 => ?_)
        · replace hw := hw.1 w9
          refine r_iload_n (j := 1) d_M_relaxed_44 rfl ?_
          refine r_if_ne d_M_relaxed_45 (fun w9 => ?_) (fun w9 => ?_)
          · replace hw := hw.2 w9
            refine r_iload_n (j := 1) d_M_relaxed_56 rfl ?_
            refine r_iconst d_M_relaxed_57 kc_1 ?_
            refine r_icmp_ne d_M_relaxed_58 (fun w9 => ?_) (fun w9 => ?_)
            · replace hw := hw.2 w9
              refine r_aload_n (j := 0) d_M_relaxed_69 rfl ?_
              refine r_getI d_M_relaxed_70 ok_12 (nle rfl) (nle rfl) rfl lf_M_476 q6 ?_
              exact r_ireturn d_M_relaxed_73.1 rfl (hQ _ _ hw)
            · replace hw := hw.1 w9
              refine r_aload_n (j := 0) d_M_relaxed_61 rfl ?_
              refine r_getL d_M_relaxed_62 ok_12 (nle rfl) (nle rfl) rfl lf_M_470 q6 ?_
              refine r_l2i d_M_relaxed_65 ?_
              refine r_goto d_M_relaxed_66 ?_
              exact r_ireturn d_M_relaxed_73.1 rfl (hQ _ _ hw)
          · replace hw := hw.1 w9
            refine r_aload_n (j := 0) d_M_relaxed_48 rfl ?_
            refine r_getL d_M_relaxed_49 ok_12 (nle rfl) (nle rfl) rfl lf_M_473 q6 ?_
            refine r_l2i d_M_relaxed_52 ?_
            refine r_goto d_M_relaxed_53 ?_
            exact r_ireturn d_M_relaxed_73.1 rfl (hQ _ _ hw)
        · replace hw := hw.2 w9
          refine r_ldcw d_M_relaxed_40 lc_M_277 ?_
          exact r_ireturn d_M_relaxed_43.1 rfl (hQ _ _ hw)
      · replace hw := hw.1 w9
        refine r_aload_n (j := 0) d_M_relaxed_25 rfl ?_
        obtain ⟨q7, hw⟩ := hw
        refine r_getI d_M_relaxed_26 ok_12 (nle rfl) (nle rfl) rfl lf_M_485 q7 ?_
        refine r_callS (av := [ai (gI h3 v0 57)]) (rest := []) d_M_relaxed_29 mk_M_truth ll_M_318 st_M_truth rfl rfl (nle rfl) (s_M_truth  hw (fun r9 h8 hw => ?_))
        show aW none m_M_relaxed (d + 1) 32 [(0, ar v0), (1, ai v1)] [ai r9] h8 0 0 QQ
        exact r_ireturn d_M_relaxed_32.1 rfl (hQ _ _ hw)
    · replace hw := hw.1 (b2i_0.mp w9)
      refine r_ldcw d_M_relaxed_16 lc_M_277 ?_
      exact r_ireturn d_M_relaxed_19.1 rfl (hQ _ _ hw)
set_option maxRecDepth 100000 in
set_option maxHeartbeats 4000000 in
theorem s_M_fraction {d : Nat} (hd : 5 ≤ d) {v0 : Nat} {v1 : Int32} {v2 : Int32} {h : Hp} {Q : Int32 → Hp → Prop} {QQ : Option AV → Hp → Prop} (hw : w_M_fraction v0 v1 v2 h Q) (hQ : ∀ r9 h9, Q r9 h9 → QQ (some (ai r9)) h9) : aCall m_M_fraction d [ar v0, ai v1, ai v2] h 0 0 QQ := by
  obtain ⟨d, rfl⟩ : ∃ d9, d = d9 + 1 := ⟨d - 1, by omega⟩
  refine aCall_in pl_M_fraction (nle rfl) ?_
  show aW none m_M_fraction (d + 1) 0 [(0, ar v0), (1, ai v1), (2, ai v2)] [] h 0 0 QQ
  unfold w_M_fraction at hw
  refine r_aload_n (j := 0) d_M_fraction_0 rfl ?_
  refine r_iload_n (j := 1) d_M_fraction_1 rfl ?_
  obtain ⟨q3, hw⟩ := hw
  refine r_callV (av := [ai v1]) (rest := []) (ci := 12) d_M_fraction_2 mk_M_isColumn ll_M_268 im_M_isColumn se_M_isColumn rfl (nle rfl) rfl rfl (nle rfl) q3 (s_M_isColumn (by omega) hw (fun r2 h1 hw => ?_))
  show aW none m_M_fraction (d + 1) 5 [(0, ar v0), (1, ai v1), (2, ai v2)] [ai (b2i r2)] h1 0 0 QQ
  refine r_if_eq d_M_fraction_5 (fun w9 => ?_) (fun w9 => ?_)
  · replace hw := hw.1 (b2i_0.mp w9)
    refine r_ldcw d_M_fraction_31 lc_M_277 ?_
    exact r_ireturn d_M_fraction_34.1 rfl (hQ _ _ hw)
  · replace hw := hw.2 (fun g9 => w9 (b2i_0.mpr g9))
    refine r_iload_n (j := 2) d_M_fraction_8 rfl ?_
    refine r_iconst d_M_fraction_9 kc_0 ?_
    refine r_iconst d_M_fraction_10 kc_1 ?_
    refine r_callS (av := [ai v2, ai (0 : Int32), ai (1 : Int32)]) (rest := []) d_M_fraction_11 mk_M_isIn ll_M_148 st_M_isIn rfl rfl (nle rfl) (s_M_isIn  hw (fun r5 h4 hw => ?_))
    show aW none m_M_fraction (d + 1) 14 [(0, ar v0), (1, ai v1), (2, ai v2)] [ai (b2i r5)] h4 0 0 QQ
    refine r_if_eq d_M_fraction_14 (fun w9 => ?_) (fun w9 => ?_)
    · replace hw := hw.1 (b2i_0.mp w9)
      refine r_ldcw d_M_fraction_31 lc_M_277 ?_
      exact r_ireturn d_M_fraction_34.1 rfl (hQ _ _ hw)
    · replace hw := hw.2 (fun g9 => w9 (b2i_0.mpr g9))
      refine r_aload_n (j := 0) d_M_fraction_17 rfl ?_
      obtain ⟨q8, hw⟩ := hw
      refine r_callV (av := []) (rest := []) (ci := 12) d_M_fraction_18 mk_M_laysRelaxed ll_M_488 im_M_laysRelaxed se_M_laysRelaxed rfl (nle rfl) rfl rfl (nle rfl) q8 (s_M_laysRelaxed (by omega) hw (fun r7 h6 hw => ?_))
      show aW none m_M_fraction (d + 1) 21 [(0, ar v0), (1, ai v1), (2, ai v2)] [ai (b2i r7)] h6 0 0 QQ
      refine r_if_eq d_M_fraction_21 (fun w9 => ?_) (fun w9 => ?_)
      · replace hw := hw.1 (b2i_0.mp w9)
        refine r_ldcw d_M_fraction_31 lc_M_277 ?_
        exact r_ireturn d_M_fraction_34.1 rfl (hQ _ _ hw)
      · replace hw := hw.2 (fun g9 => w9 (b2i_0.mpr g9))
        refine r_aload_n (j := 0) d_M_fraction_24 rfl ?_
        obtain ⟨q9, hw⟩ := hw
        refine r_getI d_M_fraction_25 ok_12 (nle rfl) (nle rfl) rfl lf_M_485 q9 ?_
        refine r_if_eq d_M_fraction_28 (fun w9 => ?_) (fun w9 => ?_)
        · replace hw := hw.1 w9
          refine r_iload_n (j := 2) d_M_fraction_35 rfl ?_
          refine r_if_ne d_M_fraction_36 (fun w9 => ?_) (fun w9 => ?_)
          · replace hw := hw.2 w9
            refine r_aload_n (j := 0) d_M_fraction_48 rfl ?_
            refine r_getR d_M_fraction_49 ok_12 (nle rfl) (nle rfl) rfl lf_M_86 q9 ?_
            refine r_iload_n (j := 1) d_M_fraction_52 rfl ?_
            obtain ⟨q10, hw⟩ := hw
            obtain ⟨q11, hw⟩ := hw
            refine r_lald d_M_fraction_53 q10 q11 ?_
            refine r_l2i d_M_fraction_54 ?_
            exact r_ireturn d_M_fraction_55.1 rfl (hQ _ _ hw)
          · replace hw := hw.1 w9
            refine r_aload_n (j := 0) d_M_fraction_39 rfl ?_
            refine r_getR d_M_fraction_40 ok_12 (nle rfl) (nle rfl) rfl lf_M_83 q9 ?_
            refine r_iload_n (j := 1) d_M_fraction_43 rfl ?_
            obtain ⟨q12, hw⟩ := hw
            obtain ⟨q13, hw⟩ := hw
            refine r_lald d_M_fraction_44 q12 q13 ?_
            refine r_goto d_M_fraction_45 ?_
            refine r_l2i d_M_fraction_54 ?_
            exact r_ireturn d_M_fraction_55.1 rfl (hQ _ _ hw)
        · replace hw := hw.2 w9
          refine r_ldcw d_M_fraction_31 lc_M_277 ?_
          exact r_ireturn d_M_fraction_34.1 rfl (hQ _ _ hw)
set_option maxRecDepth 100000 in
set_option maxHeartbeats 4000000 in
theorem s_M_apart_B89 {d : Nat} (hd : 5 ≤ d + 1) {Q : Int32 → Hp → Prop} {QQ : Option AV → Hp → Prop} (hQ : ∀ r9 h9, Q r9 h9 → QQ (some (ai r9)) h9) {v0 : Nat} {v1 : Int32} {v2 : Int32} {s0 : Nat} {s1 : Int64} {h : Hp} {k46 : Int32 → Hp → Prop} (hk46 : ∀ v2 h9, k46 v2 h9 → aW none m_M_apart (d + 1) 46 [(0, ar v0), (1, ai v1), (2, ai v2)] [] h9 0 0 QQ) (hw : w_M_apart_B89 Q k46 v0 v1 v2 s0 s1 h) : aW none m_M_apart (d + 1) 89 [(0, ar v0), (1, ai v1), (2, ai v2)] [al s1, ar s0] h 0 0 QQ := by
  unfold w_M_apart_B89 at hw
  refine r_aload_n (j := 0) d_M_apart_89 rfl ?_
  obtain ⟨q17, hw⟩ := hw
  refine r_getR d_M_apart_90 ok_12 (nle rfl) (nle rfl) rfl lf_M_86 q17 ?_
  refine r_iload_n (j := 2) d_M_apart_93 rfl ?_
  obtain ⟨q18, hw⟩ := hw
  obtain ⟨q19, hw⟩ := hw
  refine r_lald d_M_apart_94 q18 q19 ?_
  obtain ⟨q21, hw⟩ := hw
  refine r_callV (av := [al s1, al (gL h (gR h v0 49) (ix v2))]) (rest := []) (ci := 12) d_M_apart_95 mk_M_pluses ll_M_451 im_M_pluses se_M_pluses rfl (nle rfl) rfl rfl (nle rfl) q21 (s_M_pluses (by omega) hw (fun h20 hw => ?_))
  show aW none m_M_apart (d + 1) 98 [(0, ar v0), (1, ai v1), (2, ai v2)] [] h20 0 0 QQ
  refine r_iinc (j := 2) (ls2 := [(2, ai (v2 + (1 : Int32))), (0, ar v0), (1, ai v1)]) d_M_apart_98 rfl (congrArg (HAdd.hAdd v2) kc_1) (nle rfl) rfl ?_
  refine r_goto d_M_apart_101 ?_
  refine r_pick (ls2 := [(0, ar v0), (1, ai v1), (2, ai (v2 + (1 : Int32)))]) [1, 2, 0] rfl ?_
  exact hk46 _ _ hw
set_option maxRecDepth 100000 in
set_option maxHeartbeats 4000000 in
theorem s_M_apart_L46 {d : Nat} (hd : 5 ≤ d + 1) {Q : Int32 → Hp → Prop} {QQ : Option AV → Hp → Prop} (hQ : ∀ r9 h9, Q r9 h9 → QQ (some (ai r9)) h9) {v0 : Nat} {v1 : Int32} : ∀ (n : Nat) (v2 : Int32) (h : Hp), w_M_apart_L46 Q  v0 v1 n v2 h → aW none m_M_apart (d + 1) 46 [(0, ar v0), (1, ai v1), (2, ai v2)] [] h 0 0 QQ := by
  intro n
  induction n with
  | zero => intro v2 h hw; exact hw.elim
  | succ n ih =>
    intro v2 h hw
    unfold w_M_apart_L46 at hw
    refine r_iload_n (j := 2) d_M_apart_46 rfl ?_
    refine r_aload_n (j := 0) d_M_apart_47 rfl ?_
    obtain ⟨q10, hw⟩ := hw
    refine r_getI d_M_apart_48 ok_12 (nle rfl) (nle rfl) rfl lf_M_247 q10 ?_
    refine r_icmp_ge d_M_apart_51 (fun w9 => ?_) (fun w9 => ?_)
    · replace hw := hw.1 w9
      refine r_iload_n (j := 1) d_M_apart_104 rfl ?_
      refine r_if_ne d_M_apart_105 (fun w9 => ?_) (fun w9 => ?_)
      · replace hw := hw.2 w9
        refine r_aload_n (j := 0) d_M_apart_115 rfl ?_
        refine r_getL d_M_apart_116 ok_12 (nle rfl) (nle rfl) rfl lf_M_437 q10 ?_
        refine r_l2i d_M_apart_119 ?_
        exact r_ireturn d_M_apart_120.1 rfl (hQ _ _ hw)
      · replace hw := hw.1 w9
        refine r_aload_n (j := 0) d_M_apart_108 rfl ?_
        refine r_getL d_M_apart_109 ok_12 (nle rfl) (nle rfl) rfl lf_M_434 q10 ?_
        refine r_goto d_M_apart_112 ?_
        refine r_l2i d_M_apart_119 ?_
        exact r_ireturn d_M_apart_120.1 rfl (hQ _ _ hw)
    · replace hw := hw.2 w9
      refine r_aload_n (j := 0) d_M_apart_54 rfl ?_
      refine r_getR d_M_apart_55 ok_12 (nle rfl) (nle rfl) rfl lf_M_39 q10 ?_
      refine r_iload_n (j := 2) d_M_apart_58 rfl ?_
      obtain ⟨q11, hw⟩ := hw
      obtain ⟨q12, hw⟩ := hw
      refine r_iald d_M_apart_59 q11 q12 ?_
      refine r_i2l d_M_apart_60 ?_
      refine r_aload_n (j := 0) d_M_apart_61 rfl ?_
      refine r_getR d_M_apart_62 ok_12 (nle rfl) (nle rfl) rfl lf_M_86 q10 ?_
      refine r_iload_n (j := 2) d_M_apart_65 rfl ?_
      obtain ⟨q13, hw⟩ := hw
      obtain ⟨q14, hw⟩ := hw
      refine r_lald d_M_apart_66 q13 q14 ?_
      refine r_lmul d_M_apart_67 ?_
      refine r_aload_n (j := 0) d_M_apart_68 rfl ?_
      refine r_getR d_M_apart_69 ok_12 (nle rfl) (nle rfl) rfl lf_M_83 q10 ?_
      refine r_iload_n (j := 2) d_M_apart_72 rfl ?_
      obtain ⟨q15, hw⟩ := hw
      obtain ⟨q16, hw⟩ := hw
      refine r_lald d_M_apart_73 q15 q16 ?_
      refine r_lsub d_M_apart_74 ?_
      refine r_lstore_n (ls2 := [(3, al ((((gI h (gR h v0 27) (ix v2)).toInt64) * (gL h (gR h v0 49) (ix v2))) - (gL h (gR h v0 48) (ix v2)))), (0, ar v0), (1, ai v1), (2, ai v2)]) d_M_apart_75 (nle rfl) rfl ?_
      refine r_aload_n (j := 1) d_M_apart_76 rfl ?_
      refine r_lload_n (j := 0) d_M_apart_77 rfl ?_
      refine r_lconst d_M_apart_78 kl_0 ?_
      refine r_lcmp d_M_apart_79 ?_
      refine r_if_ge d_M_apart_80 (fun w9 => ?_) (fun w9 => ?_)
      · replace hw := hw.1 ((lg_cmp_ge _ _).mp w9)
        refine r_lload_n (j := 0) d_M_apart_88 rfl ?_
        refine r_pick (ls2 := [(0, ar v0), (1, ai v1), (2, ai v2)]) [1, 2, 3] rfl ?_
        exact s_M_apart_B89 hd hQ ih hw
      · replace hw := hw.2 (fun g9 => w9 ((lg_cmp_ge _ _).mpr g9))
        refine r_lload_n (j := 0) d_M_apart_83 rfl ?_
        refine r_lneg d_M_apart_84 ?_
        refine r_goto d_M_apart_85 ?_
        refine r_pick (ls2 := [(0, ar v0), (1, ai v1), (2, ai v2)]) [1, 2, 3] rfl ?_
        exact s_M_apart_B89 hd hQ ih hw
set_option maxRecDepth 100000 in
set_option maxHeartbeats 4000000 in
theorem s_M_apart {d : Nat} (hd : 5 ≤ d) {v0 : Nat} {v1 : Int32} {h : Hp} {Q : Int32 → Hp → Prop} {QQ : Option AV → Hp → Prop} (hw : w_M_apart v0 v1 h Q) (hQ : ∀ r9 h9, Q r9 h9 → QQ (some (ai r9)) h9) : aCall m_M_apart d [ar v0, ai v1] h 0 0 QQ := by
  obtain ⟨d, rfl⟩ : ∃ d9, d = d9 + 1 := ⟨d - 1, by omega⟩
  refine aCall_in pl_M_apart (nle rfl) ?_
  show aW none m_M_apart (d + 1) 0 [(0, ar v0), (1, ai v1)] [] h 0 0 QQ
  unfold w_M_apart at hw
  refine r_iload_n (j := 1) d_M_apart_0 rfl ?_
  refine r_iconst d_M_apart_1 kc_0 ?_
  refine r_iconst d_M_apart_2 kc_1 ?_
  refine r_callS (av := [ai v1, ai (0 : Int32), ai (1 : Int32)]) (rest := []) d_M_apart_3 mk_M_isIn ll_M_148 st_M_isIn rfl rfl (nle rfl) (s_M_isIn  hw (fun r2 h1 hw => ?_))
  show aW none m_M_apart (d + 1) 6 [(0, ar v0), (1, ai v1)] [ai (b2i r2)] h1 0 0 QQ
  refine r_if_eq d_M_apart_6 (fun w9 => ?_) (fun w9 => ?_)
  · replace hw := hw.1 (b2i_0.mp w9)
    refine r_ldcw d_M_apart_30 lc_M_277 ?_
    exact r_ireturn d_M_apart_33.1 rfl (hQ _ _ hw)
  · replace hw := hw.2 (fun g9 => w9 (b2i_0.mpr g9))
    refine r_aload_n (j := 0) d_M_apart_9 rfl ?_
    obtain ⟨q5, hw⟩ := hw
    refine r_callV (av := []) (rest := []) (ci := 12) d_M_apart_10 mk_M_laysOptimum ll_M_337 im_M_laysOptimum se_M_laysOptimum rfl (nle rfl) rfl rfl (nle rfl) q5 (s_M_laysOptimum (by omega) hw (fun r4 h3 hw => ?_))
    show aW none m_M_apart (d + 1) 13 [(0, ar v0), (1, ai v1)] [ai (b2i r4)] h3 0 0 QQ
    refine r_if_eq d_M_apart_13 (fun w9 => ?_) (fun w9 => ?_)
    · replace hw := hw.1 (b2i_0.mp w9)
      refine r_ldcw d_M_apart_30 lc_M_277 ?_
      exact r_ireturn d_M_apart_33.1 rfl (hQ _ _ hw)
    · replace hw := hw.2 (fun g9 => w9 (b2i_0.mpr g9))
      refine r_aload_n (j := 0) d_M_apart_16 rfl ?_
      obtain ⟨q8, hw⟩ := hw
      refine r_callV (av := []) (rest := []) (ci := 12) d_M_apart_17 mk_M_laysRelaxed ll_M_488 im_M_laysRelaxed se_M_laysRelaxed rfl (nle rfl) rfl rfl (nle rfl) q8 (s_M_laysRelaxed (by omega) hw (fun r7 h6 hw => ?_))
      show aW none m_M_apart (d + 1) 20 [(0, ar v0), (1, ai v1)] [ai (b2i r7)] h6 0 0 QQ
      refine r_if_eq d_M_apart_20 (fun w9 => ?_) (fun w9 => ?_)
      · replace hw := hw.1 (b2i_0.mp w9)
        refine r_ldcw d_M_apart_30 lc_M_277 ?_
        exact r_ireturn d_M_apart_33.1 rfl (hQ _ _ hw)
      · replace hw := hw.2 (fun g9 => w9 (b2i_0.mpr g9))
        refine r_aload_n (j := 0) d_M_apart_23 rfl ?_
        obtain ⟨q9, hw⟩ := hw
        refine r_getI d_M_apart_24 ok_12 (nle rfl) (nle rfl) rfl lf_M_485 q9 ?_
        refine r_if_eq d_M_apart_27 (fun w9 => ?_) (fun w9 => ?_)
        · replace hw := hw.1 w9
          refine r_aload_n (j := 0) d_M_apart_34 rfl ?_
          refine r_lconst d_M_apart_35 kl_0 ?_
          refine r_putL d_M_apart_36 ok_12 (nle rfl) (nle rfl) rfl lf_M_434 rfl q9 ?_
          refine r_aload_n (j := 0) d_M_apart_39 rfl ?_
          refine r_lconst d_M_apart_40 kl_1 ?_
          refine r_putL d_M_apart_41 ok_12 (nle rfl) (nle rfl) rfl lf_M_437 rfl (kt eKL q9) ?_
          refine r_iconst d_M_apart_44 kc_0 ?_
          refine r_istore_n (ls2 := [(2, ai (0 : Int32)), (0, ar v0), (1, ai v1)]) d_M_apart_45 (nle rfl) rfl ?_
          obtain ⟨n22, hw⟩ := hw
          refine r_pick (ls2 := [(0, ar v0), (1, ai v1), (2, ai (0 : Int32))]) [1, 2, 0] rfl ?_
          exact s_M_apart_L46 hd hQ  n22 _ _ hw
        · replace hw := hw.2 w9
          refine r_ldcw d_M_apart_30 lc_M_277 ?_
          exact r_ireturn d_M_apart_33.1 rfl (hQ _ _ hw)
set_option maxRecDepth 100000 in
set_option maxHeartbeats 4000000 in
theorem s_M_canGo_L4 {d : Nat} {Q : Bool → Hp → Prop} {QQ : Option AV → Hp → Prop} (hQ : ∀ r9 h9, Q r9 h9 → QQ (some (ai (b2i r9))) h9) {v0 : Nat} : ∀ (n : Nat) (v1 : Int32) (v2 : Int32) (h : Hp), w_M_canGo_L4 Q  v0 n v1 v2 h → aW none m_M_canGo d 4 [(0, ar v0), (1, ai v1), (2, ai v2)] [] h 0 0 QQ := by
  intro n
  induction n with
  | zero => intro v1 v2 h hw; exact hw.elim
  | succ n ih =>
    intro v1 v2 h hw
    unfold w_M_canGo_L4 at hw
    refine r_iload_n (j := 2) d_M_canGo_4 rfl ?_
    refine r_aload_n (j := 0) d_M_canGo_5 rfl ?_
    obtain ⟨q1, hw⟩ := hw
    refine r_getI d_M_canGo_6 ok_12 (nle rfl) (nle rfl) rfl lf_M_247 q1 ?_
    refine r_icmp_ge d_M_canGo_9 (fun w9 => ?_) (fun w9 => ?_)
    · replace hw := hw.1 w9
      refine r_iload_n (j := 1) d_M_canGo_46 rfl ?_
      obtain ⟨q2, hw⟩ := hw
      exact r_zreturn d_M_canGo_47.1 rfl q2 (by have g9 := hQ _ _ hw; rwa [b2i_i q2] at g9)
    · replace hw := hw.2 w9
      refine r_iload_n (j := 1) d_M_canGo_12 rfl ?_
      refine r_if_eq d_M_canGo_13 (fun w9 => ?_) (fun w9 => ?_)
      · replace hw := hw.1 w9
        refine r_iconst d_M_canGo_38 kc_0 ?_
        refine r_istore_n (ls2 := [(1, ai (0 : Int32)), (0, ar v0), (2, ai v2)]) d_M_canGo_39 (nle rfl) rfl ?_
        refine r_iinc (j := 2) (ls2 := [(2, ai (v2 + (1 : Int32))), (1, ai (0 : Int32)), (0, ar v0)]) d_M_canGo_40 rfl (congrArg (HAdd.hAdd v2) kc_1) (nle rfl) rfl ?_
        refine r_goto d_M_canGo_43 ?_
        refine r_pick (ls2 := [(0, ar v0), (1, ai (0 : Int32)), (2, ai (v2 + (1 : Int32)))]) [2, 1, 0] rfl ?_
        exact ih _ _ _ hw
      · replace hw := hw.2 w9
        refine r_aload_n (j := 0) d_M_canGo_16 rfl ?_
        refine r_getR d_M_canGo_17 ok_12 (nle rfl) (nle rfl) rfl lf_M_36 q1 ?_
        refine r_iload_n (j := 2) d_M_canGo_20 rfl ?_
        obtain ⟨q3, hw⟩ := hw
        obtain ⟨q4, hw⟩ := hw
        refine r_iald d_M_canGo_21 q3 q4 ?_
        refine r_aload_n (j := 0) d_M_canGo_22 rfl ?_
        refine r_getR d_M_canGo_23 ok_12 (nle rfl) (nle rfl) rfl lf_M_30 q1 ?_
        refine r_bipush d_M_canGo_26 kb_36 ?_
        refine r_iload_n (j := 2) d_M_canGo_28 rfl ?_
        refine r_iadd d_M_canGo_29 ?_
        obtain ⟨q5, hw⟩ := hw
        obtain ⟨q6, hw⟩ := hw
        refine r_iald d_M_canGo_30 q5 q6 ?_
        refine r_icmp_gt d_M_canGo_31 (fun w9 => ?_) (fun w9 => ?_)
        · replace hw := hw.1 w9
          refine r_iconst d_M_canGo_38 kc_0 ?_
          refine r_istore_n (ls2 := [(1, ai (0 : Int32)), (0, ar v0), (2, ai v2)]) d_M_canGo_39 (nle rfl) rfl ?_
          refine r_iinc (j := 2) (ls2 := [(2, ai (v2 + (1 : Int32))), (1, ai (0 : Int32)), (0, ar v0)]) d_M_canGo_40 rfl (congrArg (HAdd.hAdd v2) kc_1) (nle rfl) rfl ?_
          refine r_goto d_M_canGo_43 ?_
          refine r_pick (ls2 := [(0, ar v0), (1, ai (0 : Int32)), (2, ai (v2 + (1 : Int32)))]) [2, 1, 0] rfl ?_
          exact ih _ _ _ hw
        · replace hw := hw.2 w9
          refine r_iconst d_M_canGo_34 kc_1 ?_
          refine r_goto d_M_canGo_35 ?_
          refine r_istore_n (ls2 := [(1, ai (1 : Int32)), (0, ar v0), (2, ai v2)]) d_M_canGo_39 (nle rfl) rfl ?_
          refine r_iinc (j := 2) (ls2 := [(2, ai (v2 + (1 : Int32))), (1, ai (1 : Int32)), (0, ar v0)]) d_M_canGo_40 rfl (congrArg (HAdd.hAdd v2) kc_1) (nle rfl) rfl ?_
          refine r_goto d_M_canGo_43 ?_
          refine r_pick (ls2 := [(0, ar v0), (1, ai (1 : Int32)), (2, ai (v2 + (1 : Int32)))]) [2, 1, 0] rfl ?_
          exact ih _ _ _ hw
set_option maxRecDepth 100000 in
set_option maxHeartbeats 4000000 in
theorem s_M_canGo {d : Nat} {v0 : Nat} {h : Hp} {Q : Bool → Hp → Prop} {QQ : Option AV → Hp → Prop} (hw : w_M_canGo v0 h Q) (hQ : ∀ r9 h9, Q r9 h9 → QQ (some (ai (b2i r9))) h9) : aCall m_M_canGo d [ar v0] h 0 0 QQ := by
  refine aCall_in pl_M_canGo (nle rfl) ?_
  show aW none m_M_canGo d 0 [(0, ar v0)] [] h 0 0 QQ
  unfold w_M_canGo at hw
  refine r_iconst d_M_canGo_0 kc_1 ?_
  refine r_istore_n (ls2 := [(1, ai (1 : Int32)), (0, ar v0)]) d_M_canGo_1 (nle rfl) rfl ?_
  refine r_iconst d_M_canGo_2 kc_0 ?_
  refine r_istore_n (ls2 := [(2, ai (0 : Int32)), (1, ai (1 : Int32)), (0, ar v0)]) d_M_canGo_3 (nle rfl) rfl ?_
  obtain ⟨n7, hw⟩ := hw
  refine r_pick (ls2 := [(0, ar v0), (1, ai (1 : Int32)), (2, ai (0 : Int32))]) [2, 1, 0] rfl ?_
  exact s_M_canGo_L4 hQ  n7 _ _ _ hw
set_option maxRecDepth 100000 in
set_option maxHeartbeats 4000000 in
theorem s_M_canCome_L58 {d : Nat} (hd : 2 ≤ d + 1) {Q : Bool → Hp → Prop} {QQ : Option AV → Hp → Prop} (hQ : ∀ r9 h9, Q r9 h9 → QQ (some (ai (b2i r9))) h9) {v0 : Nat} : ∀ (n : Nat) (v1 : Int32) (v2 : Int32) (h : Hp), w_M_canCome_L58 Q  v0 n v1 v2 h → aW none m_M_canCome (d + 1) 58 [(0, ar v0), (1, ai v1), (2, ai v2)] [] h 0 0 QQ := by
  intro n
  induction n with
  | zero => intro v1 v2 h hw; exact hw.elim
  | succ n ih =>
    intro v1 v2 h hw
    unfold w_M_canCome_L58 at hw
    refine r_iload_n (j := 2) d_M_canCome_58 rfl ?_
    refine r_aload_n (j := 0) d_M_canCome_59 rfl ?_
    obtain ⟨q2, hw⟩ := hw
    refine r_getI d_M_canCome_60 ok_12 (nle rfl) (nle rfl) rfl lf_M_244 q2 ?_
    refine r_icmp_ge d_M_canCome_63 (fun w9 => ?_) (fun w9 => ?_)
    · replace hw := hw.1 w9
      refine r_iload_n (j := 1) d_M_canCome_96 rfl ?_
      obtain ⟨q3, hw⟩ := hw
      exact r_zreturn d_M_canCome_97.1 rfl q3 (by have g9 := hQ _ _ hw; rwa [b2i_i q3] at g9)
    · replace hw := hw.2 w9
      refine r_iload_n (j := 1) d_M_canCome_66 rfl ?_
      refine r_if_eq d_M_canCome_67 (fun w9 => ?_) (fun w9 => ?_)
      · replace hw := hw.1 w9
        refine r_iconst d_M_canCome_88 kc_0 ?_
        refine r_istore_n (ls2 := [(1, ai (0 : Int32)), (0, ar v0), (2, ai v2)]) d_M_canCome_89 (nle rfl) rfl ?_
        refine r_iinc (j := 2) (ls2 := [(2, ai (v2 + (1 : Int32))), (1, ai (0 : Int32)), (0, ar v0)]) d_M_canCome_90 rfl (congrArg (HAdd.hAdd v2) kc_1) (nle rfl) rfl ?_
        refine r_goto d_M_canCome_93 ?_
        refine r_pick (ls2 := [(0, ar v0), (1, ai (0 : Int32)), (2, ai (v2 + (1 : Int32)))]) [2, 1, 0] rfl ?_
        exact ih _ _ _ hw
      · replace hw := hw.2 w9
        refine r_aload_n (j := 0) d_M_canCome_70 rfl ?_
        refine r_iload_n (j := 2) d_M_canCome_71 rfl ?_
        refine r_callV (av := [ai v2]) (rest := []) (ci := 12) d_M_canCome_72 mk_M_planSum ll_M_309 im_M_planSum se_M_planSum rfl (nle rfl) rfl rfl (nle rfl) q2 (s_M_planSum (by omega) hw (fun r5 h4 hw => ?_))
        show aW none m_M_canCome (d + 1) 75 [(0, ar v0), (1, ai v1), (2, ai v2)] [ai r5] h4 0 0 QQ
        refine r_aload_n (j := 0) d_M_canCome_75 rfl ?_
        obtain ⟨q6, hw⟩ := hw
        refine r_getR d_M_canCome_76 ok_12 (nle rfl) (nle rfl) rfl lf_M_104 q6 ?_
        refine r_iload_n (j := 2) d_M_canCome_79 rfl ?_
        obtain ⟨q7, hw⟩ := hw
        obtain ⟨q8, hw⟩ := hw
        refine r_iald d_M_canCome_80 q7 q8 ?_
        refine r_icmp_ne d_M_canCome_81 (fun w9 => ?_) (fun w9 => ?_)
        · replace hw := hw.2 w9
          refine r_iconst d_M_canCome_88 kc_0 ?_
          refine r_istore_n (ls2 := [(1, ai (0 : Int32)), (0, ar v0), (2, ai v2)]) d_M_canCome_89 (nle rfl) rfl ?_
          refine r_iinc (j := 2) (ls2 := [(2, ai (v2 + (1 : Int32))), (1, ai (0 : Int32)), (0, ar v0)]) d_M_canCome_90 rfl (congrArg (HAdd.hAdd v2) kc_1) (nle rfl) rfl ?_
          refine r_goto d_M_canCome_93 ?_
          refine r_pick (ls2 := [(0, ar v0), (1, ai (0 : Int32)), (2, ai (v2 + (1 : Int32)))]) [2, 1, 0] rfl ?_
          exact ih _ _ _ hw
        · replace hw := hw.1 w9
          refine r_iconst d_M_canCome_84 kc_1 ?_
          refine r_goto d_M_canCome_85 ?_
          refine r_istore_n (ls2 := [(1, ai (1 : Int32)), (0, ar v0), (2, ai v2)]) d_M_canCome_89 (nle rfl) rfl ?_
          refine r_iinc (j := 2) (ls2 := [(2, ai (v2 + (1 : Int32))), (1, ai (1 : Int32)), (0, ar v0)]) d_M_canCome_90 rfl (congrArg (HAdd.hAdd v2) kc_1) (nle rfl) rfl ?_
          refine r_goto d_M_canCome_93 ?_
          refine r_pick (ls2 := [(0, ar v0), (1, ai (1 : Int32)), (2, ai (v2 + (1 : Int32)))]) [2, 1, 0] rfl ?_
          exact ih _ _ _ hw
