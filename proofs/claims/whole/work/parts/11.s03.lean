set_option maxRecDepth 100000 in
set_option maxHeartbeats 4000000 in
theorem s_Ex_hasPlace {d : Nat} (hd : 1 ≤ d) {v0 : Nat} {v1 : Int32} {v2 : Int32} {h : Hp} {Q : Bool → Hp → Prop} {QQ : Option AV → Hp → Prop} (hw : w_Ex_hasPlace v0 v1 v2 h Q) (hQ : ∀ r9 h9, Q r9 h9 → QQ (some (ai (b2i r9))) h9) : aCall m_Ex_hasPlace d [ar v0, ai v1, ai v2] h 0 0 QQ := by
  obtain ⟨d, rfl⟩ : ∃ d9, d = d9 + 1 := ⟨d - 1, by omega⟩
  refine aCall_in pl_Ex_hasPlace (nle rfl) ?_
  show aW none m_Ex_hasPlace (d + 1) 0 [(0, ar v0), (1, ai v1), (2, ai v2)] [] h 0 0 QQ
  unfold w_Ex_hasPlace at hw
  refine r_aload_n (j := 0) d_Ex_hasPlace_0 rfl ?_
  obtain ⟨q1, hw⟩ := hw
  refine r_getR d_Ex_hasPlace_1 ok_4 (nle rfl) (nle rfl) rfl lf_Ex_15 q1 ?_
  refine r_iload_n (j := 2) d_Ex_hasPlace_4 rfl ?_
  obtain ⟨q2, hw⟩ := hw
  obtain ⟨q3, hw⟩ := hw
  refine r_iald d_Ex_hasPlace_5 q2 q3 ?_
  refine r_istore_n (ls2 := [(3, ai (gI h (gR h v0 2) (ix v2))), (0, ar v0), (1, ai v1), (2, ai v2)]) d_Ex_hasPlace_6 (nle rfl) rfl ?_
  obtain ⟨n14, hw⟩ := hw
  refine r_pick (ls2 := [(0, ar v0), (1, ai v1), (2, ai v2), (3, ai (gI h (gR h v0 2) (ix v2)))]) [1, 2, 3, 0] rfl ?_
  exact s_Ex_hasPlace_L7 hd hQ  n14 _ _ hw
set_option maxRecDepth 100000 in
set_option maxHeartbeats 4000000 in
theorem s_Ex_isHeld_L7 {d : Nat} (hd : 1 ≤ d + 1) {Q : Bool → Hp → Prop} {QQ : Option AV → Hp → Prop} (hQ : ∀ r9 h9, Q r9 h9 → QQ (some (ai (b2i r9))) h9) {v0 : Nat} {v1 : Int32} : ∀ (n : Nat) (v2 : Int32) (h : Hp), w_Ex_isHeld_L7 Q  v0 v1 n v2 h → aW none m_Ex_isHeld (d + 1) 7 [(0, ar v0), (1, ai v1), (2, ai v2)] [] h 0 0 QQ := by
  intro n
  induction n with
  | zero => intro v2 h hw; exact hw.elim
  | succ n ih =>
    intro v2 h hw
    unfold w_Ex_isHeld_L7 at hw
    refine r_iload_n (j := 2) d_Ex_isHeld_7 rfl ?_
    refine r_if_le d_Ex_isHeld_8 (fun w9 => ?_) (fun w9 => ?_)
    · replace hw := hw.1 w9
      refine r_iconst d_Ex_isHeld_44 kc_1 ?_
      exact r_zreturn d_Ex_isHeld_45.1 rfl (Or.inr rfl) (hQ _ _ hw)
    · replace hw := hw.2 w9
      refine r_iload_n (j := 2) d_Ex_isHeld_11 rfl ?_
      refine r_bipush d_Ex_isHeld_12 kb_15 ?_
      refine r_iand d_Ex_isHeld_14 ?_
      refine r_iconst d_Ex_isHeld_15 kc_1 ?_
      refine r_isub d_Ex_isHeld_16 ?_
      refine r_istore_n (ls2 := [(3, ai ((v2 &&& (15 : Int32)) - (1 : Int32))), (0, ar v0), (1, ai v1), (2, ai v2)]) d_Ex_isHeld_17 (nle rfl) rfl ?_
      refine r_aload_n (j := 1) d_Ex_isHeld_18 rfl ?_
      obtain ⟨q4, hw⟩ := hw
      refine r_getR d_Ex_isHeld_19 ok_4 (nle rfl) (nle rfl) rfl lf_Ex_24 q4 ?_
      refine r_iload_n (j := 0) d_Ex_isHeld_22 rfl ?_
      obtain ⟨q7, hw⟩ := hw
      refine r_callV (av := [ai ((v2 &&& (15 : Int32)) - (1 : Int32))]) (rest := []) (ci := 1) d_Ex_isHeld_23 mk_Co_heldOf ll_Ex_103 im_Co_heldOf se_Co_heldOf rfl (nle rfl) rfl rfl (nle rfl) q7 (s_Co_heldOf  hw (fun r6 h5 hw => ?_))
      show aW none m_Ex_isHeld (d + 1) 26 [(3, ai ((v2 &&& (15 : Int32)) - (1 : Int32))), (0, ar v0), (1, ai v1), (2, ai v2)] [ai r6] h5 0 0 QQ
      refine r_aload_n (j := 1) d_Ex_isHeld_26 rfl ?_
      refine r_iload_n (j := 2) d_Ex_isHeld_27 rfl ?_
      refine r_iload_n (j := 0) d_Ex_isHeld_28 rfl ?_
      obtain ⟨q10, hw⟩ := hw
      refine r_callV (av := [ai v1, ai ((v2 &&& (15 : Int32)) - (1 : Int32))]) (rest := [ai r6]) (ci := 4) d_Ex_isHeld_29 mk_Ex_times ll_Ex_57 im_Ex_times se_Ex_times rfl (nle rfl) rfl rfl (nle rfl) q10 (s_Ex_times  hw (fun r9 h8 hw => ?_))
      show aW none m_Ex_isHeld (d + 1) 32 [(3, ai ((v2 &&& (15 : Int32)) - (1 : Int32))), (0, ar v0), (1, ai v1), (2, ai v2)] [ai r9, ai r6] h8 0 0 QQ
      refine r_icmp_ge d_Ex_isHeld_32 (fun w9 => ?_) (fun w9 => ?_)
      · replace hw := hw.1 w9
        refine r_iload_n (j := 3) d_Ex_isHeld_37 rfl ?_
        refine r_iconst d_Ex_isHeld_38 kc_4 ?_
        refine r_ishr d_Ex_isHeld_39 ?_
        refine r_istore_n (ls2 := [(2, ai (jshr v2 (4 : Int32))), (3, ai ((v2 &&& (15 : Int32)) - (1 : Int32))), (0, ar v0), (1, ai v1)]) d_Ex_isHeld_40 (nle rfl) rfl ?_
        refine r_goto d_Ex_isHeld_41 ?_
        refine r_pick (ls2 := [(0, ar v0), (1, ai v1), (2, ai (jshr v2 (4 : Int32)))]) [2, 3, 0] rfl ?_
        exact ih _ _ hw
      · replace hw := hw.2 w9
        refine r_iconst d_Ex_isHeld_35 kc_0 ?_
        exact r_zreturn d_Ex_isHeld_36.1 rfl (Or.inl rfl) (hQ _ _ hw)
set_option maxRecDepth 100000 in
set_option maxHeartbeats 4000000 in
theorem s_Ex_isHeld {d : Nat} (hd : 1 ≤ d) {v0 : Nat} {v1 : Int32} {h : Hp} {Q : Bool → Hp → Prop} {QQ : Option AV → Hp → Prop} (hw : w_Ex_isHeld v0 v1 h Q) (hQ : ∀ r9 h9, Q r9 h9 → QQ (some (ai (b2i r9))) h9) : aCall m_Ex_isHeld d [ar v0, ai v1] h 0 0 QQ := by
  obtain ⟨d, rfl⟩ : ∃ d9, d = d9 + 1 := ⟨d - 1, by omega⟩
  refine aCall_in pl_Ex_isHeld (nle rfl) ?_
  show aW none m_Ex_isHeld (d + 1) 0 [(0, ar v0), (1, ai v1)] [] h 0 0 QQ
  unfold w_Ex_isHeld at hw
  refine r_aload_n (j := 0) d_Ex_isHeld_0 rfl ?_
  obtain ⟨q1, hw⟩ := hw
  refine r_getR d_Ex_isHeld_1 ok_4 (nle rfl) (nle rfl) rfl lf_Ex_15 q1 ?_
  refine r_iload_n (j := 1) d_Ex_isHeld_4 rfl ?_
  obtain ⟨q2, hw⟩ := hw
  obtain ⟨q3, hw⟩ := hw
  refine r_iald d_Ex_isHeld_5 q2 q3 ?_
  refine r_istore_n (ls2 := [(2, ai (gI h (gR h v0 2) (ix v1))), (0, ar v0), (1, ai v1)]) d_Ex_isHeld_6 (nle rfl) rfl ?_
  obtain ⟨n11, hw⟩ := hw
  refine r_pick (ls2 := [(0, ar v0), (1, ai v1), (2, ai (gI h (gR h v0 2) (ix v1)))]) [1, 2, 0] rfl ?_
  exact s_Ex_isHeld_L7 hd hQ  n11 _ _ hw
set_option maxRecDepth 100000 in
set_option maxHeartbeats 4000000 in
theorem s_Ex_compareSizes_L38 {d : Nat} (hd : 2 ≤ d + 1) {Q : Hp → Prop} {QQ : Option AV → Hp → Prop} (hQ : ∀ h9, Q h9 → QQ none h9) {v0 : Nat} {v1 : Int32} {v2 : Int32} {v3 : Int32} {k7 : Int32 → Hp → Prop} (hk7 : ∀ v3 h9, k7 v3 h9 → aW none m_Ex_compareSizes (d + 1) 7 [(0, ar v0), (1, ai v1), (2, ai v2), (3, ai v3)] [] h9 0 0 QQ) : ∀ (n : Nat) (v4 : Int32) (h : Hp), w_Ex_compareSizes_L38 Q k7 v0 v1 v2 v3 n v4 h → aW none m_Ex_compareSizes (d + 1) 38 [(0, ar v0), (1, ai v1), (2, ai v2), (3, ai v3), (4, ai v4)] [] h 0 0 QQ := by
  intro n
  induction n with
  | zero => intro v4 h hw; exact hw.elim
  | succ n ih =>
    intro v4 h hw
    unfold w_Ex_compareSizes_L38 at hw
    refine r_iload (j := 4) d_Ex_compareSizes_38 rfl ?_
    refine r_aload_n (j := 0) d_Ex_compareSizes_40 rfl ?_
    obtain ⟨q12, hw⟩ := hw
    refine r_getR d_Ex_compareSizes_41 ok_4 (nle rfl) (nle rfl) rfl lf_Ex_11 q12 ?_
    refine r_iload_n (j := 2) d_Ex_compareSizes_44 rfl ?_
    refine r_iconst d_Ex_compareSizes_45 kc_1 ?_
    refine r_iadd d_Ex_compareSizes_46 ?_
    obtain ⟨q13, hw⟩ := hw
    obtain ⟨q14, hw⟩ := hw
    refine r_iald d_Ex_compareSizes_47 q13 q14 ?_
    refine r_icmp_ge d_Ex_compareSizes_48 (fun w9 => ?_) (fun w9 => ?_)
    · replace hw := hw.1 w9
      refine r_iinc (j := 3) (ls2 := [(3, ai (v3 + (1 : Int32))), (0, ar v0), (1, ai v1), (2, ai v2), (4, ai v4)]) d_Ex_compareSizes_143 rfl (congrArg (HAdd.hAdd v3) kc_1) (nle rfl) rfl ?_
      refine r_goto d_Ex_compareSizes_146 ?_
      refine r_pick (ls2 := [(0, ar v0), (1, ai v1), (2, ai v2), (3, ai (v3 + (1 : Int32)))]) [1, 2, 3, 0] rfl ?_
      exact hk7 _ _ hw
    · replace hw := hw.2 w9
      refine r_aload_n (j := 0) d_Ex_compareSizes_51 rfl ?_
      refine r_getR d_Ex_compareSizes_52 ok_4 (nle rfl) (nle rfl) rfl lf_Ex_18 q12 ?_
      refine r_iload (j := 4) d_Ex_compareSizes_55 rfl ?_
      obtain ⟨q15, hw⟩ := hw
      obtain ⟨q16, hw⟩ := hw
      refine r_iald d_Ex_compareSizes_57 q15 q16 ?_
      refine r_aload_n (j := 0) d_Ex_compareSizes_58 rfl ?_
      refine r_getR d_Ex_compareSizes_59 ok_4 (nle rfl) (nle rfl) rfl lf_Ex_18 q12 ?_
      refine r_iload_n (j := 3) d_Ex_compareSizes_62 rfl ?_
      obtain ⟨q17, hw⟩ := hw
      refine r_iald d_Ex_compareSizes_63 q15 q17 ?_
      refine r_icmp_ne d_Ex_compareSizes_64 (fun w9 => ?_) (fun w9 => ?_)
      · replace hw := hw.2 w9
        refine r_iinc (j := 4) (ls2 := [(4, ai (v4 + (1 : Int32))), (0, ar v0), (1, ai v1), (2, ai v2), (3, ai v3)]) d_Ex_compareSizes_137 rfl (congrArg (HAdd.hAdd v4) kc_1) (nle rfl) rfl ?_
        refine r_goto d_Ex_compareSizes_140 ?_
        refine r_pick (ls2 := [(0, ar v0), (1, ai v1), (2, ai v2), (3, ai v3), (4, ai (v4 + (1 : Int32)))]) [1, 2, 3, 4, 0] rfl ?_
        exact ih _ _ hw
      · replace hw := hw.1 w9
        refine r_aload_n (j := 0) d_Ex_compareSizes_67 rfl ?_
        refine r_getR d_Ex_compareSizes_68 ok_4 (nle rfl) (nle rfl) rfl lf_Ex_21 q12 ?_
        refine r_iload (j := 4) d_Ex_compareSizes_71 rfl ?_
        obtain ⟨q18, hw⟩ := hw
        obtain ⟨q19, hw⟩ := hw
        refine r_iald d_Ex_compareSizes_73 q18 q19 ?_
        refine r_aload_n (j := 0) d_Ex_compareSizes_74 rfl ?_
        refine r_getR d_Ex_compareSizes_75 ok_4 (nle rfl) (nle rfl) rfl lf_Ex_21 q12 ?_
        refine r_iload_n (j := 3) d_Ex_compareSizes_78 rfl ?_
        obtain ⟨q20, hw⟩ := hw
        refine r_iald d_Ex_compareSizes_79 q18 q20 ?_
        refine r_isub d_Ex_compareSizes_80 ?_
        refine r_aload_n (j := 0) d_Ex_compareSizes_81 rfl ?_
        refine r_getI d_Ex_compareSizes_82 ok_4 (nle rfl) (nle rfl) rfl lf_Ex_51 q12 ?_
        refine r_icmp_le d_Ex_compareSizes_85 (fun w9 => ?_) (fun w9 => ?_)
        · replace hw := hw.1 w9
          refine r_iinc (j := 4) (ls2 := [(4, ai (v4 + (1 : Int32))), (0, ar v0), (1, ai v1), (2, ai v2), (3, ai v3)]) d_Ex_compareSizes_137 rfl (congrArg (HAdd.hAdd v4) kc_1) (nle rfl) rfl ?_
          refine r_goto d_Ex_compareSizes_140 ?_
          refine r_pick (ls2 := [(0, ar v0), (1, ai v1), (2, ai v2), (3, ai v3), (4, ai (v4 + (1 : Int32)))]) [1, 2, 3, 4, 0] rfl ?_
          exact ih _ _ hw
        · replace hw := hw.2 w9
          refine r_aload_n (j := 0) d_Ex_compareSizes_88 rfl ?_
          refine r_iload_n (j := 3) d_Ex_compareSizes_89 rfl ?_
          refine r_iload (j := 4) d_Ex_compareSizes_90 rfl ?_
          refine r_callV (av := [ai v3, ai v4]) (rest := []) (ci := 4) d_Ex_compareSizes_92 mk_Ex_hasPlace ll_Ex_93 im_Ex_hasPlace se_Ex_hasPlace rfl (nle rfl) rfl rfl (nle rfl) q12 (s_Ex_hasPlace (by omega) hw (fun r22 h21 hw => ?_))
          show aW none m_Ex_compareSizes (d + 1) 95 [(0, ar v0), (1, ai v1), (2, ai v2), (3, ai v3), (4, ai v4)] [ai (b2i r22)] h21 0 0 QQ
          refine r_if_eq d_Ex_compareSizes_95 (fun w9 => ?_) (fun w9 => ?_)
          · replace hw := hw.1 (b2i_0.mp w9)
            refine r_iinc (j := 4) (ls2 := [(4, ai (v4 + (1 : Int32))), (0, ar v0), (1, ai v1), (2, ai v2), (3, ai v3)]) d_Ex_compareSizes_137 rfl (congrArg (HAdd.hAdd v4) kc_1) (nle rfl) rfl ?_
            refine r_goto d_Ex_compareSizes_140 ?_
            refine r_pick (ls2 := [(0, ar v0), (1, ai v1), (2, ai v2), (3, ai v3), (4, ai (v4 + (1 : Int32)))]) [1, 2, 3, 4, 0] rfl ?_
            exact ih _ _ hw
          · replace hw := hw.2 (fun g9 => w9 (b2i_0.mpr g9))
            refine r_aload_n (j := 0) d_Ex_compareSizes_98 rfl ?_
            refine r_aload_n (j := 0) d_Ex_compareSizes_99 rfl ?_
            obtain ⟨q23, hw⟩ := hw
            refine r_getR d_Ex_compareSizes_100 ok_4 (nle rfl) (nle rfl) rfl lf_Ex_21 q23 ?_
            refine r_iload (j := 4) d_Ex_compareSizes_103 rfl ?_
            obtain ⟨q24, hw⟩ := hw
            obtain ⟨q25, hw⟩ := hw
            refine r_iald d_Ex_compareSizes_105 q24 q25 ?_
            refine r_aload_n (j := 0) d_Ex_compareSizes_106 rfl ?_
            refine r_getR d_Ex_compareSizes_107 ok_4 (nle rfl) (nle rfl) rfl lf_Ex_21 q23 ?_
            refine r_iload_n (j := 3) d_Ex_compareSizes_110 rfl ?_
            obtain ⟨q26, hw⟩ := hw
            refine r_iald d_Ex_compareSizes_111 q24 q26 ?_
            refine r_isub d_Ex_compareSizes_112 ?_
            refine r_putI d_Ex_compareSizes_113 ok_4 (nle rfl) (nle rfl) rfl lf_Ex_51 rfl q23 ?_
            refine r_aload_n (j := 0) d_Ex_compareSizes_116 rfl ?_
            refine r_iload_n (j := 1) d_Ex_compareSizes_117 rfl ?_
            refine r_putI d_Ex_compareSizes_118 ok_4 (nle rfl) (nle rfl) rfl lf_Ex_97 rfl (kt eKI q23) ?_
            refine r_aload_n (j := 0) d_Ex_compareSizes_121 rfl ?_
            refine r_iload_n (j := 2) d_Ex_compareSizes_122 rfl ?_
            refine r_putI d_Ex_compareSizes_123 ok_4 (nle rfl) (nle rfl) rfl lf_Ex_100 rfl (kt (eKI.trans eKI) q23) ?_
            refine r_aload_n (j := 0) d_Ex_compareSizes_126 rfl ?_
            refine r_iload_n (j := 3) d_Ex_compareSizes_127 rfl ?_
            refine r_putI d_Ex_compareSizes_128 ok_4 (nle rfl) (nle rfl) rfl lf_Ex_61 rfl (kt (eKI.trans (eKI.trans eKI)) q23) ?_
            refine r_aload_n (j := 0) d_Ex_compareSizes_131 rfl ?_
            refine r_iload (j := 4) d_Ex_compareSizes_132 rfl ?_
            refine r_putI d_Ex_compareSizes_134 ok_4 (nle rfl) (nle rfl) rfl lf_Ex_54 rfl (kt (eKI.trans (eKI.trans (eKI.trans eKI))) q23) ?_
            refine r_iinc (j := 4) (ls2 := [(4, ai (v4 + (1 : Int32))), (0, ar v0), (1, ai v1), (2, ai v2), (3, ai v3)]) d_Ex_compareSizes_137 rfl (congrArg (HAdd.hAdd v4) kc_1) (nle rfl) rfl ?_
            refine r_goto d_Ex_compareSizes_140 ?_
            refine r_pick (ls2 := [(0, ar v0), (1, ai v1), (2, ai v2), (3, ai v3), (4, ai (v4 + (1 : Int32)))]) [1, 2, 3, 4, 0] rfl ?_
            exact ih _ _ hw
set_option maxRecDepth 100000 in
set_option maxHeartbeats 4000000 in
theorem s_Ex_compareSizes_L7 {d : Nat} (hd : 2 ≤ d + 1) {Q : Hp → Prop} {QQ : Option AV → Hp → Prop} (hQ : ∀ h9, Q h9 → QQ none h9) {v0 : Nat} {v1 : Int32} {v2 : Int32} : ∀ (n : Nat) (v3 : Int32) (h : Hp), w_Ex_compareSizes_L7 Q  v0 v1 v2 n v3 h → aW none m_Ex_compareSizes (d + 1) 7 [(0, ar v0), (1, ai v1), (2, ai v2), (3, ai v3)] [] h 0 0 QQ := by
  intro n
  induction n with
  | zero => intro v3 h hw; exact hw.elim
  | succ n ih =>
    intro v3 h hw
    unfold w_Ex_compareSizes_L7 at hw
    refine r_iload_n (j := 3) d_Ex_compareSizes_7 rfl ?_
    refine r_aload_n (j := 0) d_Ex_compareSizes_8 rfl ?_
    obtain ⟨q4, hw⟩ := hw
    refine r_getR d_Ex_compareSizes_9 ok_4 (nle rfl) (nle rfl) rfl lf_Ex_11 q4 ?_
    refine r_iload_n (j := 1) d_Ex_compareSizes_12 rfl ?_
    refine r_iconst d_Ex_compareSizes_13 kc_1 ?_
    refine r_iadd d_Ex_compareSizes_14 ?_
    obtain ⟨q5, hw⟩ := hw
    obtain ⟨q6, hw⟩ := hw
    refine r_iald d_Ex_compareSizes_15 q5 q6 ?_
    refine r_icmp_ge d_Ex_compareSizes_16 (fun w9 => ?_) (fun w9 => ?_)
    · replace hw := hw.1 w9
      exact r_return d_Ex_compareSizes_149.1 rfl (hQ _ hw)
    · replace hw := hw.2 w9
      refine r_aload_n (j := 0) d_Ex_compareSizes_19 rfl ?_
      refine r_iload_n (j := 3) d_Ex_compareSizes_20 rfl ?_
      refine r_callV (av := [ai v3]) (rest := []) (ci := 4) d_Ex_compareSizes_21 mk_Ex_isHeld ll_Ex_89 im_Ex_isHeld se_Ex_isHeld rfl (nle rfl) rfl rfl (nle rfl) q4 (s_Ex_isHeld (by omega) hw (fun r8 h7 hw => ?_))
      show aW none m_Ex_compareSizes (d + 1) 24 [(0, ar v0), (1, ai v1), (2, ai v2), (3, ai v3)] [ai (b2i r8)] h7 0 0 QQ
      refine r_if_ne d_Ex_compareSizes_24 (fun w9 => ?_) (fun w9 => ?_)
      · replace hw := hw.2 (fun g9 => w9 (b2i_0.mpr g9))
        refine r_aload_n (j := 0) d_Ex_compareSizes_30 rfl ?_
        obtain ⟨q9, hw⟩ := hw
        refine r_getR d_Ex_compareSizes_31 ok_4 (nle rfl) (nle rfl) rfl lf_Ex_11 q9 ?_
        refine r_iload_n (j := 2) d_Ex_compareSizes_34 rfl ?_
        obtain ⟨q10, hw⟩ := hw
        obtain ⟨q11, hw⟩ := hw
        refine r_iald d_Ex_compareSizes_35 q10 q11 ?_
        refine r_istore (ls2 := [(4, ai (gI h7 (gR h7 v0 1) (ix v2))), (0, ar v0), (1, ai v1), (2, ai v2), (3, ai v3)]) d_Ex_compareSizes_36 (nle rfl) rfl ?_
        obtain ⟨n27, hw⟩ := hw
        refine r_pick (ls2 := [(0, ar v0), (1, ai v1), (2, ai v2), (3, ai v3), (4, ai (gI h7 (gR h7 v0 1) (ix v2)))]) [1, 2, 3, 4, 0] rfl ?_
        exact s_Ex_compareSizes_L38 hd hQ ih n27 _ _ hw
      · replace hw := hw.1 (b2i_0.mp w9)
        refine r_goto d_Ex_compareSizes_27 ?_
        refine r_iinc (j := 3) (ls2 := [(3, ai (v3 + (1 : Int32))), (0, ar v0), (1, ai v1), (2, ai v2)]) d_Ex_compareSizes_143 rfl (congrArg (HAdd.hAdd v3) kc_1) (nle rfl) rfl ?_
        refine r_goto d_Ex_compareSizes_146 ?_
        refine r_pick (ls2 := [(0, ar v0), (1, ai v1), (2, ai v2), (3, ai (v3 + (1 : Int32)))]) [1, 2, 3, 0] rfl ?_
        exact ih _ _ hw
set_option maxRecDepth 100000 in
set_option maxHeartbeats 4000000 in
theorem s_Ex_compareSizes {d : Nat} (hd : 2 ≤ d) {v0 : Nat} {v1 : Int32} {v2 : Int32} {h : Hp} {Q : Hp → Prop} {QQ : Option AV → Hp → Prop} (hw : w_Ex_compareSizes v0 v1 v2 h Q) (hQ : ∀ h9, Q h9 → QQ none h9) : aCall m_Ex_compareSizes d [ar v0, ai v1, ai v2] h 0 0 QQ := by
  obtain ⟨d, rfl⟩ : ∃ d9, d = d9 + 1 := ⟨d - 1, by omega⟩
  refine aCall_in pl_Ex_compareSizes (nle rfl) ?_
  show aW none m_Ex_compareSizes (d + 1) 0 [(0, ar v0), (1, ai v1), (2, ai v2)] [] h 0 0 QQ
  unfold w_Ex_compareSizes at hw
  refine r_aload_n (j := 0) d_Ex_compareSizes_0 rfl ?_
  obtain ⟨q1, hw⟩ := hw
  refine r_getR d_Ex_compareSizes_1 ok_4 (nle rfl) (nle rfl) rfl lf_Ex_11 q1 ?_
  refine r_iload_n (j := 1) d_Ex_compareSizes_4 rfl ?_
  obtain ⟨q2, hw⟩ := hw
  obtain ⟨q3, hw⟩ := hw
  refine r_iald d_Ex_compareSizes_5 q2 q3 ?_
  refine r_istore_n (ls2 := [(3, ai (gI h (gR h v0 1) (ix v1))), (0, ar v0), (1, ai v1), (2, ai v2)]) d_Ex_compareSizes_6 (nle rfl) rfl ?_
  obtain ⟨n28, hw⟩ := hw
  refine r_pick (ls2 := [(0, ar v0), (1, ai v1), (2, ai v2), (3, ai (gI h (gR h v0 1) (ix v1)))]) [1, 2, 3, 0] rfl ?_
  exact s_Ex_compareSizes_L7 hd hQ  n28 _ _ hw
set_option maxRecDepth 100000 in
set_option maxHeartbeats 4000000 in
theorem s_Ex_findBest_L24 {d : Nat} (hd : 3 ≤ d + 1) {Q : Hp → Prop} {QQ : Option AV → Hp → Prop} (hQ : ∀ h9, Q h9 → QQ none h9) {v0 : Nat} {v1 : Int32} {v2 : Int32} {k17 : Int32 → Hp → Prop} (hk17 : ∀ v2 h9, k17 v2 h9 → aW none m_Ex_findBest (d + 1) 17 [(0, ar v0), (1, ai v1), (2, ai v2)] [] h9 0 0 QQ) : ∀ (n : Nat) (v3 : Int32) (h : Hp), w_Ex_findBest_L24 Q k17 v0 v1 v2 n v3 h → aW none m_Ex_findBest (d + 1) 24 [(0, ar v0), (1, ai v1), (2, ai v2), (3, ai v3)] [] h 0 0 QQ := by
  intro n
  induction n with
  | zero => intro v3 h hw; exact hw.elim
  | succ n ih =>
    intro v3 h hw
    unfold w_Ex_findBest_L24 at hw
    refine r_iload_n (j := 3) d_Ex_findBest_24 rfl ?_
    refine r_iload_n (j := 1) d_Ex_findBest_25 rfl ?_
    refine r_icmp_gt d_Ex_findBest_26 (fun w9 => ?_) (fun w9 => ?_)
    · replace hw := hw.1 w9
      refine r_iinc (j := 2) (ls2 := [(2, ai (v2 + (1 : Int32))), (0, ar v0), (1, ai v1), (3, ai v3)]) d_Ex_findBest_41 rfl (congrArg (HAdd.hAdd v2) kc_1) (nle rfl) rfl ?_
      refine r_goto d_Ex_findBest_44 ?_
      refine r_pick (ls2 := [(0, ar v0), (1, ai v1), (2, ai (v2 + (1 : Int32)))]) [1, 2, 0] rfl ?_
      exact hk17 _ _ hw
    · replace hw := hw.2 w9
      refine r_aload_n (j := 0) d_Ex_findBest_29 rfl ?_
      refine r_iload_n (j := 2) d_Ex_findBest_30 rfl ?_
      refine r_iload_n (j := 3) d_Ex_findBest_31 rfl ?_
      obtain ⟨q3, hw⟩ := hw
      refine r_callV (av := [ai v2, ai v3]) (rest := []) (ci := 4) d_Ex_findBest_32 mk_Ex_compareSizes ll_Ex_85 im_Ex_compareSizes se_Ex_compareSizes rfl (nle rfl) rfl rfl (nle rfl) q3 (s_Ex_compareSizes (by omega) hw (fun h2 hw => ?_))
      show aW none m_Ex_findBest (d + 1) 35 [(0, ar v0), (1, ai v1), (2, ai v2), (3, ai v3)] [] h2 0 0 QQ
      refine r_iinc (j := 3) (ls2 := [(3, ai (v3 + (1 : Int32))), (0, ar v0), (1, ai v1), (2, ai v2)]) d_Ex_findBest_35 rfl (congrArg (HAdd.hAdd v3) kc_1) (nle rfl) rfl ?_
      refine r_goto d_Ex_findBest_38 ?_
      refine r_pick (ls2 := [(0, ar v0), (1, ai v1), (2, ai v2), (3, ai (v3 + (1 : Int32)))]) [1, 2, 3, 0] rfl ?_
      exact ih _ _ hw
set_option maxRecDepth 100000 in
set_option maxHeartbeats 4000000 in
theorem s_Ex_findBest_L17 {d : Nat} (hd : 3 ≤ d + 1) {Q : Hp → Prop} {QQ : Option AV → Hp → Prop} (hQ : ∀ h9, Q h9 → QQ none h9) {v0 : Nat} {v1 : Int32} : ∀ (n : Nat) (v2 : Int32) (h : Hp), w_Ex_findBest_L17 Q  v0 v1 n v2 h → aW none m_Ex_findBest (d + 1) 17 [(0, ar v0), (1, ai v1), (2, ai v2)] [] h 0 0 QQ := by
  intro n
  induction n with
  | zero => intro v2 h hw; exact hw.elim
  | succ n ih =>
    intro v2 h hw
    unfold w_Ex_findBest_L17 at hw
    refine r_iload_n (j := 2) d_Ex_findBest_17 rfl ?_
    refine r_iload_n (j := 1) d_Ex_findBest_18 rfl ?_
    refine r_icmp_gt d_Ex_findBest_19 (fun w9 => ?_) (fun w9 => ?_)
    · replace hw := hw.1 w9
      exact r_return d_Ex_findBest_47.1 rfl (hQ _ hw)
    · replace hw := hw.2 w9
      refine r_iconst d_Ex_findBest_22 kc_0 ?_
      refine r_istore_n (ls2 := [(3, ai (0 : Int32)), (0, ar v0), (1, ai v1), (2, ai v2)]) d_Ex_findBest_23 (nle rfl) rfl ?_
      obtain ⟨n4, hw⟩ := hw
      refine r_pick (ls2 := [(0, ar v0), (1, ai v1), (2, ai v2), (3, ai (0 : Int32))]) [1, 2, 3, 0] rfl ?_
      exact s_Ex_findBest_L24 hd hQ ih n4 _ _ hw
set_option maxRecDepth 100000 in
set_option maxHeartbeats 4000000 in
theorem s_Ex_findBest {d : Nat} (hd : 3 ≤ d) {v0 : Nat} {v1 : Int32} {h : Hp} {Q : Hp → Prop} {QQ : Option AV → Hp → Prop} (hw : w_Ex_findBest v0 v1 h Q) (hQ : ∀ h9, Q h9 → QQ none h9) : aCall m_Ex_findBest d [ar v0, ai v1] h 0 0 QQ := by
  obtain ⟨d, rfl⟩ : ∃ d9, d = d9 + 1 := ⟨d - 1, by omega⟩
  refine aCall_in pl_Ex_findBest (nle rfl) ?_
  show aW none m_Ex_findBest (d + 1) 0 [(0, ar v0), (1, ai v1)] [] h 0 0 QQ
  unfold w_Ex_findBest at hw
  refine r_aload_n (j := 0) d_Ex_findBest_0 rfl ?_
  refine r_iconst d_Ex_findBest_1 kc_0 ?_
  obtain ⟨q1, hw⟩ := hw
  refine r_putI d_Ex_findBest_2 ok_4 (nle rfl) (nle rfl) rfl lf_Ex_51 rfl q1 ?_
  refine r_aload_n (j := 0) d_Ex_findBest_5 rfl ?_
  refine r_iconst d_Ex_findBest_6 kc_0 ?_
  refine r_putI d_Ex_findBest_7 ok_4 (nle rfl) (nle rfl) rfl lf_Ex_61 rfl (kt eKI q1) ?_
  refine r_aload_n (j := 0) d_Ex_findBest_10 rfl ?_
  refine r_iconst d_Ex_findBest_11 kc_0 ?_
  refine r_putI d_Ex_findBest_12 ok_4 (nle rfl) (nle rfl) rfl lf_Ex_54 rfl (kt (eKI.trans eKI) q1) ?_
  refine r_iconst d_Ex_findBest_15 kc_0 ?_
  refine r_istore_n (ls2 := [(2, ai (0 : Int32)), (0, ar v0), (1, ai v1)]) d_Ex_findBest_16 (nle rfl) rfl ?_
  obtain ⟨n5, hw⟩ := hw
  refine r_pick (ls2 := [(0, ar v0), (1, ai v1), (2, ai (0 : Int32))]) [1, 2, 0] rfl ?_
  exact s_Ex_findBest_L17 hd hQ  n5 _ _ hw
set_option maxRecDepth 100000 in
set_option maxHeartbeats 4000000 in
theorem s_Ex_keyOf {d : Nat} (hd : 1 ≤ d) {v0 : Nat} {v1 : Int32} {h : Hp} {Q : Int32 → Hp → Prop} {QQ : Option AV → Hp → Prop} (hw : w_Ex_keyOf v0 v1 h Q) (hQ : ∀ r9 h9, Q r9 h9 → QQ (some (ai r9)) h9) : aCall m_Ex_keyOf d [ar v0, ai v1] h 0 0 QQ := by
  obtain ⟨d, rfl⟩ : ∃ d9, d = d9 + 1 := ⟨d - 1, by omega⟩
  refine aCall_in pl_Ex_keyOf (nle rfl) ?_
  show aW none m_Ex_keyOf (d + 1) 0 [(0, ar v0), (1, ai v1)] [] h 0 0 QQ
  unfold w_Ex_keyOf at hw
  refine r_aload_n (j := 0) d_Ex_keyOf_0 rfl ?_
  obtain ⟨q1, hw⟩ := hw
  refine r_getR d_Ex_keyOf_1 ok_4 (nle rfl) (nle rfl) rfl lf_Ex_24 q1 ?_
  refine r_iload_n (j := 1) d_Ex_keyOf_4 rfl ?_
  refine r_iconst d_Ex_keyOf_5 kc_0 ?_
  obtain ⟨q4, hw⟩ := hw
  refine r_callV (av := [ai v1, ai (0 : Int32)]) (rest := []) (ci := 1) d_Ex_keyOf_6 mk_Co_numberOf ll_Ex_82 im_Co_numberOf se_Co_numberOf rfl (nle rfl) rfl rfl (nle rfl) q4 (s_Co_numberOf  hw (fun r3 h2 hw => ?_))
  show aW none m_Ex_keyOf (d + 1) 9 [(0, ar v0), (1, ai v1)] [ai r3] h2 0 0 QQ
  refine r_bipush d_Ex_keyOf_9 kb_64 ?_
  refine r_imul d_Ex_keyOf_11 ?_
  refine r_aload_n (j := 0) d_Ex_keyOf_12 rfl ?_
  obtain ⟨q5, hw⟩ := hw
  refine r_getR d_Ex_keyOf_13 ok_4 (nle rfl) (nle rfl) rfl lf_Ex_24 q5 ?_
  refine r_iload_n (j := 1) d_Ex_keyOf_16 rfl ?_
  refine r_iconst d_Ex_keyOf_17 kc_1 ?_
  obtain ⟨q8, hw⟩ := hw
  refine r_callV (av := [ai v1, ai (1 : Int32)]) (rest := [ai (r3 * (64 : Int32))]) (ci := 1) d_Ex_keyOf_18 mk_Co_numberOf ll_Ex_82 im_Co_numberOf se_Co_numberOf rfl (nle rfl) rfl rfl (nle rfl) q8 (s_Co_numberOf  hw (fun r7 h6 hw => ?_))
  show aW none m_Ex_keyOf (d + 1) 21 [(0, ar v0), (1, ai v1)] [ai r7, ai (r3 * (64 : Int32))] h6 0 0 QQ
  refine r_iadd d_Ex_keyOf_21 ?_
  refine r_bipush d_Ex_keyOf_22 kb_64 ?_
  refine r_imul d_Ex_keyOf_24 ?_
  refine r_aload_n (j := 0) d_Ex_keyOf_25 rfl ?_
  obtain ⟨q9, hw⟩ := hw
  refine r_getR d_Ex_keyOf_26 ok_4 (nle rfl) (nle rfl) rfl lf_Ex_24 q9 ?_
  refine r_iload_n (j := 1) d_Ex_keyOf_29 rfl ?_
  refine r_iconst d_Ex_keyOf_30 kc_2 ?_
  obtain ⟨q12, hw⟩ := hw
  refine r_callV (av := [ai v1, ai (2 : Int32)]) (rest := [ai (((r3 * (64 : Int32)) + r7) * (64 : Int32))]) (ci := 1) d_Ex_keyOf_31 mk_Co_numberOf ll_Ex_82 im_Co_numberOf se_Co_numberOf rfl (nle rfl) rfl rfl (nle rfl) q12 (s_Co_numberOf  hw (fun r11 h10 hw => ?_))
  show aW none m_Ex_keyOf (d + 1) 34 [(0, ar v0), (1, ai v1)] [ai r11, ai (((r3 * (64 : Int32)) + r7) * (64 : Int32))] h10 0 0 QQ
  refine r_iadd d_Ex_keyOf_34 ?_
  exact r_ireturn d_Ex_keyOf_35.1 rfl (hQ _ _ hw)
set_option maxRecDepth 100000 in
set_option maxHeartbeats 4000000 in
theorem s_Ex_extend_L19 {d : Nat} (hd : 2 ≤ d + 1) {Q : Int32 → Hp → Prop} {QQ : Option AV → Hp → Prop} (hQ : ∀ r9 h9, Q r9 h9 → QQ (some (ai r9)) h9) {v0 : Nat} {v1 : Int32} : ∀ (n : Nat) (v2 : Int32) (v4 : Int32) (h : Hp), w_Ex_extend_L19 Q  v0 v1 n v2 v4 h → aW none m_Ex_extend (d + 1) 19 [(0, ar v0), (1, ai v1), (2, ai v2), (4, ai v4)] [] h 0 0 QQ := by
  intro n
  induction n with
  | zero => intro v2 v4 h hw; exact hw.elim
  | succ n ih =>
    intro v2 v4 h hw
    unfold w_Ex_extend_L19 at hw
    refine r_iload (j := 3) d_Ex_extend_19 rfl ?_
    refine r_aload_n (j := 0) d_Ex_extend_21 rfl ?_
    obtain ⟨q6, hw⟩ := hw
    refine r_getR d_Ex_extend_22 ok_4 (nle rfl) (nle rfl) rfl lf_Ex_24 q6 ?_
    obtain ⟨q7, hw⟩ := hw
    refine r_getI d_Ex_extend_25 ok_1 (nle rfl) (nle rfl) rfl lf_Ex_72 q7 ?_
    refine r_icmp_ge d_Ex_extend_28 (fun w9 => ?_) (fun w9 => ?_)
    · replace hw := hw.1 w9
      refine r_iload_n (j := 2) d_Ex_extend_107 rfl ?_
      exact r_ireturn d_Ex_extend_108.1 rfl (hQ _ _ hw)
    · replace hw := hw.2 w9
      refine r_iload_n (j := 2) d_Ex_extend_31 rfl ?_
      refine r_sipush d_Ex_extend_32 ks_165 ?_
      refine r_icmp_ge d_Ex_extend_35 (fun w9 => ?_) (fun w9 => ?_)
      · replace hw := hw.1 w9
        refine r_iload_n (j := 2) d_Ex_extend_107 rfl ?_
        exact r_ireturn d_Ex_extend_108.1 rfl (hQ _ _ hw)
      · replace hw := hw.2 w9
        refine r_aload_n (j := 0) d_Ex_extend_38 rfl ?_
        refine r_getR d_Ex_extend_39 ok_4 (nle rfl) (nle rfl) rfl lf_Ex_15 q6 ?_
        refine r_iload_n (j := 2) d_Ex_extend_42 rfl ?_
        refine r_aload_n (j := 0) d_Ex_extend_43 rfl ?_
        refine r_getR d_Ex_extend_44 ok_4 (nle rfl) (nle rfl) rfl lf_Ex_15 q6 ?_
        refine r_iload_n (j := 1) d_Ex_extend_47 rfl ?_
        obtain ⟨q8, hw⟩ := hw
        obtain ⟨q9, hw⟩ := hw
        refine r_iald d_Ex_extend_48 q8 q9 ?_
        refine r_iconst d_Ex_extend_49 kc_4 ?_
        refine r_ishl d_Ex_extend_50 ?_
        refine r_iload (j := 3) d_Ex_extend_51 rfl ?_
        refine r_iconst d_Ex_extend_53 kc_1 ?_
        refine r_iadd d_Ex_extend_54 ?_
        refine r_ior d_Ex_extend_55 ?_
        obtain ⟨q10, hw⟩ := hw
        refine r_iast d_Ex_extend_56 q8 q10 ?_
        refine r_aload_n (j := 0) d_Ex_extend_57 rfl ?_
        refine r_getRb eRI d_Ex_extend_58 ok_4 (nle rfl) (nle rfl) rfl lf_Ex_18 (kt eKI q6) ?_
        refine r_iload_n (j := 2) d_Ex_extend_61 rfl ?_
        refine r_aload_n (j := 0) d_Ex_extend_62 rfl ?_
        refine r_getRb eRI d_Ex_extend_63 ok_4 (nle rfl) (nle rfl) rfl lf_Ex_18 (kt eKI q6) ?_
        refine r_iload_n (j := 1) d_Ex_extend_66 rfl ?_
        obtain ⟨q11, hw⟩ := hw
        obtain ⟨q12, hw⟩ := hw
        refine r_iald d_Ex_extend_67 (kt eKI q11) (nt eNI q12) ?_
        refine r_aload_n (j := 0) d_Ex_extend_68 rfl ?_
        refine r_iload (j := 3) d_Ex_extend_69 rfl ?_
        refine r_callV (av := [ai v4]) (rest := [ai (gI (sI h (gR h v0 2) (ix v2) ((jshl (gI h (gR h v0 2) (ix v1)) (4 : Int32)) ||| (v4 + (1 : Int32)))) (gR h v0 3) (ix v1)), ai v2, ar (gR h v0 3)]) (ci := 4) d_Ex_extend_71 mk_Ex_keyOf ll_Ex_75 im_Ex_keyOf se_Ex_keyOf rfl (nle rfl) rfl rfl (nle rfl) (kt eKI q6) (s_Ex_keyOf (by omega) hw (fun r14 h13 hw => ?_))
        show aW none m_Ex_extend (d + 1) 74 [(0, ar v0), (1, ai v1), (2, ai v2), (4, ai v4)] [ai r14, ai (gI (sI h (gR h v0 2) (ix v2) ((jshl (gI h (gR h v0 2) (ix v1)) (4 : Int32)) ||| (v4 + (1 : Int32)))) (gR h v0 3) (ix v1)), ai v2, ar (gR h v0 3)] h13 0 0 QQ
        refine r_iadd d_Ex_extend_74 ?_
        obtain ⟨q15, hw⟩ := hw
        obtain ⟨q16, hw⟩ := hw
        refine r_iast d_Ex_extend_75 q15 q16 ?_
        refine r_aload_n (j := 0) d_Ex_extend_76 rfl ?_
        obtain ⟨q17, hw⟩ := hw
        refine r_getRb eRI d_Ex_extend_77 ok_4 (nle rfl) (nle rfl) rfl lf_Ex_21 (kt eKI q17) ?_
        refine r_iload_n (j := 2) d_Ex_extend_80 rfl ?_
        refine r_aload_n (j := 0) d_Ex_extend_81 rfl ?_
        refine r_getRb eRI d_Ex_extend_82 ok_4 (nle rfl) (nle rfl) rfl lf_Ex_21 (kt eKI q17) ?_
        refine r_iload_n (j := 1) d_Ex_extend_85 rfl ?_
        obtain ⟨q18, hw⟩ := hw
        obtain ⟨q19, hw⟩ := hw
        refine r_iald d_Ex_extend_86 (kt eKI q18) (nt eNI q19) ?_
        refine r_aload_n (j := 0) d_Ex_extend_87 rfl ?_
        refine r_getRb eRI d_Ex_extend_88 ok_4 (nle rfl) (nle rfl) rfl lf_Ex_24 (kt eKI q17) ?_
        refine r_iload (j := 3) d_Ex_extend_91 rfl ?_
        obtain ⟨q22, hw⟩ := hw
        refine r_callV (av := [ai v4]) (rest := [ai (gI (sI h13 (gR h v0 3) (ix v2) ((gI (sI h (gR h v0 2) (ix v2) ((jshl (gI h (gR h v0 2) (ix v1)) (4 : Int32)) ||| (v4 + (1 : Int32)))) (gR h v0 3) (ix v1)) + r14)) (gR h13 v0 4) (ix v1)), ai v2, ar (gR h13 v0 4)]) (ci := 1) d_Ex_extend_93 mk_Co_gainOf ll_Ex_79 im_Co_gainOf se_Co_gainOf rfl (nle rfl) rfl rfl (nle rfl) (kt eKI q22) (s_Co_gainOf  hw (fun r21 h20 hw => ?_))
        show aW none m_Ex_extend (d + 1) 96 [(0, ar v0), (1, ai v1), (2, ai v2), (4, ai v4)] [ai r21, ai (gI (sI h13 (gR h v0 3) (ix v2) ((gI (sI h (gR h v0 2) (ix v2) ((jshl (gI h (gR h v0 2) (ix v1)) (4 : Int32)) ||| (v4 + (1 : Int32)))) (gR h v0 3) (ix v1)) + r14)) (gR h13 v0 4) (ix v1)), ai v2, ar (gR h13 v0 4)] h20 0 0 QQ
        refine r_iadd d_Ex_extend_96 ?_
        obtain ⟨q23, hw⟩ := hw
        obtain ⟨q24, hw⟩ := hw
        refine r_iast d_Ex_extend_97 q23 q24 ?_
        refine r_iinc (j := 2) (ls2 := [(2, ai (v2 + (1 : Int32))), (0, ar v0), (1, ai v1), (4, ai v4)]) d_Ex_extend_98 rfl (congrArg (HAdd.hAdd v2) kc_1) (nle rfl) rfl ?_
        refine r_iinc (j := 3) (ls2 := [(4, ai (v4 + (1 : Int32))), (2, ai (v2 + (1 : Int32))), (0, ar v0), (1, ai v1)]) d_Ex_extend_101 rfl (congrArg (HAdd.hAdd v4) kc_1) (nle rfl) rfl ?_
        refine r_goto d_Ex_extend_104 ?_
        refine r_pick (ls2 := [(0, ar v0), (1, ai v1), (2, ai (v2 + (1 : Int32))), (4, ai (v4 + (1 : Int32)))]) [2, 3, 1, 0] rfl ?_
        exact ih _ _ _ hw
set_option maxRecDepth 100000 in
set_option maxHeartbeats 4000000 in
theorem s_Ex_extend {d : Nat} (hd : 2 ≤ d) {v0 : Nat} {v1 : Int32} {v2 : Int32} {h : Hp} {Q : Int32 → Hp → Prop} {QQ : Option AV → Hp → Prop} (hw : w_Ex_extend v0 v1 v2 h Q) (hQ : ∀ r9 h9, Q r9 h9 → QQ (some (ai r9)) h9) : aCall m_Ex_extend d [ar v0, ai v1, ai v2] h 0 0 QQ := by
  obtain ⟨d, rfl⟩ : ∃ d9, d = d9 + 1 := ⟨d - 1, by omega⟩
  refine aCall_in pl_Ex_extend (nle rfl) ?_
  show aW none m_Ex_extend (d + 1) 0 [(0, ar v0), (1, ai v1), (2, ai v2)] [] h 0 0 QQ
  unfold w_Ex_extend at hw
  refine r_aload_n (j := 0) d_Ex_extend_0 rfl ?_
  obtain ⟨q1, hw⟩ := hw
  refine r_getR d_Ex_extend_1 ok_4 (nle rfl) (nle rfl) rfl lf_Ex_15 q1 ?_
  refine r_iload_n (j := 1) d_Ex_extend_4 rfl ?_
  obtain ⟨q2, hw⟩ := hw
  obtain ⟨q3, hw⟩ := hw
  refine r_iald d_Ex_extend_5 q2 q3 ?_
  refine r_bipush d_Ex_extend_6 kb_15 ?_
  refine r_iand d_Ex_extend_8 ?_
  refine r_iconst d_Ex_extend_9 kc_1 ?_
  refine r_isub d_Ex_extend_10 ?_
  refine r_iconst d_Ex_extend_11 kc_0 ?_
  refine r_callS (av := [ai (((gI h (gR h v0 2) (ix v1)) &&& (15 : Int32)) - (1 : Int32)), ai (0 : Int32)]) (rest := []) d_Ex_extend_12 mk_JM_max ll_Ex_67 st_JM_max rfl rfl (nle rfl) (s_JM_max  hw (fun r5 h4 hw => ?_))
  show aW none m_Ex_extend (d + 1) 15 [(0, ar v0), (1, ai v1), (2, ai v2)] [ai r5] h4 0 0 QQ
  refine r_istore_n (ls2 := [(3, ai r5), (0, ar v0), (1, ai v1), (2, ai v2)]) d_Ex_extend_15 (nle rfl) rfl ?_
  refine r_iload_n (j := 0) d_Ex_extend_16 rfl ?_
  refine r_istore (ls2 := [(4, ai r5), (3, ai r5), (0, ar v0), (1, ai v1), (2, ai v2)]) d_Ex_extend_17 (nle rfl) rfl ?_
  obtain ⟨n25, hw⟩ := hw
  refine r_pick (ls2 := [(0, ar v0), (1, ai v1), (2, ai v2), (4, ai r5)]) [2, 3, 4, 0] rfl ?_
  exact s_Ex_extend_L19 hd hQ  n25 _ _ _ hw
set_option maxRecDepth 100000 in
set_option maxHeartbeats 4000000 in
theorem s_Ex_listPlans_L53 {d : Nat} (hd : 3 ≤ d + 1) {Q : Hp → Prop} {QQ : Option AV → Hp → Prop} (hQ : ∀ h9, Q h9 → QQ none h9) {v0 : Nat} {v2 : Int32} {k39 : Int32 → Int32 → Hp → Prop} (hk39 : ∀ v1 v2 h9, k39 v1 v2 h9 → aW none m_Ex_listPlans (d + 1) 39 [(0, ar v0), (1, ai v1), (2, ai v2)] [] h9 0 0 QQ) : ∀ (n : Nat) (v1 : Int32) (v3 : Int32) (h : Hp), w_Ex_listPlans_L53 Q k39 v0 v2 n v1 v3 h → aW none m_Ex_listPlans (d + 1) 53 [(0, ar v0), (1, ai v1), (2, ai v2), (3, ai v3)] [] h 0 0 QQ := by
  intro n
  induction n with
  | zero => intro v1 v3 h hw; exact hw.elim
  | succ n ih =>
    intro v1 v3 h hw
    unfold w_Ex_listPlans_L53 at hw
    refine r_iload_n (j := 3) d_Ex_listPlans_53 rfl ?_
    refine r_aload_n (j := 0) d_Ex_listPlans_54 rfl ?_
    obtain ⟨q14, hw⟩ := hw
    refine r_getR d_Ex_listPlans_55 ok_4 (nle rfl) (nle rfl) rfl lf_Ex_11 q14 ?_
    refine r_iload_n (j := 2) d_Ex_listPlans_58 rfl ?_
    obtain ⟨q15, hw⟩ := hw
    obtain ⟨q16, hw⟩ := hw
    refine r_iald d_Ex_listPlans_59 q15 q16 ?_
    refine r_icmp_ge d_Ex_listPlans_60 (fun w9 => ?_) (fun w9 => ?_)
    · replace hw := hw.1 w9
      refine r_aload_n (j := 0) d_Ex_listPlans_76 rfl ?_
      refine r_getR d_Ex_listPlans_77 ok_4 (nle rfl) (nle rfl) rfl lf_Ex_11 q14 ?_
      refine r_iload_n (j := 2) d_Ex_listPlans_80 rfl ?_
      refine r_iconst d_Ex_listPlans_81 kc_1 ?_
      refine r_iadd d_Ex_listPlans_82 ?_
      refine r_iload_n (j := 1) d_Ex_listPlans_83 rfl ?_
      obtain ⟨q17, hw⟩ := hw
      refine r_iast d_Ex_listPlans_84 q15 q17 ?_
      refine r_iinc (j := 2) (ls2 := [(2, ai (v2 + (1 : Int32))), (0, ar v0), (1, ai v1), (3, ai v3)]) d_Ex_listPlans_85 rfl (congrArg (HAdd.hAdd v2) kc_1) (nle rfl) rfl ?_
      refine r_goto d_Ex_listPlans_88 ?_
      refine r_pick (ls2 := [(0, ar v0), (1, ai v1), (2, ai (v2 + (1 : Int32)))]) [1, 2, 0] rfl ?_
      exact hk39 _ _ _ hw
    · replace hw := hw.2 w9
      refine r_aload_n (j := 0) d_Ex_listPlans_63 rfl ?_
      refine r_iload_n (j := 3) d_Ex_listPlans_64 rfl ?_
      refine r_iload_n (j := 1) d_Ex_listPlans_65 rfl ?_
      refine r_callV (av := [ai v3, ai v1]) (rest := []) (ci := 4) d_Ex_listPlans_66 mk_Ex_extend ll_Ex_64 im_Ex_extend se_Ex_extend rfl (nle rfl) rfl rfl (nle rfl) q14 (s_Ex_extend (by omega) hw (fun r19 h18 hw => ?_))
      show aW none m_Ex_listPlans (d + 1) 69 [(0, ar v0), (1, ai v1), (2, ai v2), (3, ai v3)] [ai r19] h18 0 0 QQ
      refine r_istore_n (ls2 := [(1, ai r19), (0, ar v0), (2, ai v2), (3, ai v3)]) d_Ex_listPlans_69 (nle rfl) rfl ?_
      refine r_iinc (j := 3) (ls2 := [(3, ai (v3 + (1 : Int32))), (1, ai r19), (0, ar v0), (2, ai v2)]) d_Ex_listPlans_70 rfl (congrArg (HAdd.hAdd v3) kc_1) (nle rfl) rfl ?_
      refine r_goto d_Ex_listPlans_73 ?_
      refine r_pick (ls2 := [(0, ar v0), (1, ai r19), (2, ai v2), (3, ai (v3 + (1 : Int32)))]) [2, 1, 3, 0] rfl ?_
      exact ih _ _ _ hw
set_option maxRecDepth 100000 in
set_option maxHeartbeats 4000000 in
theorem s_Ex_listPlans_L39 {d : Nat} (hd : 3 ≤ d + 1) {Q : Hp → Prop} {QQ : Option AV → Hp → Prop} (hQ : ∀ h9, Q h9 → QQ none h9) {v0 : Nat} : ∀ (n : Nat) (v1 : Int32) (v2 : Int32) (h : Hp), w_Ex_listPlans_L39 Q  v0 n v1 v2 h → aW none m_Ex_listPlans (d + 1) 39 [(0, ar v0), (1, ai v1), (2, ai v2)] [] h 0 0 QQ := by
  intro n
  induction n with
  | zero => intro v1 v2 h hw; exact hw.elim
  | succ n ih =>
    intro v1 v2 h hw
    unfold w_Ex_listPlans_L39 at hw
    refine r_iload_n (j := 2) d_Ex_listPlans_39 rfl ?_
    refine r_iconst d_Ex_listPlans_40 kc_3 ?_
    refine r_icmp_gt d_Ex_listPlans_41 (fun w9 => ?_) (fun w9 => ?_)
    · replace hw := hw.1 w9
      exact r_return d_Ex_listPlans_91.1 rfl (hQ _ hw)
    · replace hw := hw.2 w9
      refine r_aload_n (j := 0) d_Ex_listPlans_44 rfl ?_
      obtain ⟨q11, hw⟩ := hw
      refine r_getR d_Ex_listPlans_45 ok_4 (nle rfl) (nle rfl) rfl lf_Ex_11 q11 ?_
      refine r_iload_n (j := 2) d_Ex_listPlans_48 rfl ?_
      refine r_iconst d_Ex_listPlans_49 kc_1 ?_
      refine r_isub d_Ex_listPlans_50 ?_
      obtain ⟨q12, hw⟩ := hw
      obtain ⟨q13, hw⟩ := hw
      refine r_iald d_Ex_listPlans_51 q12 q13 ?_
      refine r_istore_n (ls2 := [(3, ai (gI h (gR h v0 1) (ix (v2 - (1 : Int32))))), (0, ar v0), (1, ai v1), (2, ai v2)]) d_Ex_listPlans_52 (nle rfl) rfl ?_
      obtain ⟨n20, hw⟩ := hw
      refine r_pick (ls2 := [(0, ar v0), (1, ai v1), (2, ai v2), (3, ai (gI h (gR h v0 1) (ix (v2 - (1 : Int32)))))]) [1, 2, 3, 0] rfl ?_
      exact s_Ex_listPlans_L53 hd hQ ih n20 _ _ _ hw
set_option maxRecDepth 100000 in
set_option maxHeartbeats 4000000 in
theorem s_Ex_listPlans {d : Nat} (hd : 3 ≤ d) {v0 : Nat} {h : Hp} {Q : Hp → Prop} {QQ : Option AV → Hp → Prop} (hw : w_Ex_listPlans v0 h Q) (hQ : ∀ h9, Q h9 → QQ none h9) : aCall m_Ex_listPlans d [ar v0] h 0 0 QQ := by
  obtain ⟨d, rfl⟩ : ∃ d9, d = d9 + 1 := ⟨d - 1, by omega⟩
  refine aCall_in pl_Ex_listPlans (nle rfl) ?_
  show aW none m_Ex_listPlans (d + 1) 0 [(0, ar v0)] [] h 0 0 QQ
  unfold w_Ex_listPlans at hw
  refine r_aload_n (j := 0) d_Ex_listPlans_0 rfl ?_
  obtain ⟨q1, hw⟩ := hw
  refine r_getR d_Ex_listPlans_1 ok_4 (nle rfl) (nle rfl) rfl lf_Ex_15 q1 ?_
  refine r_iconst d_Ex_listPlans_4 kc_0 ?_
  refine r_iconst d_Ex_listPlans_5 kc_0 ?_
  obtain ⟨q2, hw⟩ := hw
  obtain ⟨q3, hw⟩ := hw
  refine r_iast d_Ex_listPlans_6 q2 q3 ?_
  refine r_aload_n (j := 0) d_Ex_listPlans_7 rfl ?_
  refine r_getRb eRI d_Ex_listPlans_8 ok_4 (nle rfl) (nle rfl) rfl lf_Ex_18 (kt eKI q1) ?_
  refine r_iconst d_Ex_listPlans_11 kc_0 ?_
  refine r_iconst d_Ex_listPlans_12 kc_0 ?_
  obtain ⟨q4, hw⟩ := hw
  obtain ⟨q5, hw⟩ := hw
  refine r_iast d_Ex_listPlans_13 (kt eKI q4) (nt eNI q5) ?_
  refine r_aload_n (j := 0) d_Ex_listPlans_14 rfl ?_
  refine r_getRb (eRI.trans eRI) d_Ex_listPlans_15 ok_4 (nle rfl) (nle rfl) rfl lf_Ex_21 (kt (eKI.trans eKI) q1) ?_
  refine r_iconst d_Ex_listPlans_18 kc_0 ?_
  refine r_iconst d_Ex_listPlans_19 kc_0 ?_
  obtain ⟨q6, hw⟩ := hw
  obtain ⟨q7, hw⟩ := hw
  refine r_iast d_Ex_listPlans_20 (kt (eKI.trans eKI) q6) (nt (eNI.trans eNI) q7) ?_
  refine r_aload_n (j := 0) d_Ex_listPlans_21 rfl ?_
  refine r_getRb (eRI.trans (eRI.trans eRI)) d_Ex_listPlans_22 ok_4 (nle rfl) (nle rfl) rfl lf_Ex_11 (kt (eKI.trans (eKI.trans eKI)) q1) ?_
  refine r_iconst d_Ex_listPlans_25 kc_0 ?_
  refine r_iconst d_Ex_listPlans_26 kc_0 ?_
  obtain ⟨q8, hw⟩ := hw
  obtain ⟨q9, hw⟩ := hw
  refine r_iast d_Ex_listPlans_27 (kt (eKI.trans (eKI.trans eKI)) q8) (nt (eNI.trans (eNI.trans eNI)) q9) ?_
  refine r_aload_n (j := 0) d_Ex_listPlans_28 rfl ?_
  refine r_getRb (eRI.trans (eRI.trans (eRI.trans eRI))) d_Ex_listPlans_29 ok_4 (nle rfl) (nle rfl) rfl lf_Ex_11 (kt (eKI.trans (eKI.trans (eKI.trans eKI))) q1) ?_
  refine r_iconst d_Ex_listPlans_32 kc_1 ?_
  refine r_iconst d_Ex_listPlans_33 kc_1 ?_
  obtain ⟨q10, hw⟩ := hw
  refine r_iast d_Ex_listPlans_34 (kt (eKI.trans (eKI.trans (eKI.trans eKI))) q8) (nt (eNI.trans (eNI.trans (eNI.trans eNI))) q10) ?_
  refine r_iconst d_Ex_listPlans_35 kc_1 ?_
  refine r_istore_n (ls2 := [(1, ai (1 : Int32)), (0, ar v0)]) d_Ex_listPlans_36 (nle rfl) rfl ?_
  refine r_iconst d_Ex_listPlans_37 kc_1 ?_
  refine r_istore_n (ls2 := [(2, ai (1 : Int32)), (1, ai (1 : Int32)), (0, ar v0)]) d_Ex_listPlans_38 (nle rfl) rfl ?_
  obtain ⟨n21, hw⟩ := hw
  refine r_pick (ls2 := [(0, ar v0), (1, ai (1 : Int32)), (2, ai (1 : Int32))]) [2, 1, 0] rfl ?_
  exact s_Ex_listPlans_L39 hd hQ  n21 _ _ _ hw
set_option maxRecDepth 100000 in
set_option maxHeartbeats 4000000 in
theorem s_Ex_find_B71 {d : Nat} (hd : 4 ≤ d + 1) {Q : Bool → Hp → Prop} {QQ : Option AV → Hp → Prop} (hQ : ∀ r9 h9, Q r9 h9 → QQ (some (ai (b2i r9))) h9) {v0 : Nat} {h : Hp} (hw : w_Ex_find_B71 Q  v0 h) : aW none m_Ex_find (d + 1) 71 [(0, ar v0)] [] h 0 0 QQ := by
  unfold w_Ex_find_B71 at hw
  refine r_aload_n (j := 0) d_Ex_find_71 rfl ?_
  obtain ⟨q7, hw⟩ := hw
  refine r_getI d_Ex_find_72 ok_4 (nle rfl) (nle rfl) rfl lf_Ex_51 q7 ?_
  refine r_if_le d_Ex_find_75 (fun w9 => ?_) (fun w9 => ?_)
  · replace hw := hw.1 w9
    refine r_iconst d_Ex_find_82 kc_0 ?_
    exact r_zreturn d_Ex_find_83.1 rfl (Or.inl rfl) (hQ _ _ hw)
  · replace hw := hw.2 w9
    refine r_iconst d_Ex_find_78 kc_1 ?_
    refine r_goto d_Ex_find_79 ?_
    exact r_zreturn d_Ex_find_83.1 rfl (Or.inr rfl) (hQ _ _ hw)
set_option maxRecDepth 100000 in
set_option maxHeartbeats 4000000 in
theorem s_Ex_find_B41 {d : Nat} (hd : 4 ≤ d + 1) {Q : Bool → Hp → Prop} {QQ : Option AV → Hp → Prop} (hQ : ∀ r9 h9, Q r9 h9 → QQ (some (ai (b2i r9))) h9) {v0 : Nat} {v1 : Int32} {h : Hp} (hw : w_Ex_find_B41 Q  v0 v1 h) : aW none m_Ex_find (d + 1) 41 [(0, ar v0), (1, ai v1)] [] h 0 0 QQ := by
  unfold w_Ex_find_B41 at hw
  refine r_aload_n (j := 0) d_Ex_find_41 rfl ?_
  refine r_iconst d_Ex_find_42 kc_1 ?_
  obtain ⟨q2, hw⟩ := hw
  refine r_putZ d_Ex_find_43 ok_4 (nle rfl) (nle rfl) rfl lf_Ex_28 rfl q2 (Or.inr rfl) ?_
  refine r_aload_n (j := 0) d_Ex_find_46 rfl ?_
  refine r_aload_n (j := 0) d_Ex_find_47 rfl ?_
  refine r_getRb eRI d_Ex_find_48 ok_4 (nle rfl) (nle rfl) rfl lf_Ex_24 (kt eKI q2) ?_
  obtain ⟨q3, hw⟩ := hw
  refine r_getI d_Ex_find_51 ok_1 (nle rfl) (nle rfl) rfl lf_Ex_36 (kt eKI q3) ?_
  refine r_putI d_Ex_find_54 ok_4 (nle rfl) (nle rfl) rfl lf_Ex_32 rfl (kt eKI q2) ?_
  refine r_aload_n (j := 0) d_Ex_find_57 rfl ?_
  refine r_iload_n (j := 1) d_Ex_find_58 rfl ?_
  refine r_putI d_Ex_find_59 ok_4 (nle rfl) (nle rfl) rfl lf_Ex_41 rfl (kt (eKI.trans eKI) q2) ?_
  refine r_aload_n (j := 0) d_Ex_find_62 rfl ?_
  refine r_callV (av := []) (rest := []) (ci := 4) d_Ex_find_63 mk_Ex_listPlans ll_Ex_44 im_Ex_listPlans se_Ex_listPlans rfl (nle rfl) rfl rfl (nle rfl) (kt (eKI.trans (eKI.trans eKI)) q2) (s_Ex_listPlans (by omega) hw (fun h4 hw => ?_))
  show aW none m_Ex_find (d + 1) 66 [(0, ar v0), (1, ai v1)] [] h4 0 0 QQ
  refine r_aload_n (j := 0) d_Ex_find_66 rfl ?_
  refine r_iload_n (j := 1) d_Ex_find_67 rfl ?_
  obtain ⟨q6, hw⟩ := hw
  refine r_callV (av := [ai v1]) (rest := []) (ci := 4) d_Ex_find_68 mk_Ex_findBest ll_Ex_47 im_Ex_findBest se_Ex_findBest rfl (nle rfl) rfl rfl (nle rfl) q6 (s_Ex_findBest (by omega) hw (fun h5 hw => ?_))
  show aW none m_Ex_find (d + 1) 71 [(0, ar v0), (1, ai v1)] [] h5 0 0 QQ
  refine r_pick (ls2 := [(0, ar v0)]) [0] rfl ?_
  exact s_Ex_find_B71 hd hQ  hw
set_option maxRecDepth 100000 in
set_option maxHeartbeats 4000000 in
theorem s_Ex_find {d : Nat} (hd : 4 ≤ d) {v0 : Nat} {v1 : Int32} {h : Hp} {Q : Bool → Hp → Prop} {QQ : Option AV → Hp → Prop} (hw : w_Ex_find v0 v1 h Q) (hQ : ∀ r9 h9, Q r9 h9 → QQ (some (ai (b2i r9))) h9) : aCall m_Ex_find d [ar v0, ai v1] h 0 0 QQ := by
  obtain ⟨d, rfl⟩ : ∃ d9, d = d9 + 1 := ⟨d - 1, by omega⟩
  refine aCall_in pl_Ex_find (nle rfl) ?_
  show aW none m_Ex_find (d + 1) 0 [(0, ar v0), (1, ai v1)] [] h 0 0 QQ
  unfold w_Ex_find at hw
  refine r_iload_n (j := 1) d_Ex_find_0 rfl ?_
  refine r_iconst d_Ex_find_1 kc_1 ?_
  refine r_icmp_lt d_Ex_find_2 (fun w9 => ?_) (fun w9 => ?_)
  · replace hw := hw.1 w9
    refine r_iconst d_Ex_find_10 kc_0 ?_
    exact r_zreturn d_Ex_find_11.1 rfl (Or.inl rfl) (hQ _ _ hw)
  · replace hw := hw.2 w9
    refine r_iload_n (j := 1) d_Ex_find_5 rfl ?_
    refine r_iconst d_Ex_find_6 kc_3 ?_
    refine r_icmp_le d_Ex_find_7 (fun w9 => ?_) (fun w9 => ?_)
    · replace hw := hw.1 w9
      refine r_aload_n (j := 0) d_Ex_find_12 rfl ?_
      obtain ⟨q1, hw⟩ := hw
      refine r_getI d_Ex_find_13 ok_4 (nle rfl) (nle rfl) rfl lf_Ex_28 q1 ?_
      refine r_if_eq d_Ex_find_16 (fun w9 => ?_) (fun w9 => ?_)
      · replace hw := hw.1 w9
        exact s_Ex_find_B41 hd hQ  hw
      · replace hw := hw.2 w9
        refine r_aload_n (j := 0) d_Ex_find_19 rfl ?_
        refine r_getI d_Ex_find_20 ok_4 (nle rfl) (nle rfl) rfl lf_Ex_32 q1 ?_
        refine r_aload_n (j := 0) d_Ex_find_23 rfl ?_
        refine r_getR d_Ex_find_24 ok_4 (nle rfl) (nle rfl) rfl lf_Ex_24 q1 ?_
        obtain ⟨q8, hw⟩ := hw
        refine r_getI d_Ex_find_27 ok_1 (nle rfl) (nle rfl) rfl lf_Ex_36 q8 ?_
        refine r_icmp_ne d_Ex_find_30 (fun w9 => ?_) (fun w9 => ?_)
        · replace hw := hw.2 w9
          exact s_Ex_find_B41 hd hQ  hw
        · replace hw := hw.1 w9
          refine r_aload_n (j := 0) d_Ex_find_33 rfl ?_
          refine r_getI d_Ex_find_34 ok_4 (nle rfl) (nle rfl) rfl lf_Ex_41 q1 ?_
          refine r_iload_n (j := 1) d_Ex_find_37 rfl ?_
          refine r_icmp_eq d_Ex_find_38 (fun w9 => ?_) (fun w9 => ?_)
          · replace hw := hw.1 w9
            refine r_pick (ls2 := [(0, ar v0)]) [0] rfl ?_
            exact s_Ex_find_B71 hd hQ  hw
          · replace hw := hw.2 w9
            exact s_Ex_find_B41 hd hQ  hw
    · replace hw := hw.2 w9
      refine r_iconst d_Ex_find_10 kc_0 ?_
      exact r_zreturn d_Ex_find_11.1 rfl (Or.inl rfl) (hQ _ _ hw)
set_option maxRecDepth 100000 in
set_option maxHeartbeats 4000000 in
theorem s_Kn_init {d : Nat} (hd : 1 ≤ d) {v0 : Nat} {v1 : Nat} {v2 : Nat} {bc bs : Nat} {h : Hp} {Q : Hp → Prop} {QQ : Option AV → Hp → Prop} (hw : w_Kn_init bc bs v0 v1 v2 h Q) (hQ : ∀ h9, Q h9 → QQ none h9) : aCall m_Kn_init d [ar v0, ar v1, ar v2] h bc bs QQ := by
  obtain ⟨d, rfl⟩ : ∃ d9, d = d9 + 1 := ⟨d - 1, by omega⟩
  refine aCall_in pl_Kn_init (nle rfl) ?_
  show aW none m_Kn_init (d + 1) 0 [(0, ar v0), (1, ar v1), (2, ar v2)] [] h bc bs QQ
  unfold w_Kn_init at hw
  refine r_aload_n (j := 0) d_Kn_init_0 rfl ?_
  obtain ⟨q1, hw⟩ := hw
  refine r_objInit d_Kn_init_1 ll_Kn_5 oi_1 oi_2 (nle rfl) q1 ?_
  refine r_aload_n (j := 0) d_Kn_init_4 rfl ?_
  refine r_bipush d_Kn_init_5 kb_20 ?_
  obtain ⟨q2, hw⟩ := hw
  obtain ⟨q3, hw⟩ := hw
  obtain ⟨q4, hw⟩ := hw
  obtain ⟨b5, t6, u8, u9, u6, u7, hw⟩ := hw
  subst u8 u9
  refine r_newI d_Kn_init_7 ac_I u6 rfl u7 (refB_r q2 refB_n) (refL_r q2 (refL_r q4 (refL_r q3 refL_n))) ?_
  generalize e8 : nw h 20 (ix (20 : Int32)) = h7
  generalize e7 : gX h = a8
  replace hw := hw a8 h7 e7.symm e8.symm
  obtain ⟨q9, hw⟩ := hw
  obtain ⟨q10, hw⟩ := hw
  refine r_putFR d_Kn_init_9 ok_5 (nle rfl) (nle rfl) rfl lf_Kn_11 rfl rfl rfl q9 q10 ?_
  refine r_aload_n (j := 0) d_Kn_init_12 rfl ?_
  refine r_bipush d_Kn_init_13 kb_20 ?_
  obtain ⟨q11, hw⟩ := hw
  obtain ⟨q12, hw⟩ := hw
  obtain ⟨q13, hw⟩ := hw
  obtain ⟨b14, t15, u8, u9, u6, u7, hw⟩ := hw
  subst u8 u9
  refine r_newI d_Kn_init_15 ac_I u6 rfl u7 (refB_r (xt eXR q11) refB_n) (refL_r (xt eXR q11) (refL_r (xt eXR q13) (refL_r (xt eXR q12) refL_n))) ?_
  generalize e8 : nw (sR h7 v0 2 a8) 20 (ix (20 : Int32)) = h16
  generalize e7 : gX (sR h7 v0 2 a8) = a17
  replace hw := hw a17 h16 e7.symm e8.symm
  obtain ⟨q18, hw⟩ := hw
  obtain ⟨q19, hw⟩ := hw
  refine r_putFR d_Kn_init_17 ok_5 (nle rfl) (nle rfl) rfl lf_Kn_15 rfl rfl rfl q18 q19 ?_
  refine r_aload_n (j := 0) d_Kn_init_20 rfl ?_
  refine r_bipush d_Kn_init_21 kb_20 ?_
  obtain ⟨q20, hw⟩ := hw
  obtain ⟨q21, hw⟩ := hw
  obtain ⟨q22, hw⟩ := hw
  obtain ⟨b23, t24, u8, u9, u6, u7, hw⟩ := hw
  subst u8 u9
  refine r_newI d_Kn_init_23 ac_I u6 rfl u7 (refB_r (xt eXR q20) refB_n) (refL_r (xt eXR q20) (refL_r (xt eXR q22) (refL_r (xt eXR q21) refL_n))) ?_
  generalize e8 : nw (sR h16 v0 3 a17) 20 (ix (20 : Int32)) = h25
  generalize e7 : gX (sR h16 v0 3 a17) = a26
  replace hw := hw a26 h25 e7.symm e8.symm
  obtain ⟨q27, hw⟩ := hw
  obtain ⟨q28, hw⟩ := hw
  refine r_putFR d_Kn_init_25 ok_5 (nle rfl) (nle rfl) rfl lf_Kn_18 rfl rfl rfl q27 q28 ?_
  refine r_aload_n (j := 0) d_Kn_init_28 rfl ?_
  refine r_sipush d_Kn_init_29 ks_162 ?_
  obtain ⟨q29, hw⟩ := hw
  obtain ⟨q30, hw⟩ := hw
  obtain ⟨q31, hw⟩ := hw
  obtain ⟨b32, t33, u8, u9, u6, u7, hw⟩ := hw
  subst u8 u9
  refine r_newI d_Kn_init_32 ac_I u6 rfl u7 (refB_r (xt eXR q29) refB_n) (refL_r (xt eXR q29) (refL_r (xt eXR q31) (refL_r (xt eXR q30) refL_n))) ?_
  generalize e8 : nw (sR h25 v0 4 a26) 20 (ix (162 : Int32)) = h34
  generalize e7 : gX (sR h25 v0 4 a26) = a35
  replace hw := hw a35 h34 e7.symm e8.symm
  obtain ⟨q36, hw⟩ := hw
  obtain ⟨q37, hw⟩ := hw
  refine r_putFR d_Kn_init_34 ok_5 (nle rfl) (nle rfl) rfl lf_Kn_21 rfl rfl rfl q36 q37 ?_
  refine r_aload_n (j := 0) d_Kn_init_37 rfl ?_
  refine r_aload_n (j := 1) d_Kn_init_38 rfl ?_
  obtain ⟨q38, hw⟩ := hw
  refine r_putFR d_Kn_init_39 ok_5 (nle rfl) (nle rfl) rfl lf_Kn_24 rfl rfl rfl (kt eKR q36) (xt eXR q38) ?_
  refine r_aload_n (j := 0) d_Kn_init_42 rfl ?_
  refine r_aload_n (j := 2) d_Kn_init_43 rfl ?_
  obtain ⟨q39, hw⟩ := hw
  refine r_putFR d_Kn_init_44 ok_5 (nle rfl) (nle rfl) rfl lf_Kn_28 rfl rfl rfl (kt (eKR.trans eKR) q36) (xt (eXR.trans eXR) q39) ?_
  exact r_return d_Kn_init_47.1 rfl (hQ _ hw)
set_option maxRecDepth 100000 in
set_option maxHeartbeats 4000000 in
theorem s_Kn_forget {d : Nat} {v0 : Nat} {h : Hp} {Q : Hp → Prop} {QQ : Option AV → Hp → Prop} (hw : w_Kn_forget v0 h Q) (hQ : ∀ h9, Q h9 → QQ none h9) : aCall m_Kn_forget d [ar v0] h 0 0 QQ := by
  refine aCall_in pl_Kn_forget (nle rfl) ?_
  show aW none m_Kn_forget d 0 [(0, ar v0)] [] h 0 0 QQ
  unfold w_Kn_forget at hw
  refine r_aload_n (j := 0) d_Kn_forget_0 rfl ?_
  refine r_iconst d_Kn_forget_1 kc_0 ?_
  obtain ⟨q1, hw⟩ := hw
  refine r_putI d_Kn_forget_2 ok_5 (nle rfl) (nle rfl) rfl lf_Kn_32 rfl q1 ?_
  exact r_return d_Kn_forget_5.1 rfl (hQ _ hw)
set_option maxRecDepth 100000 in
set_option maxHeartbeats 4000000 in
theorem s_Ps_isOutOfReach_L2 {d : Nat} {Q : Bool → Hp → Prop} {QQ : Option AV → Hp → Prop} (hQ : ∀ r9 h9, Q r9 h9 → QQ (some (ai (b2i r9))) h9) {v0 : Nat} {v1 : Int32} {v2 : Int32} : ∀ (n : Nat) (v3 : Int32) (h : Hp), w_Ps_isOutOfReach_L2 Q  v0 v1 v2 n v3 h → aW none m_Ps_isOutOfReach d 2 [(0, ar v0), (1, ai v1), (2, ai v2), (3, ai v3)] [] h 0 0 QQ := by
  intro n
  induction n with
  | zero => intro v3 h hw; exact hw.elim
  | succ n ih =>
    intro v3 h hw
    unfold w_Ps_isOutOfReach_L2 at hw
    refine r_iload_n (j := 3) d_Ps_isOutOfReach_2 rfl ?_
    refine r_iconst d_Ps_isOutOfReach_3 kc_3 ?_
    refine r_icmp_ge d_Ps_isOutOfReach_4 (fun w9 => ?_) (fun w9 => ?_)
    · replace hw := hw.1 w9
      refine r_iconst d_Ps_isOutOfReach_58 kc_0 ?_
      exact r_zreturn d_Ps_isOutOfReach_59.1 rfl (Or.inl rfl) (hQ _ _ hw)
    · replace hw := hw.2 w9
      refine r_iload_n (j := 1) d_Ps_isOutOfReach_7 rfl ?_
      refine r_iconst d_Ps_isOutOfReach_8 kc_3 ?_
      refine r_imul d_Ps_isOutOfReach_9 ?_
      refine r_iload_n (j := 3) d_Ps_isOutOfReach_10 rfl ?_
      refine r_iadd d_Ps_isOutOfReach_11 ?_
      refine r_istore (ls2 := [(4, ai ((v1 * (3 : Int32)) + v3)), (0, ar v0), (1, ai v1), (2, ai v2), (3, ai v3)]) d_Ps_isOutOfReach_12 (nle rfl) rfl ?_
      refine r_aload_n (j := 1) d_Ps_isOutOfReach_14 rfl ?_
      obtain ⟨q1, hw⟩ := hw
      refine r_getR d_Ps_isOutOfReach_15 ok_7 (nle rfl) (nle rfl) rfl lf_Ps_9 q1 ?_
      refine r_iload_n (j := 4) d_Ps_isOutOfReach_18 rfl ?_
      obtain ⟨q2, hw⟩ := hw
      obtain ⟨q3, hw⟩ := hw
      refine r_iald d_Ps_isOutOfReach_19 q2 q3 ?_
      refine r_iload_n (j := 3) d_Ps_isOutOfReach_20 rfl ?_
      refine r_aload_n (j := 1) d_Ps_isOutOfReach_21 rfl ?_
      refine r_getR d_Ps_isOutOfReach_22 ok_7 (nle rfl) (nle rfl) rfl lf_Ps_24 q1 ?_
      refine r_iload (j := 0) d_Ps_isOutOfReach_25 rfl ?_
      obtain ⟨q4, hw⟩ := hw
      obtain ⟨q5, hw⟩ := hw
      refine r_iald d_Ps_isOutOfReach_27 q4 q5 ?_
      refine r_imul d_Ps_isOutOfReach_28 ?_
      refine r_icmp_lt d_Ps_isOutOfReach_29 (fun w9 => ?_) (fun w9 => ?_)
      · replace hw := hw.1 w9
        refine r_iconst d_Ps_isOutOfReach_50 kc_1 ?_
        exact r_zreturn d_Ps_isOutOfReach_51.1 rfl (Or.inr rfl) (hQ _ _ hw)
      · replace hw := hw.2 w9
        refine r_aload_n (j := 1) d_Ps_isOutOfReach_32 rfl ?_
        refine r_getR d_Ps_isOutOfReach_33 ok_7 (nle rfl) (nle rfl) rfl lf_Ps_9 q1 ?_
        refine r_iload_n (j := 4) d_Ps_isOutOfReach_36 rfl ?_
        refine r_iald d_Ps_isOutOfReach_37 q2 q3 ?_
        refine r_iload_n (j := 3) d_Ps_isOutOfReach_38 rfl ?_
        refine r_aload_n (j := 1) d_Ps_isOutOfReach_39 rfl ?_
        refine r_getR d_Ps_isOutOfReach_40 ok_7 (nle rfl) (nle rfl) rfl lf_Ps_27 q1 ?_
        refine r_iload (j := 0) d_Ps_isOutOfReach_43 rfl ?_
        obtain ⟨q6, hw⟩ := hw
        obtain ⟨q7, hw⟩ := hw
        refine r_iald d_Ps_isOutOfReach_45 q6 q7 ?_
        refine r_imul d_Ps_isOutOfReach_46 ?_
        refine r_icmp_le d_Ps_isOutOfReach_47 (fun w9 => ?_) (fun w9 => ?_)
        · replace hw := hw.1 w9
          refine r_iinc (j := 4) (ls2 := [(3, ai (v3 + (1 : Int32))), (4, ai ((v1 * (3 : Int32)) + v3)), (0, ar v0), (1, ai v1), (2, ai v2)]) d_Ps_isOutOfReach_52 rfl (congrArg (HAdd.hAdd v3) kc_1) (nle rfl) rfl ?_
          refine r_goto d_Ps_isOutOfReach_55 ?_
          refine r_pick (ls2 := [(0, ar v0), (1, ai v1), (2, ai v2), (3, ai (v3 + (1 : Int32)))]) [2, 3, 4, 0] rfl ?_
          exact ih _ _ hw
        · replace hw := hw.2 w9
          refine r_iconst d_Ps_isOutOfReach_50 kc_1 ?_
          exact r_zreturn d_Ps_isOutOfReach_51.1 rfl (Or.inr rfl) (hQ _ _ hw)
set_option maxRecDepth 100000 in
set_option maxHeartbeats 4000000 in
theorem s_Ps_isOutOfReach {d : Nat} {v0 : Nat} {v1 : Int32} {v2 : Int32} {h : Hp} {Q : Bool → Hp → Prop} {QQ : Option AV → Hp → Prop} (hw : w_Ps_isOutOfReach v0 v1 v2 h Q) (hQ : ∀ r9 h9, Q r9 h9 → QQ (some (ai (b2i r9))) h9) : aCall m_Ps_isOutOfReach d [ar v0, ai v1, ai v2] h 0 0 QQ := by
  refine aCall_in pl_Ps_isOutOfReach (nle rfl) ?_
  show aW none m_Ps_isOutOfReach d 0 [(0, ar v0), (1, ai v1), (2, ai v2)] [] h 0 0 QQ
  unfold w_Ps_isOutOfReach at hw
  refine r_iconst d_Ps_isOutOfReach_0 kc_0 ?_
  refine r_istore_n (ls2 := [(3, ai (0 : Int32)), (0, ar v0), (1, ai v1), (2, ai v2)]) d_Ps_isOutOfReach_1 (nle rfl) rfl ?_
  obtain ⟨n8, hw⟩ := hw
  refine r_pick (ls2 := [(0, ar v0), (1, ai v1), (2, ai v2), (3, ai (0 : Int32))]) [1, 2, 3, 0] rfl ?_
  exact s_Ps_isOutOfReach_L2 hQ  n8 _ _ hw
set_option maxRecDepth 100000 in
set_option maxHeartbeats 4000000 in
theorem s_Ps_shiftRest_L2 {d : Nat} {Q : Hp → Prop} {QQ : Option AV → Hp → Prop} (hQ : ∀ h9, Q h9 → QQ none h9) {v0 : Nat} {v1 : Int32} {v2 : Int32} : ∀ (n : Nat) (v3 : Int32) (h : Hp), w_Ps_shiftRest_L2 Q  v0 v1 v2 n v3 h → aW none m_Ps_shiftRest d 2 [(0, ar v0), (1, ai v1), (2, ai v2), (3, ai v3)] [] h 0 0 QQ := by
  intro n
  induction n with
  | zero => intro v3 h hw; exact hw.elim
  | succ n ih =>
    intro v3 h hw
    unfold w_Ps_shiftRest_L2 at hw
    refine r_iload_n (j := 3) d_Ps_shiftRest_2 rfl ?_
    refine r_iconst d_Ps_shiftRest_3 kc_3 ?_
    refine r_icmp_ge d_Ps_shiftRest_4 (fun w9 => ?_) (fun w9 => ?_)
    · replace hw := hw.1 w9
      exact r_return d_Ps_shiftRest_34.1 rfl (hQ _ hw)
    · replace hw := hw.2 w9
      refine r_aload_n (j := 0) d_Ps_shiftRest_7 rfl ?_
      obtain ⟨q1, hw⟩ := hw
      refine r_getR d_Ps_shiftRest_8 ok_7 (nle rfl) (nle rfl) rfl lf_Ps_9 q1 ?_
      refine r_iload_n (j := 3) d_Ps_shiftRest_11 rfl ?_
      refine r_dup2 d_Ps_shiftRest_12 rfl rfl ?_
      obtain ⟨q2, hw⟩ := hw
      obtain ⟨q3, hw⟩ := hw
      refine r_iald d_Ps_shiftRest_13 q2 q3 ?_
      refine r_iload_n (j := 2) d_Ps_shiftRest_14 rfl ?_
      refine r_aload_n (j := 0) d_Ps_shiftRest_15 rfl ?_
      refine r_getR d_Ps_shiftRest_16 ok_7 (nle rfl) (nle rfl) rfl lf_Ps_21 q1 ?_
      refine r_iload_n (j := 1) d_Ps_shiftRest_19 rfl ?_
      refine r_iconst d_Ps_shiftRest_20 kc_3 ?_
      refine r_imul d_Ps_shiftRest_21 ?_
      refine r_iload_n (j := 3) d_Ps_shiftRest_22 rfl ?_
      refine r_iadd d_Ps_shiftRest_23 ?_
      obtain ⟨q4, hw⟩ := hw
      obtain ⟨q5, hw⟩ := hw
      refine r_iald d_Ps_shiftRest_24 q4 q5 ?_
      refine r_imul d_Ps_shiftRest_25 ?_
      refine r_iadd d_Ps_shiftRest_26 ?_
      refine r_iast d_Ps_shiftRest_27 q2 q3 ?_
      refine r_iinc (j := 3) (ls2 := [(3, ai (v3 + (1 : Int32))), (0, ar v0), (1, ai v1), (2, ai v2)]) d_Ps_shiftRest_28 rfl (congrArg (HAdd.hAdd v3) kc_1) (nle rfl) rfl ?_
      refine r_goto d_Ps_shiftRest_31 ?_
      refine r_pick (ls2 := [(0, ar v0), (1, ai v1), (2, ai v2), (3, ai (v3 + (1 : Int32)))]) [1, 2, 3, 0] rfl ?_
      exact ih _ _ hw
set_option maxRecDepth 100000 in
set_option maxHeartbeats 4000000 in
theorem s_Ps_shiftRest {d : Nat} {v0 : Nat} {v1 : Int32} {v2 : Int32} {h : Hp} {Q : Hp → Prop} {QQ : Option AV → Hp → Prop} (hw : w_Ps_shiftRest v0 v1 v2 h Q) (hQ : ∀ h9, Q h9 → QQ none h9) : aCall m_Ps_shiftRest d [ar v0, ai v1, ai v2] h 0 0 QQ := by
  refine aCall_in pl_Ps_shiftRest (nle rfl) ?_
  show aW none m_Ps_shiftRest d 0 [(0, ar v0), (1, ai v1), (2, ai v2)] [] h 0 0 QQ
  unfold w_Ps_shiftRest at hw
  refine r_iconst d_Ps_shiftRest_0 kc_0 ?_
  refine r_istore_n (ls2 := [(3, ai (0 : Int32)), (0, ar v0), (1, ai v1), (2, ai v2)]) d_Ps_shiftRest_1 (nle rfl) rfl ?_
  obtain ⟨n6, hw⟩ := hw
  refine r_pick (ls2 := [(0, ar v0), (1, ai v1), (2, ai v2), (3, ai (0 : Int32))]) [1, 2, 3, 0] rfl ?_
  exact s_Ps_shiftRest_L2 hQ  n6 _ _ hw
set_option maxRecDepth 100000 in
set_option maxHeartbeats 4000000 in
theorem s_Ps_share_L23 {d : Nat} (hd : 6 ≤ d + 1) {wr : Nat → Int32 → Int32 → Int32 → Hp → (Hp → Prop) → Prop} {Q : Hp → Prop} {QQ : Option AV → Hp → Prop} (hwr : ∀ {a0 : Nat} {a1 a2 a3 : Int32} {h8 : Hp} {Q8 : Hp → Prop} {QQ8 : Option AV → Hp → Prop}, wr a0 a1 a2 a3 h8 Q8 → (∀ h9, Q8 h9 → QQ8 none h9) → aCall m_Ps_choose d [ar a0, ai a1, ai a2, ai a3] h8 0 0 QQ8) (hQ : ∀ h9, Q h9 → QQ none h9) {v0 : Nat} {v1 : Int32} {v2 : Int32} {v3 : Int32} {v4 : Int32} : ∀ (n : Nat) (v5 : Int32) (h : Hp), w_Ps_share_L23 wr Q  v0 v1 v2 v3 v4 n v5 h → aW none m_Ps_share (d + 1) 23 [(0, ar v0), (1, ai v1), (2, ai v2), (3, ai v3), (4, ai v4), (5, ai v5)] [] h 0 0 QQ := by
  intro n
  induction n with
  | zero => intro v5 h hw; exact hw.elim
  | succ n ih =>
    intro v5 h hw
    unfold w_Ps_share_L23 at hw
    refine r_iload (j := 5) d_Ps_share_23 rfl ?_
    refine r_iload (j := 4) d_Ps_share_25 rfl ?_
    refine r_icmp_lt d_Ps_share_27 (fun w9 => ?_) (fun w9 => ?_)
    · replace hw := hw.1 w9
      exact r_return d_Ps_share_94.1 rfl (hQ _ hw)
    · replace hw := hw.2 w9
      refine r_aload_n (j := 0) d_Ps_share_30 rfl ?_
      obtain ⟨q3, hw⟩ := hw
      refine r_getI d_Ps_share_31 ok_7 (nle rfl) (nle rfl) rfl lf_Ps_38 q3 ?_
      refine r_aload_n (j := 0) d_Ps_share_34 rfl ?_
      refine r_getI d_Ps_share_35 ok_7 (nle rfl) (nle rfl) rfl lf_Ps_34 q3 ?_
      refine r_icmp_ge d_Ps_share_38 (fun w9 => ?_) (fun w9 => ?_)
      · replace hw := hw.1 w9
        exact r_return d_Ps_share_94.1 rfl (hQ _ hw)
      · replace hw := hw.2 w9
        refine r_aload_n (j := 0) d_Ps_share_41 rfl ?_
        refine r_getR d_Ps_share_42 ok_7 (nle rfl) (nle rfl) rfl lf_Ps_15 q3 ?_
        refine r_iload_n (j := 1) d_Ps_share_45 rfl ?_
        refine r_iload (j := 5) d_Ps_share_46 rfl ?_
        obtain ⟨q4, hw⟩ := hw
        obtain ⟨q5, hw⟩ := hw
        refine r_iast d_Ps_share_48 q4 q5 ?_
        refine r_aload_n (j := 0) d_Ps_share_49 rfl ?_
        refine r_iload_n (j := 1) d_Ps_share_50 rfl ?_
        refine r_iload (j := 5) d_Ps_share_51 rfl ?_
        refine r_ineg d_Ps_share_53 ?_
        refine r_callV (av := [ai v1, ai (-v5)]) (rest := []) (ci := 7) d_Ps_share_54 mk_Ps_shiftRest ll_Ps_86 im_Ps_shiftRest se_Ps_shiftRest rfl (nle rfl) rfl rfl (nle rfl) (kt eKI q3) (s_Ps_shiftRest  hw (fun h6 hw => ?_))
        show aW none m_Ps_share (d + 1) 57 [(0, ar v0), (1, ai v1), (2, ai v2), (3, ai v3), (4, ai v4), (5, ai v5)] [] h6 0 0 QQ
        refine r_aload_n (j := 0) d_Ps_share_57 rfl ?_
        refine r_iload_n (j := 1) d_Ps_share_58 rfl ?_
        refine r_iconst d_Ps_share_59 kc_1 ?_
        refine r_iadd d_Ps_share_60 ?_
        refine r_iload_n (j := 2) d_Ps_share_61 rfl ?_
        refine r_iload (j := 5) d_Ps_share_62 rfl ?_
        refine r_isub d_Ps_share_64 ?_
        refine r_iload_n (j := 3) d_Ps_share_65 rfl ?_
        refine r_iload (j := 5) d_Ps_share_66 rfl ?_
        refine r_aload_n (j := 0) d_Ps_share_68 rfl ?_
        obtain ⟨q7, hw⟩ := hw
        refine r_getR d_Ps_share_69 ok_7 (nle rfl) (nle rfl) rfl lf_Ps_30 q7 ?_
        refine r_iload_n (j := 1) d_Ps_share_72 rfl ?_
        obtain ⟨q10, hw⟩ := hw
        refine r_callV (av := [ai v1]) (rest := [ai v5, ai v3, ai (v2 - v5), ai (v1 + (1 : Int32)), ar v0]) (ci := 1) d_Ps_share_73 mk_Co_gainOf ll_Ps_89 im_Co_gainOf se_Co_gainOf rfl (nle rfl) rfl rfl (nle rfl) q10 (s_Co_gainOf  hw (fun r9 h8 hw => ?_))
        show aW none m_Ps_share (d + 1) 76 [(0, ar v0), (1, ai v1), (2, ai v2), (3, ai v3), (4, ai v4), (5, ai v5)] [ai r9, ai v5, ai v3, ai (v2 - v5), ai (v1 + (1 : Int32)), ar v0] h8 0 0 QQ
        refine r_imul d_Ps_share_76 ?_
        refine r_iadd d_Ps_share_77 ?_
        obtain ⟨q12, hw⟩ := hw
        refine r_callV (av := [ai (v1 + (1 : Int32)), ai (v2 - v5), ai (v3 + (v5 * r9))]) (rest := []) (ci := 7) d_Ps_share_78 mk_Ps_choose ll_Ps_59 im_Ps_choose se_Ps_choose rfl (nle rfl) rfl rfl (nle rfl) q12 (hwr hw (fun h11 hw => ?_))
        show aW none m_Ps_share (d + 1) 81 [(0, ar v0), (1, ai v1), (2, ai v2), (3, ai v3), (4, ai v4), (5, ai v5)] [] h11 0 0 QQ
        refine r_aload_n (j := 0) d_Ps_share_81 rfl ?_
        refine r_iload_n (j := 1) d_Ps_share_82 rfl ?_
        refine r_iload (j := 5) d_Ps_share_83 rfl ?_
        obtain ⟨q14, hw⟩ := hw
        refine r_callV (av := [ai v1, ai v5]) (rest := []) (ci := 7) d_Ps_share_85 mk_Ps_shiftRest ll_Ps_86 im_Ps_shiftRest se_Ps_shiftRest rfl (nle rfl) rfl rfl (nle rfl) q14 (s_Ps_shiftRest  hw (fun h13 hw => ?_))
        show aW none m_Ps_share (d + 1) 88 [(0, ar v0), (1, ai v1), (2, ai v2), (3, ai v3), (4, ai v4), (5, ai v5)] [] h13 0 0 QQ
        refine r_iinc (j := 5) (ls2 := [(5, ai (v5 + (-1 : Int32))), (0, ar v0), (1, ai v1), (2, ai v2), (3, ai v3), (4, ai v4)]) d_Ps_share_88 rfl (congrArg (HAdd.hAdd v5) kc_m1) (nle rfl) rfl ?_
        refine r_goto d_Ps_share_91 ?_
        refine r_pick (ls2 := [(0, ar v0), (1, ai v1), (2, ai v2), (3, ai v3), (4, ai v4), (5, ai (v5 + (-1 : Int32)))]) [1, 2, 3, 4, 5, 0] rfl ?_
        exact ih _ _ hw
set_option maxRecDepth 100000 in
set_option maxHeartbeats 4000000 in
theorem s_Ps_share {d : Nat} (hd : 6 ≤ d + 1) {wr : Nat → Int32 → Int32 → Int32 → Hp → (Hp → Prop) → Prop} {v0 : Nat} {v1 : Int32} {v2 : Int32} {v3 : Int32} {h : Hp} {Q : Hp → Prop} {QQ : Option AV → Hp → Prop} (hwr : ∀ {a0 : Nat} {a1 a2 a3 : Int32} {h8 : Hp} {Q8 : Hp → Prop} {QQ8 : Option AV → Hp → Prop}, wr a0 a1 a2 a3 h8 Q8 → (∀ h9, Q8 h9 → QQ8 none h9) → aCall m_Ps_choose d [ar a0, ai a1, ai a2, ai a3] h8 0 0 QQ8) (hw : w_Ps_share wr v0 v1 v2 v3 h Q) (hQ : ∀ h9, Q h9 → QQ none h9) : aCall m_Ps_share (d + 1) [ar v0, ai v1, ai v2, ai v3] h 0 0 QQ := by
  refine aCall_in pl_Ps_share (nle rfl) ?_
  show aW none m_Ps_share (d + 1) 0 [(0, ar v0), (1, ai v1), (2, ai v2), (3, ai v3)] [] h 0 0 QQ
  unfold w_Ps_share at hw
  refine r_iload_n (j := 1) d_Ps_share_0 rfl ?_
  refine r_aload_n (j := 0) d_Ps_share_1 rfl ?_
  obtain ⟨q1, hw⟩ := hw
  refine r_getR d_Ps_share_2 ok_7 (nle rfl) (nle rfl) rfl lf_Ps_30 q1 ?_
  obtain ⟨q2, hw⟩ := hw
  refine r_getI d_Ps_share_5 ok_1 (nle rfl) (nle rfl) rfl lf_Ps_50 q2 ?_
  refine r_iconst d_Ps_share_8 kc_1 ?_
  refine r_isub d_Ps_share_9 ?_
  refine r_icmp_ne d_Ps_share_10 (fun w9 => ?_) (fun w9 => ?_)
  · replace hw := hw.2 w9
    refine r_iconst d_Ps_share_17 kc_0 ?_
    refine r_istore (ls2 := [(4, ai (0 : Int32)), (0, ar v0), (1, ai v1), (2, ai v2), (3, ai v3)]) d_Ps_share_18 (nle rfl) rfl ?_
    refine r_iload_n (j := 3) d_Ps_share_20 rfl ?_
    refine r_istore (ls2 := [(5, ai v2), (4, ai (0 : Int32)), (0, ar v0), (1, ai v1), (2, ai v2), (3, ai v3)]) d_Ps_share_21 (nle rfl) rfl ?_
    obtain ⟨n15, hw⟩ := hw
    refine r_pick (ls2 := [(0, ar v0), (1, ai v1), (2, ai v2), (3, ai v3), (4, ai (0 : Int32)), (5, ai v2)]) [2, 3, 4, 5, 1, 0] rfl ?_
    exact s_Ps_share_L23 hd hwr hQ  n15 _ _ hw
  · replace hw := hw.1 w9
    refine r_iload_n (j := 2) d_Ps_share_13 rfl ?_
    refine r_goto d_Ps_share_14 ?_
    refine r_istore (ls2 := [(4, ai v2), (0, ar v0), (1, ai v1), (2, ai v2), (3, ai v3)]) d_Ps_share_18 (nle rfl) rfl ?_
    refine r_iload_n (j := 3) d_Ps_share_20 rfl ?_
    refine r_istore (ls2 := [(5, ai v2), (4, ai v2), (0, ar v0), (1, ai v1), (2, ai v2), (3, ai v3)]) d_Ps_share_21 (nle rfl) rfl ?_
    obtain ⟨n16, hw⟩ := hw
    refine r_pick (ls2 := [(0, ar v0), (1, ai v1), (2, ai v2), (3, ai v3), (4, ai v2), (5, ai v2)]) [2, 3, 4, 5, 1, 0] rfl ?_
    exact s_Ps_share_L23 hd hwr hQ  n16 _ _ hw
set_option maxRecDepth 100000 in
set_option maxHeartbeats 4000000 in
theorem s_Ps_take_B26 {d : Nat} (hd : 1 ≤ d + 1) {Q : Hp → Prop} {QQ : Option AV → Hp → Prop} (hQ : ∀ h9, Q h9 → QQ none h9) {v0 : Nat} {v1 : Int32} {h : Hp} (hw : w_Ps_take_B26 Q  v0 v1 h) : aW none m_Ps_take (d + 1) 26 [(0, ar v0), (1, ai v1)] [] h 0 0 QQ := by
  unfold w_Ps_take_B26 at hw
  refine r_aload_n (j := 0) d_Ps_take_26 rfl ?_
  refine r_iload_n (j := 1) d_Ps_take_27 rfl ?_
  obtain ⟨q2, hw⟩ := hw
  refine r_putI d_Ps_take_28 ok_7 (nle rfl) (nle rfl) rfl lf_Ps_41 rfl q2 ?_
  refine r_aload_n (j := 0) d_Ps_take_31 rfl ?_
  refine r_getRb eRI d_Ps_take_32 ok_7 (nle rfl) (nle rfl) rfl lf_Ps_15 (kt eKI q2) ?_
  refine r_iconst d_Ps_take_35 kc_0 ?_
  refine r_aload_n (j := 0) d_Ps_take_36 rfl ?_
  refine r_getRb eRI d_Ps_take_37 ok_7 (nle rfl) (nle rfl) rfl lf_Ps_18 (kt eKI q2) ?_
  refine r_iconst d_Ps_take_40 kc_0 ?_
  refine r_bipush d_Ps_take_41 kb_8 ?_
  obtain ⟨q3, hw⟩ := hw
  obtain ⟨q4, hw⟩ := hw
  obtain ⟨q5, hw⟩ := hw
  obtain ⟨q6, hw⟩ := hw
  refine r_copy d_Ps_take_43 ll_Ps_44 cp_1 cp_2 cp_3 (nle rfl) (kt eKI q3) (kt eKI q4) (by decide) (by decide) (by decide) (mt eNI q5) (mt eNI q6) ?_
  exact r_return d_Ps_take_46.1 rfl (hQ _ hw)
set_option maxRecDepth 100000 in
set_option maxHeartbeats 4000000 in
theorem s_Ps_take {d : Nat} (hd : 1 ≤ d) {v0 : Nat} {v1 : Int32} {h : Hp} {Q : Hp → Prop} {QQ : Option AV → Hp → Prop} (hw : w_Ps_take v0 v1 h Q) (hQ : ∀ h9, Q h9 → QQ none h9) : aCall m_Ps_take d [ar v0, ai v1] h 0 0 QQ := by
  obtain ⟨d, rfl⟩ : ∃ d9, d = d9 + 1 := ⟨d - 1, by omega⟩
  refine aCall_in pl_Ps_take (nle rfl) ?_
  show aW none m_Ps_take (d + 1) 0 [(0, ar v0), (1, ai v1)] [] h 0 0 QQ
  unfold w_Ps_take at hw
  refine r_aload_n (j := 0) d_Ps_take_0 rfl ?_
  refine r_dup d_Ps_take_1 rfl ?_
  obtain ⟨q1, hw⟩ := hw
  refine r_getI d_Ps_take_2 ok_7 (nle rfl) (nle rfl) rfl lf_Ps_38 q1 ?_
  refine r_iconst d_Ps_take_5 kc_1 ?_
  refine r_iadd d_Ps_take_6 ?_
  refine r_putI d_Ps_take_7 ok_7 (nle rfl) (nle rfl) rfl lf_Ps_38 rfl q1 ?_
  refine r_aload_n (j := 0) d_Ps_take_10 rfl ?_
  refine r_getI d_Ps_take_11 ok_7 (nle rfl) (nle rfl) rfl lf_Ps_38 (kt eKI q1) ?_
  refine r_iconst d_Ps_take_14 kc_1 ?_
  refine r_icmp_eq d_Ps_take_15 (fun w9 => ?_) (fun w9 => ?_)
  · replace hw := hw.1 w9
    exact s_Ps_take_B26 hd hQ  hw
  · replace hw := hw.2 w9
    refine r_iload_n (j := 1) d_Ps_take_18 rfl ?_
    refine r_aload_n (j := 0) d_Ps_take_19 rfl ?_
    refine r_getI d_Ps_take_20 ok_7 (nle rfl) (nle rfl) rfl lf_Ps_41 (kt eKI q1) ?_
    refine r_icmp_le d_Ps_take_23 (fun w9 => ?_) (fun w9 => ?_)
    · replace hw := hw.1 w9
      exact r_return d_Ps_take_46.1 rfl (hQ _ hw)
    · replace hw := hw.2 w9
      exact s_Ps_take_B26 hd hQ  hw
