set_option maxRecDepth 100000 in
set_option maxHeartbeats 4000000 in
theorem s_M_laysDoubled_L99 {d : Nat} (hd : 3 ≤ d + 1) {Q : Hp → Prop} {QQ : Option AV → Hp → Prop} (hQ : ∀ h9, Q h9 → QQ none h9) {v0 : Nat} {v1 : Int32} {v2 : Int32} {v3 : Int32} {v5 : Int32} {k66 : Int32 → Hp → Prop} (hk66 : ∀ v3 h9, k66 v3 h9 → aW none m_M_laysDoubled (d + 1) 66 [(0, ar v0), (1, ai v1), (2, ai v2), (3, ai v3)] [] h9 0 0 QQ) : ∀ (n : Nat) (v6 : Int32) (h : Hp), w_M_laysDoubled_L99 Q k66 v0 v1 v2 v3 v5 n v6 h → aW none m_M_laysDoubled (d + 1) 99 [(0, ar v0), (1, ai v1), (2, ai v2), (3, ai v3), (5, ai v5), (6, ai v6)] [] h 0 0 QQ := by
  intro n
  induction n with
  | zero => intro v6 h hw; exact hw.elim
  | succ n ih =>
    intro v6 h hw
    unfold w_M_laysDoubled_L99 at hw
    refine r_iload (j := 5) d_M_laysDoubled_99 rfl ?_
    refine r_iload (j := 4) d_M_laysDoubled_101 rfl ?_
    refine r_icmp_ge d_M_laysDoubled_103 (fun w9 => ?_) (fun w9 => ?_)
    · replace hw := hw.1 w9
      refine r_iinc (j := 3) (ls2 := [(3, ai (v3 + (1 : Int32))), (0, ar v0), (1, ai v1), (2, ai v2), (5, ai v5), (6, ai v6)]) d_M_laysDoubled_192 rfl (congrArg (HAdd.hAdd v3) kc_1) (nle rfl) rfl ?_
      refine r_goto d_M_laysDoubled_195 ?_
      refine r_pick (ls2 := [(0, ar v0), (1, ai v1), (2, ai v2), (3, ai (v3 + (1 : Int32)))]) [1, 2, 3, 0] rfl ?_
      exact hk66 _ _ hw
    · replace hw := hw.2 w9
      refine r_iload (j := 5) d_M_laysDoubled_106 rfl ?_
      refine r_istore (ls2 := [(7, ai v6), (0, ar v0), (1, ai v1), (2, ai v2), (3, ai v3), (5, ai v5), (6, ai v6)]) d_M_laysDoubled_108 (nle rfl) rfl ?_
      obtain ⟨n24, hw⟩ := hw
      refine r_pick (ls2 := [(0, ar v0), (1, ai v1), (2, ai v2), (3, ai v3), (5, ai v5), (6, ai v6), (7, ai v6)]) [1, 2, 3, 4, 5, 6, 0] rfl ?_
      exact s_M_laysDoubled_L110 hd hQ hk66 ih n24 _ _ hw
set_option maxRecDepth 100000 in
set_option maxHeartbeats 4000000 in
theorem s_M_laysDoubled_L66 {d : Nat} (hd : 3 ≤ d + 1) {Q : Hp → Prop} {QQ : Option AV → Hp → Prop} (hQ : ∀ h9, Q h9 → QQ none h9) {v0 : Nat} {v1 : Int32} {v2 : Int32} : ∀ (n : Nat) (v3 : Int32) (h : Hp), w_M_laysDoubled_L66 Q  v0 v1 v2 n v3 h → aW none m_M_laysDoubled (d + 1) 66 [(0, ar v0), (1, ai v1), (2, ai v2), (3, ai v3)] [] h 0 0 QQ := by
  intro n
  induction n with
  | zero => intro v3 h hw; exact hw.elim
  | succ n ih =>
    intro v3 h hw
    unfold w_M_laysDoubled_L66 at hw
    refine r_iload_n (j := 3) d_M_laysDoubled_66 rfl ?_
    refine r_iload_n (j := 1) d_M_laysDoubled_67 rfl ?_
    refine r_icmp_gt d_M_laysDoubled_68 (fun w9 => ?_) (fun w9 => ?_)
    · replace hw := hw.1 w9
      refine r_aload_n (j := 0) d_M_laysDoubled_198 rfl ?_
      obtain ⟨q8, hw⟩ := hw
      refine r_getR d_M_laysDoubled_199 ok_12 (nle rfl) (nle rfl) rfl lf_M_71 q8 ?_
      refine r_iload_n (j := 1) d_M_laysDoubled_202 rfl ?_
      refine r_iconst d_M_laysDoubled_203 kc_1 ?_
      refine r_iadd d_M_laysDoubled_204 ?_
      refine r_aload_n (j := 0) d_M_laysDoubled_205 rfl ?_
      refine r_getI d_M_laysDoubled_206 ok_12 (nle rfl) (nle rfl) rfl lf_M_421 q8 ?_
      obtain ⟨q9, hw⟩ := hw
      obtain ⟨q10, hw⟩ := hw
      refine r_iast d_M_laysDoubled_209 q9 q10 ?_
      exact r_return d_M_laysDoubled_210.1 rfl (hQ _ hw)
    · replace hw := hw.2 w9
      refine r_aload_n (j := 0) d_M_laysDoubled_71 rfl ?_
      obtain ⟨q11, hw⟩ := hw
      refine r_getR d_M_laysDoubled_72 ok_12 (nle rfl) (nle rfl) rfl lf_M_71 q11 ?_
      refine r_iload_n (j := 3) d_M_laysDoubled_75 rfl ?_
      refine r_iconst d_M_laysDoubled_76 kc_1 ?_
      refine r_isub d_M_laysDoubled_77 ?_
      obtain ⟨q12, hw⟩ := hw
      obtain ⟨q13, hw⟩ := hw
      refine r_iald d_M_laysDoubled_78 q12 q13 ?_
      refine r_istore (ls2 := [(4, ai (gI h (gR h v0 43) (ix (v3 - (1 : Int32))))), (0, ar v0), (1, ai v1), (2, ai v2), (3, ai v3)]) d_M_laysDoubled_79 (nle rfl) rfl ?_
      refine r_aload_n (j := 1) d_M_laysDoubled_81 rfl ?_
      refine r_getI d_M_laysDoubled_82 ok_12 (nle rfl) (nle rfl) rfl lf_M_421 q11 ?_
      refine r_istore (ls2 := [(5, ai (gI h v0 44)), (4, ai (gI h (gR h v0 43) (ix (v3 - (1 : Int32))))), (0, ar v0), (1, ai v1), (2, ai v2), (3, ai v3)]) d_M_laysDoubled_85 (nle rfl) rfl ?_
      refine r_aload_n (j := 2) d_M_laysDoubled_87 rfl ?_
      refine r_getR d_M_laysDoubled_88 ok_12 (nle rfl) (nle rfl) rfl lf_M_71 q11 ?_
      refine r_iload_n (j := 5) d_M_laysDoubled_91 rfl ?_
      refine r_iload (j := 0) d_M_laysDoubled_92 rfl ?_
      obtain ⟨q14, hw⟩ := hw
      refine r_iast d_M_laysDoubled_94 q12 q14 ?_
      refine r_iload (j := 1) d_M_laysDoubled_95 rfl ?_
      refine r_istore (ls2 := [(6, ai (gI h (gR h v0 43) (ix (v3 - (1 : Int32))))), (5, ai (gI h v0 44)), (4, ai (gI h (gR h v0 43) (ix (v3 - (1 : Int32))))), (0, ar v0), (1, ai v1), (2, ai v2), (3, ai v3)]) d_M_laysDoubled_97 (nle rfl) rfl ?_
      obtain ⟨n25, hw⟩ := hw
      refine r_pick (ls2 := [(0, ar v0), (1, ai v1), (2, ai v2), (3, ai v3), (5, ai (gI h v0 44)), (6, ai (gI h (gR h v0 43) (ix (v3 - (1 : Int32)))))]) [3, 4, 5, 6, 1, 0] rfl ?_
      exact s_M_laysDoubled_L99 hd hQ ih n25 _ _ hw
set_option maxRecDepth 100000 in
set_option maxHeartbeats 4000000 in
theorem s_M_laysDoubled_L28 {d : Nat} (hd : 3 ≤ d + 1) {Q : Hp → Prop} {QQ : Option AV → Hp → Prop} (hQ : ∀ h9, Q h9 → QQ none h9) {v0 : Nat} {v1 : Int32} {v2 : Int32} : ∀ (n : Nat) (v3 : Int32) (h : Hp), w_M_laysDoubled_L28 Q  v0 v1 v2 n v3 h → aW none m_M_laysDoubled (d + 1) 28 [(0, ar v0), (1, ai v1), (2, ai v2), (3, ai v3)] [] h 0 0 QQ := by
  intro n
  induction n with
  | zero => intro v3 h hw; exact hw.elim
  | succ n ih =>
    intro v3 h hw
    unfold w_M_laysDoubled_L28 at hw
    refine r_iload_n (j := 3) d_M_laysDoubled_28 rfl ?_
    refine r_aload_n (j := 0) d_M_laysDoubled_29 rfl ?_
    obtain ⟨q7, hw⟩ := hw
    refine r_getI d_M_laysDoubled_30 ok_12 (nle rfl) (nle rfl) rfl lf_M_247 q7 ?_
    refine r_icmp_ge d_M_laysDoubled_33 (fun w9 => ?_) (fun w9 => ?_)
    · replace hw := hw.1 w9
      refine r_iconst d_M_laysDoubled_64 kc_1 ?_
      refine r_istore_n (ls2 := [(3, ai (1 : Int32)), (0, ar v0), (1, ai v1), (2, ai v2)]) d_M_laysDoubled_65 (nle rfl) rfl ?_
      obtain ⟨n26, hw⟩ := hw
      refine r_pick (ls2 := [(0, ar v0), (1, ai v1), (2, ai v2), (3, ai (1 : Int32))]) [1, 2, 3, 0] rfl ?_
      exact s_M_laysDoubled_L66 hd hQ  n26 _ _ hw
    · replace hw := hw.2 w9
      refine r_aload_n (j := 0) d_M_laysDoubled_36 rfl ?_
      refine r_callV (av := []) (rest := []) (ci := 12) d_M_laysDoubled_37 mk_M_noSums ll_M_360 im_M_noSums se_M_noSums rfl (nle rfl) rfl rfl (nle rfl) q7 (s_M_noSums  hw (fun h27 hw => ?_))
      show aW none m_M_laysDoubled (d + 1) 40 [(0, ar v0), (1, ai v1), (2, ai v2), (3, ai v3)] [] h27 0 0 QQ
      refine r_aload_n (j := 0) d_M_laysDoubled_40 rfl ?_
      refine r_iload_n (j := 3) d_M_laysDoubled_41 rfl ?_
      obtain ⟨q29, hw⟩ := hw
      refine r_callV (av := [ai v3]) (rest := []) (ci := 12) d_M_laysDoubled_42 mk_M_adds ll_M_363 im_M_adds se_M_adds rfl (nle rfl) rfl rfl (nle rfl) q29 (s_M_adds (by omega) hw (fun h28 hw => ?_))
      show aW none m_M_laysDoubled (d + 1) 45 [(0, ar v0), (1, ai v1), (2, ai v2), (3, ai v3)] [] h28 0 0 QQ
      refine r_aload_n (j := 0) d_M_laysDoubled_45 rfl ?_
      refine r_iconst d_M_laysDoubled_46 kc_0 ?_
      refine r_aload_n (j := 0) d_M_laysDoubled_47 rfl ?_
      obtain ⟨q30, hw⟩ := hw
      refine r_getI d_M_laysDoubled_48 ok_12 (nle rfl) (nle rfl) rfl lf_M_421 q30 ?_
      refine r_iconst d_M_laysDoubled_51 kc_1 ?_
      refine r_iload_n (j := 1) d_M_laysDoubled_52 rfl ?_
      refine r_ishl d_M_laysDoubled_53 ?_
      refine r_iload_n (j := 2) d_M_laysDoubled_54 rfl ?_
      refine r_callV (av := [ai (0 : Int32), ai (gI h28 v0 44), ai (jshl (1 : Int32) v1), ai v2]) (rest := []) (ci := 12) d_M_laysDoubled_55 mk_M_comesTo ll_M_424 im_M_comesTo se_M_comesTo rfl (nle rfl) rfl rfl (nle rfl) q30 (s_M_comesTo (by omega) hw (fun h31 hw => ?_))
      show aW none m_M_laysDoubled (d + 1) 58 [(0, ar v0), (1, ai v1), (2, ai v2), (3, ai v3)] [] h31 0 0 QQ
      refine r_iinc (j := 3) (ls2 := [(3, ai (v3 + (1 : Int32))), (0, ar v0), (1, ai v1), (2, ai v2)]) d_M_laysDoubled_58 rfl (congrArg (HAdd.hAdd v3) kc_1) (nle rfl) rfl ?_
      refine r_goto d_M_laysDoubled_61 ?_
      refine r_pick (ls2 := [(0, ar v0), (1, ai v1), (2, ai v2), (3, ai (v3 + (1 : Int32)))]) [1, 2, 3, 0] rfl ?_
      exact ih _ _ hw
set_option maxRecDepth 100000 in
set_option maxHeartbeats 4000000 in
theorem s_M_laysDoubled {d : Nat} (hd : 3 ≤ d) {v0 : Nat} {v1 : Int32} {v2 : Int32} {h : Hp} {Q : Hp → Prop} {QQ : Option AV → Hp → Prop} (hw : w_M_laysDoubled v0 v1 v2 h Q) (hQ : ∀ h9, Q h9 → QQ none h9) : aCall m_M_laysDoubled d [ar v0, ai v1, ai v2] h 0 0 QQ := by
  obtain ⟨d, rfl⟩ : ∃ d9, d = d9 + 1 := ⟨d - 1, by omega⟩
  refine aCall_in pl_M_laysDoubled (nle rfl) ?_
  show aW none m_M_laysDoubled (d + 1) 0 [(0, ar v0), (1, ai v1), (2, ai v2)] [] h 0 0 QQ
  unfold w_M_laysDoubled at hw
  refine r_aload_n (j := 0) d_M_laysDoubled_0 rfl ?_
  refine r_iconst d_M_laysDoubled_1 kc_0 ?_
  obtain ⟨q1, hw⟩ := hw
  refine r_putI d_M_laysDoubled_2 ok_12 (nle rfl) (nle rfl) rfl lf_M_421 rfl q1 ?_
  refine r_aload_n (j := 0) d_M_laysDoubled_5 rfl ?_
  refine r_getRb eRI d_M_laysDoubled_6 ok_12 (nle rfl) (nle rfl) rfl lf_M_71 (kt eKI q1) ?_
  refine r_iconst d_M_laysDoubled_9 kc_0 ?_
  refine r_iconst d_M_laysDoubled_10 kc_0 ?_
  obtain ⟨q2, hw⟩ := hw
  obtain ⟨q3, hw⟩ := hw
  refine r_iast d_M_laysDoubled_11 (kt eKI q2) (nt eNI q3) ?_
  refine r_aload_n (j := 0) d_M_laysDoubled_12 rfl ?_
  refine r_callV (av := []) (rest := []) (ci := 12) d_M_laysDoubled_13 mk_M_noSums ll_M_360 im_M_noSums se_M_noSums rfl (nle rfl) rfl rfl (nle rfl) (kt (eKI.trans eKI) q1) (s_M_noSums  hw (fun h4 hw => ?_))
  show aW none m_M_laysDoubled (d + 1) 16 [(0, ar v0), (1, ai v1), (2, ai v2)] [] h4 0 0 QQ
  refine r_aload_n (j := 0) d_M_laysDoubled_16 rfl ?_
  refine r_iconst d_M_laysDoubled_17 kc_0 ?_
  refine r_iconst d_M_laysDoubled_18 kc_0 ?_
  refine r_iconst d_M_laysDoubled_19 kc_1 ?_
  refine r_iload_n (j := 1) d_M_laysDoubled_20 rfl ?_
  refine r_ishl d_M_laysDoubled_21 ?_
  refine r_iload_n (j := 2) d_M_laysDoubled_22 rfl ?_
  obtain ⟨q6, hw⟩ := hw
  refine r_callV (av := [ai (0 : Int32), ai (0 : Int32), ai (jshl (1 : Int32) v1), ai v2]) (rest := []) (ci := 12) d_M_laysDoubled_23 mk_M_comesTo ll_M_424 im_M_comesTo se_M_comesTo rfl (nle rfl) rfl rfl (nle rfl) q6 (s_M_comesTo (by omega) hw (fun h5 hw => ?_))
  show aW none m_M_laysDoubled (d + 1) 26 [(0, ar v0), (1, ai v1), (2, ai v2)] [] h5 0 0 QQ
  refine r_iconst d_M_laysDoubled_26 kc_0 ?_
  refine r_istore_n (ls2 := [(3, ai (0 : Int32)), (0, ar v0), (1, ai v1), (2, ai v2)]) d_M_laysDoubled_27 (nle rfl) rfl ?_
  obtain ⟨n32, hw⟩ := hw
  refine r_pick (ls2 := [(0, ar v0), (1, ai v1), (2, ai v2), (3, ai (0 : Int32))]) [1, 2, 3, 0] rfl ?_
  exact s_M_laysDoubled_L28 hd hQ  n32 _ _ hw
set_option maxRecDepth 100000 in
set_option maxHeartbeats 4000000 in
theorem s_M_isOfLevel_L24 {d : Nat} (hd : 1 ≤ d + 1) {Q : Bool → Hp → Prop} {QQ : Option AV → Hp → Prop} (hQ : ∀ r9 h9, Q r9 h9 → QQ (some (ai (b2i r9))) h9) {v0 : Nat} {v1 : Int32} {v2 : Int32} {k7 : Int32 → Hp → Prop} (hk7 : ∀ v2 h9, k7 v2 h9 → aW none m_M_isOfLevel (d + 1) 7 [(0, ar v0), (1, ai v1), (2, ai v2)] [] h9 0 0 QQ) : ∀ (n : Nat) (v3 : Int32) (v4 : Int32) (h : Hp), w_M_isOfLevel_L24 Q k7 v0 v1 v2 n v3 v4 h → aW none m_M_isOfLevel (d + 1) 24 [(0, ar v0), (1, ai v1), (2, ai v2), (3, ai v3), (4, ai v4)] [] h 0 0 QQ := by
  intro n
  induction n with
  | zero => intro v3 v4 h hw; exact hw.elim
  | succ n ih =>
    intro v3 v4 h hw
    unfold w_M_isOfLevel_L24 at hw
    refine r_iload (j := 4) d_M_isOfLevel_24 rfl ?_
    refine r_aload_n (j := 0) d_M_isOfLevel_26 rfl ?_
    obtain ⟨q7, hw⟩ := hw
    refine r_getI d_M_isOfLevel_27 ok_12 (nle rfl) (nle rfl) rfl lf_M_244 q7 ?_
    refine r_icmp_ge d_M_isOfLevel_30 (fun w9 => ?_) (fun w9 => ?_)
    · replace hw := hw.1 w9
      refine r_iload_n (j := 3) d_M_isOfLevel_69 rfl ?_
      refine r_if_eq d_M_isOfLevel_70 (fun w9 => ?_) (fun w9 => ?_)
      · replace hw := hw.1 w9
        refine r_iinc (j := 2) (ls2 := [(2, ai (v2 + (1 : Int32))), (0, ar v0), (1, ai v1), (3, ai v3), (4, ai v4)]) d_M_isOfLevel_75 rfl (congrArg (HAdd.hAdd v2) kc_1) (nle rfl) rfl ?_
        refine r_goto d_M_isOfLevel_78 ?_
        refine r_pick (ls2 := [(0, ar v0), (1, ai v1), (2, ai (v2 + (1 : Int32)))]) [1, 2, 0] rfl ?_
        exact hk7 _ _ hw
      · replace hw := hw.2 w9
        refine r_iconst d_M_isOfLevel_73 kc_1 ?_
        exact r_zreturn d_M_isOfLevel_74.1 rfl (Or.inr rfl) (hQ _ _ hw)
    · replace hw := hw.2 w9
      refine r_iload_n (j := 3) d_M_isOfLevel_33 rfl ?_
      refine r_if_eq d_M_isOfLevel_34 (fun w9 => ?_) (fun w9 => ?_)
      · replace hw := hw.1 w9
        refine r_iconst d_M_isOfLevel_61 kc_0 ?_
        refine r_istore_n (ls2 := [(3, ai (0 : Int32)), (0, ar v0), (1, ai v1), (2, ai v2), (4, ai v4)]) d_M_isOfLevel_62 (nle rfl) rfl ?_
        refine r_iinc (j := 4) (ls2 := [(4, ai (v4 + (1 : Int32))), (3, ai (0 : Int32)), (0, ar v0), (1, ai v1), (2, ai v2)]) d_M_isOfLevel_63 rfl (congrArg (HAdd.hAdd v4) kc_1) (nle rfl) rfl ?_
        refine r_goto d_M_isOfLevel_66 ?_
        refine r_pick (ls2 := [(0, ar v0), (1, ai v1), (2, ai v2), (3, ai (0 : Int32)), (4, ai (v4 + (1 : Int32)))]) [2, 3, 4, 1, 0] rfl ?_
        exact ih _ _ _ hw
      · replace hw := hw.2 w9
        refine r_aload_n (j := 0) d_M_isOfLevel_37 rfl ?_
        refine r_getR d_M_isOfLevel_38 ok_12 (nle rfl) (nle rfl) rfl lf_M_68 q7 ?_
        refine r_iconst d_M_isOfLevel_41 kc_3 ?_
        refine r_iload_n (j := 2) d_M_isOfLevel_42 rfl ?_
        refine r_imul d_M_isOfLevel_43 ?_
        refine r_iload (j := 4) d_M_isOfLevel_44 rfl ?_
        refine r_iadd d_M_isOfLevel_46 ?_
        obtain ⟨q8, hw⟩ := hw
        obtain ⟨q9, hw⟩ := hw
        refine r_iald d_M_isOfLevel_47 q8 q9 ?_
        refine r_aload_n (j := 0) d_M_isOfLevel_48 rfl ?_
        refine r_iload (j := 4) d_M_isOfLevel_49 rfl ?_
        refine r_callV (av := [ai v4]) (rest := [ai (gI h (gR h v0 42) (ix (((3 : Int32) * v2) + v4)))]) (ci := 12) d_M_isOfLevel_51 mk_M_needOf ll_M_281 im_M_needOf se_M_needOf rfl (nle rfl) rfl rfl (nle rfl) q7 (s_M_needOf  hw (fun r11 h10 hw => ?_))
        show aW none m_M_isOfLevel (d + 1) 54 [(0, ar v0), (1, ai v1), (2, ai v2), (3, ai v3), (4, ai v4)] [ai r11, ai (gI h (gR h v0 42) (ix (((3 : Int32) * v2) + v4)))] h10 0 0 QQ
        refine r_icmp_ne d_M_isOfLevel_54 (fun w9 => ?_) (fun w9 => ?_)
        · replace hw := hw.2 w9
          refine r_iconst d_M_isOfLevel_61 kc_0 ?_
          refine r_istore_n (ls2 := [(3, ai (0 : Int32)), (0, ar v0), (1, ai v1), (2, ai v2), (4, ai v4)]) d_M_isOfLevel_62 (nle rfl) rfl ?_
          refine r_iinc (j := 4) (ls2 := [(4, ai (v4 + (1 : Int32))), (3, ai (0 : Int32)), (0, ar v0), (1, ai v1), (2, ai v2)]) d_M_isOfLevel_63 rfl (congrArg (HAdd.hAdd v4) kc_1) (nle rfl) rfl ?_
          refine r_goto d_M_isOfLevel_66 ?_
          refine r_pick (ls2 := [(0, ar v0), (1, ai v1), (2, ai v2), (3, ai (0 : Int32)), (4, ai (v4 + (1 : Int32)))]) [2, 3, 4, 1, 0] rfl ?_
          exact ih _ _ _ hw
        · replace hw := hw.1 w9
          refine r_iconst d_M_isOfLevel_57 kc_1 ?_
          refine r_goto d_M_isOfLevel_58 ?_
          refine r_istore_n (ls2 := [(3, ai (1 : Int32)), (0, ar v0), (1, ai v1), (2, ai v2), (4, ai v4)]) d_M_isOfLevel_62 (nle rfl) rfl ?_
          refine r_iinc (j := 4) (ls2 := [(4, ai (v4 + (1 : Int32))), (3, ai (1 : Int32)), (0, ar v0), (1, ai v1), (2, ai v2)]) d_M_isOfLevel_63 rfl (congrArg (HAdd.hAdd v4) kc_1) (nle rfl) rfl ?_
          refine r_goto d_M_isOfLevel_66 ?_
          refine r_pick (ls2 := [(0, ar v0), (1, ai v1), (2, ai v2), (3, ai (1 : Int32)), (4, ai (v4 + (1 : Int32)))]) [2, 3, 4, 1, 0] rfl ?_
          exact ih _ _ _ hw
set_option maxRecDepth 100000 in
set_option maxHeartbeats 4000000 in
theorem s_M_isOfLevel_L7 {d : Nat} (hd : 1 ≤ d + 1) {Q : Bool → Hp → Prop} {QQ : Option AV → Hp → Prop} (hQ : ∀ r9 h9, Q r9 h9 → QQ (some (ai (b2i r9))) h9) {v0 : Nat} {v1 : Int32} : ∀ (n : Nat) (v2 : Int32) (h : Hp), w_M_isOfLevel_L7 Q  v0 v1 n v2 h → aW none m_M_isOfLevel (d + 1) 7 [(0, ar v0), (1, ai v1), (2, ai v2)] [] h 0 0 QQ := by
  intro n
  induction n with
  | zero => intro v2 h hw; exact hw.elim
  | succ n ih =>
    intro v2 h hw
    unfold w_M_isOfLevel_L7 at hw
    refine r_iload_n (j := 2) d_M_isOfLevel_7 rfl ?_
    refine r_aload_n (j := 0) d_M_isOfLevel_8 rfl ?_
    obtain ⟨q4, hw⟩ := hw
    refine r_getR d_M_isOfLevel_9 ok_12 (nle rfl) (nle rfl) rfl lf_M_71 q4 ?_
    refine r_iload_n (j := 1) d_M_isOfLevel_12 rfl ?_
    refine r_iconst d_M_isOfLevel_13 kc_1 ?_
    refine r_iadd d_M_isOfLevel_14 ?_
    obtain ⟨q5, hw⟩ := hw
    obtain ⟨q6, hw⟩ := hw
    refine r_iald d_M_isOfLevel_15 q5 q6 ?_
    refine r_icmp_ge d_M_isOfLevel_16 (fun w9 => ?_) (fun w9 => ?_)
    · replace hw := hw.1 w9
      refine r_iconst d_M_isOfLevel_81 kc_0 ?_
      exact r_zreturn d_M_isOfLevel_82.1 rfl (Or.inl rfl) (hQ _ _ hw)
    · replace hw := hw.2 w9
      refine r_iconst d_M_isOfLevel_19 kc_1 ?_
      refine r_istore_n (ls2 := [(3, ai (1 : Int32)), (0, ar v0), (1, ai v1), (2, ai v2)]) d_M_isOfLevel_20 (nle rfl) rfl ?_
      refine r_iconst d_M_isOfLevel_21 kc_0 ?_
      refine r_istore (ls2 := [(4, ai (0 : Int32)), (3, ai (1 : Int32)), (0, ar v0), (1, ai v1), (2, ai v2)]) d_M_isOfLevel_22 (nle rfl) rfl ?_
      obtain ⟨n12, hw⟩ := hw
      refine r_pick (ls2 := [(0, ar v0), (1, ai v1), (2, ai v2), (3, ai (1 : Int32)), (4, ai (0 : Int32))]) [2, 3, 4, 1, 0] rfl ?_
      exact s_M_isOfLevel_L24 hd hQ ih n12 _ _ _ hw
set_option maxRecDepth 100000 in
set_option maxHeartbeats 4000000 in
theorem s_M_isOfLevel {d : Nat} (hd : 1 ≤ d) {v0 : Nat} {v1 : Int32} {h : Hp} {Q : Bool → Hp → Prop} {QQ : Option AV → Hp → Prop} (hw : w_M_isOfLevel v0 v1 h Q) (hQ : ∀ r9 h9, Q r9 h9 → QQ (some (ai (b2i r9))) h9) : aCall m_M_isOfLevel d [ar v0, ai v1] h 0 0 QQ := by
  obtain ⟨d, rfl⟩ : ∃ d9, d = d9 + 1 := ⟨d - 1, by omega⟩
  refine aCall_in pl_M_isOfLevel (nle rfl) ?_
  show aW none m_M_isOfLevel (d + 1) 0 [(0, ar v0), (1, ai v1)] [] h 0 0 QQ
  unfold w_M_isOfLevel at hw
  refine r_aload_n (j := 0) d_M_isOfLevel_0 rfl ?_
  obtain ⟨q1, hw⟩ := hw
  refine r_getR d_M_isOfLevel_1 ok_12 (nle rfl) (nle rfl) rfl lf_M_71 q1 ?_
  refine r_iload_n (j := 1) d_M_isOfLevel_4 rfl ?_
  obtain ⟨q2, hw⟩ := hw
  obtain ⟨q3, hw⟩ := hw
  refine r_iald d_M_isOfLevel_5 q2 q3 ?_
  refine r_istore_n (ls2 := [(2, ai (gI h (gR h v0 43) (ix v1))), (0, ar v0), (1, ai v1)]) d_M_isOfLevel_6 (nle rfl) rfl ?_
  obtain ⟨n13, hw⟩ := hw
  refine r_pick (ls2 := [(0, ar v0), (1, ai v1), (2, ai (gI h (gR h v0 43) (ix v1)))]) [1, 2, 0] rfl ?_
  exact s_M_isOfLevel_L7 hd hQ  n13 _ _ hw
set_option maxRecDepth 100000 in
set_option maxHeartbeats 4000000 in
theorem s_M_doubled_B39 {d : Nat} (hd : 4 ≤ d + 1) {Q : Int32 → Hp → Prop} {QQ : Option AV → Hp → Prop} (hQ : ∀ r9 h9, Q r9 h9 → QQ (some (ai r9)) h9) {v0 : Nat} {v1 : Int32} {v2 : Int32} {v3 : Int32} {h : Hp} (hw : w_M_doubled_B39 Q  v0 v1 v2 v3 h) : aW none m_M_doubled (d + 1) 39 [(0, ar v0), (1, ai v1), (2, ai v2), (3, ai v3)] [] h 0 0 QQ := by
  unfold w_M_doubled_B39 at hw
  refine r_aload_n (j := 0) d_M_doubled_39 rfl ?_
  refine r_iload_n (j := 1) d_M_doubled_40 rfl ?_
  refine r_iload_n (j := 2) d_M_doubled_41 rfl ?_
  obtain ⟨q8, hw⟩ := hw
  refine r_callV (av := [ai v1, ai v2]) (rest := []) (ci := 12) d_M_doubled_42 mk_M_laysDoubled ll_M_428 im_M_laysDoubled se_M_laysDoubled rfl (nle rfl) rfl rfl (nle rfl) q8 (s_M_laysDoubled (by omega) hw (fun h7 hw => ?_))
  show aW none m_M_doubled (d + 1) 45 [(0, ar v0), (1, ai v1), (2, ai v2), (3, ai v3)] [] h7 0 0 QQ
  refine r_iload_n (j := 3) d_M_doubled_45 rfl ?_
  refine r_iconst d_M_doubled_46 kc_5 ?_
  refine r_icmp_ne d_M_doubled_47 (fun w9 => ?_) (fun w9 => ?_)
  · replace hw := hw.2 w9
    refine r_aload_n (j := 0) d_M_doubled_61 rfl ?_
    obtain ⟨q9, hw⟩ := hw
    refine r_getR d_M_doubled_62 ok_12 (nle rfl) (nle rfl) rfl lf_M_71 q9 ?_
    refine r_iload_n (j := 3) d_M_doubled_65 rfl ?_
    refine r_iconst d_M_doubled_66 kc_1 ?_
    refine r_iadd d_M_doubled_67 ?_
    obtain ⟨q10, hw⟩ := hw
    obtain ⟨q11, hw⟩ := hw
    refine r_iald d_M_doubled_68 q10 q11 ?_
    refine r_aload_n (j := 0) d_M_doubled_69 rfl ?_
    refine r_getR d_M_doubled_70 ok_12 (nle rfl) (nle rfl) rfl lf_M_71 q9 ?_
    refine r_iload_n (j := 3) d_M_doubled_73 rfl ?_
    obtain ⟨q12, hw⟩ := hw
    refine r_iald d_M_doubled_74 q10 q12 ?_
    refine r_isub d_M_doubled_75 ?_
    exact r_ireturn d_M_doubled_76.1 rfl (hQ _ _ hw)
  · replace hw := hw.1 w9
    refine r_aload_n (j := 0) d_M_doubled_50 rfl ?_
    refine r_iload_n (j := 1) d_M_doubled_51 rfl ?_
    obtain ⟨q15, hw⟩ := hw
    refine r_callV (av := [ai v1]) (rest := []) (ci := 12) d_M_doubled_52 mk_M_isOfLevel ll_M_431 im_M_isOfLevel se_M_isOfLevel rfl (nle rfl) rfl rfl (nle rfl) q15 (s_M_isOfLevel (by omega) hw (fun r14 h13 hw => ?_))
    show aW none m_M_doubled (d + 1) 55 [(0, ar v0), (1, ai v1), (2, ai v2), (3, ai v3)] [ai (b2i r14)] h13 0 0 QQ
    refine r_callS (av := [ai (b2i r14)]) (rest := []) d_M_doubled_55 mk_M_truth ll_M_318 st_M_truth rfl rfl (nle rfl) (s_M_truth  hw (fun r17 h16 hw => ?_))
    show aW none m_M_doubled (d + 1) 58 [(0, ar v0), (1, ai v1), (2, ai v2), (3, ai v3)] [ai r17] h16 0 0 QQ
    refine r_goto d_M_doubled_58 ?_
    exact r_ireturn d_M_doubled_76.1 rfl (hQ _ _ hw)
set_option maxRecDepth 100000 in
set_option maxHeartbeats 4000000 in
theorem s_M_doubled {d : Nat} (hd : 4 ≤ d) {v0 : Nat} {v1 : Int32} {v2 : Int32} {v3 : Int32} {h : Hp} {Q : Int32 → Hp → Prop} {QQ : Option AV → Hp → Prop} (hw : w_M_doubled v0 v1 v2 v3 h Q) (hQ : ∀ r9 h9, Q r9 h9 → QQ (some (ai r9)) h9) : aCall m_M_doubled d [ar v0, ai v1, ai v2, ai v3] h 0 0 QQ := by
  obtain ⟨d, rfl⟩ : ∃ d9, d = d9 + 1 := ⟨d - 1, by omega⟩
  refine aCall_in pl_M_doubled (nle rfl) ?_
  show aW none m_M_doubled (d + 1) 0 [(0, ar v0), (1, ai v1), (2, ai v2), (3, ai v3)] [] h 0 0 QQ
  unfold w_M_doubled at hw
  refine r_iload_n (j := 1) d_M_doubled_0 rfl ?_
  refine r_iconst d_M_doubled_1 kc_0 ?_
  refine r_iconst d_M_doubled_2 kc_4 ?_
  refine r_callS (av := [ai v1, ai (0 : Int32), ai (4 : Int32)]) (rest := []) d_M_doubled_3 mk_M_isIn ll_M_148 st_M_isIn rfl rfl (nle rfl) (s_M_isIn  hw (fun r2 h1 hw => ?_))
  show aW none m_M_doubled (d + 1) 6 [(0, ar v0), (1, ai v1), (2, ai v2), (3, ai v3)] [ai (b2i r2)] h1 0 0 QQ
  refine r_if_eq d_M_doubled_6 (fun w9 => ?_) (fun w9 => ?_)
  · replace hw := hw.1 (b2i_0.mp w9)
    refine r_iconst d_M_doubled_37 kc_m1 ?_
    exact r_ireturn d_M_doubled_38.1 rfl (hQ _ _ hw)
  · replace hw := hw.2 (fun g9 => w9 (b2i_0.mpr g9))
    refine r_iload_n (j := 2) d_M_doubled_9 rfl ?_
    refine r_iconst d_M_doubled_10 kc_0 ?_
    refine r_iconst d_M_doubled_11 kc_3 ?_
    refine r_callS (av := [ai v2, ai (0 : Int32), ai (3 : Int32)]) (rest := []) d_M_doubled_12 mk_M_isIn ll_M_148 st_M_isIn rfl rfl (nle rfl) (s_M_isIn  hw (fun r4 h3 hw => ?_))
    show aW none m_M_doubled (d + 1) 15 [(0, ar v0), (1, ai v1), (2, ai v2), (3, ai v3)] [ai (b2i r4)] h3 0 0 QQ
    refine r_if_eq d_M_doubled_15 (fun w9 => ?_) (fun w9 => ?_)
    · replace hw := hw.1 (b2i_0.mp w9)
      refine r_iconst d_M_doubled_37 kc_m1 ?_
      exact r_ireturn d_M_doubled_38.1 rfl (hQ _ _ hw)
    · replace hw := hw.2 (fun g9 => w9 (b2i_0.mpr g9))
      refine r_iload_n (j := 3) d_M_doubled_18 rfl ?_
      refine r_iconst d_M_doubled_19 kc_0 ?_
      refine r_iconst d_M_doubled_20 kc_5 ?_
      refine r_callS (av := [ai v3, ai (0 : Int32), ai (5 : Int32)]) (rest := []) d_M_doubled_21 mk_M_isIn ll_M_148 st_M_isIn rfl rfl (nle rfl) (s_M_isIn  hw (fun r6 h5 hw => ?_))
      show aW none m_M_doubled (d + 1) 24 [(0, ar v0), (1, ai v1), (2, ai v2), (3, ai v3)] [ai (b2i r6)] h5 0 0 QQ
      refine r_if_eq d_M_doubled_24 (fun w9 => ?_) (fun w9 => ?_)
      · replace hw := hw.1 (b2i_0.mp w9)
        refine r_iconst d_M_doubled_37 kc_m1 ?_
        exact r_ireturn d_M_doubled_38.1 rfl (hQ _ _ hw)
      · replace hw := hw.2 (fun g9 => w9 (b2i_0.mpr g9))
        refine r_iload_n (j := 3) d_M_doubled_27 rfl ?_
        refine r_iconst d_M_doubled_28 kc_5 ?_
        refine r_icmp_ge d_M_doubled_29 (fun w9 => ?_) (fun w9 => ?_)
        · replace hw := hw.1 w9
          exact s_M_doubled_B39 hd hQ  hw
        · replace hw := hw.2 w9
          refine r_iload_n (j := 3) d_M_doubled_32 rfl ?_
          refine r_iload_n (j := 1) d_M_doubled_33 rfl ?_
          refine r_icmp_le d_M_doubled_34 (fun w9 => ?_) (fun w9 => ?_)
          · replace hw := hw.1 w9
            exact s_M_doubled_B39 hd hQ  hw
          · replace hw := hw.2 w9
            refine r_iconst d_M_doubled_37 kc_m1 ?_
            exact r_ireturn d_M_doubled_38.1 rfl (hQ _ _ hw)
set_option maxRecDepth 100000 in
set_option maxHeartbeats 4000000 in
theorem s_M_common_L28 {d : Nat} {Q : Int64 → Hp → Prop} {QQ : Option AV → Hp → Prop} (hQ : ∀ r9 h9, Q r9 h9 → QQ (some (al r9)) h9) : ∀ (n : Nat) (v4 : Int64) (v6 : Int64) (h : Hp), w_M_common_L28 Q   n v4 v6 h → aW none m_M_common d 28 [(4, al v4), (6, al v6)] [] h 0 0 QQ := by
  intro n
  induction n with
  | zero => intro v4 v6 h hw; exact hw.elim
  | succ n ih =>
    intro v4 v6 h hw
    unfold w_M_common_L28 at hw
    refine r_lload (j := 1) d_M_common_28 rfl ?_
    refine r_lconst d_M_common_30 kl_0 ?_
    refine r_lcmp d_M_common_31 ?_
    refine r_if_eq d_M_common_32 (fun w9 => ?_) (fun w9 => ?_)
    · replace hw := hw.1 ((lg_cmp_eq _ _).mp w9)
      refine r_lload (j := 0) d_M_common_53 rfl ?_
      exact r_lreturn d_M_common_55.1 rfl (hQ _ _ hw)
    · replace hw := hw.2 (fun g9 => w9 ((lg_cmp_eq _ _).mpr g9))
      refine r_lload (j := 0) d_M_common_35 rfl ?_
      refine r_lload (j := 1) d_M_common_37 rfl ?_
      obtain ⟨q1, hw⟩ := hw
      refine r_lrem d_M_common_39 q1 ?_
      refine r_lstore (ls2 := [(8, al (jlrem v4 v6)), (4, al v4), (6, al v6)]) d_M_common_40 (nle rfl) rfl ?_
      refine r_lload (j := 2) d_M_common_42 rfl ?_
      refine r_lstore (ls2 := [(4, al v6), (8, al (jlrem v4 v6)), (6, al v6)]) d_M_common_44 (nle rfl) rfl ?_
      refine r_lload (j := 1) d_M_common_46 rfl ?_
      refine r_lstore (ls2 := [(6, al (jlrem v4 v6)), (4, al v6), (8, al (jlrem v4 v6))]) d_M_common_48 (nle rfl) rfl ?_
      refine r_goto d_M_common_50 ?_
      refine r_pick (ls2 := [(4, al v6), (6, al (jlrem v4 v6))]) [1, 0] rfl ?_
      exact ih _ _ _ hw
set_option maxRecDepth 100000 in
set_option maxHeartbeats 4000000 in
theorem s_M_common_B12 {d : Nat} {Q : Int64 → Hp → Prop} {QQ : Option AV → Hp → Prop} (hQ : ∀ r9 h9, Q r9 h9 → QQ (some (al r9)) h9) {v2 : Int64} {s0 : Int64} {h : Hp} (hw : w_M_common_B12 Q  v2 s0 h) : aW none m_M_common d 12 [(2, al v2)] [al s0] h 0 0 QQ := by
  unfold w_M_common_B12 at hw
  refine r_lstore (ls2 := [(4, al s0), (2, al v2)]) d_M_common_12 (nle rfl) rfl ?_
  refine r_lload_n (j := 1) d_M_common_14 rfl ?_
  refine r_lconst d_M_common_15 kl_0 ?_
  refine r_lcmp d_M_common_16 ?_
  refine r_if_ge d_M_common_17 (fun w9 => ?_) (fun w9 => ?_)
  · replace hw := hw.1 ((lg_cmp_ge _ _).mp w9)
    refine r_lload_n (j := 1) d_M_common_25 rfl ?_
    refine r_lstore (ls2 := [(6, al v2), (4, al s0), (2, al v2)]) d_M_common_26 (nle rfl) rfl ?_
    obtain ⟨n2, hw⟩ := hw
    refine r_pick (ls2 := [(4, al s0), (6, al v2)]) [1, 0] rfl ?_
    exact s_M_common_L28 hQ  n2 _ _ _ hw
  · replace hw := hw.2 (fun g9 => w9 ((lg_cmp_ge _ _).mpr g9))
    refine r_lload_n (j := 1) d_M_common_20 rfl ?_
    refine r_lneg d_M_common_21 ?_
    refine r_goto d_M_common_22 ?_
    refine r_lstore (ls2 := [(6, al (-v2)), (4, al s0), (2, al v2)]) d_M_common_26 (nle rfl) rfl ?_
    obtain ⟨n3, hw⟩ := hw
    refine r_pick (ls2 := [(4, al s0), (6, al (-v2))]) [1, 0] rfl ?_
    exact s_M_common_L28 hQ  n3 _ _ _ hw
set_option maxRecDepth 100000 in
set_option maxHeartbeats 4000000 in
theorem s_M_common {d : Nat} {v0 : Int64} {v2 : Int64} {h : Hp} {Q : Int64 → Hp → Prop} {QQ : Option AV → Hp → Prop} (hw : w_M_common v0 v2 h Q) (hQ : ∀ r9 h9, Q r9 h9 → QQ (some (al r9)) h9) : aCall m_M_common d [al v0, al v2] h 0 0 QQ := by
  refine aCall_in pl_M_common (nle rfl) ?_
  show aW none m_M_common d 0 [(0, al v0), (2, al v2)] [] h 0 0 QQ
  unfold w_M_common at hw
  refine r_lload_n (j := 0) d_M_common_0 rfl ?_
  refine r_lconst d_M_common_1 kl_0 ?_
  refine r_lcmp d_M_common_2 ?_
  refine r_if_ge d_M_common_3 (fun w9 => ?_) (fun w9 => ?_)
  · replace hw := hw.1 ((lg_cmp_ge _ _).mp w9)
    refine r_lload_n (j := 0) d_M_common_11 rfl ?_
    refine r_pick (ls2 := [(2, al v2)]) [1] rfl ?_
    exact s_M_common_B12 hQ  hw
  · replace hw := hw.2 (fun g9 => w9 ((lg_cmp_ge _ _).mpr g9))
    refine r_lload_n (j := 0) d_M_common_6 rfl ?_
    refine r_lneg d_M_common_7 ?_
    refine r_goto d_M_common_8 ?_
    refine r_pick (ls2 := [(2, al v2)]) [1] rfl ?_
    exact s_M_common_B12 hQ  hw
set_option maxRecDepth 100000 in
set_option maxHeartbeats 4000000 in
theorem s_M_pluses {d : Nat} (hd : 1 ≤ d) {v0 : Nat} {v1 : Int64} {v3 : Int64} {h : Hp} {Q : Hp → Prop} {QQ : Option AV → Hp → Prop} (hw : w_M_pluses v0 v1 v3 h Q) (hQ : ∀ h9, Q h9 → QQ none h9) : aCall m_M_pluses d [ar v0, al v1, al v3] h 0 0 QQ := by
  obtain ⟨d, rfl⟩ : ∃ d9, d = d9 + 1 := ⟨d - 1, by omega⟩
  refine aCall_in pl_M_pluses (nle rfl) ?_
  show aW none m_M_pluses (d + 1) 0 [(0, ar v0), (1, al v1), (3, al v3)] [] h 0 0 QQ
  unfold w_M_pluses at hw
  refine r_aload_n (j := 0) d_M_pluses_0 rfl ?_
  obtain ⟨q1, hw⟩ := hw
  refine r_getL d_M_pluses_1 ok_12 (nle rfl) (nle rfl) rfl lf_M_434 q1 ?_
  refine r_lload_n (j := 2) d_M_pluses_4 rfl ?_
  refine r_lmul d_M_pluses_5 ?_
  refine r_lload_n (j := 1) d_M_pluses_6 rfl ?_
  refine r_aload_n (j := 0) d_M_pluses_7 rfl ?_
  refine r_getL d_M_pluses_8 ok_12 (nle rfl) (nle rfl) rfl lf_M_437 q1 ?_
  refine r_lmul d_M_pluses_11 ?_
  refine r_ladd d_M_pluses_12 ?_
  refine r_lstore (ls2 := [(5, al (((gL h v0 52) * v3) + (v1 * (gL h v0 53)))), (0, ar v0), (1, al v1), (3, al v3)]) d_M_pluses_13 (nle rfl) rfl ?_
  refine r_aload_n (j := 1) d_M_pluses_15 rfl ?_
  refine r_getL d_M_pluses_16 ok_12 (nle rfl) (nle rfl) rfl lf_M_437 q1 ?_
  refine r_lload_n (j := 3) d_M_pluses_19 rfl ?_
  refine r_lmul d_M_pluses_20 ?_
  refine r_lstore (ls2 := [(7, al ((gL h v0 53) * v3)), (5, al (((gL h v0 52) * v3) + (v1 * (gL h v0 53)))), (0, ar v0), (1, al v1), (3, al v3)]) d_M_pluses_21 (nle rfl) rfl ?_
  refine r_lload (j := 1) d_M_pluses_23 rfl ?_
  refine r_lload (j := 0) d_M_pluses_25 rfl ?_
  refine r_callS (av := [al (((gL h v0 52) * v3) + (v1 * (gL h v0 53))), al ((gL h v0 53) * v3)]) (rest := []) d_M_pluses_27 mk_M_common ll_M_440 st_M_common rfl rfl (nle rfl) (s_M_common  hw (fun r3 h2 hw => ?_))
  show aW none m_M_pluses (d + 1) 30 [(7, al ((gL h v0 53) * v3)), (5, al (((gL h v0 52) * v3) + (v1 * (gL h v0 53)))), (0, ar v0), (1, al v1), (3, al v3)] [al r3] h2 0 0 QQ
  refine r_lstore (ls2 := [(9, al r3), (7, al ((gL h v0 53) * v3)), (5, al (((gL h v0 52) * v3) + (v1 * (gL h v0 53)))), (0, ar v0), (1, al v1), (3, al v3)]) d_M_pluses_30 (nle rfl) rfl ?_
  refine r_aload_n (j := 3) d_M_pluses_32 rfl ?_
  refine r_lload (j := 2) d_M_pluses_33 rfl ?_
  refine r_lload (j := 0) d_M_pluses_35 rfl ?_
  obtain ⟨q4, hw⟩ := hw
  refine r_ldiv d_M_pluses_37 q4 ?_
  obtain ⟨q5, hw⟩ := hw
  refine r_putL d_M_pluses_38 ok_12 (nle rfl) (nle rfl) rfl lf_M_434 rfl q5 ?_
  refine r_aload_n (j := 3) d_M_pluses_41 rfl ?_
  refine r_lload (j := 1) d_M_pluses_42 rfl ?_
  refine r_lload (j := 0) d_M_pluses_44 rfl ?_
  refine r_ldiv d_M_pluses_46 q4 ?_
  refine r_putL d_M_pluses_47 ok_12 (nle rfl) (nle rfl) rfl lf_M_437 rfl (kt eKL q5) ?_
  exact r_return d_M_pluses_50.1 rfl (hQ _ hw)
set_option maxRecDepth 100000 in
set_option maxHeartbeats 4000000 in
theorem s_M_swapsRows_L2 {d : Nat} {Q : Hp → Prop} {QQ : Option AV → Hp → Prop} (hQ : ∀ h9, Q h9 → QQ none h9) {v0 : Nat} {v1 : Int32} {v2 : Int32} : ∀ (n : Nat) (v3 : Int32) (h : Hp), w_M_swapsRows_L2 Q  v0 v1 v2 n v3 h → aW none m_M_swapsRows d 2 [(0, ar v0), (1, ai v1), (2, ai v2), (3, ai v3)] [] h 0 0 QQ := by
  intro n
  induction n with
  | zero => intro v3 h hw; exact hw.elim
  | succ n ih =>
    intro v3 h hw
    unfold w_M_swapsRows_L2 at hw
    refine r_iload_n (j := 3) d_M_swapsRows_2 rfl ?_
    refine r_iconst d_M_swapsRows_3 kc_5 ?_
    refine r_icmp_ge d_M_swapsRows_4 (fun w9 => ?_) (fun w9 => ?_)
    · replace hw := hw.1 w9
      exact r_return d_M_swapsRows_57.1 rfl (hQ _ hw)
    · replace hw := hw.2 w9
      refine r_aload_n (j := 0) d_M_swapsRows_7 rfl ?_
      obtain ⟨q1, hw⟩ := hw
      refine r_getR d_M_swapsRows_8 ok_12 (nle rfl) (nle rfl) rfl lf_M_74 q1 ?_
      refine r_iconst d_M_swapsRows_11 kc_5 ?_
      refine r_iload_n (j := 1) d_M_swapsRows_12 rfl ?_
      refine r_imul d_M_swapsRows_13 ?_
      refine r_iload_n (j := 3) d_M_swapsRows_14 rfl ?_
      refine r_iadd d_M_swapsRows_15 ?_
      obtain ⟨q2, hw⟩ := hw
      obtain ⟨q3, hw⟩ := hw
      refine r_lald d_M_swapsRows_16 q2 q3 ?_
      refine r_lstore (ls2 := [(4, al (gL h (gR h v0 45) (ix (((5 : Int32) * v1) + v3)))), (0, ar v0), (1, ai v1), (2, ai v2), (3, ai v3)]) d_M_swapsRows_17 (nle rfl) rfl ?_
      refine r_aload_n (j := 1) d_M_swapsRows_19 rfl ?_
      refine r_getR d_M_swapsRows_20 ok_12 (nle rfl) (nle rfl) rfl lf_M_74 q1 ?_
      refine r_iconst d_M_swapsRows_23 kc_5 ?_
      refine r_iload_n (j := 2) d_M_swapsRows_24 rfl ?_
      refine r_imul d_M_swapsRows_25 ?_
      refine r_iload_n (j := 4) d_M_swapsRows_26 rfl ?_
      refine r_iadd d_M_swapsRows_27 ?_
      refine r_aload_n (j := 1) d_M_swapsRows_28 rfl ?_
      refine r_getR d_M_swapsRows_29 ok_12 (nle rfl) (nle rfl) rfl lf_M_74 q1 ?_
      refine r_iconst d_M_swapsRows_32 kc_5 ?_
      refine r_iload_n (j := 3) d_M_swapsRows_33 rfl ?_
      refine r_imul d_M_swapsRows_34 ?_
      refine r_iload_n (j := 4) d_M_swapsRows_35 rfl ?_
      refine r_iadd d_M_swapsRows_36 ?_
      obtain ⟨q4, hw⟩ := hw
      refine r_lald d_M_swapsRows_37 q2 q4 ?_
      refine r_last d_M_swapsRows_38 q2 q3 ?_
      refine r_aload_n (j := 1) d_M_swapsRows_39 rfl ?_
      refine r_getRb eRL d_M_swapsRows_40 ok_12 (nle rfl) (nle rfl) rfl lf_M_74 (kt eKL q1) ?_
      refine r_iconst d_M_swapsRows_43 kc_5 ?_
      refine r_iload_n (j := 3) d_M_swapsRows_44 rfl ?_
      refine r_imul d_M_swapsRows_45 ?_
      refine r_iload_n (j := 4) d_M_swapsRows_46 rfl ?_
      refine r_iadd d_M_swapsRows_47 ?_
      refine r_lload (j := 0) d_M_swapsRows_48 rfl ?_
      refine r_last d_M_swapsRows_50 (kt eKL q2) (nt eNL q4) ?_
      refine r_iinc (j := 4) (ls2 := [(3, ai (v3 + (1 : Int32))), (4, al (gL h (gR h v0 45) (ix (((5 : Int32) * v1) + v3)))), (0, ar v0), (1, ai v1), (2, ai v2)]) d_M_swapsRows_51 rfl (congrArg (HAdd.hAdd v3) kc_1) (nle rfl) rfl ?_
      refine r_goto d_M_swapsRows_54 ?_
      refine r_pick (ls2 := [(0, ar v0), (1, ai v1), (2, ai v2), (3, ai (v3 + (1 : Int32)))]) [2, 3, 4, 0] rfl ?_
      exact ih _ _ hw
set_option maxRecDepth 100000 in
set_option maxHeartbeats 4000000 in
theorem s_M_swapsRows {d : Nat} {v0 : Nat} {v1 : Int32} {v2 : Int32} {h : Hp} {Q : Hp → Prop} {QQ : Option AV → Hp → Prop} (hw : w_M_swapsRows v0 v1 v2 h Q) (hQ : ∀ h9, Q h9 → QQ none h9) : aCall m_M_swapsRows d [ar v0, ai v1, ai v2] h 0 0 QQ := by
  refine aCall_in pl_M_swapsRows (nle rfl) ?_
  show aW none m_M_swapsRows d 0 [(0, ar v0), (1, ai v1), (2, ai v2)] [] h 0 0 QQ
  unfold w_M_swapsRows at hw
  refine r_iconst d_M_swapsRows_0 kc_0 ?_
  refine r_istore_n (ls2 := [(3, ai (0 : Int32)), (0, ar v0), (1, ai v1), (2, ai v2)]) d_M_swapsRows_1 (nle rfl) rfl ?_
  obtain ⟨n5, hw⟩ := hw
  refine r_pick (ls2 := [(0, ar v0), (1, ai v1), (2, ai v2), (3, ai (0 : Int32))]) [1, 2, 3, 0] rfl ?_
  exact s_M_swapsRows_L2 hQ  n5 _ _ hw
set_option maxRecDepth 100000 in
set_option maxHeartbeats 4000000 in
theorem s_M_clears_L27 {d : Nat} {Q : Hp → Prop} {QQ : Option AV → Hp → Prop} (hQ : ∀ h9, Q h9 → QQ none h9) {v0 : Nat} {v1 : Int32} {v2 : Int32} {v4 : Int64} {v6 : Int64} : ∀ (n : Nat) (v8 : Int32) (h : Hp), w_M_clears_L27 Q  v0 v1 v2 v4 v6 n v8 h → aW none m_M_clears d 27 [(0, ar v0), (1, ai v1), (2, ai v2), (4, al v4), (6, al v6), (8, ai v8)] [] h 0 0 QQ := by
  intro n
  induction n with
  | zero => intro v8 h hw; exact hw.elim
  | succ n ih =>
    intro v8 h hw
    unfold w_M_clears_L27 at hw
    refine r_iload (j := 5) d_M_clears_27 rfl ?_
    refine r_iconst d_M_clears_29 kc_5 ?_
    refine r_icmp_ge d_M_clears_30 (fun w9 => ?_) (fun w9 => ?_)
    · replace hw := hw.1 w9
      exact r_return d_M_clears_79.1 rfl (hQ _ hw)
    · replace hw := hw.2 w9
      refine r_aload_n (j := 0) d_M_clears_33 rfl ?_
      obtain ⟨q5, hw⟩ := hw
      refine r_getR d_M_clears_34 ok_12 (nle rfl) (nle rfl) rfl lf_M_74 q5 ?_
      refine r_iconst d_M_clears_37 kc_5 ?_
      refine r_iload_n (j := 1) d_M_clears_38 rfl ?_
      refine r_imul d_M_clears_39 ?_
      refine r_iload (j := 5) d_M_clears_40 rfl ?_
      refine r_iadd d_M_clears_42 ?_
      refine r_aload_n (j := 0) d_M_clears_43 rfl ?_
      refine r_getR d_M_clears_44 ok_12 (nle rfl) (nle rfl) rfl lf_M_74 q5 ?_
      refine r_iconst d_M_clears_47 kc_5 ?_
      refine r_iload_n (j := 1) d_M_clears_48 rfl ?_
      refine r_imul d_M_clears_49 ?_
      refine r_iload (j := 5) d_M_clears_50 rfl ?_
      refine r_iadd d_M_clears_52 ?_
      obtain ⟨q6, hw⟩ := hw
      obtain ⟨q7, hw⟩ := hw
      refine r_lald d_M_clears_53 q6 q7 ?_
      refine r_lload (j := 3) d_M_clears_54 rfl ?_
      refine r_lmul d_M_clears_56 ?_
      refine r_aload_n (j := 0) d_M_clears_57 rfl ?_
      refine r_getR d_M_clears_58 ok_12 (nle rfl) (nle rfl) rfl lf_M_74 q5 ?_
      refine r_iconst d_M_clears_61 kc_5 ?_
      refine r_iload_n (j := 2) d_M_clears_62 rfl ?_
      refine r_imul d_M_clears_63 ?_
      refine r_iload (j := 5) d_M_clears_64 rfl ?_
      refine r_iadd d_M_clears_66 ?_
      obtain ⟨q8, hw⟩ := hw
      refine r_lald d_M_clears_67 q6 q8 ?_
      refine r_lload (j := 4) d_M_clears_68 rfl ?_
      refine r_lmul d_M_clears_70 ?_
      refine r_lsub d_M_clears_71 ?_
      refine r_last d_M_clears_72 q6 q7 ?_
      refine r_iinc (j := 5) (ls2 := [(8, ai (v8 + (1 : Int32))), (0, ar v0), (1, ai v1), (2, ai v2), (4, al v4), (6, al v6)]) d_M_clears_73 rfl (congrArg (HAdd.hAdd v8) kc_1) (nle rfl) rfl ?_
      refine r_goto d_M_clears_76 ?_
      refine r_pick (ls2 := [(0, ar v0), (1, ai v1), (2, ai v2), (4, al v4), (6, al v6), (8, ai (v8 + (1 : Int32)))]) [1, 2, 3, 4, 5, 0] rfl ?_
      exact ih _ _ hw
set_option maxRecDepth 100000 in
set_option maxHeartbeats 4000000 in
theorem s_M_clears {d : Nat} {v0 : Nat} {v1 : Int32} {v2 : Int32} {v3 : Int32} {h : Hp} {Q : Hp → Prop} {QQ : Option AV → Hp → Prop} (hw : w_M_clears v0 v1 v2 v3 h Q) (hQ : ∀ h9, Q h9 → QQ none h9) : aCall m_M_clears d [ar v0, ai v1, ai v2, ai v3] h 0 0 QQ := by
  refine aCall_in pl_M_clears (nle rfl) ?_
  show aW none m_M_clears d 0 [(0, ar v0), (1, ai v1), (2, ai v2), (3, ai v3)] [] h 0 0 QQ
  unfold w_M_clears at hw
  refine r_aload_n (j := 0) d_M_clears_0 rfl ?_
  obtain ⟨q1, hw⟩ := hw
  refine r_getR d_M_clears_1 ok_12 (nle rfl) (nle rfl) rfl lf_M_74 q1 ?_
  refine r_iconst d_M_clears_4 kc_5 ?_
  refine r_iload_n (j := 2) d_M_clears_5 rfl ?_
  refine r_imul d_M_clears_6 ?_
  refine r_iload_n (j := 3) d_M_clears_7 rfl ?_
  refine r_iadd d_M_clears_8 ?_
  obtain ⟨q2, hw⟩ := hw
  obtain ⟨q3, hw⟩ := hw
  refine r_lald d_M_clears_9 q2 q3 ?_
  refine r_lstore (ls2 := [(4, al (gL h (gR h v0 45) (ix (((5 : Int32) * v2) + v3)))), (0, ar v0), (1, ai v1), (2, ai v2), (3, ai v3)]) d_M_clears_10 (nle rfl) rfl ?_
  refine r_aload_n (j := 1) d_M_clears_12 rfl ?_
  refine r_getR d_M_clears_13 ok_12 (nle rfl) (nle rfl) rfl lf_M_74 q1 ?_
  refine r_iconst d_M_clears_16 kc_5 ?_
  refine r_iload_n (j := 2) d_M_clears_17 rfl ?_
  refine r_imul d_M_clears_18 ?_
  refine r_iload_n (j := 4) d_M_clears_19 rfl ?_
  refine r_iadd d_M_clears_20 ?_
  obtain ⟨q4, hw⟩ := hw
  refine r_lald d_M_clears_21 q2 q4 ?_
  refine r_lstore (ls2 := [(6, al (gL h (gR h v0 45) (ix (((5 : Int32) * v1) + v3)))), (4, al (gL h (gR h v0 45) (ix (((5 : Int32) * v2) + v3)))), (0, ar v0), (1, ai v1), (2, ai v2), (3, ai v3)]) d_M_clears_22 (nle rfl) rfl ?_
  refine r_iconst d_M_clears_24 kc_0 ?_
  refine r_istore (ls2 := [(8, ai (0 : Int32)), (6, al (gL h (gR h v0 45) (ix (((5 : Int32) * v1) + v3)))), (4, al (gL h (gR h v0 45) (ix (((5 : Int32) * v2) + v3)))), (0, ar v0), (1, ai v1), (2, ai v2), (3, ai v3)]) d_M_clears_25 (nle rfl) rfl ?_
  obtain ⟨n9, hw⟩ := hw
  refine r_pick (ls2 := [(0, ar v0), (1, ai v1), (2, ai v2), (4, al (gL h (gR h v0 45) (ix (((5 : Int32) * v2) + v3)))), (6, al (gL h (gR h v0 45) (ix (((5 : Int32) * v1) + v3)))), (8, ai (0 : Int32))]) [3, 4, 5, 2, 1, 0] rfl ?_
  exact s_M_clears_L27 hQ  n9 _ _ hw
set_option maxRecDepth 100000 in
set_option maxHeartbeats 4000000 in
theorem s_M_comesBy_B393 {d : Nat} (hd : 1 ≤ d + 1) {Q : Bool → Hp → Prop} {QQ : Option AV → Hp → Prop} (hQ : ∀ r9 h9, Q r9 h9 → QQ (some (ai (b2i r9))) h9) {v0 : Nat} {v2 : Int32} {v3 : Int32} {v6 : Int64} {v8 : Int64} {s0 : Nat} {s1 : Int32} {s2 : Int64} {h : Hp} {k294 : Int32 → Hp → Prop} (hk294 : ∀ v3 h9, k294 v3 h9 → aW none m_M_comesBy (d + 1) 294 [(0, ar v0), (2, ai v2), (3, ai v3)] [] h9 0 0 QQ) (hw : w_M_comesBy_B393 Q k294 v0 v2 v3 v6 v8 s0 s1 s2 h) : aW none m_M_comesBy (d + 1) 393 [(0, ar v0), (2, ai v2), (3, ai v3), (6, al v6), (8, al v8)] [al s2, ai s1, ar s0] h 0 0 QQ := by
  unfold w_M_comesBy_B393 at hw
  refine r_lload (j := 4) d_M_comesBy_393 rfl ?_
  obtain ⟨q13, hw⟩ := hw
  refine r_ldiv d_M_comesBy_395 q13 ?_
  obtain ⟨q14, hw⟩ := hw
  obtain ⟨q15, hw⟩ := hw
  refine r_last d_M_comesBy_396 q14 q15 ?_
  refine r_aload_n (j := 0) d_M_comesBy_397 rfl ?_
  obtain ⟨q16, hw⟩ := hw
  refine r_getRb eRL d_M_comesBy_398 ok_12 (nle rfl) (nle rfl) rfl lf_M_80 (kt eKL q16) ?_
  refine r_aload_n (j := 0) d_M_comesBy_401 rfl ?_
  refine r_getRb eRL d_M_comesBy_402 ok_12 (nle rfl) (nle rfl) rfl lf_M_89 (kt eKL q16) ?_
  refine r_iload_n (j := 2) d_M_comesBy_405 rfl ?_
  obtain ⟨q17, hw⟩ := hw
  obtain ⟨q18, hw⟩ := hw
  refine r_iald d_M_comesBy_406 (kt eKL q17) (nt eNL q18) ?_
  refine r_lload (j := 3) d_M_comesBy_407 rfl ?_
  refine r_lconst d_M_comesBy_409 kl_0 ?_
  refine r_lcmp d_M_comesBy_410 ?_
  refine r_if_ge d_M_comesBy_411 (fun w9 => ?_) (fun w9 => ?_)
  · replace hw := hw.1 ((lg_cmp_ge _ _).mp w9)
    refine r_lload (j := 3) d_M_comesBy_420 rfl ?_
    refine r_lload (j := 4) d_M_comesBy_422 rfl ?_
    refine r_ldiv d_M_comesBy_424 q13 ?_
    obtain ⟨q19, hw⟩ := hw
    obtain ⟨q20, hw⟩ := hw
    refine r_last d_M_comesBy_425 (kt eKL q19) (nt eNL q20) ?_
    refine r_iinc (j := 2) (ls2 := [(3, ai (v3 + (1 : Int32))), (0, ar v0), (2, ai v2), (6, al v6), (8, al v8)]) d_M_comesBy_426 rfl (congrArg (HAdd.hAdd v3) kc_1) (nle rfl) rfl ?_
    refine r_goto d_M_comesBy_429 ?_
    refine r_pick (ls2 := [(0, ar v0), (2, ai v2), (3, ai (v3 + (1 : Int32)))]) [1, 2, 0] rfl ?_
    exact hk294 _ _ hw
  · replace hw := hw.2 (fun g9 => w9 ((lg_cmp_ge _ _).mpr g9))
    refine r_lload (j := 3) d_M_comesBy_414 rfl ?_
    refine r_lneg d_M_comesBy_416 ?_
    refine r_goto d_M_comesBy_417 ?_
    refine r_lload (j := 4) d_M_comesBy_422 rfl ?_
    refine r_ldiv d_M_comesBy_424 q13 ?_
    obtain ⟨q21, hw⟩ := hw
    obtain ⟨q22, hw⟩ := hw
    refine r_last d_M_comesBy_425 (kt eKL q21) (nt eNL q22) ?_
    refine r_iinc (j := 2) (ls2 := [(3, ai (v3 + (1 : Int32))), (0, ar v0), (2, ai v2), (6, al v6), (8, al v8)]) d_M_comesBy_426 rfl (congrArg (HAdd.hAdd v3) kc_1) (nle rfl) rfl ?_
    refine r_goto d_M_comesBy_429 ?_
    refine r_pick (ls2 := [(0, ar v0), (2, ai v2), (3, ai (v3 + (1 : Int32)))]) [1, 2, 0] rfl ?_
    exact hk294 _ _ hw
set_option maxRecDepth 100000 in
set_option maxHeartbeats 4000000 in
theorem s_M_comesBy_B354 {d : Nat} (hd : 1 ≤ d + 1) {Q : Bool → Hp → Prop} {QQ : Option AV → Hp → Prop} (hQ : ∀ r9 h9, Q r9 h9 → QQ (some (ai (b2i r9))) h9) {v0 : Nat} {v2 : Int32} {v3 : Int32} {v4 : Int64} {v6 : Int64} {s0 : Int32} {s1 : Int32} {h : Hp} {k294 : Int32 → Hp → Prop} (hk294 : ∀ v3 h9, k294 v3 h9 → aW none m_M_comesBy (d + 1) 294 [(0, ar v0), (2, ai v2), (3, ai v3)] [] h9 0 0 QQ) (hw : w_M_comesBy_B354 Q k294 v0 v2 v3 v4 v6 s0 s1 h) : aW none m_M_comesBy (d + 1) 354 [(0, ar v0), (2, ai v2), (3, ai v3), (4, al v4), (6, al v6)] [ai s1, ai s0] h 0 0 QQ := by
  unfold w_M_comesBy_B354 at hw
  refine r_icmp_eq d_M_comesBy_354 (fun w9 => ?_) (fun w9 => ?_)
  · replace hw := hw.1 w9
    refine r_lload (j := 3) d_M_comesBy_359 rfl ?_
    refine r_lload (j := 4) d_M_comesBy_361 rfl ?_
    refine r_callS (av := [al v4, al v6]) (rest := []) d_M_comesBy_363 mk_M_common ll_M_440 st_M_common rfl rfl (nle rfl) (s_M_common  hw (fun r9 h8 hw => ?_))
    show aW none m_M_comesBy (d + 1) 366 [(0, ar v0), (2, ai v2), (3, ai v3), (4, al v4), (6, al v6)] [al r9] h8 0 0 QQ
    refine r_lstore (ls2 := [(8, al r9), (0, ar v0), (2, ai v2), (3, ai v3), (4, al v4), (6, al v6)]) d_M_comesBy_366 (nle rfl) rfl ?_
    refine r_aload_n (j := 1) d_M_comesBy_368 rfl ?_
    obtain ⟨q10, hw⟩ := hw
    refine r_getR d_M_comesBy_369 ok_12 (nle rfl) (nle rfl) rfl lf_M_77 q10 ?_
    refine r_aload_n (j := 1) d_M_comesBy_372 rfl ?_
    refine r_getR d_M_comesBy_373 ok_12 (nle rfl) (nle rfl) rfl lf_M_89 q10 ?_
    refine r_iload_n (j := 3) d_M_comesBy_376 rfl ?_
    obtain ⟨q11, hw⟩ := hw
    obtain ⟨q12, hw⟩ := hw
    refine r_iald d_M_comesBy_377 q11 q12 ?_
    refine r_lload (j := 4) d_M_comesBy_378 rfl ?_
    refine r_lconst d_M_comesBy_380 kl_0 ?_
    refine r_lcmp d_M_comesBy_381 ?_
    refine r_if_ge d_M_comesBy_382 (fun w9 => ?_) (fun w9 => ?_)
    · replace hw := hw.1 ((lg_cmp_ge _ _).mp w9)
      refine r_lload (j := 4) d_M_comesBy_391 rfl ?_
      refine r_pick (ls2 := [(0, ar v0), (2, ai v2), (3, ai v3), (6, al v6), (8, al r9)]) [1, 2, 3, 5, 0] rfl ?_
      exact s_M_comesBy_B393 hd hQ hk294 hw
    · replace hw := hw.2 (fun g9 => w9 ((lg_cmp_ge _ _).mpr g9))
      refine r_lload (j := 4) d_M_comesBy_385 rfl ?_
      refine r_lneg d_M_comesBy_387 ?_
      refine r_goto d_M_comesBy_388 ?_
      refine r_pick (ls2 := [(0, ar v0), (2, ai v2), (3, ai v3), (6, al v6), (8, al r9)]) [1, 2, 3, 5, 0] rfl ?_
      exact s_M_comesBy_B393 hd hQ hk294 hw
  · replace hw := hw.2 w9
    refine r_iconst d_M_comesBy_357 kc_0 ?_
    exact r_zreturn d_M_comesBy_358.1 rfl (Or.inl rfl) (hQ _ _ hw)
set_option maxRecDepth 100000 in
set_option maxHeartbeats 4000000 in
theorem s_M_comesBy_B342 {d : Nat} (hd : 1 ≤ d + 1) {Q : Bool → Hp → Prop} {QQ : Option AV → Hp → Prop} (hQ : ∀ r9 h9, Q r9 h9 → QQ (some (ai (b2i r9))) h9) {v0 : Nat} {v2 : Int32} {v3 : Int32} {v4 : Int64} {v6 : Int64} {s0 : Int32} {h : Hp} {k294 : Int32 → Hp → Prop} (hk294 : ∀ v3 h9, k294 v3 h9 → aW none m_M_comesBy (d + 1) 294 [(0, ar v0), (2, ai v2), (3, ai v3)] [] h9 0 0 QQ) (hw : w_M_comesBy_B342 Q k294 v0 v2 v3 v4 v6 s0 h) : aW none m_M_comesBy (d + 1) 342 [(0, ar v0), (2, ai v2), (3, ai v3), (4, al v4), (6, al v6)] [ai s0] h 0 0 QQ := by
  unfold w_M_comesBy_B342 at hw
  refine r_lload (j := 4) d_M_comesBy_342 rfl ?_
  refine r_lconst d_M_comesBy_344 kl_0 ?_
  refine r_lcmp d_M_comesBy_345 ?_
  refine r_if_le d_M_comesBy_346 (fun w9 => ?_) (fun w9 => ?_)
  · replace hw := hw.1 ((lg_cmp_le _ _).mp w9)
    refine r_iconst d_M_comesBy_353 kc_0 ?_
    exact s_M_comesBy_B354 hd hQ hk294 hw
  · replace hw := hw.2 (fun g9 => w9 ((lg_cmp_le _ _).mpr g9))
    refine r_iconst d_M_comesBy_349 kc_1 ?_
    refine r_goto d_M_comesBy_350 ?_
    exact s_M_comesBy_B354 hd hQ hk294 hw
set_option maxRecDepth 100000 in
set_option maxHeartbeats 4000000 in
theorem s_M_comesBy_L294 {d : Nat} (hd : 1 ≤ d + 1) {Q : Bool → Hp → Prop} {QQ : Option AV → Hp → Prop} (hQ : ∀ r9 h9, Q r9 h9 → QQ (some (ai (b2i r9))) h9) {v0 : Nat} {v2 : Int32} : ∀ (n : Nat) (v3 : Int32) (h : Hp), w_M_comesBy_L294 Q  v0 v2 n v3 h → aW none m_M_comesBy (d + 1) 294 [(0, ar v0), (2, ai v2), (3, ai v3)] [] h 0 0 QQ := by
  intro n
  induction n with
  | zero => intro v3 h hw; exact hw.elim
  | succ n ih =>
    intro v3 h hw
    unfold w_M_comesBy_L294 at hw
    refine r_iload_n (j := 2) d_M_comesBy_294 rfl ?_
    refine r_iload_n (j := 1) d_M_comesBy_295 rfl ?_
    refine r_icmp_ge d_M_comesBy_296 (fun w9 => ?_) (fun w9 => ?_)
    · replace hw := hw.1 w9
      refine r_iconst d_M_comesBy_432 kc_1 ?_
      exact r_zreturn d_M_comesBy_433.1 rfl (Or.inr rfl) (hQ _ _ hw)
    · replace hw := hw.2 w9
      refine r_aload_n (j := 0) d_M_comesBy_299 rfl ?_
      obtain ⟨q4, hw⟩ := hw
      refine r_getR d_M_comesBy_300 ok_12 (nle rfl) (nle rfl) rfl lf_M_74 q4 ?_
      refine r_iconst d_M_comesBy_303 kc_5 ?_
      refine r_iload_n (j := 2) d_M_comesBy_304 rfl ?_
      refine r_imul d_M_comesBy_305 ?_
      refine r_iconst d_M_comesBy_306 kc_4 ?_
      refine r_iadd d_M_comesBy_307 ?_
      obtain ⟨q5, hw⟩ := hw
      obtain ⟨q6, hw⟩ := hw
      refine r_lald d_M_comesBy_308 q5 q6 ?_
      refine r_lstore (ls2 := [(4, al (gL h (gR h v0 45) (ix (((5 : Int32) * v3) + (4 : Int32))))), (0, ar v0), (2, ai v2), (3, ai v3)]) d_M_comesBy_309 (nle rfl) rfl ?_
      refine r_aload_n (j := 1) d_M_comesBy_311 rfl ?_
      refine r_getR d_M_comesBy_312 ok_12 (nle rfl) (nle rfl) rfl lf_M_74 q4 ?_
      refine r_iconst d_M_comesBy_315 kc_5 ?_
      refine r_iload_n (j := 3) d_M_comesBy_316 rfl ?_
      refine r_imul d_M_comesBy_317 ?_
      refine r_iload_n (j := 3) d_M_comesBy_318 rfl ?_
      refine r_iadd d_M_comesBy_319 ?_
      obtain ⟨q7, hw⟩ := hw
      refine r_lald d_M_comesBy_320 q5 q7 ?_
      refine r_lstore (ls2 := [(6, al (gL h (gR h v0 45) (ix (((5 : Int32) * v3) + v3)))), (4, al (gL h (gR h v0 45) (ix (((5 : Int32) * v3) + (4 : Int32))))), (0, ar v0), (2, ai v2), (3, ai v3)]) d_M_comesBy_321 (nle rfl) rfl ?_
      refine r_lload (j := 1) d_M_comesBy_323 rfl ?_
      refine r_lconst d_M_comesBy_325 kl_0 ?_
      refine r_lcmp d_M_comesBy_326 ?_
      refine r_if_eq d_M_comesBy_327 (fun w9 => ?_) (fun w9 => ?_)
      · replace hw := hw.1 ((lg_cmp_eq _ _).mp w9)
        refine r_iconst d_M_comesBy_357 kc_0 ?_
        exact r_zreturn d_M_comesBy_358.1 rfl (Or.inl rfl) (hQ _ _ hw)
      · replace hw := hw.2 (fun g9 => w9 ((lg_cmp_eq _ _).mpr g9))
        refine r_lload (j := 1) d_M_comesBy_330 rfl ?_
        refine r_lconst d_M_comesBy_332 kl_0 ?_
        refine r_lcmp d_M_comesBy_333 ?_
        refine r_if_le d_M_comesBy_334 (fun w9 => ?_) (fun w9 => ?_)
        · replace hw := hw.1 ((lg_cmp_le _ _).mp w9)
          refine r_iconst d_M_comesBy_341 kc_0 ?_
          refine r_pick (ls2 := [(0, ar v0), (2, ai v2), (3, ai v3), (4, al (gL h (gR h v0 45) (ix (((5 : Int32) * v3) + (4 : Int32))))), (6, al (gL h (gR h v0 45) (ix (((5 : Int32) * v3) + v3))))]) [2, 3, 4, 1, 0] rfl ?_
          exact s_M_comesBy_B342 hd hQ ih hw
        · replace hw := hw.2 (fun g9 => w9 ((lg_cmp_le _ _).mpr g9))
          refine r_iconst d_M_comesBy_337 kc_1 ?_
          refine r_goto d_M_comesBy_338 ?_
          refine r_pick (ls2 := [(0, ar v0), (2, ai v2), (3, ai v3), (4, al (gL h (gR h v0 45) (ix (((5 : Int32) * v3) + (4 : Int32))))), (6, al (gL h (gR h v0 45) (ix (((5 : Int32) * v3) + v3))))]) [2, 3, 4, 1, 0] rfl ?_
          exact s_M_comesBy_B342 hd hQ ih hw
set_option maxRecDepth 100000 in
set_option maxHeartbeats 4000000 in
theorem s_M_comesBy_L261 {d : Nat} (hd : 1 ≤ d + 1) {Q : Bool → Hp → Prop} {QQ : Option AV → Hp → Prop} (hQ : ∀ r9 h9, Q r9 h9 → QQ (some (ai (b2i r9))) h9) {v0 : Nat} {v2 : Int32} : ∀ (n : Nat) (v3 : Int32) (h : Hp), w_M_comesBy_L261 Q  v0 v2 n v3 h → aW none m_M_comesBy (d + 1) 261 [(0, ar v0), (2, ai v2), (3, ai v3)] [] h 0 0 QQ := by
  intro n
  induction n with
  | zero => intro v3 h hw; exact hw.elim
  | succ n ih =>
    intro v3 h hw
    unfold w_M_comesBy_L261 at hw
    refine r_iload_n (j := 2) d_M_comesBy_261 rfl ?_
    refine r_aload_n (j := 0) d_M_comesBy_262 rfl ?_
    obtain ⟨q3, hw⟩ := hw
    refine r_getI d_M_comesBy_263 ok_12 (nle rfl) (nle rfl) rfl lf_M_244 q3 ?_
    refine r_icmp_ge d_M_comesBy_266 (fun w9 => ?_) (fun w9 => ?_)
    · replace hw := hw.1 w9
      refine r_iconst d_M_comesBy_292 kc_0 ?_
      refine r_istore_n (ls2 := [(3, ai (0 : Int32)), (0, ar v0), (2, ai v2)]) d_M_comesBy_293 (nle rfl) rfl ?_
      obtain ⟨n23, hw⟩ := hw
      refine r_pick (ls2 := [(0, ar v0), (2, ai v2), (3, ai (0 : Int32))]) [1, 2, 0] rfl ?_
      exact s_M_comesBy_L294 hd hQ  n23 _ _ hw
    · replace hw := hw.2 w9
      refine r_aload_n (j := 0) d_M_comesBy_269 rfl ?_
      refine r_getR d_M_comesBy_270 ok_12 (nle rfl) (nle rfl) rfl lf_M_74 q3 ?_
      refine r_iconst d_M_comesBy_273 kc_5 ?_
      refine r_iload_n (j := 2) d_M_comesBy_274 rfl ?_
      refine r_imul d_M_comesBy_275 ?_
      refine r_iconst d_M_comesBy_276 kc_4 ?_
      refine r_iadd d_M_comesBy_277 ?_
      obtain ⟨q24, hw⟩ := hw
      obtain ⟨q25, hw⟩ := hw
      refine r_lald d_M_comesBy_278 q24 q25 ?_
      refine r_lconst d_M_comesBy_279 kl_0 ?_
      refine r_lcmp d_M_comesBy_280 ?_
      refine r_if_eq d_M_comesBy_281 (fun w9 => ?_) (fun w9 => ?_)
      · replace hw := hw.1 ((lg_cmp_eq _ _).mp w9)
        refine r_iinc (j := 2) (ls2 := [(3, ai (v3 + (1 : Int32))), (0, ar v0), (2, ai v2)]) d_M_comesBy_286 rfl (congrArg (HAdd.hAdd v3) kc_1) (nle rfl) rfl ?_
        refine r_goto d_M_comesBy_289 ?_
        refine r_pick (ls2 := [(0, ar v0), (2, ai v2), (3, ai (v3 + (1 : Int32)))]) [1, 2, 0] rfl ?_
        exact ih _ _ hw
      · replace hw := hw.2 (fun g9 => w9 ((lg_cmp_eq _ _).mpr g9))
        refine r_iconst d_M_comesBy_284 kc_0 ?_
        exact r_zreturn d_M_comesBy_285.1 rfl (Or.inl rfl) (hQ _ _ hw)
set_option maxRecDepth 100000 in
set_option maxHeartbeats 4000000 in
theorem s_M_comesBy_L224 {d : Nat} (hd : 1 ≤ d + 1) {Q : Bool → Hp → Prop} {QQ : Option AV → Hp → Prop} (hQ : ∀ r9 h9, Q r9 h9 → QQ (some (ai (b2i r9))) h9) {v0 : Nat} {v2 : Int32} {v3 : Int32} {k164 : Int32 → Hp → Prop} (hk164 : ∀ v3 h9, k164 v3 h9 → aW none m_M_comesBy (d + 1) 164 [(0, ar v0), (2, ai v2), (3, ai v3)] [] h9 0 0 QQ) : ∀ (n : Nat) (v5 : Int32) (h : Hp), w_M_comesBy_L224 Q k164 v0 v2 v3 n v5 h → aW none m_M_comesBy (d + 1) 224 [(0, ar v0), (2, ai v2), (3, ai v3), (5, ai v5)] [] h 0 0 QQ := by
  intro n
  induction n with
  | zero => intro v5 h hw; exact hw.elim
  | succ n ih =>
    intro v5 h hw
    unfold w_M_comesBy_L224 at hw
    refine r_iload (j := 3) d_M_comesBy_224 rfl ?_
    refine r_aload_n (j := 0) d_M_comesBy_226 rfl ?_
    obtain ⟨q30, hw⟩ := hw
    refine r_getI d_M_comesBy_227 ok_12 (nle rfl) (nle rfl) rfl lf_M_244 q30 ?_
    refine r_icmp_ge d_M_comesBy_230 (fun w9 => ?_) (fun w9 => ?_)
    · replace hw := hw.1 w9
      refine r_iinc (j := 2) (ls2 := [(3, ai (v3 + (1 : Int32))), (0, ar v0), (2, ai v2), (5, ai v5)]) d_M_comesBy_253 rfl (congrArg (HAdd.hAdd v3) kc_1) (nle rfl) rfl ?_
      refine r_goto d_M_comesBy_256 ?_
      refine r_pick (ls2 := [(0, ar v0), (2, ai v2), (3, ai (v3 + (1 : Int32)))]) [1, 2, 0] rfl ?_
      exact hk164 _ _ hw
    · replace hw := hw.2 w9
      refine r_iload (j := 3) d_M_comesBy_233 rfl ?_
      refine r_iload_n (j := 2) d_M_comesBy_235 rfl ?_
      refine r_icmp_eq d_M_comesBy_236 (fun w9 => ?_) (fun w9 => ?_)
      · replace hw := hw.1 w9
        refine r_iinc (j := 3) (ls2 := [(5, ai (v5 + (1 : Int32))), (0, ar v0), (2, ai v2), (3, ai v3)]) d_M_comesBy_247 rfl (congrArg (HAdd.hAdd v5) kc_1) (nle rfl) rfl ?_
        refine r_goto d_M_comesBy_250 ?_
        refine r_pick (ls2 := [(0, ar v0), (2, ai v2), (3, ai v3), (5, ai (v5 + (1 : Int32)))]) [1, 2, 3, 0] rfl ?_
        exact ih _ _ hw
      · replace hw := hw.2 w9
        refine r_aload_n (j := 0) d_M_comesBy_239 rfl ?_
        refine r_iload (j := 3) d_M_comesBy_240 rfl ?_
        refine r_iload_n (j := 2) d_M_comesBy_242 rfl ?_
        refine r_iload_n (j := 2) d_M_comesBy_243 rfl ?_
        refine r_callV (av := [ai v5, ai v3, ai v3]) (rest := []) (ci := 12) d_M_comesBy_244 mk_M_clears ll_M_447 im_M_clears se_M_clears rfl (nle rfl) rfl rfl (nle rfl) q30 (s_M_clears  hw (fun h31 hw => ?_))
        show aW none m_M_comesBy (d + 1) 247 [(0, ar v0), (2, ai v2), (3, ai v3), (5, ai v5)] [] h31 0 0 QQ
        refine r_iinc (j := 3) (ls2 := [(5, ai (v5 + (1 : Int32))), (0, ar v0), (2, ai v2), (3, ai v3)]) d_M_comesBy_247 rfl (congrArg (HAdd.hAdd v5) kc_1) (nle rfl) rfl ?_
        refine r_goto d_M_comesBy_250 ?_
        refine r_pick (ls2 := [(0, ar v0), (2, ai v2), (3, ai v3), (5, ai (v5 + (1 : Int32)))]) [1, 2, 3, 0] rfl ?_
        exact ih _ _ hw
set_option maxRecDepth 100000 in
set_option maxHeartbeats 4000000 in
theorem s_M_comesBy_B203 {d : Nat} (hd : 1 ≤ d + 1) {Q : Bool → Hp → Prop} {QQ : Option AV → Hp → Prop} (hQ : ∀ r9 h9, Q r9 h9 → QQ (some (ai (b2i r9))) h9) {v0 : Nat} {v2 : Int32} {v3 : Int32} {v4 : Int32} {h : Hp} {k164 : Int32 → Hp → Prop} (hk164 : ∀ v3 h9, k164 v3 h9 → aW none m_M_comesBy (d + 1) 164 [(0, ar v0), (2, ai v2), (3, ai v3)] [] h9 0 0 QQ) (hw : w_M_comesBy_B203 Q k164 v0 v2 v3 v4 h) : aW none m_M_comesBy (d + 1) 203 [(0, ar v0), (2, ai v2), (3, ai v3), (4, ai v4)] [] h 0 0 QQ := by
  unfold w_M_comesBy_B203 at hw
  refine r_iload (j := 3) d_M_comesBy_203 rfl ?_
  refine r_aload_n (j := 0) d_M_comesBy_205 rfl ?_
  obtain ⟨q28, hw⟩ := hw
  refine r_getI d_M_comesBy_206 ok_12 (nle rfl) (nle rfl) rfl lf_M_244 q28 ?_
  refine r_icmp_ne d_M_comesBy_209 (fun w9 => ?_) (fun w9 => ?_)
  · replace hw := hw.2 w9
    refine r_aload_n (j := 0) d_M_comesBy_214 rfl ?_
    refine r_iload_n (j := 2) d_M_comesBy_215 rfl ?_
    refine r_iload (j := 3) d_M_comesBy_216 rfl ?_
    refine r_callV (av := [ai v3, ai v4]) (rest := []) (ci := 12) d_M_comesBy_218 mk_M_swapsRows ll_M_444 im_M_swapsRows se_M_swapsRows rfl (nle rfl) rfl rfl (nle rfl) q28 (s_M_swapsRows  hw (fun h29 hw => ?_))
    show aW none m_M_comesBy (d + 1) 221 [(0, ar v0), (2, ai v2), (3, ai v3), (4, ai v4)] [] h29 0 0 QQ
    refine r_iconst d_M_comesBy_221 kc_0 ?_
    refine r_istore (ls2 := [(5, ai (0 : Int32)), (0, ar v0), (2, ai v2), (3, ai v3), (4, ai v4)]) d_M_comesBy_222 (nle rfl) rfl ?_
    obtain ⟨n32, hw⟩ := hw
    refine r_pick (ls2 := [(0, ar v0), (2, ai v2), (3, ai v3), (5, ai (0 : Int32))]) [1, 2, 3, 0] rfl ?_
    exact s_M_comesBy_L224 hd hQ hk164 n32 _ _ hw
  · replace hw := hw.1 w9
    refine r_iconst d_M_comesBy_212 kc_0 ?_
    exact r_zreturn d_M_comesBy_213.1 rfl (Or.inl rfl) (hQ _ _ hw)
set_option maxRecDepth 100000 in
set_option maxHeartbeats 4000000 in
theorem s_M_comesBy_L172 {d : Nat} (hd : 1 ≤ d + 1) {Q : Bool → Hp → Prop} {QQ : Option AV → Hp → Prop} (hQ : ∀ r9 h9, Q r9 h9 → QQ (some (ai (b2i r9))) h9) {v0 : Nat} {v2 : Int32} {v3 : Int32} {k164 : Int32 → Hp → Prop} (hk164 : ∀ v3 h9, k164 v3 h9 → aW none m_M_comesBy (d + 1) 164 [(0, ar v0), (2, ai v2), (3, ai v3)] [] h9 0 0 QQ) : ∀ (n : Nat) (v4 : Int32) (h : Hp), w_M_comesBy_L172 Q k164 v0 v2 v3 n v4 h → aW none m_M_comesBy (d + 1) 172 [(0, ar v0), (2, ai v2), (3, ai v3), (4, ai v4)] [] h 0 0 QQ := by
  intro n
  induction n with
  | zero => intro v4 h hw; exact hw.elim
  | succ n ih =>
    intro v4 h hw
    unfold w_M_comesBy_L172 at hw
    refine r_iload (j := 3) d_M_comesBy_172 rfl ?_
    refine r_aload_n (j := 0) d_M_comesBy_174 rfl ?_
    obtain ⟨q27, hw⟩ := hw
    refine r_getI d_M_comesBy_175 ok_12 (nle rfl) (nle rfl) rfl lf_M_244 q27 ?_
    refine r_icmp_ge d_M_comesBy_178 (fun w9 => ?_) (fun w9 => ?_)
    · replace hw := hw.1 w9
      exact s_M_comesBy_B203 hd hQ hk164 hw
    · replace hw := hw.2 w9
      refine r_aload_n (j := 0) d_M_comesBy_181 rfl ?_
      refine r_getR d_M_comesBy_182 ok_12 (nle rfl) (nle rfl) rfl lf_M_74 q27 ?_
      refine r_iconst d_M_comesBy_185 kc_5 ?_
      refine r_iload (j := 3) d_M_comesBy_186 rfl ?_
      refine r_imul d_M_comesBy_188 ?_
      refine r_iload_n (j := 2) d_M_comesBy_189 rfl ?_
      refine r_iadd d_M_comesBy_190 ?_
      obtain ⟨q33, hw⟩ := hw
      obtain ⟨q34, hw⟩ := hw
      refine r_lald d_M_comesBy_191 q33 q34 ?_
      refine r_lconst d_M_comesBy_192 kl_0 ?_
      refine r_lcmp d_M_comesBy_193 ?_
      refine r_if_ne d_M_comesBy_194 (fun w9 => ?_) (fun w9 => ?_)
      · replace hw := hw.2 (fun g9 => w9 ((lg_cmp_eq _ _).mpr g9))
        exact s_M_comesBy_B203 hd hQ hk164 hw
      · replace hw := hw.1 ((lg_cmp_eq _ _).mp w9)
        refine r_iinc (j := 3) (ls2 := [(4, ai (v4 + (1 : Int32))), (0, ar v0), (2, ai v2), (3, ai v3)]) d_M_comesBy_197 rfl (congrArg (HAdd.hAdd v4) kc_1) (nle rfl) rfl ?_
        refine r_goto d_M_comesBy_200 ?_
        refine r_pick (ls2 := [(0, ar v0), (2, ai v2), (3, ai v3), (4, ai (v4 + (1 : Int32)))]) [1, 2, 3, 0] rfl ?_
        exact ih _ _ hw
set_option maxRecDepth 100000 in
set_option maxHeartbeats 4000000 in
theorem s_M_comesBy_L164 {d : Nat} (hd : 1 ≤ d + 1) {Q : Bool → Hp → Prop} {QQ : Option AV → Hp → Prop} (hQ : ∀ r9 h9, Q r9 h9 → QQ (some (ai (b2i r9))) h9) {v0 : Nat} {v2 : Int32} : ∀ (n : Nat) (v3 : Int32) (h : Hp), w_M_comesBy_L164 Q  v0 v2 n v3 h → aW none m_M_comesBy (d + 1) 164 [(0, ar v0), (2, ai v2), (3, ai v3)] [] h 0 0 QQ := by
  intro n
  induction n with
  | zero => intro v3 h hw; exact hw.elim
  | succ n ih =>
    intro v3 h hw
    unfold w_M_comesBy_L164 at hw
    refine r_iload_n (j := 2) d_M_comesBy_164 rfl ?_
    refine r_iload_n (j := 1) d_M_comesBy_165 rfl ?_
    refine r_icmp_ge d_M_comesBy_166 (fun w9 => ?_) (fun w9 => ?_)
    · replace hw := hw.1 w9
      refine r_iload_n (j := 1) d_M_comesBy_259 rfl ?_
      refine r_istore_n (ls2 := [(3, ai v2), (0, ar v0), (2, ai v2)]) d_M_comesBy_260 (nle rfl) rfl ?_
      obtain ⟨n26, hw⟩ := hw
      refine r_pick (ls2 := [(0, ar v0), (2, ai v2), (3, ai v2)]) [1, 2, 0] rfl ?_
      exact s_M_comesBy_L261 hd hQ  n26 _ _ hw
    · replace hw := hw.2 w9
      refine r_iload_n (j := 2) d_M_comesBy_169 rfl ?_
      refine r_istore (ls2 := [(4, ai v3), (0, ar v0), (2, ai v2), (3, ai v3)]) d_M_comesBy_170 (nle rfl) rfl ?_
      obtain ⟨n35, hw⟩ := hw
      refine r_pick (ls2 := [(0, ar v0), (2, ai v2), (3, ai v3), (4, ai v3)]) [1, 2, 3, 0] rfl ?_
      exact s_M_comesBy_L172 hd hQ ih n35 _ _ hw
set_option maxRecDepth 100000 in
set_option maxHeartbeats 4000000 in
theorem s_M_comesBy_L115 {d : Nat} (hd : 1 ≤ d + 1) {Q : Bool → Hp → Prop} {QQ : Option AV → Hp → Prop} (hQ : ∀ r9 h9, Q r9 h9 → QQ (some (ai (b2i r9))) h9) {v0 : Nat} {v2 : Int32} {v3 : Int32} {k65 : Int32 → Hp → Prop} (hk65 : ∀ v3 h9, k65 v3 h9 → aW none m_M_comesBy (d + 1) 65 [(0, ar v0), (2, ai v2), (3, ai v3)] [] h9 0 0 QQ) : ∀ (n : Nat) (v4 : Int32) (h : Hp), w_M_comesBy_L115 Q k65 v0 v2 v3 n v4 h → aW none m_M_comesBy (d + 1) 115 [(0, ar v0), (2, ai v2), (3, ai v3), (4, ai v4)] [] h 0 0 QQ := by
  intro n
  induction n with
  | zero => intro v4 h hw; exact hw.elim
  | succ n ih =>
    intro v4 h hw
    unfold w_M_comesBy_L115 at hw
    refine r_iload (j := 3) d_M_comesBy_115 rfl ?_
    refine r_iconst d_M_comesBy_117 kc_4 ?_
    refine r_icmp_ge d_M_comesBy_118 (fun w9 => ?_) (fun w9 => ?_)
    · replace hw := hw.1 w9
      refine r_aload_n (j := 0) d_M_comesBy_139 rfl ?_
      obtain ⟨q37, hw⟩ := hw
      refine r_getR d_M_comesBy_140 ok_12 (nle rfl) (nle rfl) rfl lf_M_74 q37 ?_
      refine r_iconst d_M_comesBy_143 kc_5 ?_
      refine r_iload_n (j := 2) d_M_comesBy_144 rfl ?_
      refine r_imul d_M_comesBy_145 ?_
      refine r_iconst d_M_comesBy_146 kc_4 ?_
      refine r_iadd d_M_comesBy_147 ?_
      refine r_aload_n (j := 0) d_M_comesBy_148 rfl ?_
      refine r_getR d_M_comesBy_149 ok_12 (nle rfl) (nle rfl) rfl lf_M_92 q37 ?_
      refine r_iload_n (j := 2) d_M_comesBy_152 rfl ?_
      obtain ⟨q38, hw⟩ := hw
      obtain ⟨q39, hw⟩ := hw
      refine r_iald d_M_comesBy_153 q38 q39 ?_
      refine r_i2l d_M_comesBy_154 ?_
      obtain ⟨q40, hw⟩ := hw
      obtain ⟨q41, hw⟩ := hw
      refine r_last d_M_comesBy_155 q40 q41 ?_
      refine r_iinc (j := 2) (ls2 := [(3, ai (v3 + (1 : Int32))), (0, ar v0), (2, ai v2), (4, ai v4)]) d_M_comesBy_156 rfl (congrArg (HAdd.hAdd v3) kc_1) (nle rfl) rfl ?_
      refine r_goto d_M_comesBy_159 ?_
      refine r_pick (ls2 := [(0, ar v0), (2, ai v2), (3, ai (v3 + (1 : Int32)))]) [1, 2, 0] rfl ?_
      exact hk65 _ _ hw
    · replace hw := hw.2 w9
      refine r_aload_n (j := 0) d_M_comesBy_121 rfl ?_
      obtain ⟨q42, hw⟩ := hw
      refine r_getR d_M_comesBy_122 ok_12 (nle rfl) (nle rfl) rfl lf_M_74 q42 ?_
      refine r_iconst d_M_comesBy_125 kc_5 ?_
      refine r_iload_n (j := 2) d_M_comesBy_126 rfl ?_
      refine r_imul d_M_comesBy_127 ?_
      refine r_iload (j := 3) d_M_comesBy_128 rfl ?_
      refine r_iadd d_M_comesBy_130 ?_
      refine r_lconst d_M_comesBy_131 kl_0 ?_
      obtain ⟨q43, hw⟩ := hw
      obtain ⟨q44, hw⟩ := hw
      refine r_last d_M_comesBy_132 q43 q44 ?_
      refine r_iinc (j := 3) (ls2 := [(4, ai (v4 + (1 : Int32))), (0, ar v0), (2, ai v2), (3, ai v3)]) d_M_comesBy_133 rfl (congrArg (HAdd.hAdd v4) kc_1) (nle rfl) rfl ?_
      refine r_goto d_M_comesBy_136 ?_
      refine r_pick (ls2 := [(0, ar v0), (2, ai v2), (3, ai v3), (4, ai (v4 + (1 : Int32)))]) [1, 2, 3, 0] rfl ?_
      exact ih _ _ hw
set_option maxRecDepth 100000 in
set_option maxHeartbeats 4000000 in
theorem s_M_comesBy_L76 {d : Nat} (hd : 1 ≤ d + 1) {Q : Bool → Hp → Prop} {QQ : Option AV → Hp → Prop} (hQ : ∀ r9 h9, Q r9 h9 → QQ (some (ai (b2i r9))) h9) {v0 : Nat} {v2 : Int32} {v3 : Int32} {k65 : Int32 → Hp → Prop} (hk65 : ∀ v3 h9, k65 v3 h9 → aW none m_M_comesBy (d + 1) 65 [(0, ar v0), (2, ai v2), (3, ai v3)] [] h9 0 0 QQ) : ∀ (n : Nat) (v4 : Int32) (h : Hp), w_M_comesBy_L76 Q k65 v0 v2 v3 n v4 h → aW none m_M_comesBy (d + 1) 76 [(0, ar v0), (2, ai v2), (3, ai v3), (4, ai v4)] [] h 0 0 QQ := by
  intro n
  induction n with
  | zero => intro v4 h hw; exact hw.elim
  | succ n ih =>
    intro v4 h hw
    unfold w_M_comesBy_L76 at hw
    refine r_iload (j := 3) d_M_comesBy_76 rfl ?_
    refine r_iload_n (j := 1) d_M_comesBy_78 rfl ?_
    refine r_icmp_ge d_M_comesBy_79 (fun w9 => ?_) (fun w9 => ?_)
    · replace hw := hw.1 w9
      refine r_iload_n (j := 1) d_M_comesBy_112 rfl ?_
      refine r_istore (ls2 := [(4, ai v2), (0, ar v0), (2, ai v2), (3, ai v3)]) d_M_comesBy_113 (nle rfl) rfl ?_
      obtain ⟨n45, hw⟩ := hw
      refine r_pick (ls2 := [(0, ar v0), (2, ai v2), (3, ai v3), (4, ai v2)]) [1, 2, 3, 0] rfl ?_
      exact s_M_comesBy_L115 hd hQ hk65 n45 _ _ hw
    · replace hw := hw.2 w9
      refine r_aload_n (j := 0) d_M_comesBy_82 rfl ?_
      obtain ⟨q46, hw⟩ := hw
      refine r_getR d_M_comesBy_83 ok_12 (nle rfl) (nle rfl) rfl lf_M_74 q46 ?_
      refine r_iconst d_M_comesBy_86 kc_5 ?_
      refine r_iload_n (j := 2) d_M_comesBy_87 rfl ?_
      refine r_imul d_M_comesBy_88 ?_
      refine r_iload (j := 3) d_M_comesBy_89 rfl ?_
      refine r_iadd d_M_comesBy_91 ?_
      refine r_aload_n (j := 0) d_M_comesBy_92 rfl ?_
      refine r_aload_n (j := 0) d_M_comesBy_93 rfl ?_
      refine r_getR d_M_comesBy_94 ok_12 (nle rfl) (nle rfl) rfl lf_M_89 q46 ?_
      refine r_iload (j := 3) d_M_comesBy_97 rfl ?_
      obtain ⟨q47, hw⟩ := hw
      obtain ⟨q48, hw⟩ := hw
      refine r_iald d_M_comesBy_99 q47 q48 ?_
      refine r_iload_n (j := 2) d_M_comesBy_100 rfl ?_
      refine r_callV (av := [ai (gI h (gR h v0 50) (ix v4)), ai v3]) (rest := [ai (((5 : Int32) * v3) + v4), ar (gR h v0 45)]) (ci := 12) d_M_comesBy_101 mk_M_numberOf ll_M_274 im_M_numberOf se_M_numberOf rfl (nle rfl) rfl rfl (nle rfl) q46 (s_M_numberOf  hw (fun r50 h49 hw => ?_))
      show aW none m_M_comesBy (d + 1) 104 [(0, ar v0), (2, ai v2), (3, ai v3), (4, ai v4)] [ai r50, ai (((5 : Int32) * v3) + v4), ar (gR h v0 45)] h49 0 0 QQ
      refine r_i2l d_M_comesBy_104 ?_
      obtain ⟨q51, hw⟩ := hw
      obtain ⟨q52, hw⟩ := hw
      refine r_last d_M_comesBy_105 q51 q52 ?_
      refine r_iinc (j := 3) (ls2 := [(4, ai (v4 + (1 : Int32))), (0, ar v0), (2, ai v2), (3, ai v3)]) d_M_comesBy_106 rfl (congrArg (HAdd.hAdd v4) kc_1) (nle rfl) rfl ?_
      refine r_goto d_M_comesBy_109 ?_
      refine r_pick (ls2 := [(0, ar v0), (2, ai v2), (3, ai v3), (4, ai (v4 + (1 : Int32)))]) [1, 2, 3, 0] rfl ?_
      exact ih _ _ hw
set_option maxRecDepth 100000 in
set_option maxHeartbeats 4000000 in
theorem s_M_comesBy_L65 {d : Nat} (hd : 1 ≤ d + 1) {Q : Bool → Hp → Prop} {QQ : Option AV → Hp → Prop} (hQ : ∀ r9 h9, Q r9 h9 → QQ (some (ai (b2i r9))) h9) {v0 : Nat} {v2 : Int32} : ∀ (n : Nat) (v3 : Int32) (h : Hp), w_M_comesBy_L65 Q  v0 v2 n v3 h → aW none m_M_comesBy (d + 1) 65 [(0, ar v0), (2, ai v2), (3, ai v3)] [] h 0 0 QQ := by
  intro n
  induction n with
  | zero => intro v3 h hw; exact hw.elim
  | succ n ih =>
    intro v3 h hw
    unfold w_M_comesBy_L65 at hw
    refine r_iload_n (j := 2) d_M_comesBy_65 rfl ?_
    refine r_aload_n (j := 0) d_M_comesBy_66 rfl ?_
    obtain ⟨q2, hw⟩ := hw
    refine r_getI d_M_comesBy_67 ok_12 (nle rfl) (nle rfl) rfl lf_M_244 q2 ?_
    refine r_icmp_ge d_M_comesBy_70 (fun w9 => ?_) (fun w9 => ?_)
    · replace hw := hw.1 w9
      refine r_iconst d_M_comesBy_162 kc_0 ?_
      refine r_istore_n (ls2 := [(3, ai (0 : Int32)), (0, ar v0), (2, ai v2)]) d_M_comesBy_163 (nle rfl) rfl ?_
      obtain ⟨n36, hw⟩ := hw
      refine r_pick (ls2 := [(0, ar v0), (2, ai v2), (3, ai (0 : Int32))]) [1, 2, 0] rfl ?_
      exact s_M_comesBy_L164 hd hQ  n36 _ _ hw
    · replace hw := hw.2 w9
      refine r_iconst d_M_comesBy_73 kc_0 ?_
      refine r_istore (ls2 := [(4, ai (0 : Int32)), (0, ar v0), (2, ai v2), (3, ai v3)]) d_M_comesBy_74 (nle rfl) rfl ?_
      obtain ⟨n53, hw⟩ := hw
      refine r_pick (ls2 := [(0, ar v0), (2, ai v2), (3, ai v3), (4, ai (0 : Int32))]) [1, 2, 3, 0] rfl ?_
      exact s_M_comesBy_L76 hd hQ ih n53 _ _ hw
