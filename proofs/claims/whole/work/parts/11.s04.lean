set_option maxRecDepth 100000 in
set_option maxHeartbeats 4000000 in
theorem s_Ps_choose {d : Nat} (hd : 6 ≤ d + 1) {wr : Nat → Int32 → Int32 → Int32 → Hp → (Hp → Prop) → Prop} {v0 : Nat} {v1 : Int32} {v2 : Int32} {v3 : Int32} {h : Hp} {Q : Hp → Prop} {QQ : Option AV → Hp → Prop} (hwr : ∀ {a0 : Nat} {a1 a2 a3 : Int32} {h8 : Hp} {Q8 : Hp → Prop} {QQ8 : Option AV → Hp → Prop}, wr a0 a1 a2 a3 h8 Q8 → (∀ h9, Q8 h9 → QQ8 none h9) → aCall m_Ps_share d [ar a0, ai a1, ai a2, ai a3] h8 0 0 QQ8) (hw : w_Ps_choose wr v0 v1 v2 v3 h Q) (hQ : ∀ h9, Q h9 → QQ none h9) : aCall m_Ps_choose (d + 1) [ar v0, ai v1, ai v2, ai v3] h 0 0 QQ := by
  refine aCall_in pl_Ps_choose (nle rfl) ?_
  show aW none m_Ps_choose (d + 1) 0 [(0, ar v0), (1, ai v1), (2, ai v2), (3, ai v3)] [] h 0 0 QQ
  unfold w_Ps_choose at hw
  refine r_iload_n (j := 1) d_Ps_choose_0 rfl ?_
  refine r_aload_n (j := 0) d_Ps_choose_1 rfl ?_
  obtain ⟨q1, hw⟩ := hw
  refine r_getR d_Ps_choose_2 ok_7 (nle rfl) (nle rfl) rfl lf_Ps_30 q1 ?_
  obtain ⟨q2, hw⟩ := hw
  refine r_getI d_Ps_choose_5 ok_1 (nle rfl) (nle rfl) rfl lf_Ps_50 q2 ?_
  refine r_icmp_lt d_Ps_choose_8 (fun w9 => ?_) (fun w9 => ?_)
  · replace hw := hw.1 w9
    refine r_aload_n (j := 0) d_Ps_choose_48 rfl ?_
    refine r_iload_n (j := 1) d_Ps_choose_49 rfl ?_
    refine r_iload_n (j := 2) d_Ps_choose_50 rfl ?_
    refine r_callV (av := [ai v1, ai v2]) (rest := []) (ci := 7) d_Ps_choose_51 mk_Ps_isOutOfReach ll_Ps_79 im_Ps_isOutOfReach se_Ps_isOutOfReach rfl (nle rfl) rfl rfl (nle rfl) q1 (s_Ps_isOutOfReach  hw (fun r4 h3 hw => ?_))
    show aW none m_Ps_choose (d + 1) 54 [(0, ar v0), (1, ai v1), (2, ai v2), (3, ai v3)] [ai (b2i r4)] h3 0 0 QQ
    refine r_if_ne d_Ps_choose_54 (fun w9 => ?_) (fun w9 => ?_)
    · replace hw := hw.2 (fun g9 => w9 (b2i_0.mpr g9))
      exact r_return d_Ps_choose_64.1 rfl (hQ _ hw)
    · replace hw := hw.1 (b2i_0.mp w9)
      refine r_aload_n (j := 0) d_Ps_choose_57 rfl ?_
      refine r_iload_n (j := 1) d_Ps_choose_58 rfl ?_
      refine r_iload_n (j := 2) d_Ps_choose_59 rfl ?_
      refine r_iload_n (j := 3) d_Ps_choose_60 rfl ?_
      obtain ⟨q6, hw⟩ := hw
      refine r_callV (av := [ai v1, ai v2, ai v3]) (rest := []) (ci := 7) d_Ps_choose_61 mk_Ps_share ll_Ps_83 im_Ps_share se_Ps_share rfl (nle rfl) rfl rfl (nle rfl) q6 (hwr hw (fun h5 hw => ?_))
      show aW none m_Ps_choose (d + 1) 64 [(0, ar v0), (1, ai v1), (2, ai v2), (3, ai v3)] [] h5 0 0 QQ
      exact r_return d_Ps_choose_64.1 rfl (hQ _ hw)
  · replace hw := hw.2 w9
    refine r_iload_n (j := 2) d_Ps_choose_11 rfl ?_
    refine r_if_ne d_Ps_choose_12 (fun w9 => ?_) (fun w9 => ?_)
    · replace hw := hw.2 w9
      exact r_return d_Ps_choose_47.1 rfl (hQ _ hw)
    · replace hw := hw.1 w9
      refine r_aload_n (j := 0) d_Ps_choose_15 rfl ?_
      refine r_getR d_Ps_choose_16 ok_7 (nle rfl) (nle rfl) rfl lf_Ps_9 q1 ?_
      refine r_iconst d_Ps_choose_19 kc_0 ?_
      obtain ⟨q7, hw⟩ := hw
      obtain ⟨q8, hw⟩ := hw
      refine r_iald d_Ps_choose_20 q7 q8 ?_
      refine r_if_ne d_Ps_choose_21 (fun w9 => ?_) (fun w9 => ?_)
      · replace hw := hw.2 w9
        exact r_return d_Ps_choose_47.1 rfl (hQ _ hw)
      · replace hw := hw.1 w9
        refine r_aload_n (j := 0) d_Ps_choose_24 rfl ?_
        refine r_getR d_Ps_choose_25 ok_7 (nle rfl) (nle rfl) rfl lf_Ps_9 q1 ?_
        refine r_iconst d_Ps_choose_28 kc_1 ?_
        obtain ⟨q9, hw⟩ := hw
        refine r_iald d_Ps_choose_29 q7 q9 ?_
        refine r_if_ne d_Ps_choose_30 (fun w9 => ?_) (fun w9 => ?_)
        · replace hw := hw.2 w9
          exact r_return d_Ps_choose_47.1 rfl (hQ _ hw)
        · replace hw := hw.1 w9
          refine r_aload_n (j := 0) d_Ps_choose_33 rfl ?_
          refine r_getR d_Ps_choose_34 ok_7 (nle rfl) (nle rfl) rfl lf_Ps_9 q1 ?_
          refine r_iconst d_Ps_choose_37 kc_2 ?_
          obtain ⟨q10, hw⟩ := hw
          refine r_iald d_Ps_choose_38 q7 q10 ?_
          refine r_if_ne d_Ps_choose_39 (fun w9 => ?_) (fun w9 => ?_)
          · replace hw := hw.2 w9
            exact r_return d_Ps_choose_47.1 rfl (hQ _ hw)
          · replace hw := hw.1 w9
            refine r_aload_n (j := 0) d_Ps_choose_42 rfl ?_
            refine r_iload_n (j := 3) d_Ps_choose_43 rfl ?_
            refine r_callV (av := [ai v3]) (rest := []) (ci := 7) d_Ps_choose_44 mk_Ps_take ll_Ps_75 im_Ps_take se_Ps_take rfl (nle rfl) rfl rfl (nle rfl) q1 (s_Ps_take (by omega) hw (fun h11 hw => ?_))
            show aW none m_Ps_choose (d + 1) 47 [(0, ar v0), (1, ai v1), (2, ai v2), (3, ai v3)] [] h11 0 0 QQ
            exact r_return d_Ps_choose_47.1 rfl (hQ _ hw)
set_option maxRecDepth 100000 in
set_option maxHeartbeats 4000000 in
theorem s_Ps_chn : ∀ (n : Nat) {d : Nat} (hd : 2 * n + 8 ≤ d) {a0 : Nat} {a1 a2 a3 : Int32} {h : Hp} {Q : Hp → Prop} {QQ : Option AV → Hp → Prop} (hw : w_Ps_ch n a0 a1 a2 a3 h Q) (hQ : ∀ h9, Q h9 → QQ none h9), aCall m_Ps_choose d [ar a0, ai a1, ai a2, ai a3] h 0 0 QQ := by
  intro n
  induction n with
  | zero => intro d hd a0 a1 a2 a3 h Q QQ hw hQ; exact hw.elim
  | succ n ih =>
    intro d hd a0 a1 a2 a3 h Q QQ hw hQ
    obtain ⟨d, rfl⟩ : ∃ d9, d = d9 + 2 := ⟨d - 2, by omega⟩
    unfold w_Ps_ch at hw
    exact s_Ps_choose (d := d + 1) (by omega) (fun hw hQ => s_Ps_share (d := d) (by omega) (fun hw hQ => ih (by omega) hw hQ) hw hQ) hw hQ
theorem s_Ps_ch {d : Nat} (hd : 60 ≤ d) {a0 : Nat} {a1 a2 a3 : Int32} {h : Hp} {Q : Hp → Prop} {QQ : Option AV → Hp → Prop} (hw : w_Ps_ch 12 a0 a1 a2 a3 h Q) (hQ : ∀ h9, Q h9 → QQ none h9) : aCall m_Ps_choose d [ar a0, ai a1, ai a2, ai a3] h 0 0 QQ := s_Ps_chn 12 (by omega) hw hQ
set_option maxRecDepth 100000 in
set_option maxHeartbeats 4000000 in
theorem s_JM_min {d : Nat} {v0 : Int32} {v1 : Int32} {h : Hp} {Q : Int32 → Hp → Prop} {QQ : Option AV → Hp → Prop} (hw : w_JM_min v0 v1 h Q) (hQ : ∀ r9 h9, Q r9 h9 → QQ (some (ai r9)) h9) : aCall m_JM_min d [ai v0, ai v1] h 0 0 QQ := by
  refine aCall_in pl_JM_min (nle rfl) ?_
  show aW none m_JM_min d 0 [(0, ai v0), (1, ai v1)] [] h 0 0 QQ
  unfold w_JM_min at hw
  refine r_iload_n (j := 0) d_JM_min_0 rfl ?_
  refine r_iload_n (j := 1) d_JM_min_1 rfl ?_
  refine r_icmp_gt d_JM_min_2 (fun w9 => ?_) (fun w9 => ?_)
  · replace hw := hw.1 w9
    refine r_iload_n (j := 1) d_JM_min_9 rfl ?_
    exact r_ireturn d_JM_min_10.1 rfl (hQ _ _ hw)
  · replace hw := hw.2 w9
    refine r_iload_n (j := 0) d_JM_min_5 rfl ?_
    refine r_goto d_JM_min_6 ?_
    exact r_ireturn d_JM_min_10.1 rfl (hQ _ _ hw)
set_option maxRecDepth 100000 in
set_option maxHeartbeats 4000000 in
theorem s_Ps_takeNumbers_B86 {d : Nat} (hd : 1 ≤ d + 1) {Q : Hp → Prop} {QQ : Option AV → Hp → Prop} (hQ : ∀ h9, Q h9 → QQ none h9) {v0 : Nat} {v1 : Int32} {v2 : Int32} {v3 : Int32} {v4 : Int32} {v5 : Int32} {v6 : Int32} {s0 : Nat} {s1 : Int32} {s2 : Int32} {h : Hp} {k2 : Int32 → Hp → Prop} (hk2 : ∀ v3 h9, k2 v3 h9 → aW none m_Ps_takeNumbers (d + 1) 2 [(0, ar v0), (1, ai v1), (2, ai v2), (3, ai v3)] [] h9 0 0 QQ) (hw : w_Ps_takeNumbers_B86 Q k2 v0 v1 v2 v3 v4 v5 v6 s0 s1 s2 h) : aW none m_Ps_takeNumbers (d + 1) 86 [(0, ar v0), (1, ai v1), (2, ai v2), (3, ai v3), (4, ai v4), (5, ai v5), (6, ai v6)] [ai s2, ai s1, ar s0] h 0 0 QQ := by
  unfold w_Ps_takeNumbers_B86 at hw
  obtain ⟨q14, hw⟩ := hw
  obtain ⟨q15, hw⟩ := hw
  refine r_iast d_Ps_takeNumbers_86 q14 q15 ?_
  refine r_aload_n (j := 0) d_Ps_takeNumbers_87 rfl ?_
  obtain ⟨q16, hw⟩ := hw
  refine r_getRb eRI d_Ps_takeNumbers_88 ok_7 (nle rfl) (nle rfl) rfl lf_Ps_27 (kt eKI q16) ?_
  refine r_iload (j := 4) d_Ps_takeNumbers_91 rfl ?_
  refine r_iload (j := 6) d_Ps_takeNumbers_93 rfl ?_
  refine r_if_eq d_Ps_takeNumbers_95 (fun w9 => ?_) (fun w9 => ?_)
  · replace hw := hw.1 w9
    refine r_iload (j := 5) d_Ps_takeNumbers_103 rfl ?_
    refine r_aload_n (j := 0) d_Ps_takeNumbers_105 rfl ?_
    refine r_getRb eRI d_Ps_takeNumbers_106 ok_7 (nle rfl) (nle rfl) rfl lf_Ps_27 (kt eKI q16) ?_
    refine r_iload (j := 4) d_Ps_takeNumbers_109 rfl ?_
    refine r_iconst d_Ps_takeNumbers_111 kc_3 ?_
    refine r_iadd d_Ps_takeNumbers_112 ?_
    obtain ⟨q17, hw⟩ := hw
    obtain ⟨q18, hw⟩ := hw
    refine r_iald d_Ps_takeNumbers_113 (kt eKI q17) (nt eNI q18) ?_
    refine r_callS (av := [ai v5, ai (gI (sI h s0 (ix s1) s2) (gR h v0 5) (ix (v4 + (3 : Int32))))]) (rest := [ai v4, ar (gR h v0 5)]) d_Ps_takeNumbers_114 mk_JM_max ll_Ps_72 st_JM_max rfl rfl (nle rfl) (s_JM_max  hw (fun r20 h19 hw => ?_))
    show aW none m_Ps_takeNumbers (d + 1) 117 [(0, ar v0), (1, ai v1), (2, ai v2), (3, ai v3), (4, ai v4), (5, ai v5), (6, ai v6)] [ai r20, ai v4, ar (gR h v0 5)] h19 0 0 QQ
    obtain ⟨q21, hw⟩ := hw
    obtain ⟨q22, hw⟩ := hw
    refine r_iast d_Ps_takeNumbers_117 q21 q22 ?_
    refine r_iinc (j := 3) (ls2 := [(3, ai (v3 + (1 : Int32))), (0, ar v0), (1, ai v1), (2, ai v2), (4, ai v4), (5, ai v5), (6, ai v6)]) d_Ps_takeNumbers_118 rfl (congrArg (HAdd.hAdd v3) kc_1) (nle rfl) rfl ?_
    refine r_goto d_Ps_takeNumbers_121 ?_
    refine r_pick (ls2 := [(0, ar v0), (1, ai v1), (2, ai v2), (3, ai (v3 + (1 : Int32)))]) [1, 2, 3, 0] rfl ?_
    exact hk2 _ _ hw
  · replace hw := hw.2 w9
    refine r_iload (j := 5) d_Ps_takeNumbers_98 rfl ?_
    refine r_goto d_Ps_takeNumbers_100 ?_
    obtain ⟨q23, hw⟩ := hw
    obtain ⟨q24, hw⟩ := hw
    refine r_iast d_Ps_takeNumbers_117 (kt eKI q23) (nt eNI q24) ?_
    refine r_iinc (j := 3) (ls2 := [(3, ai (v3 + (1 : Int32))), (0, ar v0), (1, ai v1), (2, ai v2), (4, ai v4), (5, ai v5), (6, ai v6)]) d_Ps_takeNumbers_118 rfl (congrArg (HAdd.hAdd v3) kc_1) (nle rfl) rfl ?_
    refine r_goto d_Ps_takeNumbers_121 ?_
    refine r_pick (ls2 := [(0, ar v0), (1, ai v1), (2, ai v2), (3, ai (v3 + (1 : Int32)))]) [1, 2, 3, 0] rfl ?_
    exact hk2 _ _ hw
set_option maxRecDepth 100000 in
set_option maxHeartbeats 4000000 in
theorem s_Ps_takeNumbers_B45 {d : Nat} (hd : 1 ≤ d + 1) {Q : Hp → Prop} {QQ : Option AV → Hp → Prop} (hQ : ∀ h9, Q h9 → QQ none h9) {v0 : Nat} {v1 : Int32} {v2 : Int32} {v3 : Int32} {v4 : Int32} {v5 : Int32} {s0 : Int32} {h : Hp} {k2 : Int32 → Hp → Prop} (hk2 : ∀ v3 h9, k2 v3 h9 → aW none m_Ps_takeNumbers (d + 1) 2 [(0, ar v0), (1, ai v1), (2, ai v2), (3, ai v3)] [] h9 0 0 QQ) (hw : w_Ps_takeNumbers_B45 Q k2 v0 v1 v2 v3 v4 v5 s0 h) : aW none m_Ps_takeNumbers (d + 1) 45 [(0, ar v0), (1, ai v1), (2, ai v2), (3, ai v3), (4, ai v4), (5, ai v5)] [ai s0] h 0 0 QQ := by
  unfold w_Ps_takeNumbers_B45 at hw
  refine r_istore (ls2 := [(6, ai s0), (0, ar v0), (1, ai v1), (2, ai v2), (3, ai v3), (4, ai v4), (5, ai v5)]) d_Ps_takeNumbers_45 (nle rfl) rfl ?_
  refine r_aload_n (j := 1) d_Ps_takeNumbers_47 rfl ?_
  obtain ⟨q7, hw⟩ := hw
  refine r_getR d_Ps_takeNumbers_48 ok_7 (nle rfl) (nle rfl) rfl lf_Ps_21 q7 ?_
  refine r_iload (j := 5) d_Ps_takeNumbers_51 rfl ?_
  refine r_iload (j := 6) d_Ps_takeNumbers_53 rfl ?_
  obtain ⟨q8, hw⟩ := hw
  obtain ⟨q9, hw⟩ := hw
  refine r_iast d_Ps_takeNumbers_55 q8 q9 ?_
  refine r_aload_n (j := 1) d_Ps_takeNumbers_56 rfl ?_
  refine r_getRb eRI d_Ps_takeNumbers_57 ok_7 (nle rfl) (nle rfl) rfl lf_Ps_24 (kt eKI q7) ?_
  refine r_iload (j := 5) d_Ps_takeNumbers_60 rfl ?_
  refine r_iload (j := 0) d_Ps_takeNumbers_62 rfl ?_
  refine r_if_eq d_Ps_takeNumbers_64 (fun w9 => ?_) (fun w9 => ?_)
  · replace hw := hw.1 w9
    refine r_iload (j := 6) d_Ps_takeNumbers_72 rfl ?_
    refine r_aload_n (j := 1) d_Ps_takeNumbers_74 rfl ?_
    refine r_getRb eRI d_Ps_takeNumbers_75 ok_7 (nle rfl) (nle rfl) rfl lf_Ps_24 (kt eKI q7) ?_
    refine r_iload (j := 5) d_Ps_takeNumbers_78 rfl ?_
    refine r_iconst d_Ps_takeNumbers_80 kc_3 ?_
    refine r_iadd d_Ps_takeNumbers_81 ?_
    obtain ⟨q10, hw⟩ := hw
    obtain ⟨q11, hw⟩ := hw
    refine r_iald d_Ps_takeNumbers_82 (kt eKI q10) (nt eNI q11) ?_
    refine r_callS (av := [ai v5, ai (gI (sI h (gR h v0 3) (ix v4) v5) (gR h v0 4) (ix (v4 + (3 : Int32))))]) (rest := [ai v4, ar (gR h v0 4)]) d_Ps_takeNumbers_83 mk_JM_min ll_Ps_67 st_JM_min rfl rfl (nle rfl) (s_JM_min  hw (fun r13 h12 hw => ?_))
    show aW none m_Ps_takeNumbers (d + 1) 86 [(6, ai s0), (0, ar v0), (1, ai v1), (2, ai v2), (3, ai v3), (4, ai v4), (5, ai v5)] [ai r13, ai v4, ar (gR h v0 4)] h12 0 0 QQ
    refine r_pick (ls2 := [(0, ar v0), (1, ai v1), (2, ai v2), (3, ai v3), (4, ai v4), (5, ai v5), (6, ai s0)]) [1, 2, 3, 4, 5, 6, 0] rfl ?_
    exact s_Ps_takeNumbers_B86 hd hQ hk2 hw
  · replace hw := hw.2 w9
    refine r_iload (j := 6) d_Ps_takeNumbers_67 rfl ?_
    refine r_goto d_Ps_takeNumbers_69 ?_
    refine r_pick (ls2 := [(0, ar v0), (1, ai v1), (2, ai v2), (3, ai v3), (4, ai v4), (5, ai v5), (6, ai s0)]) [1, 2, 3, 4, 5, 6, 0] rfl ?_
    exact s_Ps_takeNumbers_B86 hd hQ hk2 hw
set_option maxRecDepth 100000 in
set_option maxHeartbeats 4000000 in
theorem s_Ps_takeNumbers_L2 {d : Nat} (hd : 1 ≤ d + 1) {Q : Hp → Prop} {QQ : Option AV → Hp → Prop} (hQ : ∀ h9, Q h9 → QQ none h9) {v0 : Nat} {v1 : Int32} {v2 : Int32} : ∀ (n : Nat) (v3 : Int32) (h : Hp), w_Ps_takeNumbers_L2 Q  v0 v1 v2 n v3 h → aW none m_Ps_takeNumbers (d + 1) 2 [(0, ar v0), (1, ai v1), (2, ai v2), (3, ai v3)] [] h 0 0 QQ := by
  intro n
  induction n with
  | zero => intro v3 h hw; exact hw.elim
  | succ n ih =>
    intro v3 h hw
    unfold w_Ps_takeNumbers_L2 at hw
    refine r_iload_n (j := 3) d_Ps_takeNumbers_2 rfl ?_
    refine r_iconst d_Ps_takeNumbers_3 kc_3 ?_
    refine r_icmp_ge d_Ps_takeNumbers_4 (fun w9 => ?_) (fun w9 => ?_)
    · replace hw := hw.1 w9
      exact r_return d_Ps_takeNumbers_124.1 rfl (hQ _ hw)
    · replace hw := hw.2 w9
      refine r_iload_n (j := 1) d_Ps_takeNumbers_7 rfl ?_
      refine r_iconst d_Ps_takeNumbers_8 kc_3 ?_
      refine r_imul d_Ps_takeNumbers_9 ?_
      refine r_iload_n (j := 3) d_Ps_takeNumbers_10 rfl ?_
      refine r_iadd d_Ps_takeNumbers_11 ?_
      refine r_istore (ls2 := [(4, ai ((v1 * (3 : Int32)) + v3)), (0, ar v0), (1, ai v1), (2, ai v2), (3, ai v3)]) d_Ps_takeNumbers_12 (nle rfl) rfl ?_
      refine r_iload_n (j := 3) d_Ps_takeNumbers_14 rfl ?_
      refine r_aload_n (j := 1) d_Ps_takeNumbers_15 rfl ?_
      obtain ⟨q1, hw⟩ := hw
      refine r_getR d_Ps_takeNumbers_16 ok_7 (nle rfl) (nle rfl) rfl lf_Ps_30 q1 ?_
      refine r_iload_n (j := 2) d_Ps_takeNumbers_19 rfl ?_
      refine r_iload_n (j := 4) d_Ps_takeNumbers_20 rfl ?_
      obtain ⟨q4, hw⟩ := hw
      refine r_callV (av := [ai v1, ai v3]) (rest := [ai v2]) (ci := 1) d_Ps_takeNumbers_21 mk_Co_numberOf ll_Ps_63 im_Co_numberOf se_Co_numberOf rfl (nle rfl) rfl rfl (nle rfl) q4 (s_Co_numberOf  hw (fun r3 h2 hw => ?_))
      show aW none m_Ps_takeNumbers (d + 1) 24 [(4, ai ((v1 * (3 : Int32)) + v3)), (0, ar v0), (1, ai v1), (2, ai v2), (3, ai v3)] [ai r3, ai v2] h2 0 0 QQ
      refine r_imul d_Ps_takeNumbers_24 ?_
      refine r_istore (ls2 := [(5, ai (v2 * r3)), (4, ai ((v1 * (3 : Int32)) + v3)), (0, ar v0), (1, ai v1), (2, ai v2), (3, ai v3)]) d_Ps_takeNumbers_25 (nle rfl) rfl ?_
      refine r_iload_n (j := 3) d_Ps_takeNumbers_27 rfl ?_
      refine r_iconst d_Ps_takeNumbers_28 kc_1 ?_
      refine r_iadd d_Ps_takeNumbers_29 ?_
      refine r_aload_n (j := 2) d_Ps_takeNumbers_30 rfl ?_
      obtain ⟨q5, hw⟩ := hw
      refine r_getR d_Ps_takeNumbers_31 ok_7 (nle rfl) (nle rfl) rfl lf_Ps_30 q5 ?_
      obtain ⟨q6, hw⟩ := hw
      refine r_getI d_Ps_takeNumbers_34 ok_1 (nle rfl) (nle rfl) rfl lf_Ps_50 q6 ?_
      refine r_icmp_lt d_Ps_takeNumbers_37 (fun w9 => ?_) (fun w9 => ?_)
      · replace hw := hw.1 w9
        refine r_iconst d_Ps_takeNumbers_44 kc_0 ?_
        refine r_pick (ls2 := [(0, ar v0), (1, ai v1), (2, ai v2), (3, ai v3), (4, ai ((v1 * (3 : Int32)) + v3)), (5, ai (v2 * r3))]) [2, 3, 4, 5, 1, 0] rfl ?_
        exact s_Ps_takeNumbers_B45 hd hQ ih hw
      · replace hw := hw.2 w9
        refine r_iconst d_Ps_takeNumbers_40 kc_1 ?_
        refine r_goto d_Ps_takeNumbers_41 ?_
        refine r_pick (ls2 := [(0, ar v0), (1, ai v1), (2, ai v2), (3, ai v3), (4, ai ((v1 * (3 : Int32)) + v3)), (5, ai (v2 * r3))]) [2, 3, 4, 5, 1, 0] rfl ?_
        exact s_Ps_takeNumbers_B45 hd hQ ih hw
set_option maxRecDepth 100000 in
set_option maxHeartbeats 4000000 in
theorem s_Ps_takeNumbers {d : Nat} (hd : 1 ≤ d) {v0 : Nat} {v1 : Int32} {v2 : Int32} {h : Hp} {Q : Hp → Prop} {QQ : Option AV → Hp → Prop} (hw : w_Ps_takeNumbers v0 v1 v2 h Q) (hQ : ∀ h9, Q h9 → QQ none h9) : aCall m_Ps_takeNumbers d [ar v0, ai v1, ai v2] h 0 0 QQ := by
  obtain ⟨d, rfl⟩ : ∃ d9, d = d9 + 1 := ⟨d - 1, by omega⟩
  refine aCall_in pl_Ps_takeNumbers (nle rfl) ?_
  show aW none m_Ps_takeNumbers (d + 1) 0 [(0, ar v0), (1, ai v1), (2, ai v2)] [] h 0 0 QQ
  unfold w_Ps_takeNumbers at hw
  refine r_iconst d_Ps_takeNumbers_0 kc_0 ?_
  refine r_istore_n (ls2 := [(3, ai (0 : Int32)), (0, ar v0), (1, ai v1), (2, ai v2)]) d_Ps_takeNumbers_1 (nle rfl) rfl ?_
  obtain ⟨n25, hw⟩ := hw
  refine r_pick (ls2 := [(0, ar v0), (1, ai v1), (2, ai v2), (3, ai (0 : Int32))]) [1, 2, 3, 0] rfl ?_
  exact s_Ps_takeNumbers_L2 hd hQ  n25 _ _ hw
set_option maxRecDepth 100000 in
set_option maxHeartbeats 4000000 in
theorem s_Ps_run_B60 {d : Nat} (hd : 61 ≤ d + 1) {Q : Hp → Prop} {QQ : Option AV → Hp → Prop} (hQ : ∀ h9, Q h9 → QQ none h9) {v0 : Nat} {v2 : Int32} {v3 : Int32} {v6 : Int32} {s0 : Nat} {s1 : Int32} {s2 : Int32} {h : Hp} {k41 : Int32 → Hp → Prop} (hk41 : ∀ v6 h9, k41 v6 h9 → aW none m_Ps_run (d + 1) 41 [(0, ar v0), (2, ai v2), (3, ai v3), (6, ai v6)] [] h9 0 0 QQ) (hw : w_Ps_run_B60 Q k41 v0 v2 v3 v6 s0 s1 s2 h) : aW none m_Ps_run (d + 1) 60 [(0, ar v0), (2, ai v2), (3, ai v3), (6, ai v6)] [ai s2, ai s1, ar s0] h 0 0 QQ := by
  unfold w_Ps_run_B60 at hw
  obtain ⟨q11, hw⟩ := hw
  refine r_callV (av := [ai s1, ai s2]) (rest := []) (ci := 7) d_Ps_run_60 mk_Ps_takeNumbers ll_Ps_55 im_Ps_takeNumbers se_Ps_takeNumbers rfl (nle rfl) rfl rfl (nle rfl) q11 (s_Ps_takeNumbers (by omega) hw (fun h10 hw => ?_))
  show aW none m_Ps_run (d + 1) 63 [(0, ar v0), (2, ai v2), (3, ai v3), (6, ai v6)] [] h10 0 0 QQ
  refine r_iinc (j := 3) (ls2 := [(6, ai (v6 + (-1 : Int32))), (0, ar v0), (2, ai v2), (3, ai v3)]) d_Ps_run_63 rfl (congrArg (HAdd.hAdd v6) kc_m1) (nle rfl) rfl ?_
  refine r_goto d_Ps_run_66 ?_
  refine r_pick (ls2 := [(0, ar v0), (2, ai v2), (3, ai v3), (6, ai (v6 + (-1 : Int32)))]) [1, 2, 3, 0] rfl ?_
  exact hk41 _ _ hw
set_option maxRecDepth 100000 in
set_option maxHeartbeats 4000000 in
theorem s_Ps_run_L41 {d : Nat} (hd : 61 ≤ d + 1) {Q : Hp → Prop} {QQ : Option AV → Hp → Prop} (hQ : ∀ h9, Q h9 → QQ none h9) {v0 : Nat} {v2 : Int32} {v3 : Int32} : ∀ (n : Nat) (v6 : Int32) (h : Hp), w_Ps_run_L41 Q  v0 v2 v3 n v6 h → aW none m_Ps_run (d + 1) 41 [(0, ar v0), (2, ai v2), (3, ai v3), (6, ai v6)] [] h 0 0 QQ := by
  intro n
  induction n with
  | zero => intro v6 h hw; exact hw.elim
  | succ n ih =>
    intro v6 h hw
    unfold w_Ps_run_L41 at hw
    refine r_iload (j := 3) d_Ps_run_41 rfl ?_
    refine r_if_lt d_Ps_run_43 (fun w9 => ?_) (fun w9 => ?_)
    · replace hw := hw.1 w9
      refine r_aload_n (j := 0) d_Ps_run_69 rfl ?_
      refine r_iconst d_Ps_run_70 kc_0 ?_
      refine r_iload_n (j := 2) d_Ps_run_71 rfl ?_
      refine r_iconst d_Ps_run_72 kc_0 ?_
      obtain ⟨q9, hw⟩ := hw
      refine r_callV (av := [ai (0 : Int32), ai v3, ai (0 : Int32)]) (rest := []) (ci := 7) d_Ps_run_73 mk_Ps_choose ll_Ps_59 im_Ps_choose se_Ps_choose rfl (nle rfl) rfl rfl (nle rfl) q9 (s_Ps_ch (by omega) hw (fun h8 hw => ?_))
      show aW none m_Ps_run (d + 1) 76 [(0, ar v0), (2, ai v2), (3, ai v3), (6, ai v6)] [] h8 0 0 QQ
      exact r_return d_Ps_run_76.1 rfl (hQ _ hw)
    · replace hw := hw.2 w9
      refine r_aload_n (j := 0) d_Ps_run_46 rfl ?_
      refine r_iload (j := 3) d_Ps_run_47 rfl ?_
      refine r_iload (j := 3) d_Ps_run_49 rfl ?_
      refine r_iload_n (j := 1) d_Ps_run_51 rfl ?_
      refine r_icmp_ne d_Ps_run_52 (fun w9 => ?_) (fun w9 => ?_)
      · replace hw := hw.2 w9
        refine r_iconst d_Ps_run_59 kc_1 ?_
        exact s_Ps_run_B60 hd hQ ih hw
      · replace hw := hw.1 w9
        refine r_iconst d_Ps_run_55 kc_m1 ?_
        refine r_goto d_Ps_run_56 ?_
        exact s_Ps_run_B60 hd hQ ih hw
set_option maxRecDepth 100000 in
set_option maxHeartbeats 4000000 in
theorem s_Ps_run {d : Nat} (hd : 61 ≤ d) {v0 : Nat} {v1 : Nat} {v2 : Int32} {v3 : Int32} {v4 : Nat} {v5 : Int32} {h : Hp} {Q : Hp → Prop} {QQ : Option AV → Hp → Prop} (hw : w_Ps_run v0 v1 v2 v3 v4 v5 h Q) (hQ : ∀ h9, Q h9 → QQ none h9) : aCall m_Ps_run d [ar v0, ar v1, ai v2, ai v3, ar v4, ai v5] h 0 0 QQ := by
  obtain ⟨d, rfl⟩ : ∃ d9, d = d9 + 1 := ⟨d - 1, by omega⟩
  refine aCall_in pl_Ps_run (nle rfl) ?_
  show aW none m_Ps_run (d + 1) 0 [(0, ar v0), (1, ar v1), (2, ai v2), (3, ai v3), (4, ar v4), (5, ai v5)] [] h 0 0 QQ
  unfold w_Ps_run at hw
  refine r_aload_n (j := 0) d_Ps_run_0 rfl ?_
  refine r_aload_n (j := 1) d_Ps_run_1 rfl ?_
  obtain ⟨q1, hw⟩ := hw
  obtain ⟨q2, hw⟩ := hw
  refine r_putR d_Ps_run_2 ok_7 (nle rfl) (nle rfl) rfl lf_Ps_30 rfl q1 q2 ?_
  refine r_aload_n (j := 0) d_Ps_run_5 rfl ?_
  refine r_iload (j := 5) d_Ps_run_6 rfl ?_
  refine r_putI d_Ps_run_8 ok_7 (nle rfl) (nle rfl) rfl lf_Ps_34 rfl (kt eKR q1) ?_
  refine r_aload_n (j := 0) d_Ps_run_11 rfl ?_
  refine r_iconst d_Ps_run_12 kc_0 ?_
  refine r_putI d_Ps_run_13 ok_7 (nle rfl) (nle rfl) rfl lf_Ps_38 rfl (kt (eKI.trans eKR) q1) ?_
  refine r_aload_n (j := 0) d_Ps_run_16 rfl ?_
  refine r_iconst d_Ps_run_17 kc_0 ?_
  refine r_putI d_Ps_run_18 ok_7 (nle rfl) (nle rfl) rfl lf_Ps_41 rfl (kt (eKI.trans (eKI.trans eKR)) q1) ?_
  refine r_aload (j := 4) d_Ps_run_21 rfl ?_
  refine r_iconst d_Ps_run_23 kc_0 ?_
  refine r_aload_n (j := 0) d_Ps_run_24 rfl ?_
  refine r_getR d_Ps_run_25 ok_7 (nle rfl) (nle rfl) rfl lf_Ps_9 (kt (eKI.trans (eKI.trans (eKI.trans eKR))) q1) ?_
  refine r_iconst d_Ps_run_28 kc_0 ?_
  refine r_iconst d_Ps_run_29 kc_3 ?_
  obtain ⟨q3, hw⟩ := hw
  obtain ⟨q4, hw⟩ := hw
  obtain ⟨q5, hw⟩ := hw
  obtain ⟨q6, hw⟩ := hw
  refine r_copy d_Ps_run_30 ll_Ps_44 cp_1 cp_2 cp_3 (nle rfl) (kt (eKI.trans (eKI.trans (eKI.trans eKR))) q3) (kt (eKI.trans (eKI.trans (eKI.trans eKR))) q4) (by decide) (by decide) (by decide) (mt (eNI.trans (eNI.trans (eNI.trans eNR))) q5) (mt (eNI.trans (eNI.trans (eNI.trans eNR))) q6) ?_
  refine r_aload_n (j := 1) d_Ps_run_33 rfl ?_
  obtain ⟨q7, hw⟩ := hw
  refine r_getI d_Ps_run_34 ok_1 (nle rfl) (nle rfl) rfl lf_Ps_50 (kt (eKA.trans (eKI.trans (eKI.trans (eKI.trans eKR)))) q7) ?_
  refine r_iconst d_Ps_run_37 kc_1 ?_
  refine r_isub d_Ps_run_38 ?_
  refine r_istore (ls2 := [(6, ai ((gI (sA (sI (sI (sI (sR h v0 6 v1) v0 7 v5) v0 8 (0 : Int32)) v0 9 (0 : Int32)) (gR (sI (sI (sI (sR h v0 6 v1) v0 7 v5) v0 8 (0 : Int32)) v0 9 (0 : Int32)) v0 0) (va_cpy (gI (sI (sI (sI (sR h v0 6 v1) v0 7 v5) v0 8 (0 : Int32)) v0 9 (0 : Int32)) v4) (gI (sI (sI (sI (sR h v0 6 v1) v0 7 v5) v0 8 (0 : Int32)) v0 9 (0 : Int32)) (gR (sI (sI (sI (sR h v0 6 v1) v0 7 v5) v0 8 (0 : Int32)) v0 9 (0 : Int32)) v0 0)) (ix (0 : Int32)) (ix (0 : Int32)) (ix (3 : Int32)))) v1 2) - (1 : Int32))), (0, ar v0), (1, ar v1), (2, ai v2), (3, ai v3), (4, ar v4), (5, ai v5)]) d_Ps_run_39 (nle rfl) rfl ?_
  obtain ⟨n12, hw⟩ := hw
  refine r_pick (ls2 := [(0, ar v0), (2, ai v2), (3, ai v3), (6, ai ((gI (sA (sI (sI (sI (sR h v0 6 v1) v0 7 v5) v0 8 (0 : Int32)) v0 9 (0 : Int32)) (gR (sI (sI (sI (sR h v0 6 v1) v0 7 v5) v0 8 (0 : Int32)) v0 9 (0 : Int32)) v0 0) (va_cpy (gI (sI (sI (sI (sR h v0 6 v1) v0 7 v5) v0 8 (0 : Int32)) v0 9 (0 : Int32)) v4) (gI (sI (sI (sI (sR h v0 6 v1) v0 7 v5) v0 8 (0 : Int32)) v0 9 (0 : Int32)) (gR (sI (sI (sI (sR h v0 6 v1) v0 7 v5) v0 8 (0 : Int32)) v0 9 (0 : Int32)) v0 0)) (ix (0 : Int32)) (ix (0 : Int32)) (ix (3 : Int32)))) v1 2) - (1 : Int32)))]) [1, 3, 4, 0] rfl ?_
  exact s_Ps_run_L41 hd hQ  n12 _ _ hw
set_option maxRecDepth 100000 in
set_option maxHeartbeats 4000000 in
theorem s_Kn_tell_B62 {d : Nat} (hd : 62 ≤ d + 1) {Q : Int32 → Hp → Prop} {QQ : Option AV → Hp → Prop} (hQ : ∀ r9 h9, Q r9 h9 → QQ (some (ai r9)) h9) {v0 : Nat} {v1 : Int32} {v2 : Nat} {v3 : Int32} {v4 : Int32} {v5 : Int32} {s0 : Int32} {h : Hp} {k17 : Int32 → Int32 → Hp → Prop} (hk17 : ∀ v4 v5 h9, k17 v4 v5 h9 → aW none m_Kn_tell (d + 1) 17 [(0, ar v0), (1, ai v1), (2, ar v2), (3, ai v3), (4, ai v4), (5, ai v5)] [] h9 0 0 QQ) (hw : w_Kn_tell_B62 Q k17 v0 v1 v2 v3 v4 v5 s0 h) : aW none m_Kn_tell (d + 1) 62 [(0, ar v0), (1, ai v1), (2, ar v2), (3, ai v3), (4, ai v4), (5, ai v5)] [ai s0] h 0 0 QQ := by
  unfold w_Kn_tell_B62 at hw
  refine r_iload_n (j := 3) d_Kn_tell_62 rfl ?_
  refine r_icmp_ne d_Kn_tell_63 (fun w9 => ?_) (fun w9 => ?_)
  · replace hw := hw.2 w9
    refine r_iinc (j := 5) (ls2 := [(5, ai (v5 + (1 : Int32))), (0, ar v0), (1, ai v1), (2, ar v2), (3, ai v3), (4, ai v4)]) d_Kn_tell_75 rfl (congrArg (HAdd.hAdd v5) kc_1) (nle rfl) rfl ?_
    refine r_goto d_Kn_tell_78 ?_
    refine r_pick (ls2 := [(0, ar v0), (1, ai v1), (2, ar v2), (3, ai v3), (4, ai v4), (5, ai (v5 + (1 : Int32)))]) [1, 2, 3, 4, 5, 0] rfl ?_
    exact hk17 _ _ _ hw
  · replace hw := hw.1 w9
    refine r_iload (j := 4) d_Kn_tell_66 rfl ?_
    refine r_iconst d_Kn_tell_68 kc_1 ?_
    refine r_iload (j := 5) d_Kn_tell_69 rfl ?_
    refine r_ishl d_Kn_tell_71 ?_
    refine r_ior d_Kn_tell_72 ?_
    refine r_istore (ls2 := [(4, ai (v4 ||| (jshl (1 : Int32) v5))), (0, ar v0), (1, ai v1), (2, ar v2), (3, ai v3), (5, ai v5)]) d_Kn_tell_73 (nle rfl) rfl ?_
    refine r_iinc (j := 5) (ls2 := [(5, ai (v5 + (1 : Int32))), (4, ai (v4 ||| (jshl (1 : Int32) v5))), (0, ar v0), (1, ai v1), (2, ar v2), (3, ai v3)]) d_Kn_tell_75 rfl (congrArg (HAdd.hAdd v5) kc_1) (nle rfl) rfl ?_
    refine r_goto d_Kn_tell_78 ?_
    refine r_pick (ls2 := [(0, ar v0), (1, ai v1), (2, ar v2), (3, ai v3), (4, ai (v4 ||| (jshl (1 : Int32) v5))), (5, ai (v5 + (1 : Int32)))]) [2, 3, 4, 5, 1, 0] rfl ?_
    exact hk17 _ _ _ hw
set_option maxRecDepth 100000 in
set_option maxHeartbeats 4000000 in
theorem s_Kn_tell_L17 {d : Nat} (hd : 62 ≤ d + 1) {Q : Int32 → Hp → Prop} {QQ : Option AV → Hp → Prop} (hQ : ∀ r9 h9, Q r9 h9 → QQ (some (ai r9)) h9) {v0 : Nat} {v1 : Int32} {v2 : Nat} {v3 : Int32} : ∀ (n : Nat) (v4 : Int32) (v5 : Int32) (h : Hp), w_Kn_tell_L17 Q  v0 v1 v2 v3 n v4 v5 h → aW none m_Kn_tell (d + 1) 17 [(0, ar v0), (1, ai v1), (2, ar v2), (3, ai v3), (4, ai v4), (5, ai v5)] [] h 0 0 QQ := by
  intro n
  induction n with
  | zero => intro v4 v5 h hw; exact hw.elim
  | succ n ih =>
    intro v4 v5 h hw
    unfold w_Kn_tell_L17 at hw
    refine r_iload (j := 5) d_Kn_tell_17 rfl ?_
    refine r_aload_n (j := 0) d_Kn_tell_19 rfl ?_
    obtain ⟨q2, hw⟩ := hw
    refine r_getR d_Kn_tell_20 ok_5 (nle rfl) (nle rfl) rfl lf_Kn_24 q2 ?_
    obtain ⟨q3, hw⟩ := hw
    refine r_getI d_Kn_tell_23 ok_1 (nle rfl) (nle rfl) rfl lf_Kn_36 q3 ?_
    refine r_icmp_gt d_Kn_tell_26 (fun w9 => ?_) (fun w9 => ?_)
    · replace hw := hw.1 w9
      refine r_aload_n (j := 0) d_Kn_tell_81 rfl ?_
      refine r_getR d_Kn_tell_82 ok_5 (nle rfl) (nle rfl) rfl lf_Kn_11 q2 ?_
      refine r_aload_n (j := 0) d_Kn_tell_85 rfl ?_
      refine r_getI d_Kn_tell_86 ok_5 (nle rfl) (nle rfl) rfl lf_Kn_32 q2 ?_
      refine r_iload (j := 4) d_Kn_tell_89 rfl ?_
      obtain ⟨q4, hw⟩ := hw
      obtain ⟨q5, hw⟩ := hw
      refine r_iast d_Kn_tell_91 q4 q5 ?_
      refine r_aload_n (j := 0) d_Kn_tell_92 rfl ?_
      refine r_getRb eRI d_Kn_tell_93 ok_5 (nle rfl) (nle rfl) rfl lf_Kn_15 (kt eKI q2) ?_
      refine r_aload_n (j := 0) d_Kn_tell_96 rfl ?_
      refine r_getI d_Kn_tell_97 ok_5 (nle rfl) (nle rfl) rfl lf_Kn_32 (kt eKI q2) ?_
      refine r_aload_n (j := 0) d_Kn_tell_100 rfl ?_
      refine r_getI d_Kn_tell_101 ok_5 (nle rfl) (nle rfl) rfl lf_Kn_48 (kt eKI q2) ?_
      obtain ⟨q6, hw⟩ := hw
      obtain ⟨q7, hw⟩ := hw
      refine r_iast d_Kn_tell_104 (kt eKI q6) (nt eNI q7) ?_
      refine r_aload_n (j := 0) d_Kn_tell_105 rfl ?_
      refine r_getRb (eRI.trans eRI) d_Kn_tell_106 ok_5 (nle rfl) (nle rfl) rfl lf_Kn_18 (kt (eKI.trans eKI) q2) ?_
      refine r_aload_n (j := 0) d_Kn_tell_109 rfl ?_
      refine r_getI d_Kn_tell_110 ok_5 (nle rfl) (nle rfl) rfl lf_Kn_32 (kt (eKI.trans eKI) q2) ?_
      refine r_iconst d_Kn_tell_113 kc_m1 ?_
      obtain ⟨q8, hw⟩ := hw
      obtain ⟨q9, hw⟩ := hw
      refine r_iast d_Kn_tell_114 (kt (eKI.trans eKI) q8) (nt (eNI.trans eNI) q9) ?_
      refine r_aload_n (j := 0) d_Kn_tell_115 rfl ?_
      refine r_dup d_Kn_tell_116 rfl ?_
      refine r_getI d_Kn_tell_117 ok_5 (nle rfl) (nle rfl) rfl lf_Kn_32 (kt (eKI.trans (eKI.trans eKI)) q2) ?_
      refine r_iconst d_Kn_tell_120 kc_1 ?_
      refine r_iadd d_Kn_tell_121 ?_
      refine r_putI d_Kn_tell_122 ok_5 (nle rfl) (nle rfl) rfl lf_Kn_32 rfl (kt (eKI.trans (eKI.trans eKI)) q2) ?_
      refine r_aload_n (j := 0) d_Kn_tell_125 rfl ?_
      refine r_getI d_Kn_tell_126 ok_5 (nle rfl) (nle rfl) rfl lf_Kn_32 (kt (eKI.trans (eKI.trans (eKI.trans eKI))) q2) ?_
      refine r_iconst d_Kn_tell_129 kc_1 ?_
      refine r_isub d_Kn_tell_130 ?_
      exact r_ireturn d_Kn_tell_131.1 rfl (hQ _ _ hw)
    · replace hw := hw.2 w9
      refine r_aload_n (j := 0) d_Kn_tell_29 rfl ?_
      refine r_getR d_Kn_tell_30 ok_5 (nle rfl) (nle rfl) rfl lf_Kn_28 q2 ?_
      refine r_aload_n (j := 0) d_Kn_tell_33 rfl ?_
      refine r_getR d_Kn_tell_34 ok_5 (nle rfl) (nle rfl) rfl lf_Kn_24 q2 ?_
      refine r_iload (j := 5) d_Kn_tell_37 rfl ?_
      refine r_iconst d_Kn_tell_39 kc_1 ?_
      refine r_isub d_Kn_tell_40 ?_
      refine r_iload_n (j := 1) d_Kn_tell_41 rfl ?_
      refine r_aload_n (j := 2) d_Kn_tell_42 rfl ?_
      refine r_iconst d_Kn_tell_43 kc_1 ?_
      obtain ⟨q11, hw⟩ := hw
      refine r_callV (av := [ar (gR h v0 0), ai (v5 - (1 : Int32)), ai v1, ar v2, ai (1 : Int32)]) (rest := []) (ci := 7) d_Kn_tell_44 mk_Ps_run ll_Kn_39 im_Ps_run se_Ps_run rfl (nle rfl) rfl rfl (nle rfl) q11 (s_Ps_run (by omega) hw (fun h10 hw => ?_))
      show aW none m_Kn_tell (d + 1) 47 [(0, ar v0), (1, ai v1), (2, ar v2), (3, ai v3), (4, ai v4), (5, ai v5)] [] h10 0 0 QQ
      refine r_aload_n (j := 0) d_Kn_tell_47 rfl ?_
      obtain ⟨q12, hw⟩ := hw
      refine r_getR d_Kn_tell_48 ok_5 (nle rfl) (nle rfl) rfl lf_Kn_28 q12 ?_
      obtain ⟨q13, hw⟩ := hw
      refine r_getI d_Kn_tell_51 ok_7 (nle rfl) (nle rfl) rfl lf_Kn_45 q13 ?_
      refine r_if_le d_Kn_tell_54 (fun w9 => ?_) (fun w9 => ?_)
      · replace hw := hw.1 w9
        refine r_iconst d_Kn_tell_61 kc_0 ?_
        exact s_Kn_tell_B62 hd hQ ih hw
      · replace hw := hw.2 w9
        refine r_iconst d_Kn_tell_57 kc_1 ?_
        refine r_goto d_Kn_tell_58 ?_
        exact s_Kn_tell_B62 hd hQ ih hw
set_option maxRecDepth 100000 in
set_option maxHeartbeats 4000000 in
theorem s_Kn_tell {d : Nat} (hd : 62 ≤ d) {v0 : Nat} {v1 : Int32} {v2 : Nat} {v3 : Int32} {h : Hp} {Q : Int32 → Hp → Prop} {QQ : Option AV → Hp → Prop} (hw : w_Kn_tell v0 v1 v2 v3 h Q) (hQ : ∀ r9 h9, Q r9 h9 → QQ (some (ai r9)) h9) : aCall m_Kn_tell d [ar v0, ai v1, ar v2, ai v3] h 0 0 QQ := by
  obtain ⟨d, rfl⟩ : ∃ d9, d = d9 + 1 := ⟨d - 1, by omega⟩
  refine aCall_in pl_Kn_tell (nle rfl) ?_
  show aW none m_Kn_tell (d + 1) 0 [(0, ar v0), (1, ai v1), (2, ar v2), (3, ai v3)] [] h 0 0 QQ
  unfold w_Kn_tell at hw
  refine r_aload_n (j := 0) d_Kn_tell_0 rfl ?_
  obtain ⟨q1, hw⟩ := hw
  refine r_getI d_Kn_tell_1 ok_5 (nle rfl) (nle rfl) rfl lf_Kn_32 q1 ?_
  refine r_bipush d_Kn_tell_4 kb_20 ?_
  refine r_icmp_lt d_Kn_tell_6 (fun w9 => ?_) (fun w9 => ?_)
  · replace hw := hw.1 w9
    refine r_iconst d_Kn_tell_11 kc_0 ?_
    refine r_istore (ls2 := [(4, ai (0 : Int32)), (0, ar v0), (1, ai v1), (2, ar v2), (3, ai v3)]) d_Kn_tell_12 (nle rfl) rfl ?_
    refine r_iconst d_Kn_tell_14 kc_0 ?_
    refine r_istore (ls2 := [(5, ai (0 : Int32)), (4, ai (0 : Int32)), (0, ar v0), (1, ai v1), (2, ar v2), (3, ai v3)]) d_Kn_tell_15 (nle rfl) rfl ?_
    obtain ⟨n14, hw⟩ := hw
    refine r_pick (ls2 := [(0, ar v0), (1, ai v1), (2, ar v2), (3, ai v3), (4, ai (0 : Int32)), (5, ai (0 : Int32))]) [2, 3, 4, 5, 1, 0] rfl ?_
    exact s_Kn_tell_L17 hd hQ  n14 _ _ _ hw
  · replace hw := hw.2 w9
    refine r_iconst d_Kn_tell_9 kc_m1 ?_
    exact r_ireturn d_Kn_tell_10.1 rfl (hQ _ _ hw)
set_option maxRecDepth 100000 in
set_option maxHeartbeats 4000000 in
theorem s_Kn_takeAway {d : Nat} {v0 : Nat} {v1 : Int32} {h : Hp} {Q : Bool → Hp → Prop} {QQ : Option AV → Hp → Prop} (hw : w_Kn_takeAway v0 v1 h Q) (hQ : ∀ r9 h9, Q r9 h9 → QQ (some (ai (b2i r9))) h9) : aCall m_Kn_takeAway d [ar v0, ai v1] h 0 0 QQ := by
  refine aCall_in pl_Kn_takeAway (nle rfl) ?_
  show aW none m_Kn_takeAway d 0 [(0, ar v0), (1, ai v1)] [] h 0 0 QQ
  unfold w_Kn_takeAway at hw
  refine r_iload_n (j := 1) d_Kn_takeAway_0 rfl ?_
  refine r_if_lt d_Kn_takeAway_1 (fun w9 => ?_) (fun w9 => ?_)
  · replace hw := hw.1 w9
    refine r_iconst d_Kn_takeAway_22 kc_0 ?_
    exact r_zreturn d_Kn_takeAway_23.1 rfl (Or.inl rfl) (hQ _ _ hw)
  · replace hw := hw.2 w9
    refine r_iload_n (j := 1) d_Kn_takeAway_4 rfl ?_
    refine r_aload_n (j := 0) d_Kn_takeAway_5 rfl ?_
    obtain ⟨q1, hw⟩ := hw
    refine r_getI d_Kn_takeAway_6 ok_5 (nle rfl) (nle rfl) rfl lf_Kn_32 q1 ?_
    refine r_icmp_ge d_Kn_takeAway_9 (fun w9 => ?_) (fun w9 => ?_)
    · replace hw := hw.1 w9
      refine r_iconst d_Kn_takeAway_22 kc_0 ?_
      exact r_zreturn d_Kn_takeAway_23.1 rfl (Or.inl rfl) (hQ _ _ hw)
    · replace hw := hw.2 w9
      refine r_aload_n (j := 0) d_Kn_takeAway_12 rfl ?_
      refine r_getR d_Kn_takeAway_13 ok_5 (nle rfl) (nle rfl) rfl lf_Kn_18 q1 ?_
      refine r_iload_n (j := 1) d_Kn_takeAway_16 rfl ?_
      obtain ⟨q2, hw⟩ := hw
      obtain ⟨q3, hw⟩ := hw
      refine r_iald d_Kn_takeAway_17 q2 q3 ?_
      refine r_iconst d_Kn_takeAway_18 kc_m1 ?_
      refine r_icmp_eq d_Kn_takeAway_19 (fun w9 => ?_) (fun w9 => ?_)
      · replace hw := hw.1 w9
        refine r_aload_n (j := 0) d_Kn_takeAway_24 rfl ?_
        refine r_getR d_Kn_takeAway_25 ok_5 (nle rfl) (nle rfl) rfl lf_Kn_18 q1 ?_
        refine r_iload_n (j := 1) d_Kn_takeAway_28 rfl ?_
        refine r_aload_n (j := 0) d_Kn_takeAway_29 rfl ?_
        refine r_getI d_Kn_takeAway_30 ok_5 (nle rfl) (nle rfl) rfl lf_Kn_48 q1 ?_
        refine r_iast d_Kn_takeAway_33 q2 q3 ?_
        refine r_iconst d_Kn_takeAway_34 kc_1 ?_
        exact r_zreturn d_Kn_takeAway_35.1 rfl (Or.inr rfl) (hQ _ _ hw)
      · replace hw := hw.2 w9
        refine r_iconst d_Kn_takeAway_22 kc_0 ?_
        exact r_zreturn d_Kn_takeAway_23.1 rfl (Or.inl rfl) (hQ _ _ hw)
set_option maxRecDepth 100000 in
set_option maxHeartbeats 4000000 in
theorem s_Kn_fitting_B73 {d : Nat} (hd : 2 ≤ d + 1) {Q : Int32 → Hp → Prop} {QQ : Option AV → Hp → Prop} (hQ : ∀ r9 h9, Q r9 h9 → QQ (some (ai r9)) h9) {v0 : Nat} {v1 : Int32} {v2 : Int32} {v3 : Int32} {s0 : Int32} {h : Hp} {k40 : Int32 → Int32 → Hp → Prop} (hk40 : ∀ v2 v3 h9, k40 v2 v3 h9 → aW none m_Kn_fitting (d + 1) 40 [(0, ar v0), (1, ai v1), (2, ai v2), (3, ai v3)] [] h9 0 0 QQ) (hw : w_Kn_fitting_B73 Q k40 v0 v1 v2 v3 s0 h) : aW none m_Kn_fitting (d + 1) 73 [(0, ar v0), (1, ai v1), (2, ai v2), (3, ai v3)] [ai s0] h 0 0 QQ := by
  unfold w_Kn_fitting_B73 at hw
  refine r_istore (ls2 := [(4, ai s0), (0, ar v0), (1, ai v1), (2, ai v2), (3, ai v3)]) d_Kn_fitting_73 (nle rfl) rfl ?_
  refine r_aload_n (j := 1) d_Kn_fitting_75 rfl ?_
  obtain ⟨q6, hw⟩ := hw
  refine r_getR d_Kn_fitting_76 ok_5 (nle rfl) (nle rfl) rfl lf_Kn_15 q6 ?_
  refine r_iload_n (j := 4) d_Kn_fitting_79 rfl ?_
  obtain ⟨q7, hw⟩ := hw
  obtain ⟨q8, hw⟩ := hw
  refine r_iald d_Kn_fitting_80 q7 q8 ?_
  refine r_iload_n (j := 2) d_Kn_fitting_81 rfl ?_
  refine r_icmp_gt d_Kn_fitting_82 (fun w9 => ?_) (fun w9 => ?_)
  · replace hw := hw.1 w9
    refine r_iinc (j := 4) (ls2 := [(3, ai (v3 + (1 : Int32))), (4, ai s0), (0, ar v0), (1, ai v1), (2, ai v2)]) d_Kn_fitting_99 rfl (congrArg (HAdd.hAdd v3) kc_1) (nle rfl) rfl ?_
    refine r_goto d_Kn_fitting_102 ?_
    refine r_pick (ls2 := [(0, ar v0), (1, ai v1), (2, ai v2), (3, ai (v3 + (1 : Int32)))]) [2, 3, 4, 0] rfl ?_
    exact hk40 _ _ _ hw
  · replace hw := hw.2 w9
    refine r_iload (j := 0) d_Kn_fitting_85 rfl ?_
    refine r_if_ne d_Kn_fitting_87 (fun w9 => ?_) (fun w9 => ?_)
    · replace hw := hw.2 w9
      refine r_iinc (j := 4) (ls2 := [(3, ai (v3 + (1 : Int32))), (4, ai s0), (0, ar v0), (1, ai v1), (2, ai v2)]) d_Kn_fitting_99 rfl (congrArg (HAdd.hAdd v3) kc_1) (nle rfl) rfl ?_
      refine r_goto d_Kn_fitting_102 ?_
      refine r_pick (ls2 := [(0, ar v0), (1, ai v1), (2, ai v2), (3, ai (v3 + (1 : Int32)))]) [2, 3, 4, 0] rfl ?_
      exact hk40 _ _ _ hw
    · replace hw := hw.1 w9
      refine r_iload_n (j := 3) d_Kn_fitting_90 rfl ?_
      refine r_aload_n (j := 1) d_Kn_fitting_91 rfl ?_
      refine r_getR d_Kn_fitting_92 ok_5 (nle rfl) (nle rfl) rfl lf_Kn_11 q6 ?_
      refine r_iload_n (j := 4) d_Kn_fitting_95 rfl ?_
      obtain ⟨q9, hw⟩ := hw
      obtain ⟨q10, hw⟩ := hw
      refine r_iald d_Kn_fitting_96 q9 q10 ?_
      refine r_iand d_Kn_fitting_97 ?_
      refine r_istore_n (ls2 := [(2, ai (v2 &&& (gI h (gR h v0 2) (ix v3)))), (4, ai s0), (0, ar v0), (1, ai v1), (3, ai v3)]) d_Kn_fitting_98 (nle rfl) rfl ?_
      refine r_iinc (j := 4) (ls2 := [(3, ai (v3 + (1 : Int32))), (2, ai (v2 &&& (gI h (gR h v0 2) (ix v3)))), (4, ai s0), (0, ar v0), (1, ai v1)]) d_Kn_fitting_99 rfl (congrArg (HAdd.hAdd v3) kc_1) (nle rfl) rfl ?_
      refine r_goto d_Kn_fitting_102 ?_
      refine r_pick (ls2 := [(0, ar v0), (1, ai v1), (2, ai (v2 &&& (gI h (gR h v0 2) (ix v3)))), (3, ai (v3 + (1 : Int32)))]) [3, 4, 1, 0] rfl ?_
      exact hk40 _ _ _ hw
set_option maxRecDepth 100000 in
set_option maxHeartbeats 4000000 in
theorem s_Kn_fitting_B72 {d : Nat} (hd : 2 ≤ d + 1) {Q : Int32 → Hp → Prop} {QQ : Option AV → Hp → Prop} (hQ : ∀ r9 h9, Q r9 h9 → QQ (some (ai r9)) h9) {v0 : Nat} {v1 : Int32} {v2 : Int32} {v3 : Int32} {h : Hp} {k40 : Int32 → Int32 → Hp → Prop} (hk40 : ∀ v2 v3 h9, k40 v2 v3 h9 → aW none m_Kn_fitting (d + 1) 40 [(0, ar v0), (1, ai v1), (2, ai v2), (3, ai v3)] [] h9 0 0 QQ) (hw : w_Kn_fitting_B72 Q k40 v0 v1 v2 v3 h) : aW none m_Kn_fitting (d + 1) 72 [(0, ar v0), (1, ai v1), (2, ai v2), (3, ai v3)] [] h 0 0 QQ := by
  unfold w_Kn_fitting_B72 at hw
  refine r_iconst d_Kn_fitting_72 kc_0 ?_
  exact s_Kn_fitting_B73 hd hQ hk40 hw
set_option maxRecDepth 100000 in
set_option maxHeartbeats 4000000 in
theorem s_Kn_fitting_L40 {d : Nat} (hd : 2 ≤ d + 1) {Q : Int32 → Hp → Prop} {QQ : Option AV → Hp → Prop} (hQ : ∀ r9 h9, Q r9 h9 → QQ (some (ai r9)) h9) {v0 : Nat} {v1 : Int32} : ∀ (n : Nat) (v2 : Int32) (v3 : Int32) (h : Hp), w_Kn_fitting_L40 Q  v0 v1 n v2 v3 h → aW none m_Kn_fitting (d + 1) 40 [(0, ar v0), (1, ai v1), (2, ai v2), (3, ai v3)] [] h 0 0 QQ := by
  intro n
  induction n with
  | zero => intro v2 v3 h hw; exact hw.elim
  | succ n ih =>
    intro v2 v3 h hw
    unfold w_Kn_fitting_L40 at hw
    refine r_iload_n (j := 3) d_Kn_fitting_40 rfl ?_
    refine r_aload_n (j := 0) d_Kn_fitting_41 rfl ?_
    obtain ⟨q3, hw⟩ := hw
    refine r_getI d_Kn_fitting_42 ok_5 (nle rfl) (nle rfl) rfl lf_Kn_32 q3 ?_
    refine r_icmp_ge d_Kn_fitting_45 (fun w9 => ?_) (fun w9 => ?_)
    · replace hw := hw.1 w9
      refine r_iload_n (j := 2) d_Kn_fitting_105 rfl ?_
      exact r_ireturn d_Kn_fitting_106.1 rfl (hQ _ _ hw)
    · replace hw := hw.2 w9
      refine r_aload_n (j := 0) d_Kn_fitting_48 rfl ?_
      refine r_getR d_Kn_fitting_49 ok_5 (nle rfl) (nle rfl) rfl lf_Kn_18 q3 ?_
      refine r_iload_n (j := 3) d_Kn_fitting_52 rfl ?_
      obtain ⟨q4, hw⟩ := hw
      obtain ⟨q5, hw⟩ := hw
      refine r_iald d_Kn_fitting_53 q4 q5 ?_
      refine r_iconst d_Kn_fitting_54 kc_m1 ?_
      refine r_icmp_eq d_Kn_fitting_55 (fun w9 => ?_) (fun w9 => ?_)
      · replace hw := hw.1 w9
        exact s_Kn_fitting_B72 hd hQ ih hw
      · replace hw := hw.2 w9
        refine r_aload_n (j := 0) d_Kn_fitting_58 rfl ?_
        refine r_getR d_Kn_fitting_59 ok_5 (nle rfl) (nle rfl) rfl lf_Kn_18 q3 ?_
        refine r_iload_n (j := 3) d_Kn_fitting_62 rfl ?_
        refine r_iald d_Kn_fitting_63 q4 q5 ?_
        refine r_iload_n (j := 1) d_Kn_fitting_64 rfl ?_
        refine r_icmp_gt d_Kn_fitting_65 (fun w9 => ?_) (fun w9 => ?_)
        · replace hw := hw.1 w9
          exact s_Kn_fitting_B72 hd hQ ih hw
        · replace hw := hw.2 w9
          refine r_iconst d_Kn_fitting_68 kc_1 ?_
          refine r_goto d_Kn_fitting_69 ?_
          exact s_Kn_fitting_B73 hd hQ ih hw
set_option maxRecDepth 100000 in
set_option maxHeartbeats 4000000 in
theorem s_Kn_fitting_L4 {d : Nat} (hd : 2 ≤ d + 1) {Q : Int32 → Hp → Prop} {QQ : Option AV → Hp → Prop} (hQ : ∀ r9 h9, Q r9 h9 → QQ (some (ai r9)) h9) {v0 : Nat} {v1 : Int32} : ∀ (n : Nat) (v2 : Int32) (v3 : Int32) (h : Hp), w_Kn_fitting_L4 Q  v0 v1 n v2 v3 h → aW none m_Kn_fitting (d + 1) 4 [(0, ar v0), (1, ai v1), (2, ai v2), (3, ai v3)] [] h 0 0 QQ := by
  intro n
  induction n with
  | zero => intro v2 v3 h hw; exact hw.elim
  | succ n ih =>
    intro v2 v3 h hw
    unfold w_Kn_fitting_L4 at hw
    refine r_iload_n (j := 3) d_Kn_fitting_4 rfl ?_
    refine r_aload_n (j := 0) d_Kn_fitting_5 rfl ?_
    obtain ⟨q1, hw⟩ := hw
    refine r_getR d_Kn_fitting_6 ok_5 (nle rfl) (nle rfl) rfl lf_Kn_24 q1 ?_
    obtain ⟨q2, hw⟩ := hw
    refine r_getI d_Kn_fitting_9 ok_1 (nle rfl) (nle rfl) rfl lf_Kn_36 q2 ?_
    refine r_icmp_ge d_Kn_fitting_12 (fun w9 => ?_) (fun w9 => ?_)
    · replace hw := hw.1 w9
      refine r_iconst d_Kn_fitting_38 kc_0 ?_
      refine r_istore_n (ls2 := [(3, ai (0 : Int32)), (0, ar v0), (1, ai v1), (2, ai v2)]) d_Kn_fitting_39 (nle rfl) rfl ?_
      obtain ⟨n11, hw⟩ := hw
      refine r_pick (ls2 := [(0, ar v0), (1, ai v1), (2, ai v2), (3, ai (0 : Int32))]) [1, 2, 3, 0] rfl ?_
      exact s_Kn_fitting_L40 hd hQ  n11 _ _ _ hw
    · replace hw := hw.2 w9
      refine r_aload_n (j := 0) d_Kn_fitting_15 rfl ?_
      refine r_getR d_Kn_fitting_16 ok_5 (nle rfl) (nle rfl) rfl lf_Kn_24 q1 ?_
      refine r_iload_n (j := 3) d_Kn_fitting_19 rfl ?_
      refine r_callV (av := [ai v3]) (rest := []) (ci := 1) d_Kn_fitting_20 mk_Co_isNothing ll_Kn_51 im_Co_isNothing se_Co_isNothing rfl (nle rfl) rfl rfl (nle rfl) q2 (s_Co_isNothing (by omega) hw (fun r13 h12 hw => ?_))
      show aW none m_Kn_fitting (d + 1) 23 [(0, ar v0), (1, ai v1), (2, ai v2), (3, ai v3)] [ai (b2i r13)] h12 0 0 QQ
      refine r_if_ne d_Kn_fitting_23 (fun w9 => ?_) (fun w9 => ?_)
      · replace hw := hw.2 (fun g9 => w9 (b2i_0.mpr g9))
        refine r_iinc (j := 3) (ls2 := [(3, ai (v3 + (1 : Int32))), (0, ar v0), (1, ai v1), (2, ai v2)]) d_Kn_fitting_32 rfl (congrArg (HAdd.hAdd v3) kc_1) (nle rfl) rfl ?_
        refine r_goto d_Kn_fitting_35 ?_
        refine r_pick (ls2 := [(0, ar v0), (1, ai v1), (2, ai v2), (3, ai (v3 + (1 : Int32)))]) [1, 2, 3, 0] rfl ?_
        exact ih _ _ _ hw
      · replace hw := hw.1 (b2i_0.mp w9)
        refine r_iload_n (j := 2) d_Kn_fitting_26 rfl ?_
        refine r_iconst d_Kn_fitting_27 kc_2 ?_
        refine r_iload_n (j := 3) d_Kn_fitting_28 rfl ?_
        refine r_ishl d_Kn_fitting_29 ?_
        refine r_ior d_Kn_fitting_30 ?_
        refine r_istore_n (ls2 := [(2, ai (v2 ||| (jshl (2 : Int32) v3))), (0, ar v0), (1, ai v1), (3, ai v3)]) d_Kn_fitting_31 (nle rfl) rfl ?_
        refine r_iinc (j := 3) (ls2 := [(3, ai (v3 + (1 : Int32))), (2, ai (v2 ||| (jshl (2 : Int32) v3))), (0, ar v0), (1, ai v1)]) d_Kn_fitting_32 rfl (congrArg (HAdd.hAdd v3) kc_1) (nle rfl) rfl ?_
        refine r_goto d_Kn_fitting_35 ?_
        refine r_pick (ls2 := [(0, ar v0), (1, ai v1), (2, ai (v2 ||| (jshl (2 : Int32) v3))), (3, ai (v3 + (1 : Int32)))]) [2, 3, 1, 0] rfl ?_
        exact ih _ _ _ hw
set_option maxRecDepth 100000 in
set_option maxHeartbeats 4000000 in
theorem s_Kn_fitting {d : Nat} (hd : 2 ≤ d) {v0 : Nat} {v1 : Int32} {h : Hp} {Q : Int32 → Hp → Prop} {QQ : Option AV → Hp → Prop} (hw : w_Kn_fitting v0 v1 h Q) (hQ : ∀ r9 h9, Q r9 h9 → QQ (some (ai r9)) h9) : aCall m_Kn_fitting d [ar v0, ai v1] h 0 0 QQ := by
  obtain ⟨d, rfl⟩ : ∃ d9, d = d9 + 1 := ⟨d - 1, by omega⟩
  refine aCall_in pl_Kn_fitting (nle rfl) ?_
  show aW none m_Kn_fitting (d + 1) 0 [(0, ar v0), (1, ai v1)] [] h 0 0 QQ
  unfold w_Kn_fitting at hw
  refine r_iconst d_Kn_fitting_0 kc_1 ?_
  refine r_istore_n (ls2 := [(2, ai (1 : Int32)), (0, ar v0), (1, ai v1)]) d_Kn_fitting_1 (nle rfl) rfl ?_
  refine r_iconst d_Kn_fitting_2 kc_0 ?_
  refine r_istore_n (ls2 := [(3, ai (0 : Int32)), (2, ai (1 : Int32)), (0, ar v0), (1, ai v1)]) d_Kn_fitting_3 (nle rfl) rfl ?_
  obtain ⟨n14, hw⟩ := hw
  refine r_pick (ls2 := [(0, ar v0), (1, ai v1), (2, ai (1 : Int32)), (3, ai (0 : Int32))]) [2, 3, 1, 0] rfl ?_
  exact s_Kn_fitting_L4 hd hQ  n14 _ _ _ hw
set_option maxRecDepth 100000 in
set_option maxHeartbeats 4000000 in
theorem s_Kn_shiftRow_L8 {d : Nat} (hd : 1 ≤ d + 1) {Q : Hp → Prop} {QQ : Option AV → Hp → Prop} (hQ : ∀ h9, Q h9 → QQ none h9) {v0 : Nat} {v1 : Int32} {v2 : Int32} {v3 : Int32} {v4 : Int32} : ∀ (n : Nat) (v5 : Int32) (h : Hp), w_Kn_shiftRow_L8 Q  v0 v1 v2 v3 v4 n v5 h → aW none m_Kn_shiftRow (d + 1) 8 [(0, ar v0), (1, ai v1), (2, ai v2), (3, ai v3), (4, ai v4), (5, ai v5)] [] h 0 0 QQ := by
  intro n
  induction n with
  | zero => intro v5 h hw; exact hw.elim
  | succ n ih =>
    intro v5 h hw
    unfold w_Kn_shiftRow_L8 at hw
    refine r_iload (j := 5) d_Kn_shiftRow_8 rfl ?_
    refine r_bipush d_Kn_shiftRow_10 kb_81 ?_
    refine r_icmp_ge d_Kn_shiftRow_12 (fun w9 => ?_) (fun w9 => ?_)
    · replace hw := hw.1 w9
      exact r_return d_Kn_shiftRow_56.1 rfl (hQ _ hw)
    · replace hw := hw.2 w9
      refine r_iload (j := 5) d_Kn_shiftRow_15 rfl ?_
      refine r_iload_n (j := 3) d_Kn_shiftRow_17 rfl ?_
      refine r_iadd d_Kn_shiftRow_18 ?_
      refine r_bipush d_Kn_shiftRow_19 kb_81 ?_
      refine r_icmp_ge d_Kn_shiftRow_21 (fun w9 => ?_) (fun w9 => ?_)
      · replace hw := hw.1 w9
        exact r_return d_Kn_shiftRow_56.1 rfl (hQ _ hw)
      · replace hw := hw.2 w9
        refine r_aload_n (j := 0) d_Kn_shiftRow_24 rfl ?_
        obtain ⟨q3, hw⟩ := hw
        refine r_getR d_Kn_shiftRow_25 ok_5 (nle rfl) (nle rfl) rfl lf_Kn_21 q3 ?_
        refine r_iload_n (j := 2) d_Kn_shiftRow_28 rfl ?_
        refine r_iload (j := 5) d_Kn_shiftRow_29 rfl ?_
        refine r_iadd d_Kn_shiftRow_31 ?_
        refine r_iload_n (j := 3) d_Kn_shiftRow_32 rfl ?_
        refine r_iadd d_Kn_shiftRow_33 ?_
        refine r_dup2 d_Kn_shiftRow_34 rfl rfl ?_
        obtain ⟨q4, hw⟩ := hw
        obtain ⟨q5, hw⟩ := hw
        refine r_iald d_Kn_shiftRow_35 q4 q5 ?_
        refine r_aload_n (j := 0) d_Kn_shiftRow_36 rfl ?_
        refine r_getR d_Kn_shiftRow_37 ok_5 (nle rfl) (nle rfl) rfl lf_Kn_21 q3 ?_
        refine r_iload_n (j := 1) d_Kn_shiftRow_40 rfl ?_
        refine r_iload (j := 5) d_Kn_shiftRow_41 rfl ?_
        refine r_iadd d_Kn_shiftRow_43 ?_
        obtain ⟨q6, hw⟩ := hw
        refine r_iald d_Kn_shiftRow_44 q4 q6 ?_
        refine r_iload (j := 4) d_Kn_shiftRow_45 rfl ?_
        refine r_iand d_Kn_shiftRow_47 ?_
        refine r_ior d_Kn_shiftRow_48 ?_
        refine r_iast d_Kn_shiftRow_49 q4 q5 ?_
        refine r_iinc (j := 5) (ls2 := [(5, ai (v5 + (1 : Int32))), (0, ar v0), (1, ai v1), (2, ai v2), (3, ai v3), (4, ai v4)]) d_Kn_shiftRow_50 rfl (congrArg (HAdd.hAdd v5) kc_1) (nle rfl) rfl ?_
        refine r_goto d_Kn_shiftRow_53 ?_
        refine r_pick (ls2 := [(0, ar v0), (1, ai v1), (2, ai v2), (3, ai v3), (4, ai v4), (5, ai (v5 + (1 : Int32)))]) [1, 2, 3, 4, 5, 0] rfl ?_
        exact ih _ _ hw
set_option maxRecDepth 100000 in
set_option maxHeartbeats 4000000 in
theorem s_Kn_shiftRow {d : Nat} (hd : 1 ≤ d) {v0 : Nat} {v1 : Int32} {v2 : Int32} {v3 : Int32} {v4 : Int32} {h : Hp} {Q : Hp → Prop} {QQ : Option AV → Hp → Prop} (hw : w_Kn_shiftRow v0 v1 v2 v3 v4 h Q) (hQ : ∀ h9, Q h9 → QQ none h9) : aCall m_Kn_shiftRow d [ar v0, ai v1, ai v2, ai v3, ai v4] h 0 0 QQ := by
  obtain ⟨d, rfl⟩ : ∃ d9, d = d9 + 1 := ⟨d - 1, by omega⟩
  refine aCall_in pl_Kn_shiftRow (nle rfl) ?_
  show aW none m_Kn_shiftRow (d + 1) 0 [(0, ar v0), (1, ai v1), (2, ai v2), (3, ai v3), (4, ai v4)] [] h 0 0 QQ
  unfold w_Kn_shiftRow at hw
  refine r_iconst d_Kn_shiftRow_0 kc_0 ?_
  refine r_iload_n (j := 3) d_Kn_shiftRow_1 rfl ?_
  refine r_ineg d_Kn_shiftRow_2 ?_
  refine r_callS (av := [ai (0 : Int32), ai (-v3)]) (rest := []) d_Kn_shiftRow_3 mk_JM_max ll_Kn_67 st_JM_max rfl rfl (nle rfl) (s_JM_max  hw (fun r2 h1 hw => ?_))
  show aW none m_Kn_shiftRow (d + 1) 6 [(0, ar v0), (1, ai v1), (2, ai v2), (3, ai v3), (4, ai v4)] [ai r2] h1 0 0 QQ
  refine r_istore (ls2 := [(5, ai r2), (0, ar v0), (1, ai v1), (2, ai v2), (3, ai v3), (4, ai v4)]) d_Kn_shiftRow_6 (nle rfl) rfl ?_
  obtain ⟨n7, hw⟩ := hw
  refine r_pick (ls2 := [(0, ar v0), (1, ai v1), (2, ai v2), (3, ai v3), (4, ai v4), (5, ai r2)]) [1, 2, 3, 4, 5, 0] rfl ?_
  exact s_Kn_shiftRow_L8 hd hQ  n7 _ _ hw
set_option maxRecDepth 100000 in
set_option maxHeartbeats 4000000 in
theorem s_Kn_reachRow_L62 {d : Nat} (hd : 2 ≤ d + 1) {Q : Int32 → Hp → Prop} {QQ : Option AV → Hp → Prop} (hQ : ∀ r9 h9, Q r9 h9 → QQ (some (ai r9)) h9) {v0 : Nat} {v1 : Int32} {v2 : Int32} {v3 : Int32} {v4 : Int32} {k20 : Int32 → Int32 → Hp → Prop} (hk20 : ∀ v2 v3 h9, k20 v2 v3 h9 → aW none m_Kn_reachRow (d + 1) 20 [(0, ar v0), (1, ai v1), (2, ai v2), (3, ai v3)] [] h9 0 0 QQ) : ∀ (n : Nat) (v5 : Int32) (h : Hp), w_Kn_reachRow_L62 Q k20 v0 v1 v2 v3 v4 n v5 h → aW none m_Kn_reachRow (d + 1) 62 [(0, ar v0), (1, ai v1), (2, ai v2), (3, ai v3), (4, ai v4), (5, ai v5)] [] h 0 0 QQ := by
  intro n
  induction n with
  | zero => intro v5 h hw; exact hw.elim
  | succ n ih =>
    intro v5 h hw
    unfold w_Kn_reachRow_L62 at hw
    refine r_iload (j := 5) d_Kn_reachRow_62 rfl ?_
    refine r_aload_n (j := 0) d_Kn_reachRow_64 rfl ?_
    obtain ⟨q6, hw⟩ := hw
    refine r_getR d_Kn_reachRow_65 ok_5 (nle rfl) (nle rfl) rfl lf_Kn_24 q6 ?_
    obtain ⟨q7, hw⟩ := hw
    refine r_getI d_Kn_reachRow_68 ok_1 (nle rfl) (nle rfl) rfl lf_Kn_36 q7 ?_
    refine r_icmp_ge d_Kn_reachRow_71 (fun w9 => ?_) (fun w9 => ?_)
    · replace hw := hw.1 w9
      refine r_iload (j := 4) d_Kn_reachRow_123 rfl ?_
      refine r_istore_n (ls2 := [(2, ai v4), (0, ar v0), (1, ai v1), (3, ai v3), (4, ai v4), (5, ai v5)]) d_Kn_reachRow_125 (nle rfl) rfl ?_
      refine r_iinc (j := 3) (ls2 := [(3, ai (v3 + (1 : Int32))), (2, ai v4), (0, ar v0), (1, ai v1), (4, ai v4), (5, ai v5)]) d_Kn_reachRow_126 rfl (congrArg (HAdd.hAdd v3) kc_1) (nle rfl) rfl ?_
      refine r_goto d_Kn_reachRow_129 ?_
      refine r_pick (ls2 := [(0, ar v0), (1, ai v1), (2, ai v4), (3, ai (v3 + (1 : Int32)))]) [2, 3, 1, 0] rfl ?_
      exact hk20 _ _ _ hw
    · replace hw := hw.2 w9
      refine r_iconst d_Kn_reachRow_74 kc_2 ?_
      refine r_iload (j := 5) d_Kn_reachRow_75 rfl ?_
      refine r_ishl d_Kn_reachRow_77 ?_
      refine r_istore (ls2 := [(6, ai (jshl (2 : Int32) v5)), (0, ar v0), (1, ai v1), (2, ai v2), (3, ai v3), (4, ai v4), (5, ai v5)]) d_Kn_reachRow_78 (nle rfl) rfl ?_
      refine r_aload_n (j := 1) d_Kn_reachRow_80 rfl ?_
      refine r_getR d_Kn_reachRow_81 ok_5 (nle rfl) (nle rfl) rfl lf_Kn_24 q6 ?_
      refine r_iload (j := 6) d_Kn_reachRow_84 rfl ?_
      refine r_iconst d_Kn_reachRow_86 kc_0 ?_
      refine r_callV (av := [ai v5, ai (0 : Int32)]) (rest := []) (ci := 1) d_Kn_reachRow_87 mk_Co_numberOf ll_Kn_82 im_Co_numberOf se_Co_numberOf rfl (nle rfl) rfl rfl (nle rfl) q7 (s_Co_numberOf  hw (fun r9 h8 hw => ?_))
      show aW none m_Kn_reachRow (d + 1) 90 [(6, ai (jshl (2 : Int32) v5)), (0, ar v0), (1, ai v1), (2, ai v2), (3, ai v3), (4, ai v4), (5, ai v5)] [ai r9] h8 0 0 QQ
      refine r_istore (ls2 := [(7, ai r9), (6, ai (jshl (2 : Int32) v5)), (0, ar v0), (1, ai v1), (2, ai v2), (3, ai v3), (4, ai v4), (5, ai v5)]) d_Kn_reachRow_90 (nle rfl) rfl ?_
      refine r_aload_n (j := 2) d_Kn_reachRow_92 rfl ?_
      refine r_iload_n (j := 4) d_Kn_reachRow_93 rfl ?_
      refine r_iload (j := 6) d_Kn_reachRow_94 rfl ?_
      refine r_iload (j := 0) d_Kn_reachRow_96 rfl ?_
      refine r_iload (j := 1) d_Kn_reachRow_98 rfl ?_
      refine r_iconst d_Kn_reachRow_100 kc_m1 ?_
      refine r_ixor d_Kn_reachRow_101 ?_
      obtain ⟨q11, hw⟩ := hw
      refine r_callV (av := [ai v2, ai v4, ai r9, ai ((jshl (2 : Int32) v5) ^^^ (-1 : Int32))]) (rest := []) (ci := 5) d_Kn_reachRow_102 mk_Kn_shiftRow ll_Kn_85 im_Kn_shiftRow se_Kn_shiftRow rfl (nle rfl) rfl rfl (nle rfl) q11 (s_Kn_shiftRow (by omega) hw (fun h10 hw => ?_))
      show aW none m_Kn_reachRow (d + 1) 105 [(7, ai r9), (6, ai (jshl (2 : Int32) v5)), (0, ar v0), (1, ai v1), (2, ai v2), (3, ai v3), (4, ai v4), (5, ai v5)] [] h10 0 0 QQ
      refine r_aload_n (j := 2) d_Kn_reachRow_105 rfl ?_
      refine r_iload_n (j := 4) d_Kn_reachRow_106 rfl ?_
      refine r_iload (j := 6) d_Kn_reachRow_107 rfl ?_
      refine r_iload (j := 0) d_Kn_reachRow_109 rfl ?_
      refine r_ineg d_Kn_reachRow_111 ?_
      refine r_iload (j := 1) d_Kn_reachRow_112 rfl ?_
      obtain ⟨q13, hw⟩ := hw
      refine r_callV (av := [ai v2, ai v4, ai (-r9), ai (jshl (2 : Int32) v5)]) (rest := []) (ci := 5) d_Kn_reachRow_114 mk_Kn_shiftRow ll_Kn_85 im_Kn_shiftRow se_Kn_shiftRow rfl (nle rfl) rfl rfl (nle rfl) q13 (s_Kn_shiftRow (by omega) hw (fun h12 hw => ?_))
      show aW none m_Kn_reachRow (d + 1) 117 [(7, ai r9), (6, ai (jshl (2 : Int32) v5)), (0, ar v0), (1, ai v1), (2, ai v2), (3, ai v3), (4, ai v4), (5, ai v5)] [] h12 0 0 QQ
      refine r_iinc (j := 7) (ls2 := [(5, ai (v5 + (1 : Int32))), (7, ai r9), (6, ai (jshl (2 : Int32) v5)), (0, ar v0), (1, ai v1), (2, ai v2), (3, ai v3), (4, ai v4)]) d_Kn_reachRow_117 rfl (congrArg (HAdd.hAdd v5) kc_1) (nle rfl) rfl ?_
      refine r_goto d_Kn_reachRow_120 ?_
      refine r_pick (ls2 := [(0, ar v0), (1, ai v1), (2, ai v2), (3, ai v3), (4, ai v4), (5, ai (v5 + (1 : Int32)))]) [3, 4, 5, 6, 7, 0] rfl ?_
      exact ih _ _ hw
set_option maxRecDepth 100000 in
set_option maxHeartbeats 4000000 in
theorem s_Kn_reachRow_L35 {d : Nat} (hd : 2 ≤ d + 1) {Q : Int32 → Hp → Prop} {QQ : Option AV → Hp → Prop} (hQ : ∀ r9 h9, Q r9 h9 → QQ (some (ai r9)) h9) {v0 : Nat} {v1 : Int32} {v2 : Int32} {v3 : Int32} {v4 : Int32} {k20 : Int32 → Int32 → Hp → Prop} (hk20 : ∀ v2 v3 h9, k20 v2 v3 h9 → aW none m_Kn_reachRow (d + 1) 20 [(0, ar v0), (1, ai v1), (2, ai v2), (3, ai v3)] [] h9 0 0 QQ) : ∀ (n : Nat) (v5 : Int32) (h : Hp), w_Kn_reachRow_L35 Q k20 v0 v1 v2 v3 v4 n v5 h → aW none m_Kn_reachRow (d + 1) 35 [(0, ar v0), (1, ai v1), (2, ai v2), (3, ai v3), (4, ai v4), (5, ai v5)] [] h 0 0 QQ := by
  intro n
  induction n with
  | zero => intro v5 h hw; exact hw.elim
  | succ n ih =>
    intro v5 h hw
    unfold w_Kn_reachRow_L35 at hw
    refine r_iload (j := 5) d_Kn_reachRow_35 rfl ?_
    refine r_iload (j := 4) d_Kn_reachRow_37 rfl ?_
    refine r_bipush d_Kn_reachRow_39 kb_81 ?_
    refine r_iadd d_Kn_reachRow_41 ?_
    refine r_icmp_ge d_Kn_reachRow_42 (fun w9 => ?_) (fun w9 => ?_)
    · replace hw := hw.1 w9
      refine r_iconst d_Kn_reachRow_59 kc_0 ?_
      refine r_istore (ls2 := [(5, ai (0 : Int32)), (0, ar v0), (1, ai v1), (2, ai v2), (3, ai v3), (4, ai v4)]) d_Kn_reachRow_60 (nle rfl) rfl ?_
      obtain ⟨n14, hw⟩ := hw
      refine r_pick (ls2 := [(0, ar v0), (1, ai v1), (2, ai v2), (3, ai v3), (4, ai v4), (5, ai (0 : Int32))]) [1, 2, 3, 4, 5, 0] rfl ?_
      exact s_Kn_reachRow_L62 hd hQ hk20 n14 _ _ hw
    · replace hw := hw.2 w9
      refine r_aload_n (j := 0) d_Kn_reachRow_45 rfl ?_
      obtain ⟨q15, hw⟩ := hw
      refine r_getR d_Kn_reachRow_46 ok_5 (nle rfl) (nle rfl) rfl lf_Kn_21 q15 ?_
      refine r_iload (j := 5) d_Kn_reachRow_49 rfl ?_
      refine r_iconst d_Kn_reachRow_51 kc_0 ?_
      obtain ⟨q16, hw⟩ := hw
      obtain ⟨q17, hw⟩ := hw
      refine r_iast d_Kn_reachRow_52 q16 q17 ?_
      refine r_iinc (j := 5) (ls2 := [(5, ai (v5 + (1 : Int32))), (0, ar v0), (1, ai v1), (2, ai v2), (3, ai v3), (4, ai v4)]) d_Kn_reachRow_53 rfl (congrArg (HAdd.hAdd v5) kc_1) (nle rfl) rfl ?_
      refine r_goto d_Kn_reachRow_56 ?_
      refine r_pick (ls2 := [(0, ar v0), (1, ai v1), (2, ai v2), (3, ai v3), (4, ai v4), (5, ai (v5 + (1 : Int32)))]) [1, 2, 3, 4, 5, 0] rfl ?_
      exact ih _ _ hw
set_option maxRecDepth 100000 in
set_option maxHeartbeats 4000000 in
theorem s_Kn_reachRow_L20 {d : Nat} (hd : 2 ≤ d + 1) {Q : Int32 → Hp → Prop} {QQ : Option AV → Hp → Prop} (hQ : ∀ r9 h9, Q r9 h9 → QQ (some (ai r9)) h9) {v0 : Nat} {v1 : Int32} : ∀ (n : Nat) (v2 : Int32) (v3 : Int32) (h : Hp), w_Kn_reachRow_L20 Q  v0 v1 n v2 v3 h → aW none m_Kn_reachRow (d + 1) 20 [(0, ar v0), (1, ai v1), (2, ai v2), (3, ai v3)] [] h 0 0 QQ := by
  intro n
  induction n with
  | zero => intro v2 v3 h hw; exact hw.elim
  | succ n ih =>
    intro v2 v3 h hw
    unfold w_Kn_reachRow_L20 at hw
    refine r_iload_n (j := 3) d_Kn_reachRow_20 rfl ?_
    refine r_iload_n (j := 1) d_Kn_reachRow_21 rfl ?_
    refine r_icmp_ge d_Kn_reachRow_22 (fun w9 => ?_) (fun w9 => ?_)
    · replace hw := hw.1 w9
      refine r_iload_n (j := 2) d_Kn_reachRow_132 rfl ?_
      exact r_ireturn d_Kn_reachRow_133.1 rfl (hQ _ _ hw)
    · replace hw := hw.2 w9
      refine r_bipush d_Kn_reachRow_25 kb_81 ?_
      refine r_iload_n (j := 2) d_Kn_reachRow_27 rfl ?_
      refine r_isub d_Kn_reachRow_28 ?_
      refine r_istore (ls2 := [(4, ai ((81 : Int32) - v2)), (0, ar v0), (1, ai v1), (2, ai v2), (3, ai v3)]) d_Kn_reachRow_29 (nle rfl) rfl ?_
      refine r_iload (j := 0) d_Kn_reachRow_31 rfl ?_
      refine r_istore (ls2 := [(5, ai ((81 : Int32) - v2)), (4, ai ((81 : Int32) - v2)), (0, ar v0), (1, ai v1), (2, ai v2), (3, ai v3)]) d_Kn_reachRow_33 (nle rfl) rfl ?_
      obtain ⟨n18, hw⟩ := hw
      refine r_pick (ls2 := [(0, ar v0), (1, ai v1), (2, ai v2), (3, ai v3), (4, ai ((81 : Int32) - v2)), (5, ai ((81 : Int32) - v2))]) [2, 3, 4, 5, 1, 0] rfl ?_
      exact s_Kn_reachRow_L35 hd hQ ih n18 _ _ hw
set_option maxRecDepth 100000 in
set_option maxHeartbeats 4000000 in
theorem s_Kn_reachRow {d : Nat} (hd : 2 ≤ d) {v0 : Nat} {v1 : Int32} {h : Hp} {Q : Int32 → Hp → Prop} {QQ : Option AV → Hp → Prop} (hw : w_Kn_reachRow v0 v1 h Q) (hQ : ∀ r9 h9, Q r9 h9 → QQ (some (ai r9)) h9) : aCall m_Kn_reachRow d [ar v0, ai v1] h 0 0 QQ := by
  obtain ⟨d, rfl⟩ : ∃ d9, d = d9 + 1 := ⟨d - 1, by omega⟩
  refine aCall_in pl_Kn_reachRow (nle rfl) ?_
  show aW none m_Kn_reachRow (d + 1) 0 [(0, ar v0), (1, ai v1)] [] h 0 0 QQ
  unfold w_Kn_reachRow at hw
  refine r_aload_n (j := 0) d_Kn_reachRow_0 rfl ?_
  obtain ⟨q1, hw⟩ := hw
  refine r_getR d_Kn_reachRow_1 ok_5 (nle rfl) (nle rfl) rfl lf_Kn_21 q1 ?_
  refine r_iconst d_Kn_reachRow_4 kc_0 ?_
  refine r_callS (av := [ar (gR h v0 5), ai (0 : Int32)]) (rest := []) d_Kn_reachRow_5 mk_JA_fill_IIV ll_Kn_76 st_JA_fill_IIV rfl rfl (nle rfl) (s_JA_fill_IIV  hw (fun h2 hw => ?_))
  show aW none m_Kn_reachRow (d + 1) 8 [(0, ar v0), (1, ai v1)] [] h2 0 0 QQ
  refine r_aload_n (j := 0) d_Kn_reachRow_8 rfl ?_
  obtain ⟨q3, hw⟩ := hw
  refine r_getR d_Kn_reachRow_9 ok_5 (nle rfl) (nle rfl) rfl lf_Kn_21 q3 ?_
  refine r_bipush d_Kn_reachRow_12 kb_40 ?_
  refine r_iconst d_Kn_reachRow_14 kc_m1 ?_
  obtain ⟨q4, hw⟩ := hw
  obtain ⟨q5, hw⟩ := hw
  refine r_iast d_Kn_reachRow_15 q4 q5 ?_
  refine r_iconst d_Kn_reachRow_16 kc_0 ?_
  refine r_istore_n (ls2 := [(2, ai (0 : Int32)), (0, ar v0), (1, ai v1)]) d_Kn_reachRow_17 (nle rfl) rfl ?_
  refine r_iconst d_Kn_reachRow_18 kc_0 ?_
  refine r_istore_n (ls2 := [(3, ai (0 : Int32)), (2, ai (0 : Int32)), (0, ar v0), (1, ai v1)]) d_Kn_reachRow_19 (nle rfl) rfl ?_
  obtain ⟨n19, hw⟩ := hw
  refine r_pick (ls2 := [(0, ar v0), (1, ai v1), (2, ai (0 : Int32)), (3, ai (0 : Int32))]) [2, 3, 1, 0] rfl ?_
  exact s_Kn_reachRow_L20 hd hQ  n19 _ _ _ hw
set_option maxRecDepth 100000 in
set_option maxHeartbeats 4000000 in
theorem s_Kn_chooseAsk_L24 {d : Nat} (hd : 3 ≤ d + 1) {Q : Hp → Prop} {QQ : Option AV → Hp → Prop} (hQ : ∀ h9, Q h9 → QQ none h9) {v0 : Nat} {v2 : Int32} {v3 : Int32} {v4 : Int32} : ∀ (n : Nat) (v5 : Int32) (h : Hp), w_Kn_chooseAsk_L24 Q  v0 v2 v3 v4 n v5 h → aW none m_Kn_chooseAsk (d + 1) 24 [(0, ar v0), (2, ai v2), (3, ai v3), (4, ai v4), (5, ai v5)] [] h 0 0 QQ := by
  intro n
  induction n with
  | zero => intro v5 h hw; exact hw.elim
  | succ n ih =>
    intro v5 h hw
    unfold w_Kn_chooseAsk_L24 at hw
    refine r_iload (j := 4) d_Kn_chooseAsk_24 rfl ?_
    refine r_bipush d_Kn_chooseAsk_26 kb_20 ?_
    refine r_icmp_gt d_Kn_chooseAsk_28 (fun w9 => ?_) (fun w9 => ?_)
    · replace hw := hw.1 w9
      exact r_return d_Kn_chooseAsk_89.1 rfl (hQ _ hw)
    · replace hw := hw.2 w9
      refine r_aload_n (j := 0) d_Kn_chooseAsk_31 rfl ?_
      obtain ⟨q7, hw⟩ := hw
      refine r_getR d_Kn_chooseAsk_32 ok_5 (nle rfl) (nle rfl) rfl lf_Kn_21 q7 ?_
      refine r_iload_n (j := 2) d_Kn_chooseAsk_35 rfl ?_
      refine r_bipush d_Kn_chooseAsk_36 kb_40 ?_
      refine r_iadd d_Kn_chooseAsk_38 ?_
      refine r_iload (j := 4) d_Kn_chooseAsk_39 rfl ?_
      refine r_iadd d_Kn_chooseAsk_41 ?_
      obtain ⟨q8, hw⟩ := hw
      obtain ⟨q9, hw⟩ := hw
      refine r_iald d_Kn_chooseAsk_42 q8 q9 ?_
      refine r_iload_n (j := 1) d_Kn_chooseAsk_43 rfl ?_
      refine r_iand d_Kn_chooseAsk_44 ?_
      refine r_callS (av := [ai ((gI h (gR h v0 5) (ix ((v3 + (40 : Int32)) + v5))) &&& v2)]) (rest := []) d_Kn_chooseAsk_45 mk_JI_bitCount ll_Kn_59 st_JI_bitCount rfl rfl (nle rfl) (s_JI_bitCount  hw (fun r11 h10 hw => ?_))
      show aW none m_Kn_chooseAsk (d + 1) 48 [(0, ar v0), (2, ai v2), (3, ai v3), (4, ai v4), (5, ai v5)] [ai r11] h10 0 0 QQ
      refine r_istore (ls2 := [(6, ai r11), (0, ar v0), (2, ai v2), (3, ai v3), (4, ai v4), (5, ai v5)]) d_Kn_chooseAsk_48 (nle rfl) rfl ?_
      refine r_iload (j := 0) d_Kn_chooseAsk_50 rfl ?_
      refine r_iload (j := 4) d_Kn_chooseAsk_52 rfl ?_
      refine r_iload (j := 0) d_Kn_chooseAsk_54 rfl ?_
      refine r_isub d_Kn_chooseAsk_56 ?_
      refine r_callS (av := [ai r11, ai (v4 - r11)]) (rest := []) d_Kn_chooseAsk_57 mk_JM_max ll_Kn_67 st_JM_max rfl rfl (nle rfl) (s_JM_max  hw (fun r13 h12 hw => ?_))
      show aW none m_Kn_chooseAsk (d + 1) 60 [(6, ai r11), (0, ar v0), (2, ai v2), (3, ai v3), (4, ai v4), (5, ai v5)] [ai r13] h12 0 0 QQ
      refine r_istore (ls2 := [(7, ai r13), (6, ai r11), (0, ar v0), (2, ai v2), (3, ai v3), (4, ai v4), (5, ai v5)]) d_Kn_chooseAsk_60 (nle rfl) rfl ?_
      refine r_iload (j := 0) d_Kn_chooseAsk_62 rfl ?_
      refine r_aload_n (j := 2) d_Kn_chooseAsk_64 rfl ?_
      obtain ⟨q14, hw⟩ := hw
      refine r_getI d_Kn_chooseAsk_65 ok_5 (nle rfl) (nle rfl) rfl lf_Kn_64 q14 ?_
      refine r_icmp_ge d_Kn_chooseAsk_68 (fun w9 => ?_) (fun w9 => ?_)
      · replace hw := hw.1 w9
        refine r_iinc (j := 6) (ls2 := [(5, ai (v5 + (1 : Int32))), (7, ai r13), (6, ai r11), (0, ar v0), (2, ai v2), (3, ai v3), (4, ai v4)]) d_Kn_chooseAsk_83 rfl (congrArg (HAdd.hAdd v5) kc_1) (nle rfl) rfl ?_
        refine r_goto d_Kn_chooseAsk_86 ?_
        refine r_pick (ls2 := [(0, ar v0), (2, ai v2), (3, ai v3), (4, ai v4), (5, ai (v5 + (1 : Int32)))]) [3, 4, 5, 6, 0] rfl ?_
        exact ih _ _ hw
      · replace hw := hw.2 w9
        refine r_aload_n (j := 2) d_Kn_chooseAsk_71 rfl ?_
        refine r_iload (j := 0) d_Kn_chooseAsk_72 rfl ?_
        refine r_putI d_Kn_chooseAsk_74 ok_5 (nle rfl) (nle rfl) rfl lf_Kn_64 rfl q14 ?_
        refine r_aload_n (j := 2) d_Kn_chooseAsk_77 rfl ?_
        refine r_iload (j := 6) d_Kn_chooseAsk_78 rfl ?_
        refine r_putI d_Kn_chooseAsk_80 ok_5 (nle rfl) (nle rfl) rfl lf_Kn_73 rfl (kt eKI q14) ?_
        refine r_iinc (j := 6) (ls2 := [(5, ai (v5 + (1 : Int32))), (7, ai r13), (6, ai r11), (0, ar v0), (2, ai v2), (3, ai v3), (4, ai v4)]) d_Kn_chooseAsk_83 rfl (congrArg (HAdd.hAdd v5) kc_1) (nle rfl) rfl ?_
        refine r_goto d_Kn_chooseAsk_86 ?_
        refine r_pick (ls2 := [(0, ar v0), (2, ai v2), (3, ai v3), (4, ai v4), (5, ai (v5 + (1 : Int32)))]) [3, 4, 5, 6, 0] rfl ?_
        exact ih _ _ hw
set_option maxRecDepth 100000 in
set_option maxHeartbeats 4000000 in
theorem s_Kn_chooseAsk {d : Nat} (hd : 3 ≤ d) {v0 : Nat} {v1 : Int32} {v2 : Int32} {h : Hp} {Q : Hp → Prop} {QQ : Option AV → Hp → Prop} (hw : w_Kn_chooseAsk v0 v1 v2 h Q) (hQ : ∀ h9, Q h9 → QQ none h9) : aCall m_Kn_chooseAsk d [ar v0, ai v1, ai v2] h 0 0 QQ := by
  obtain ⟨d, rfl⟩ : ∃ d9, d = d9 + 1 := ⟨d - 1, by omega⟩
  refine aCall_in pl_Kn_chooseAsk (nle rfl) ?_
  show aW none m_Kn_chooseAsk (d + 1) 0 [(0, ar v0), (1, ai v1), (2, ai v2)] [] h 0 0 QQ
  unfold w_Kn_chooseAsk at hw
  refine r_aload_n (j := 0) d_Kn_chooseAsk_0 rfl ?_
  refine r_iload_n (j := 1) d_Kn_chooseAsk_1 rfl ?_
  obtain ⟨q3, hw⟩ := hw
  refine r_callV (av := [ai v1]) (rest := []) (ci := 5) d_Kn_chooseAsk_2 mk_Kn_reachRow ll_Kn_55 im_Kn_reachRow se_Kn_reachRow rfl (nle rfl) rfl rfl (nle rfl) q3 (s_Kn_reachRow (by omega) hw (fun r2 h1 hw => ?_))
  show aW none m_Kn_chooseAsk (d + 1) 5 [(0, ar v0), (1, ai v1), (2, ai v2)] [ai r2] h1 0 0 QQ
  refine r_istore_n (ls2 := [(3, ai r2), (0, ar v0), (1, ai v1), (2, ai v2)]) d_Kn_chooseAsk_5 (nle rfl) rfl ?_
  refine r_iload_n (j := 3) d_Kn_chooseAsk_6 rfl ?_
  refine r_callS (av := [ai v2]) (rest := []) d_Kn_chooseAsk_7 mk_JI_bitCount ll_Kn_59 st_JI_bitCount rfl rfl (nle rfl) (s_JI_bitCount  hw (fun r5 h4 hw => ?_))
  show aW none m_Kn_chooseAsk (d + 1) 10 [(3, ai r2), (0, ar v0), (1, ai v1), (2, ai v2)] [ai r5] h4 0 0 QQ
  refine r_istore (ls2 := [(4, ai r5), (3, ai r2), (0, ar v0), (1, ai v1), (2, ai v2)]) d_Kn_chooseAsk_10 (nle rfl) rfl ?_
  refine r_aload_n (j := 2) d_Kn_chooseAsk_12 rfl ?_
  refine r_iload (j := 0) d_Kn_chooseAsk_13 rfl ?_
  refine r_iconst d_Kn_chooseAsk_15 kc_1 ?_
  refine r_iadd d_Kn_chooseAsk_16 ?_
  obtain ⟨q6, hw⟩ := hw
  refine r_putI d_Kn_chooseAsk_17 ok_5 (nle rfl) (nle rfl) rfl lf_Kn_64 rfl q6 ?_
  refine r_bipush d_Kn_chooseAsk_20 kb_m20 ?_
  refine r_istore (ls2 := [(5, ai (-20 : Int32)), (4, ai r5), (3, ai r2), (0, ar v0), (1, ai v1), (2, ai v2)]) d_Kn_chooseAsk_22 (nle rfl) rfl ?_
  obtain ⟨n15, hw⟩ := hw
  refine r_pick (ls2 := [(0, ar v0), (2, ai v2), (3, ai r2), (4, ai r5), (5, ai (-20 : Int32))]) [3, 5, 2, 1, 0] rfl ?_
  exact s_Kn_chooseAsk_L24 hd hQ  n15 _ _ hw
