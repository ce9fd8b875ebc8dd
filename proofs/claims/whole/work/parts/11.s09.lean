set_option maxRecDepth 100000 in
set_option maxHeartbeats 4000000 in
theorem s_St_sweep_L75 {d : Nat} (hd : 4 ≤ d + 1) {Q : Hp → Prop} {QQ : Option AV → Hp → Prop} (hQ : ∀ h9, Q h9 → QQ none h9) {v0 : Nat} {v1 : Int32} : ∀ (n : Nat) (v3 : Int32) (v4 : Int32) (bc : Nat) (bs : Nat) (h : Hp), w_St_sweep_L75 Q  v0 v1 n v3 v4 bc bs h → aW none m_St_sweep (d + 1) 75 [(0, ar v0), (1, ai v1), (3, ai v3), (4, ai v4)] [] h bc bs QQ := by
  intro n
  induction n with
  | zero => intro v3 v4 bc bs h hw; exact hw.elim
  | succ n ih =>
    intro v3 v4 bc bs h hw
    unfold w_St_sweep_L75 at hw
    refine r_iload (j := 3) d_St_sweep_75 rfl ?_
    refine r_iload_n (j := 1) d_St_sweep_77 rfl ?_
    refine r_icmp_ge d_St_sweep_78 (fun w9 => ?_) (fun w9 => ?_)
    · replace hw := hw.1 w9
      refine r_aload_n (j := 0) d_St_sweep_116 rfl ?_
      refine r_iload_n (j := 1) d_St_sweep_117 rfl ?_
      obtain ⟨q17, hw⟩ := hw
      refine r_callV (av := [ai v1]) (rest := []) (ci := 9) d_St_sweep_118 mk_St_readEnd ll_St_80 im_St_readEnd se_St_readEnd rfl (nle rfl) rfl rfl (nle rfl) q17 (s_St_readEnd (by omega) hw (fun h16 hv => ?_))
      replace hw := hv
      clear hv
      show aW none m_St_sweep (d + 1) 121 [(0, ar v0), (1, ai v1), (3, ai v3), (4, ai v4)] [] h16 bc bs QQ
      refine r_aload_n (j := 0) d_St_sweep_121 rfl ?_
      refine r_iload_n (j := 1) d_St_sweep_122 rfl ?_
      refine r_iload_n (j := 2) d_St_sweep_123 rfl ?_
      obtain ⟨q19, hw⟩ := hw
      refine r_callV (av := [ai v1, ai v3]) (rest := []) (ci := 9) d_St_sweep_124 mk_St_clear ll_St_77 im_St_clear se_St_clear rfl (nle rfl) rfl rfl (nle rfl) q19 (s_St_clear (by omega) hw (fun h18 hv => ?_))
      replace hw := hv
      clear hv
      show aW none m_St_sweep (d + 1) 127 [(0, ar v0), (1, ai v1), (3, ai v3), (4, ai v4)] [] h18 bc bs QQ
      exact r_return d_St_sweep_127.1 rfl (hQ _ hw)
    · replace hw := hw.2 w9
      refine r_aload_n (j := 0) d_St_sweep_81 rfl ?_
      refine r_iload (j := 3) d_St_sweep_82 rfl ?_
      refine r_iload_n (j := 2) d_St_sweep_84 rfl ?_
      obtain ⟨q22, hw⟩ := hw
      refine r_callV (av := [ai v4, ai v3]) (rest := []) (ci := 9) d_St_sweep_85 mk_St_spread ll_St_73 im_St_spread se_St_spread rfl (nle rfl) rfl rfl (nle rfl) q22 (s_St_spread (by omega) hw (fun r21 h20 hv => ?_))
      replace hw := hv
      clear hv
      show aW none m_St_sweep (d + 1) 88 [(0, ar v0), (1, ai v1), (3, ai v3), (4, ai v4)] [ai r21] h20 bc bs QQ
      refine r_istore (ls2 := [(5, ai r21), (0, ar v0), (1, ai v1), (3, ai v3), (4, ai v4)]) d_St_sweep_88 (nle rfl) rfl ?_
      refine r_aload_n (j := 1) d_St_sweep_90 rfl ?_
      refine r_iload (j := 4) d_St_sweep_91 rfl ?_
      refine r_iload_n (j := 3) d_St_sweep_93 rfl ?_
      obtain ⟨q24, hw⟩ := hw
      refine r_callV (av := [ai v4, ai v3]) (rest := []) (ci := 9) d_St_sweep_94 mk_St_clear ll_St_77 im_St_clear se_St_clear rfl (nle rfl) rfl rfl (nle rfl) q24 (s_St_clear (by omega) hw (fun h23 hv => ?_))
      replace hw := hv
      clear hv
      show aW none m_St_sweep (d + 1) 97 [(5, ai r21), (0, ar v0), (1, ai v1), (3, ai v3), (4, ai v4)] [] h23 bc bs QQ
      refine r_iload (j := 0) d_St_sweep_97 rfl ?_
      refine r_istore_n (ls2 := [(3, ai r21), (5, ai r21), (0, ar v0), (1, ai v1), (4, ai v4)]) d_St_sweep_99 (nle rfl) rfl ?_
      refine r_aload_n (j := 2) d_St_sweep_100 rfl ?_
      refine r_dup d_St_sweep_101 rfl ?_
      obtain ⟨q25, hw⟩ := hw
      refine r_getI d_St_sweep_102 ok_9 (nle rfl) (nle rfl) rfl lf_St_70 q25 ?_
      refine r_iload_n (j := 0) d_St_sweep_105 rfl ?_
      refine r_iadd d_St_sweep_106 ?_
      refine r_putI d_St_sweep_107 ok_9 (nle rfl) (nle rfl) rfl lf_St_70 rfl q25 ?_
      refine r_iinc (j := 4) (ls2 := [(4, ai (v4 + (1 : Int32))), (3, ai r21), (5, ai r21), (0, ar v0), (1, ai v1)]) d_St_sweep_110 rfl (congrArg (HAdd.hAdd v4) kc_1) (nle rfl) rfl ?_
      refine r_goto d_St_sweep_113 ?_
      refine r_pick (ls2 := [(0, ar v0), (1, ai v1), (3, ai r21), (4, ai (v4 + (1 : Int32)))]) [3, 4, 1, 0] rfl ?_
      exact ih _ _ _ _ _ hw
set_option maxRecDepth 100000 in
set_option maxHeartbeats 4000000 in
theorem s_St_sweep_B31 {d : Nat} (hd : 4 ≤ d + 1) {Q : Hp → Prop} {QQ : Option AV → Hp → Prop} (hQ : ∀ h9, Q h9 → QQ none h9) {v0 : Nat} {v1 : Int32} {v2 : Int32} {bc : Nat} {bs : Nat} {h : Hp} (hw : w_St_sweep_B31 Q  v0 v1 v2 bc bs h) : aW none m_St_sweep (d + 1) 31 [(0, ar v0), (1, ai v1), (2, ai v2)] [] h bc bs QQ := by
  unfold w_St_sweep_B31 at hw
  refine r_aload_n (j := 0) d_St_sweep_31 rfl ?_
  refine r_iload_n (j := 1) d_St_sweep_32 rfl ?_
  obtain ⟨q2, hw⟩ := hw
  refine r_putI d_St_sweep_33 ok_9 (nle rfl) (nle rfl) rfl lf_St_41 rfl q2 ?_
  refine r_aload_n (j := 0) d_St_sweep_36 rfl ?_
  refine r_iload_n (j := 2) d_St_sweep_37 rfl ?_
  refine r_putI d_St_sweep_38 ok_9 (nle rfl) (nle rfl) rfl lf_St_44 rfl (kt eKI q2) ?_
  refine r_aload_n (j := 0) d_St_sweep_41 rfl ?_
  refine r_aload_n (j := 0) d_St_sweep_42 rfl ?_
  refine r_getRb (eRI.trans eRI) d_St_sweep_43 ok_9 (nle rfl) (nle rfl) rfl lf_St_47 (kt (eKI.trans eKI) q2) ?_
  obtain ⟨q3, hw⟩ := hw
  refine r_getI d_St_sweep_46 ok_1 (nle rfl) (nle rfl) rfl lf_St_51 (kt (eKI.trans eKI) q3) ?_
  refine r_putI d_St_sweep_49 ok_9 (nle rfl) (nle rfl) rfl lf_St_56 rfl (kt (eKI.trans eKI) q2) ?_
  refine r_aload_n (j := 0) d_St_sweep_52 rfl ?_
  obtain ⟨q5, hw⟩ := hw
  obtain ⟨b6, t7, m8, m9, u8, u9, hw⟩ := hw
  subst u8 u9
  refine r_callA (av := []) (rest := []) (ci := 9) d_St_sweep_53 mk_St_makeRoom ll_St_59 im_St_makeRoom se_St_makeRoom rfl (nle rfl) rfl rfl (nle rfl) refB_n (refL_r (xt (eXI.trans (eXI.trans eXI)) q5) (refL_i (refL_i refL_n))) (kt (eKI.trans (eKI.trans eKI)) q2) (s_St_makeRoom  hw (fun h4 hv => ?_))
  replace hw := hv
  clear hv
  show aW none m_St_sweep (d + 1) 56 [(0, ar v0), (1, ai v1), (2, ai v2)] [] h4 b6 t7 QQ
  refine r_aload_n (j := 0) d_St_sweep_56 rfl ?_
  refine r_iload_n (j := 1) d_St_sweep_57 rfl ?_
  refine r_iload_n (j := 2) d_St_sweep_58 rfl ?_
  obtain ⟨q11, hw⟩ := hw
  refine r_callV (av := [ai v1, ai v2]) (rest := []) (ci := 9) d_St_sweep_59 mk_St_setBounds ll_St_62 im_St_setBounds se_St_setBounds rfl (nle rfl) rfl rfl (nle rfl) q11 (s_St_setBounds (by omega) hw (fun h10 hv => ?_))
  replace hw := hv
  clear hv
  show aW none m_St_sweep (d + 1) 62 [(0, ar v0), (1, ai v1), (2, ai v2)] [] h10 b6 t7 QQ
  refine r_aload_n (j := 0) d_St_sweep_62 rfl ?_
  obtain ⟨q14, hw⟩ := hw
  refine r_callV (av := []) (rest := []) (ci := 9) d_St_sweep_63 mk_St_start ll_St_66 im_St_start se_St_start rfl (nle rfl) rfl rfl (nle rfl) q14 (s_St_start (by omega) hw (fun r13 h12 hv => ?_))
  replace hw := hv
  clear hv
  show aW none m_St_sweep (d + 1) 66 [(0, ar v0), (1, ai v1), (2, ai v2)] [ai r13] h12 b6 t7 QQ
  refine r_istore_n (ls2 := [(3, ai r13), (0, ar v0), (1, ai v1), (2, ai v2)]) d_St_sweep_66 (nle rfl) rfl ?_
  refine r_aload_n (j := 1) d_St_sweep_67 rfl ?_
  refine r_iload_n (j := 0) d_St_sweep_68 rfl ?_
  obtain ⟨q15, hw⟩ := hw
  refine r_putI d_St_sweep_69 ok_9 (nle rfl) (nle rfl) rfl lf_St_70 rfl q15 ?_
  refine r_iconst d_St_sweep_72 kc_0 ?_
  refine r_istore (ls2 := [(4, ai (0 : Int32)), (3, ai r13), (0, ar v0), (1, ai v1), (2, ai v2)]) d_St_sweep_73 (nle rfl) rfl ?_
  obtain ⟨n26, hw⟩ := hw
  refine r_pick (ls2 := [(0, ar v0), (1, ai v1), (3, ai r13), (4, ai (0 : Int32))]) [2, 3, 1, 0] rfl ?_
  exact s_St_sweep_L75 hd hQ  n26 _ _ _ _ _ hw
set_option maxRecDepth 100000 in
set_option maxHeartbeats 4000000 in
theorem s_St_sweep {d : Nat} (hd : 4 ≤ d) {v0 : Nat} {v1 : Int32} {v2 : Int32} {bc bs : Nat} {h : Hp} {Q : Hp → Prop} {QQ : Option AV → Hp → Prop} (hw : w_St_sweep bc bs v0 v1 v2 h Q) (hQ : ∀ h9, Q h9 → QQ none h9) : aCall m_St_sweep d [ar v0, ai v1, ai v2] h bc bs QQ := by
  obtain ⟨d, rfl⟩ : ∃ d9, d = d9 + 1 := ⟨d - 1, by omega⟩
  refine aCall_in pl_St_sweep (nle rfl) ?_
  show aW none m_St_sweep (d + 1) 0 [(0, ar v0), (1, ai v1), (2, ai v2)] [] h bc bs QQ
  unfold w_St_sweep at hw
  refine r_iload_n (j := 1) d_St_sweep_0 rfl ?_
  refine r_aload_n (j := 0) d_St_sweep_1 rfl ?_
  obtain ⟨q1, hw⟩ := hw
  refine r_getI d_St_sweep_2 ok_9 (nle rfl) (nle rfl) rfl lf_St_41 q1 ?_
  refine r_icmp_ne d_St_sweep_5 (fun w9 => ?_) (fun w9 => ?_)
  · replace hw := hw.2 w9
    exact s_St_sweep_B31 hd hQ  hw
  · replace hw := hw.1 w9
    refine r_iload_n (j := 2) d_St_sweep_8 rfl ?_
    refine r_aload_n (j := 0) d_St_sweep_9 rfl ?_
    refine r_getI d_St_sweep_10 ok_9 (nle rfl) (nle rfl) rfl lf_St_44 q1 ?_
    refine r_icmp_ne d_St_sweep_13 (fun w9 => ?_) (fun w9 => ?_)
    · replace hw := hw.2 w9
      exact s_St_sweep_B31 hd hQ  hw
    · replace hw := hw.1 w9
      refine r_aload_n (j := 0) d_St_sweep_16 rfl ?_
      refine r_getR d_St_sweep_17 ok_9 (nle rfl) (nle rfl) rfl lf_St_47 q1 ?_
      obtain ⟨q27, hw⟩ := hw
      refine r_getI d_St_sweep_20 ok_1 (nle rfl) (nle rfl) rfl lf_St_51 q27 ?_
      refine r_aload_n (j := 0) d_St_sweep_23 rfl ?_
      refine r_getI d_St_sweep_24 ok_9 (nle rfl) (nle rfl) rfl lf_St_56 q1 ?_
      refine r_icmp_ne d_St_sweep_27 (fun w9 => ?_) (fun w9 => ?_)
      · replace hw := hw.2 w9
        exact s_St_sweep_B31 hd hQ  hw
      · replace hw := hw.1 w9
        exact r_return d_St_sweep_30.1 rfl (hQ _ hw)
set_option maxRecDepth 100000 in
set_option maxHeartbeats 4000000 in
theorem s_St_columnAt_B48 {d : Nat} (hd : 2 ≤ d + 1) {Q : Int32 → Hp → Prop} {QQ : Option AV → Hp → Prop} (hQ : ∀ r9 h9, Q r9 h9 → QQ (some (ai r9)) h9) {v0 : Nat} {v1 : Int32} {v3 : Int32} {s0 : Int32} {h : Hp} {k11 : Int32 → Int32 → Hp → Prop} (hk11 : ∀ v2 v3 h9, k11 v2 v3 h9 → aW none m_St_columnAt (d + 1) 11 [(0, ar v0), (1, ai v1), (2, ai v2), (3, ai v3)] [] h9 0 0 QQ) (hw : w_St_columnAt_B48 Q k11 v0 v1 v3 s0 h) : aW none m_St_columnAt (d + 1) 48 [(0, ar v0), (1, ai v1), (3, ai v3)] [ai s0] h 0 0 QQ := by
  unfold w_St_columnAt_B48 at hw
  refine r_istore_n (ls2 := [(2, ai s0), (0, ar v0), (1, ai v1), (3, ai v3)]) d_St_columnAt_48 (nle rfl) rfl ?_
  refine r_aload_n (j := 1) d_St_columnAt_49 rfl ?_
  obtain ⟨q10, hw⟩ := hw
  refine r_getR d_St_columnAt_50 ok_9 (nle rfl) (nle rfl) rfl lf_St_47 q10 ?_
  refine r_iload_n (j := 0) d_St_columnAt_53 rfl ?_
  obtain ⟨q13, hw⟩ := hw
  refine r_callV (av := [ai s0]) (rest := []) (ci := 1) d_St_columnAt_54 mk_Co_hasColumn ll_St_156 im_Co_hasColumn se_Co_hasColumn rfl (nle rfl) rfl rfl (nle rfl) q13 (s_Co_hasColumn  hw (fun r12 h11 hw => ?_))
  show aW none m_St_columnAt (d + 1) 57 [(2, ai s0), (0, ar v0), (1, ai v1), (3, ai v3)] [ai (b2i r12)] h11 0 0 QQ
  refine r_if_ne d_St_columnAt_57 (fun w9 => ?_) (fun w9 => ?_)
  · replace hw := hw.2 (fun g9 => w9 (b2i_0.mpr g9))
    refine r_aload_n (j := 1) d_St_columnAt_62 rfl ?_
    obtain ⟨q14, hw⟩ := hw
    refine r_getR d_St_columnAt_63 ok_9 (nle rfl) (nle rfl) rfl lf_St_47 q14 ?_
    refine r_aload_n (j := 1) d_St_columnAt_66 rfl ?_
    refine r_getR d_St_columnAt_67 ok_9 (nle rfl) (nle rfl) rfl lf_St_18 q14 ?_
    refine r_iload_n (j := 0) d_St_columnAt_70 rfl ?_
    refine r_iconst d_St_columnAt_71 kc_m1 ?_
    obtain ⟨q16, hw⟩ := hw
    refine r_callV (av := [ar (gR h11 v0 3), ai s0, ai (-1 : Int32)]) (rest := []) (ci := 1) d_St_columnAt_72 mk_Co_addTo ll_St_159 im_Co_addTo se_Co_addTo rfl (nle rfl) rfl rfl (nle rfl) q16 (s_Co_addTo (by omega) hw (fun h15 hw => ?_))
    show aW none m_St_columnAt (d + 1) 75 [(2, ai s0), (0, ar v0), (1, ai v1), (3, ai v3)] [] h15 0 0 QQ
    refine r_iinc (j := 3) (ls2 := [(3, ai (v3 + (-1 : Int32))), (2, ai s0), (0, ar v0), (1, ai v1)]) d_St_columnAt_75 rfl (congrArg (HAdd.hAdd v3) kc_m1) (nle rfl) rfl ?_
    refine r_goto d_St_columnAt_78 ?_
    refine r_pick (ls2 := [(0, ar v0), (1, ai v1), (2, ai s0), (3, ai (v3 + (-1 : Int32)))]) [2, 3, 1, 0] rfl ?_
    exact hk11 _ _ _ hw
  · replace hw := hw.1 (b2i_0.mp w9)
    refine r_iconst d_St_columnAt_60 kc_m1 ?_
    exact r_ireturn d_St_columnAt_61.1 rfl (hQ _ _ hw)
set_option maxRecDepth 100000 in
set_option maxHeartbeats 4000000 in
theorem s_St_columnAt_L11 {d : Nat} (hd : 2 ≤ d + 1) {Q : Int32 → Hp → Prop} {QQ : Option AV → Hp → Prop} (hQ : ∀ r9 h9, Q r9 h9 → QQ (some (ai r9)) h9) {v0 : Nat} {v1 : Int32} : ∀ (n : Nat) (v2 : Int32) (v3 : Int32) (h : Hp), w_St_columnAt_L11 Q  v0 v1 n v2 v3 h → aW none m_St_columnAt (d + 1) 11 [(0, ar v0), (1, ai v1), (2, ai v2), (3, ai v3)] [] h 0 0 QQ := by
  intro n
  induction n with
  | zero => intro v2 v3 h hw; exact hw.elim
  | succ n ih =>
    intro v2 v3 h hw
    unfold w_St_columnAt_L11 at hw
    refine r_iload_n (j := 3) d_St_columnAt_11 rfl ?_
    refine r_if_le d_St_columnAt_12 (fun w9 => ?_) (fun w9 => ?_)
    · replace hw := hw.1 w9
      refine r_iload_n (j := 2) d_St_columnAt_81 rfl ?_
      exact r_ireturn d_St_columnAt_82.1 rfl (hQ _ _ hw)
    · replace hw := hw.2 w9
      refine r_iload_n (j := 3) d_St_columnAt_15 rfl ?_
      refine r_aload_n (j := 0) d_St_columnAt_16 rfl ?_
      obtain ⟨q4, hw⟩ := hw
      refine r_getI d_St_columnAt_17 ok_9 (nle rfl) (nle rfl) rfl lf_St_41 q4 ?_
      refine r_iload_n (j := 1) d_St_columnAt_20 rfl ?_
      refine r_isub d_St_columnAt_21 ?_
      refine r_icmp_lt d_St_columnAt_22 (fun w9 => ?_) (fun w9 => ?_)
      · replace hw := hw.1 w9
        refine r_iload_n (j := 2) d_St_columnAt_81 rfl ?_
        exact r_ireturn d_St_columnAt_82.1 rfl (hQ _ _ hw)
      · replace hw := hw.2 w9
        refine r_aload_n (j := 0) d_St_columnAt_25 rfl ?_
        refine r_iload_n (j := 3) d_St_columnAt_26 rfl ?_
        refine r_callV (av := [ai v3]) (rest := []) (ci := 9) d_St_columnAt_27 mk_St_cellOf ll_St_112 im_St_cellOf se_St_cellOf rfl (nle rfl) rfl rfl (nle rfl) q4 (s_St_cellOf  hw (fun r6 h5 hw => ?_))
        show aW none m_St_columnAt (d + 1) 30 [(0, ar v0), (1, ai v1), (2, ai v2), (3, ai v3)] [ai r6] h5 0 0 QQ
        refine r_istore (ls2 := [(4, ai r6), (0, ar v0), (1, ai v1), (2, ai v2), (3, ai v3)]) d_St_columnAt_30 (nle rfl) rfl ?_
        refine r_iload (j := 0) d_St_columnAt_32 rfl ?_
        refine r_if_ge d_St_columnAt_34 (fun w9 => ?_) (fun w9 => ?_)
        · replace hw := hw.1 w9
          refine r_aload_n (j := 1) d_St_columnAt_41 rfl ?_
          refine r_iload_n (j := 4) d_St_columnAt_42 rfl ?_
          refine r_iload (j := 0) d_St_columnAt_43 rfl ?_
          obtain ⟨q9, hw⟩ := hw
          refine r_callV (av := [ai v3, ai r6]) (rest := []) (ci := 9) d_St_columnAt_45 mk_St_choiceAt ll_St_135 im_St_choiceAt se_St_choiceAt rfl (nle rfl) rfl rfl (nle rfl) q9 (s_St_choiceAt  hw (fun r8 h7 hw => ?_))
          show aW none m_St_columnAt (d + 1) 48 [(4, ai r6), (0, ar v0), (1, ai v1), (2, ai v2), (3, ai v3)] [ai r8] h7 0 0 QQ
          refine r_pick (ls2 := [(0, ar v0), (1, ai v1), (3, ai v3)]) [1, 2, 4] rfl ?_
          exact s_St_columnAt_B48 hd hQ ih hw
        · replace hw := hw.2 w9
          refine r_iconst d_St_columnAt_37 kc_m1 ?_
          refine r_goto d_St_columnAt_38 ?_
          refine r_pick (ls2 := [(0, ar v0), (1, ai v1), (3, ai v3)]) [1, 2, 4] rfl ?_
          exact s_St_columnAt_B48 hd hQ ih hw
set_option maxRecDepth 100000 in
set_option maxHeartbeats 4000000 in
theorem s_St_columnAt {d : Nat} (hd : 2 ≤ d) {v0 : Nat} {v1 : Int32} {h : Hp} {Q : Int32 → Hp → Prop} {QQ : Option AV → Hp → Prop} (hw : w_St_columnAt v0 v1 h Q) (hQ : ∀ r9 h9, Q r9 h9 → QQ (some (ai r9)) h9) : aCall m_St_columnAt d [ar v0, ai v1] h 0 0 QQ := by
  obtain ⟨d, rfl⟩ : ∃ d9, d = d9 + 1 := ⟨d - 1, by omega⟩
  refine aCall_in pl_St_columnAt (nle rfl) ?_
  show aW none m_St_columnAt (d + 1) 0 [(0, ar v0), (1, ai v1)] [] h 0 0 QQ
  unfold w_St_columnAt at hw
  refine r_aload_n (j := 0) d_St_columnAt_0 rfl ?_
  obtain ⟨q2, hw⟩ := hw
  refine r_callV (av := []) (rest := []) (ci := 9) d_St_columnAt_1 mk_St_atNeed ll_St_153 im_St_atNeed se_St_atNeed rfl (nle rfl) rfl rfl (nle rfl) q2 (s_St_atNeed (by omega) hw (fun h1 hw => ?_))
  show aW none m_St_columnAt (d + 1) 4 [(0, ar v0), (1, ai v1)] [] h1 0 0 QQ
  refine r_iconst d_St_columnAt_4 kc_m1 ?_
  refine r_istore_n (ls2 := [(2, ai (-1 : Int32)), (0, ar v0), (1, ai v1)]) d_St_columnAt_5 (nle rfl) rfl ?_
  refine r_aload_n (j := 1) d_St_columnAt_6 rfl ?_
  obtain ⟨q3, hw⟩ := hw
  refine r_getI d_St_columnAt_7 ok_9 (nle rfl) (nle rfl) rfl lf_St_41 q3 ?_
  refine r_istore_n (ls2 := [(3, ai (gI h1 v0 11)), (2, ai (-1 : Int32)), (0, ar v0), (1, ai v1)]) d_St_columnAt_10 (nle rfl) rfl ?_
  obtain ⟨n17, hw⟩ := hw
  refine r_pick (ls2 := [(0, ar v0), (1, ai v1), (2, ai (-1 : Int32)), (3, ai (gI h1 v0 11))]) [2, 3, 1, 0] rfl ?_
  exact s_St_columnAt_L11 hd hQ  n17 _ _ _ hw
set_option maxRecDepth 100000 in
set_option maxHeartbeats 4000000 in
theorem s_Tp_init {d : Nat} (hd : 1 ≤ d) {v0 : Nat} {bc bs : Nat} {h : Hp} {Q : Hp → Prop} {QQ : Option AV → Hp → Prop} (hw : w_Tp_init bc bs v0 h Q) (hQ : ∀ h9, Q h9 → QQ none h9) : aCall m_Tp_init d [ar v0] h bc bs QQ := by
  obtain ⟨d, rfl⟩ : ∃ d9, d = d9 + 1 := ⟨d - 1, by omega⟩
  refine aCall_in pl_Tp_init (nle rfl) ?_
  show aW none m_Tp_init (d + 1) 0 [(0, ar v0)] [] h bc bs QQ
  unfold w_Tp_init at hw
  refine r_aload_n (j := 0) d_Tp_init_0 rfl ?_
  obtain ⟨q1, hw⟩ := hw
  refine r_objInit d_Tp_init_1 ll_Tp_3 oi_1 oi_2 (nle rfl) q1 ?_
  refine r_aload_n (j := 0) d_Tp_init_4 rfl ?_
  refine r_sipush d_Tp_init_5 ks_700 ?_
  obtain ⟨q2, hw⟩ := hw
  obtain ⟨b3, t4, u8, u9, u6, u7, hw⟩ := hw
  subst u8 u9
  refine r_newI d_Tp_init_8 ac_I u6 rfl u7 (refB_r q2 refB_n) (refL_r q2 refL_n) ?_
  generalize e8 : nw h 20 (ix (700 : Int32)) = h5
  generalize e7 : gX h = a6
  replace hw := hw a6 h5 e7.symm e8.symm
  obtain ⟨q7, hw⟩ := hw
  obtain ⟨q8, hw⟩ := hw
  refine r_putFR d_Tp_init_10 ok_10 (nle rfl) (nle rfl) rfl lf_Tp_9 rfl rfl rfl q7 q8 ?_
  exact r_return d_Tp_init_13.1 rfl (hQ _ hw)
set_option maxRecDepth 100000 in
set_option maxHeartbeats 4000000 in
theorem s_Tp_put_L3 {d : Nat} {Q : Hp → Prop} {QQ : Option AV → Hp → Prop} (hQ : ∀ h9, Q h9 → QQ none h9) {v0 : Nat} {v1 : Int32} : ∀ (n : Nat) (v2 : Int32) (h : Hp), w_Tp_put_L3 Q  v0 v1 n v2 h → aW none m_Tp_put d 3 [(0, ar v0), (1, ai v1), (2, ai v2)] [] h 0 0 QQ := by
  intro n
  induction n with
  | zero => intro v2 h hw; exact hw.elim
  | succ n ih =>
    intro v2 h hw
    unfold w_Tp_put_L3 at hw
    refine r_iload_n (j := 2) d_Tp_put_3 rfl ?_
    refine r_if_lt d_Tp_put_4 (fun w9 => ?_) (fun w9 => ?_)
    · replace hw := hw.1 w9
      exact r_return d_Tp_put_49.1 rfl (hQ _ hw)
    · replace hw := hw.2 w9
      refine r_aload_n (j := 0) d_Tp_put_7 rfl ?_
      obtain ⟨q1, hw⟩ := hw
      refine r_getI d_Tp_put_8 ok_10 (nle rfl) (nle rfl) rfl lf_Tp_15 q1 ?_
      refine r_sipush d_Tp_put_11 ks_700 ?_
      refine r_icmp_ge d_Tp_put_14 (fun w9 => ?_) (fun w9 => ?_)
      · replace hw := hw.1 w9
        exact r_return d_Tp_put_49.1 rfl (hQ _ hw)
      · replace hw := hw.2 w9
        refine r_aload_n (j := 0) d_Tp_put_17 rfl ?_
        refine r_getR d_Tp_put_18 ok_10 (nle rfl) (nle rfl) rfl lf_Tp_9 q1 ?_
        refine r_aload_n (j := 0) d_Tp_put_21 rfl ?_
        refine r_getI d_Tp_put_22 ok_10 (nle rfl) (nle rfl) rfl lf_Tp_15 q1 ?_
        refine r_iload_n (j := 1) d_Tp_put_25 rfl ?_
        refine r_iload_n (j := 2) d_Tp_put_26 rfl ?_
        refine r_iushr d_Tp_put_27 ?_
        refine r_sipush d_Tp_put_28 ks_255 ?_
        refine r_iand d_Tp_put_31 ?_
        obtain ⟨q2, hw⟩ := hw
        obtain ⟨q3, hw⟩ := hw
        refine r_iast d_Tp_put_32 q2 q3 ?_
        refine r_aload_n (j := 0) d_Tp_put_33 rfl ?_
        refine r_dup d_Tp_put_34 rfl ?_
        refine r_getI d_Tp_put_35 ok_10 (nle rfl) (nle rfl) rfl lf_Tp_15 (kt eKI q1) ?_
        refine r_iconst d_Tp_put_38 kc_1 ?_
        refine r_iadd d_Tp_put_39 ?_
        refine r_putI d_Tp_put_40 ok_10 (nle rfl) (nle rfl) rfl lf_Tp_15 rfl (kt eKI q1) ?_
        refine r_iinc (j := 2) (ls2 := [(2, ai (v2 + (-8 : Int32))), (0, ar v0), (1, ai v1)]) d_Tp_put_43 rfl (congrArg (HAdd.hAdd v2) kc_m8) (nle rfl) rfl ?_
        refine r_goto d_Tp_put_46 ?_
        refine r_pick (ls2 := [(0, ar v0), (1, ai v1), (2, ai (v2 + (-8 : Int32)))]) [1, 2, 0] rfl ?_
        exact ih _ _ hw
set_option maxRecDepth 100000 in
set_option maxHeartbeats 4000000 in
theorem s_Tp_put {d : Nat} {v0 : Nat} {v1 : Int32} {h : Hp} {Q : Hp → Prop} {QQ : Option AV → Hp → Prop} (hw : w_Tp_put v0 v1 h Q) (hQ : ∀ h9, Q h9 → QQ none h9) : aCall m_Tp_put d [ar v0, ai v1] h 0 0 QQ := by
  refine aCall_in pl_Tp_put (nle rfl) ?_
  show aW none m_Tp_put d 0 [(0, ar v0), (1, ai v1)] [] h 0 0 QQ
  unfold w_Tp_put at hw
  refine r_bipush d_Tp_put_0 kb_24 ?_
  refine r_istore_n (ls2 := [(2, ai (24 : Int32)), (0, ar v0), (1, ai v1)]) d_Tp_put_2 (nle rfl) rfl ?_
  obtain ⟨n4, hw⟩ := hw
  refine r_pick (ls2 := [(0, ar v0), (1, ai v1), (2, ai (24 : Int32))]) [1, 2, 0] rfl ?_
  exact s_Tp_put_L3 hQ  n4 _ _ hw
set_option maxRecDepth 100000 in
set_option maxHeartbeats 4000000 in
theorem s_X_init_L196 {d : Nat} (hd : 3 ≤ d + 1) {Q : Hp → Prop} {QQ : Option AV → Hp → Prop} (hQ : ∀ h9, Q h9 → QQ none h9) {v0 : Nat} : ∀ (n : Nat) (v1 : Int32) (bc : Nat) (bs : Nat) (h : Hp), w_X_init_L196 Q  v0 n v1 bc bs h → aW none m_X_init (d + 1) 196 [(0, ar v0), (1, ai v1)] [] h bc bs QQ := by
  intro n
  induction n with
  | zero => intro v1 bc bs h hw; exact hw.elim
  | succ n ih =>
    intro v1 bc bs h hw
    unfold w_X_init_L196 at hw
    refine r_iload_n (j := 1) d_X_init_196 rfl ?_
    refine r_iconst d_X_init_197 kc_2 ?_
    refine r_icmp_ge d_X_init_198 (fun w9 => ?_) (fun w9 => ?_)
    · replace hw := hw.1 w9
      exact r_return d_X_init_220.1 rfl (hQ _ hw)
    · replace hw := hw.2 w9
      refine r_aload_n (j := 0) d_X_init_201 rfl ?_
      obtain ⟨q210, hw⟩ := hw
      refine r_getR d_X_init_202 ok_11 (nle rfl) (nle rfl) rfl lf_X_35 q210 ?_
      refine r_iload_n (j := 1) d_X_init_205 rfl ?_
      obtain ⟨q211, hw⟩ := hw
      obtain ⟨q212, hw⟩ := hw
      obtain ⟨b213, t214, u8, u9, hw⟩ := hw
      subst u8 u9
      refine r_new d_X_init_206 ok_1 (nle rfl) ty_1 lk_X_16 in_1 ini_1 (refB_i (refB_r q211 refB_n)) (refL_r q212 (refL_i refL_n)) ?_
      generalize e8 : nw h 1 0 = h215
      generalize e7 : gX h = a216
      replace hw := hw a216 h215 e7.symm e8.symm
      refine r_dup d_X_init_209 rfl ?_
      obtain ⟨q218, hw⟩ := hw
      obtain ⟨q219, hw⟩ := hw
      obtain ⟨q220, hw⟩ := hw
      obtain ⟨q225, hw⟩ := hw
      obtain ⟨b221, t222, m223, m224, u8, u9, hw⟩ := hw
      subst u8 u9
      refine r_callI (av := []) (rest := [ar a216, ai v1, ar (gR h v0 4)]) d_X_init_210 mk_Co_init ll_X_18 im_Co_init rfl rfl rfl rfl (nle rfl) (refB_r q219 (refB_i (refB_r q218 refB_n))) (refL_r q220 (refL_i refL_n)) q225 (s_Co_init (by omega) hw (fun h217 hv => ?_))
      replace hw := hv
      clear hv
      show aW none m_X_init (d + 1) 213 [(0, ar v0), (1, ai v1)] [ar a216, ai v1, ar (gR h v0 4)] h217 b221 t222 QQ
      obtain ⟨q226, hw⟩ := hw
      obtain ⟨q227, hw⟩ := hw
      obtain ⟨q228, hw⟩ := hw
      refine r_aast d_X_init_213 q226 q227 q228 ?_
      refine r_iinc (j := 1) (ls2 := [(1, ai (v1 + (1 : Int32))), (0, ar v0)]) d_X_init_214 rfl (congrArg (HAdd.hAdd v1) kc_1) (nle rfl) rfl ?_
      refine r_goto d_X_init_217 ?_
      refine r_pick (ls2 := [(0, ar v0), (1, ai (v1 + (1 : Int32)))]) [1, 0] rfl ?_
      exact ih _ _ _ _ hw
set_option maxRecDepth 100000 in
set_option maxHeartbeats 4000000 in
theorem s_X_init {d : Nat} (hd : 3 ≤ d) {v0 : Nat} {bc bs : Nat} {h : Hp} {Q : Hp → Prop} {QQ : Option AV → Hp → Prop} (hw : w_X_init bc bs v0 h Q) (hQ : ∀ h9, Q h9 → QQ none h9) : aCall m_X_init d [ar v0] h bc bs QQ := by
  obtain ⟨d, rfl⟩ : ∃ d9, d = d9 + 1 := ⟨d - 1, by omega⟩
  refine aCall_in pl_X_init (nle rfl) ?_
  show aW none m_X_init (d + 1) 0 [(0, ar v0)] [] h bc bs QQ
  unfold w_X_init at hw
  refine r_aload_n (j := 0) d_X_init_0 rfl ?_
  obtain ⟨q1, hw⟩ := hw
  refine r_objInit d_X_init_1 ll_X_1 oi_1 oi_2 (nle rfl) q1 ?_
  refine r_aload_n (j := 0) d_X_init_4 rfl ?_
  obtain ⟨q2, hw⟩ := hw
  obtain ⟨b3, t4, u8, u9, hw⟩ := hw
  subst u8 u9
  refine r_new d_X_init_5 ok_10 (nle rfl) ty_10 lk_X_7 in_10 ini_10 (refB_r q2 refB_n) (refL_r q2 refL_n) ?_
  generalize e8 : nw h 10 0 = h5
  generalize e7 : gX h = a6
  replace hw := hw a6 h5 e7.symm e8.symm
  refine r_dup d_X_init_8 rfl ?_
  obtain ⟨q8, hw⟩ := hw
  obtain ⟨q9, hw⟩ := hw
  obtain ⟨q14, hw⟩ := hw
  obtain ⟨b10, t11, m12, m13, u8, u9, hw⟩ := hw
  subst u8 u9
  refine r_callN (av := []) (rest := [ar a6, ar v0]) d_X_init_9 mk_Tp_init (ni := 0) rfl (nle rfl) rfl im_Tp_init rfl rfl rfl rfl (nle rfl) (refB_r q9 (refB_r q8 refB_n)) (refL_r q8 refL_n) q14 (s_Tp_init (by omega) hw (fun h7 hv => ?_))
  replace hw := hv
  clear hv
  show aW none m_X_init (d + 1) 12 [(0, ar v0)] [ar a6, ar v0] h7 b10 t11 QQ
  obtain ⟨q15, hw⟩ := hw
  obtain ⟨q16, hw⟩ := hw
  refine r_putFR d_X_init_12 ok_11 (nle rfl) (nle rfl) rfl lf_X_10 rfl rfl rfl q15 q16 ?_
  refine r_aload_n (j := 0) d_X_init_15 rfl ?_
  obtain ⟨q17, hw⟩ := hw
  obtain ⟨b18, t19, u8, u9, hw⟩ := hw
  subst u8 u9
  refine r_new d_X_init_16 ok_1 (nle rfl) ty_1 lk_X_16 in_1 ini_1 (refB_r (xt eXR q17) refB_n) (refL_r (xt eXR q17) refL_n) ?_
  generalize e8 : nw (sR h7 v0 0 a6) 1 0 = h20
  generalize e7 : gX (sR h7 v0 0 a6) = a21
  replace hw := hw a21 h20 e7.symm e8.symm
  refine r_dup d_X_init_19 rfl ?_
  obtain ⟨q23, hw⟩ := hw
  obtain ⟨q24, hw⟩ := hw
  obtain ⟨q29, hw⟩ := hw
  obtain ⟨b25, t26, m27, m28, u8, u9, hw⟩ := hw
  subst u8 u9
  refine r_callI (av := []) (rest := [ar a21, ar v0]) d_X_init_20 mk_Co_init ll_X_18 im_Co_init rfl rfl rfl rfl (nle rfl) (refB_r q24 (refB_r q23 refB_n)) (refL_r q23 refL_n) q29 (s_Co_init (by omega) hw (fun h22 hv => ?_))
  replace hw := hv
  clear hv
  show aW none m_X_init (d + 1) 23 [(0, ar v0)] [ar a21, ar v0] h22 b25 t26 QQ
  obtain ⟨q30, hw⟩ := hw
  obtain ⟨q31, hw⟩ := hw
  refine r_putFR d_X_init_23 ok_11 (nle rfl) (nle rfl) rfl lf_X_19 rfl rfl rfl q30 q31 ?_
  refine r_aload_n (j := 0) d_X_init_26 rfl ?_
  obtain ⟨q32, hw⟩ := hw
  obtain ⟨b33, t34, u8, u9, hw⟩ := hw
  subst u8 u9
  refine r_new d_X_init_27 ok_1 (nle rfl) ty_1 lk_X_16 in_1 ini_1 (refB_r (xt eXR q32) refB_n) (refL_r (xt eXR q32) refL_n) ?_
  generalize e8 : nw (sR h22 v0 1 a21) 1 0 = h35
  generalize e7 : gX (sR h22 v0 1 a21) = a36
  replace hw := hw a36 h35 e7.symm e8.symm
  refine r_dup d_X_init_30 rfl ?_
  obtain ⟨q38, hw⟩ := hw
  obtain ⟨q39, hw⟩ := hw
  obtain ⟨q44, hw⟩ := hw
  obtain ⟨b40, t41, m42, m43, u8, u9, hw⟩ := hw
  subst u8 u9
  refine r_callI (av := []) (rest := [ar a36, ar v0]) d_X_init_31 mk_Co_init ll_X_18 im_Co_init rfl rfl rfl rfl (nle rfl) (refB_r q39 (refB_r q38 refB_n)) (refL_r q38 refL_n) q44 (s_Co_init (by omega) hw (fun h37 hv => ?_))
  replace hw := hv
  clear hv
  show aW none m_X_init (d + 1) 34 [(0, ar v0)] [ar a36, ar v0] h37 b40 t41 QQ
  obtain ⟨q45, hw⟩ := hw
  obtain ⟨q46, hw⟩ := hw
  refine r_putFR d_X_init_34 ok_11 (nle rfl) (nle rfl) rfl lf_X_23 rfl rfl rfl q45 q46 ?_
  refine r_aload_n (j := 0) d_X_init_37 rfl ?_
  obtain ⟨q47, hw⟩ := hw
  obtain ⟨b48, t49, u8, u9, hw⟩ := hw
  subst u8 u9
  refine r_new d_X_init_38 ok_8 (nle rfl) ty_8 lk_X_26 in_8 ini_8 (refB_r (xt eXR q47) refB_n) (refL_r (xt eXR q47) refL_n) ?_
  generalize e8 : nw (sR h37 v0 2 a36) 8 0 = h50
  generalize e7 : gX (sR h37 v0 2 a36) = a51
  replace hw := hw a51 h50 e7.symm e8.symm
  refine r_dup d_X_init_41 rfl ?_
  refine r_aload_n (j := 0) d_X_init_42 rfl ?_
  obtain ⟨q52, hw⟩ := hw
  refine r_getR d_X_init_43 ok_11 (nle rfl) (nle rfl) rfl lf_X_10 q52 ?_
  obtain ⟨q54, hw⟩ := hw
  obtain ⟨q55, hw⟩ := hw
  obtain ⟨q60, hw⟩ := hw
  obtain ⟨b56, t57, m58, m59, u8, u9, hw⟩ := hw
  subst u8 u9
  refine r_callI (av := [ar (gR h50 v0 0)]) (rest := [ar a51, ar v0]) d_X_init_46 mk_Rd_init ll_X_28 im_Rd_init rfl rfl rfl rfl (nle rfl) (refB_r q55 (refB_r q54 refB_n)) (refL_r q54 refL_n) q60 (s_Rd_init (by omega) hw (fun h53 hv => ?_))
  replace hw := hv
  clear hv
  show aW none m_X_init (d + 1) 49 [(0, ar v0)] [ar a51, ar v0] h53 b56 t57 QQ
  obtain ⟨q61, hw⟩ := hw
  obtain ⟨q62, hw⟩ := hw
  refine r_putFR d_X_init_49 ok_11 (nle rfl) (nle rfl) rfl lf_X_31 rfl rfl rfl q61 q62 ?_
  refine r_aload_n (j := 0) d_X_init_52 rfl ?_
  refine r_iconst d_X_init_53 kc_2 ?_
  obtain ⟨q63, hw⟩ := hw
  obtain ⟨b64, t65, u8, u9, u6, u7, hw⟩ := hw
  subst u8 u9
  refine r_newO d_X_init_54 lk_X_16 u6 rfl u7 (refB_r (xt eXR q63) refB_n) (refL_r (xt eXR q63) refL_n) ?_
  generalize e8 : nw (sR h53 v0 3 a51) 23 (ix (2 : Int32)) = h66
  generalize e7 : gX (sR h53 v0 3 a51) = a67
  replace hw := hw a67 h66 e7.symm e8.symm
  obtain ⟨q68, hw⟩ := hw
  obtain ⟨q69, hw⟩ := hw
  refine r_putFR d_X_init_57 ok_11 (nle rfl) (nle rfl) rfl lf_X_35 rfl rfl rfl q68 q69 ?_
  refine r_aload_n (j := 0) d_X_init_60 rfl ?_
  refine r_iconst d_X_init_61 kc_2 ?_
  obtain ⟨q70, hw⟩ := hw
  obtain ⟨b71, t72, u8, u9, u6, u7, hw⟩ := hw
  subst u8 u9
  refine r_newZ d_X_init_62 ac_Z u6 rfl u7 (refB_r (xt eXR q70) refB_n) (refL_r (xt eXR q70) refL_n) ?_
  generalize e8 : nw (sR h66 v0 4 a67) 22 (ix (2 : Int32)) = h73
  generalize e7 : gX (sR h66 v0 4 a67) = a74
  replace hw := hw a74 h73 e7.symm e8.symm
  obtain ⟨q75, hw⟩ := hw
  obtain ⟨q76, hw⟩ := hw
  refine r_putFR d_X_init_64 ok_11 (nle rfl) (nle rfl) rfl lf_X_39 rfl rfl rfl q75 q76 ?_
  refine r_aload_n (j := 0) d_X_init_67 rfl ?_
  obtain ⟨q77, hw⟩ := hw
  obtain ⟨b78, t79, u8, u9, hw⟩ := hw
  subst u8 u9
  refine r_new d_X_init_68 ok_0 (nle rfl) ty_0 lk_X_43 in_0 ini_0 (refB_r (xt eXR q77) refB_n) (refL_r (xt eXR q77) refL_n) ?_
  generalize e8 : nw (sR h73 v0 5 a74) 0 0 = h80
  generalize e7 : gX (sR h73 v0 5 a74) = a81
  replace hw := hw a81 h80 e7.symm e8.symm
  refine r_dup d_X_init_71 rfl ?_
  obtain ⟨q83, hw⟩ := hw
  obtain ⟨q84, hw⟩ := hw
  obtain ⟨q89, hw⟩ := hw
  obtain ⟨b85, t86, m87, m88, u8, u9, hw⟩ := hw
  subst u8 u9
  refine r_callN (av := []) (rest := [ar a81, ar v0]) d_X_init_72 mk_Ac_init (ni := 1) rfl (nle rfl) rfl im_Ac_init rfl rfl rfl rfl (nle rfl) (refB_r q84 (refB_r q83 refB_n)) (refL_r q83 refL_n) q89 (s_Ac_init (by omega) hw (fun h82 hv => ?_))
  replace hw := hv
  clear hv
  show aW none m_X_init (d + 1) 75 [(0, ar v0)] [ar a81, ar v0] h82 b85 t86 QQ
  obtain ⟨q90, hw⟩ := hw
  obtain ⟨q91, hw⟩ := hw
  refine r_putFR d_X_init_75 ok_11 (nle rfl) (nle rfl) rfl lf_X_46 rfl rfl rfl q90 q91 ?_
  refine r_aload_n (j := 0) d_X_init_78 rfl ?_
  obtain ⟨q92, hw⟩ := hw
  obtain ⟨b93, t94, u8, u9, hw⟩ := hw
  subst u8 u9
  refine r_new d_X_init_79 ok_7 (nle rfl) ty_7 lk_X_50 in_7 ini_7 (refB_r (xt eXR q92) refB_n) (refL_r (xt eXR q92) refL_n) ?_
  generalize e8 : nw (sR h82 v0 6 a81) 7 0 = h95
  generalize e7 : gX (sR h82 v0 6 a81) = a96
  replace hw := hw a96 h95 e7.symm e8.symm
  refine r_dup d_X_init_82 rfl ?_
  obtain ⟨q98, hw⟩ := hw
  obtain ⟨q99, hw⟩ := hw
  obtain ⟨q104, hw⟩ := hw
  obtain ⟨b100, t101, m102, m103, u8, u9, hw⟩ := hw
  subst u8 u9
  refine r_callN (av := []) (rest := [ar a96, ar v0]) d_X_init_83 mk_Ps_init (ni := 2) rfl (nle rfl) rfl im_Ps_init rfl rfl rfl rfl (nle rfl) (refB_r q99 (refB_r q98 refB_n)) (refL_r q98 refL_n) q104 (s_Ps_init (by omega) hw (fun h97 hv => ?_))
  replace hw := hv
  clear hv
  show aW none m_X_init (d + 1) 86 [(0, ar v0)] [ar a96, ar v0] h97 b100 t101 QQ
  obtain ⟨q105, hw⟩ := hw
  obtain ⟨q106, hw⟩ := hw
  refine r_putFR d_X_init_86 ok_11 (nle rfl) (nle rfl) rfl lf_X_53 rfl rfl rfl q105 q106 ?_
  refine r_aload_n (j := 0) d_X_init_89 rfl ?_
  obtain ⟨q107, hw⟩ := hw
  obtain ⟨b108, t109, u8, u9, hw⟩ := hw
  subst u8 u9
  refine r_new d_X_init_90 ok_9 (nle rfl) ty_9 lk_X_57 in_9 ini_9 (refB_r (xt eXR q107) refB_n) (refL_r (xt eXR q107) refL_n) ?_
  generalize e8 : nw (sR h97 v0 7 a96) 9 0 = h110
  generalize e7 : gX (sR h97 v0 7 a96) = a111
  replace hw := hw a111 h110 e7.symm e8.symm
  refine r_dup d_X_init_93 rfl ?_
  refine r_aload_n (j := 0) d_X_init_94 rfl ?_
  obtain ⟨q112, hw⟩ := hw
  refine r_getR d_X_init_95 ok_11 (nle rfl) (nle rfl) rfl lf_X_23 q112 ?_
  obtain ⟨q114, hw⟩ := hw
  obtain ⟨q115, hw⟩ := hw
  obtain ⟨q120, hw⟩ := hw
  obtain ⟨b116, t117, m118, m119, u8, u9, hw⟩ := hw
  subst u8 u9
  refine r_callI (av := [ar (gR h110 v0 2)]) (rest := [ar a111, ar v0]) d_X_init_98 mk_St_init ll_X_59 im_St_init rfl rfl rfl rfl (nle rfl) (refB_r q115 (refB_r q114 refB_n)) (refL_r q114 refL_n) q120 (s_St_init (by omega) hw (fun h113 hv => ?_))
  replace hw := hv
  clear hv
  show aW none m_X_init (d + 1) 101 [(0, ar v0)] [ar a111, ar v0] h113 b116 t117 QQ
  obtain ⟨q121, hw⟩ := hw
  obtain ⟨q122, hw⟩ := hw
  refine r_putFR d_X_init_101 ok_11 (nle rfl) (nle rfl) rfl lf_X_62 rfl rfl rfl q121 q122 ?_
  refine r_aload_n (j := 0) d_X_init_104 rfl ?_
  obtain ⟨q123, hw⟩ := hw
  obtain ⟨b124, t125, u8, u9, hw⟩ := hw
  subst u8 u9
  refine r_new d_X_init_105 ok_6 (nle rfl) ty_6 lk_X_66 in_6 ini_6 (refB_r (xt eXR q123) refB_n) (refL_r (xt eXR q123) refL_n) ?_
  generalize e8 : nw (sR h113 v0 8 a111) 6 0 = h126
  generalize e7 : gX (sR h113 v0 8 a111) = a127
  replace hw := hw a127 h126 e7.symm e8.symm
  refine r_dup d_X_init_108 rfl ?_
  refine r_aload_n (j := 0) d_X_init_109 rfl ?_
  obtain ⟨q128, hw⟩ := hw
  refine r_getR d_X_init_110 ok_11 (nle rfl) (nle rfl) rfl lf_X_23 q128 ?_
  refine r_aload_n (j := 0) d_X_init_113 rfl ?_
  refine r_getR d_X_init_114 ok_11 (nle rfl) (nle rfl) rfl lf_X_53 q128 ?_
  obtain ⟨q130, hw⟩ := hw
  obtain ⟨q131, hw⟩ := hw
  obtain ⟨q136, hw⟩ := hw
  obtain ⟨b132, t133, m134, m135, u8, u9, hw⟩ := hw
  subst u8 u9
  refine r_callI (av := [ar (gR h126 v0 2), ar (gR h126 v0 7)]) (rest := [ar a127, ar v0]) d_X_init_117 mk_Op_init ll_X_68 im_Op_init rfl rfl rfl rfl (nle rfl) (refB_r q131 (refB_r q130 refB_n)) (refL_r q130 refL_n) q136 (s_Op_init (by omega) hw (fun h129 hv => ?_))
  replace hw := hv
  clear hv
  show aW none m_X_init (d + 1) 120 [(0, ar v0)] [ar a127, ar v0] h129 b132 t133 QQ
  obtain ⟨q137, hw⟩ := hw
  obtain ⟨q138, hw⟩ := hw
  refine r_putFR d_X_init_120 ok_11 (nle rfl) (nle rfl) rfl lf_X_71 rfl rfl rfl q137 q138 ?_
  refine r_aload_n (j := 0) d_X_init_123 rfl ?_
  obtain ⟨q139, hw⟩ := hw
  obtain ⟨b140, t141, u8, u9, hw⟩ := hw
  subst u8 u9
  refine r_new d_X_init_124 ok_2 (nle rfl) ty_2 lk_X_75 in_2 ini_2 (refB_r (xt eXR q139) refB_n) (refL_r (xt eXR q139) refL_n) ?_
  generalize e8 : nw (sR h129 v0 9 a127) 2 0 = h142
  generalize e7 : gX (sR h129 v0 9 a127) = a143
  replace hw := hw a143 h142 e7.symm e8.symm
  refine r_dup d_X_init_127 rfl ?_
  refine r_aload_n (j := 0) d_X_init_128 rfl ?_
  obtain ⟨q144, hw⟩ := hw
  refine r_getR d_X_init_129 ok_11 (nle rfl) (nle rfl) rfl lf_X_23 q144 ?_
  obtain ⟨q146, hw⟩ := hw
  obtain ⟨q147, hw⟩ := hw
  obtain ⟨q152, hw⟩ := hw
  obtain ⟨b148, t149, m150, m151, u8, u9, hw⟩ := hw
  subst u8 u9
  refine r_callI (av := [ar (gR h142 v0 2)]) (rest := [ar a143, ar v0]) d_X_init_132 mk_Cr_init ll_X_77 im_Cr_init rfl rfl rfl rfl (nle rfl) (refB_r q147 (refB_r q146 refB_n)) (refL_r q146 refL_n) q152 (s_Cr_init (by omega) hw (fun h145 hv => ?_))
  replace hw := hv
  clear hv
  show aW none m_X_init (d + 1) 135 [(0, ar v0)] [ar a143, ar v0] h145 b148 t149 QQ
  obtain ⟨q153, hw⟩ := hw
  obtain ⟨q154, hw⟩ := hw
  refine r_putFR d_X_init_135 ok_11 (nle rfl) (nle rfl) rfl lf_X_78 rfl rfl rfl q153 q154 ?_
  refine r_aload_n (j := 0) d_X_init_138 rfl ?_
  obtain ⟨q155, hw⟩ := hw
  obtain ⟨b156, t157, u8, u9, hw⟩ := hw
  subst u8 u9
  refine r_new d_X_init_139 ok_4 (nle rfl) ty_4 lk_X_82 in_4 ini_4 (refB_r (xt eXR q155) refB_n) (refL_r (xt eXR q155) refL_n) ?_
  generalize e8 : nw (sR h145 v0 10 a143) 4 0 = h158
  generalize e7 : gX (sR h145 v0 10 a143) = a159
  replace hw := hw a159 h158 e7.symm e8.symm
  refine r_dup d_X_init_142 rfl ?_
  refine r_aload_n (j := 0) d_X_init_143 rfl ?_
  obtain ⟨q160, hw⟩ := hw
  refine r_getR d_X_init_144 ok_11 (nle rfl) (nle rfl) rfl lf_X_23 q160 ?_
  obtain ⟨q162, hw⟩ := hw
  obtain ⟨q163, hw⟩ := hw
  obtain ⟨q168, hw⟩ := hw
  obtain ⟨b164, t165, m166, m167, u8, u9, hw⟩ := hw
  subst u8 u9
  refine r_callI (av := [ar (gR h158 v0 2)]) (rest := [ar a159, ar v0]) d_X_init_147 mk_Ex_init ll_X_84 im_Ex_init rfl rfl rfl rfl (nle rfl) (refB_r q163 (refB_r q162 refB_n)) (refL_r q162 refL_n) q168 (s_Ex_init (by omega) hw (fun h161 hv => ?_))
  replace hw := hv
  clear hv
  show aW none m_X_init (d + 1) 150 [(0, ar v0)] [ar a159, ar v0] h161 b164 t165 QQ
  obtain ⟨q169, hw⟩ := hw
  obtain ⟨q170, hw⟩ := hw
  refine r_putFR d_X_init_150 ok_11 (nle rfl) (nle rfl) rfl lf_X_85 rfl rfl rfl q169 q170 ?_
  refine r_aload_n (j := 0) d_X_init_153 rfl ?_
  obtain ⟨q171, hw⟩ := hw
  obtain ⟨b172, t173, u8, u9, hw⟩ := hw
  subst u8 u9
  refine r_new d_X_init_154 ok_3 (nle rfl) ty_3 lk_X_89 in_3 ini_3 (refB_r (xt eXR q171) refB_n) (refL_r (xt eXR q171) refL_n) ?_
  generalize e8 : nw (sR h161 v0 11 a159) 3 0 = h174
  generalize e7 : gX (sR h161 v0 11 a159) = a175
  replace hw := hw a175 h174 e7.symm e8.symm
  refine r_dup d_X_init_157 rfl ?_
  refine r_aload_n (j := 0) d_X_init_158 rfl ?_
  obtain ⟨q176, hw⟩ := hw
  refine r_getR d_X_init_159 ok_11 (nle rfl) (nle rfl) rfl lf_X_23 q176 ?_
  obtain ⟨q178, hw⟩ := hw
  obtain ⟨q179, hw⟩ := hw
  obtain ⟨q184, hw⟩ := hw
  obtain ⟨b180, t181, m182, m183, u8, u9, hw⟩ := hw
  subst u8 u9
  refine r_callI (av := [ar (gR h174 v0 2)]) (rest := [ar a175, ar v0]) d_X_init_162 mk_Db_init ll_X_91 im_Db_init rfl rfl rfl rfl (nle rfl) (refB_r q179 (refB_r q178 refB_n)) (refL_r q178 refL_n) q184 (s_Db_init (by omega) hw (fun h177 hv => ?_))
  replace hw := hv
  clear hv
  show aW none m_X_init (d + 1) 165 [(0, ar v0)] [ar a175, ar v0] h177 b180 t181 QQ
  obtain ⟨q185, hw⟩ := hw
  obtain ⟨q186, hw⟩ := hw
  refine r_putFR d_X_init_165 ok_11 (nle rfl) (nle rfl) rfl lf_X_92 rfl rfl rfl q185 q186 ?_
  refine r_aload_n (j := 0) d_X_init_168 rfl ?_
  obtain ⟨q187, hw⟩ := hw
  obtain ⟨b188, t189, u8, u9, hw⟩ := hw
  subst u8 u9
  refine r_new d_X_init_169 ok_5 (nle rfl) ty_5 lk_X_96 in_5 ini_5 (refB_r (xt eXR q187) refB_n) (refL_r (xt eXR q187) refL_n) ?_
  generalize e8 : nw (sR h177 v0 12 a175) 5 0 = h190
  generalize e7 : gX (sR h177 v0 12 a175) = a191
  replace hw := hw a191 h190 e7.symm e8.symm
  refine r_dup d_X_init_172 rfl ?_
  refine r_aload_n (j := 0) d_X_init_173 rfl ?_
  obtain ⟨q192, hw⟩ := hw
  refine r_getR d_X_init_174 ok_11 (nle rfl) (nle rfl) rfl lf_X_19 q192 ?_
  refine r_aload_n (j := 0) d_X_init_177 rfl ?_
  refine r_getR d_X_init_178 ok_11 (nle rfl) (nle rfl) rfl lf_X_53 q192 ?_
  obtain ⟨q194, hw⟩ := hw
  obtain ⟨q195, hw⟩ := hw
  obtain ⟨q200, hw⟩ := hw
  obtain ⟨b196, t197, m198, m199, u8, u9, hw⟩ := hw
  subst u8 u9
  refine r_callI (av := [ar (gR h190 v0 1), ar (gR h190 v0 7)]) (rest := [ar a191, ar v0]) d_X_init_181 mk_Kn_init ll_X_98 im_Kn_init rfl rfl rfl rfl (nle rfl) (refB_r q195 (refB_r q194 refB_n)) (refL_r q194 refL_n) q200 (s_Kn_init (by omega) hw (fun h193 hv => ?_))
  replace hw := hv
  clear hv
  show aW none m_X_init (d + 1) 184 [(0, ar v0)] [ar a191, ar v0] h193 b196 t197 QQ
  obtain ⟨q201, hw⟩ := hw
  obtain ⟨q202, hw⟩ := hw
  refine r_putFR d_X_init_184 ok_11 (nle rfl) (nle rfl) rfl lf_X_99 rfl rfl rfl q201 q202 ?_
  refine r_aload_n (j := 0) d_X_init_187 rfl ?_
  refine r_iconst d_X_init_188 kc_3 ?_
  obtain ⟨q203, hw⟩ := hw
  obtain ⟨b204, t205, u8, u9, u6, u7, hw⟩ := hw
  subst u8 u9
  refine r_newI d_X_init_189 ac_I u6 rfl u7 (refB_r (xt eXR q203) refB_n) (refL_r (xt eXR q203) refL_n) ?_
  generalize e8 : nw (sR h193 v0 13 a191) 20 (ix (3 : Int32)) = h206
  generalize e7 : gX (sR h193 v0 13 a191) = a207
  replace hw := hw a207 h206 e7.symm e8.symm
  obtain ⟨q208, hw⟩ := hw
  obtain ⟨q209, hw⟩ := hw
  refine r_putFR d_X_init_191 ok_11 (nle rfl) (nle rfl) rfl lf_X_103 rfl rfl rfl q208 q209 ?_
  refine r_iconst d_X_init_194 kc_0 ?_
  refine r_istore_n (ls2 := [(1, ai (0 : Int32)), (0, ar v0)]) d_X_init_195 (nle rfl) rfl ?_
  obtain ⟨n229, hw⟩ := hw
  refine r_pick (ls2 := [(0, ar v0), (1, ai (0 : Int32))]) [1, 0] rfl ?_
  exact s_X_init_L196 hd hQ  n229 _ _ _ _ hw
set_option maxRecDepth 100000 in
set_option maxHeartbeats 4000000 in
theorem s_X_feed {d : Nat} (hd : 1 ≤ d) {v0 : Nat} {v1 : Int32} {v2 : Int32} {v3 : Int32} {v4 : Int32} {v5 : Int32} {h : Hp} {Q : Int32 → Hp → Prop} {QQ : Option AV → Hp → Prop} (hw : w_X_feed v0 v1 v2 v3 v4 v5 h Q) (hQ : ∀ r9 h9, Q r9 h9 → QQ (some (ai r9)) h9) : aCall m_X_feed d [ar v0, ai v1, ai v2, ai v3, ai v4, ai v5] h 0 0 QQ := by
  obtain ⟨d, rfl⟩ : ∃ d9, d = d9 + 1 := ⟨d - 1, by omega⟩
  refine aCall_in pl_X_feed (nle rfl) ?_
  show aW none m_X_feed (d + 1) 0 [(0, ar v0), (1, ai v1), (2, ai v2), (3, ai v3), (4, ai v4), (5, ai v5)] [] h 0 0 QQ
  unfold w_X_feed at hw
  refine r_aload_n (j := 0) d_X_feed_0 rfl ?_
  obtain ⟨q1, hw⟩ := hw
  refine r_getR d_X_feed_1 ok_11 (nle rfl) (nle rfl) rfl lf_X_10 q1 ?_
  obtain ⟨q2, hw⟩ := hw
  refine r_getI d_X_feed_4 ok_10 (nle rfl) (nle rfl) rfl lf_X_107 q2 ?_
  refine r_bipush d_X_feed_7 kb_20 ?_
  refine r_iadd d_X_feed_9 ?_
  refine r_sipush d_X_feed_10 ks_700 ?_
  refine r_icmp_le d_X_feed_13 (fun w9 => ?_) (fun w9 => ?_)
  · replace hw := hw.1 w9
    refine r_aload_n (j := 0) d_X_feed_18 rfl ?_
    refine r_getR d_X_feed_19 ok_11 (nle rfl) (nle rfl) rfl lf_X_10 q1 ?_
    refine r_iload_n (j := 1) d_X_feed_22 rfl ?_
    refine r_callV (av := [ai v1]) (rest := []) (ci := 10) d_X_feed_23 mk_Tp_put ll_X_111 im_Tp_put se_Tp_put rfl (nle rfl) rfl rfl (nle rfl) q2 (s_Tp_put  hw (fun h3 hw => ?_))
    show aW none m_X_feed (d + 1) 26 [(0, ar v0), (1, ai v1), (2, ai v2), (3, ai v3), (4, ai v4), (5, ai v5)] [] h3 0 0 QQ
    refine r_aload_n (j := 0) d_X_feed_26 rfl ?_
    obtain ⟨q4, hw⟩ := hw
    refine r_getR d_X_feed_27 ok_11 (nle rfl) (nle rfl) rfl lf_X_10 q4 ?_
    refine r_iload_n (j := 2) d_X_feed_30 rfl ?_
    obtain ⟨q6, hw⟩ := hw
    refine r_callV (av := [ai v2]) (rest := []) (ci := 10) d_X_feed_31 mk_Tp_put ll_X_111 im_Tp_put se_Tp_put rfl (nle rfl) rfl rfl (nle rfl) q6 (s_Tp_put  hw (fun h5 hw => ?_))
    show aW none m_X_feed (d + 1) 34 [(0, ar v0), (1, ai v1), (2, ai v2), (3, ai v3), (4, ai v4), (5, ai v5)] [] h5 0 0 QQ
    refine r_aload_n (j := 0) d_X_feed_34 rfl ?_
    obtain ⟨q7, hw⟩ := hw
    refine r_getR d_X_feed_35 ok_11 (nle rfl) (nle rfl) rfl lf_X_10 q7 ?_
    refine r_iload_n (j := 3) d_X_feed_38 rfl ?_
    obtain ⟨q9, hw⟩ := hw
    refine r_callV (av := [ai v3]) (rest := []) (ci := 10) d_X_feed_39 mk_Tp_put ll_X_111 im_Tp_put se_Tp_put rfl (nle rfl) rfl rfl (nle rfl) q9 (s_Tp_put  hw (fun h8 hw => ?_))
    show aW none m_X_feed (d + 1) 42 [(0, ar v0), (1, ai v1), (2, ai v2), (3, ai v3), (4, ai v4), (5, ai v5)] [] h8 0 0 QQ
    refine r_aload_n (j := 0) d_X_feed_42 rfl ?_
    obtain ⟨q10, hw⟩ := hw
    refine r_getR d_X_feed_43 ok_11 (nle rfl) (nle rfl) rfl lf_X_10 q10 ?_
    refine r_iload (j := 4) d_X_feed_46 rfl ?_
    obtain ⟨q12, hw⟩ := hw
    refine r_callV (av := [ai v4]) (rest := []) (ci := 10) d_X_feed_48 mk_Tp_put ll_X_111 im_Tp_put se_Tp_put rfl (nle rfl) rfl rfl (nle rfl) q12 (s_Tp_put  hw (fun h11 hw => ?_))
    show aW none m_X_feed (d + 1) 51 [(0, ar v0), (1, ai v1), (2, ai v2), (3, ai v3), (4, ai v4), (5, ai v5)] [] h11 0 0 QQ
    refine r_aload_n (j := 0) d_X_feed_51 rfl ?_
    obtain ⟨q13, hw⟩ := hw
    refine r_getR d_X_feed_52 ok_11 (nle rfl) (nle rfl) rfl lf_X_10 q13 ?_
    refine r_iload (j := 5) d_X_feed_55 rfl ?_
    obtain ⟨q15, hw⟩ := hw
    refine r_callV (av := [ai v5]) (rest := []) (ci := 10) d_X_feed_57 mk_Tp_put ll_X_111 im_Tp_put se_Tp_put rfl (nle rfl) rfl rfl (nle rfl) q15 (s_Tp_put  hw (fun h14 hw => ?_))
    show aW none m_X_feed (d + 1) 60 [(0, ar v0), (1, ai v1), (2, ai v2), (3, ai v3), (4, ai v4), (5, ai v5)] [] h14 0 0 QQ
    refine r_aload_n (j := 0) d_X_feed_60 rfl ?_
    obtain ⟨q16, hw⟩ := hw
    refine r_getR d_X_feed_61 ok_11 (nle rfl) (nle rfl) rfl lf_X_10 q16 ?_
    obtain ⟨q17, hw⟩ := hw
    refine r_getI d_X_feed_64 ok_10 (nle rfl) (nle rfl) rfl lf_X_107 q17 ?_
    exact r_ireturn d_X_feed_67.1 rfl (hQ _ _ hw)
  · replace hw := hw.2 w9
    refine r_iconst d_X_feed_16 kc_m1 ?_
    exact r_ireturn d_X_feed_17.1 rfl (hQ _ _ hw)
set_option maxRecDepth 100000 in
set_option maxHeartbeats 4000000 in
theorem s_X_end {d : Nat} {v0 : Nat} {v1 : Int32} {h : Hp} {Q : Int32 → Hp → Prop} {QQ : Option AV → Hp → Prop} (hw : w_X_end v0 v1 h Q) (hQ : ∀ r9 h9, Q r9 h9 → QQ (some (ai r9)) h9) : aCall m_X_end d [ar v0, ai v1] h 0 0 QQ := by
  refine aCall_in pl_X_end (nle rfl) ?_
  show aW none m_X_end d 0 [(0, ar v0), (1, ai v1)] [] h 0 0 QQ
  unfold w_X_end at hw
  refine r_iload_n (j := 1) d_X_end_0 rfl ?_
  refine r_if_lt d_X_end_1 (fun w9 => ?_) (fun w9 => ?_)
  · replace hw := hw.1 w9
    refine r_iconst d_X_end_15 kc_m1 ?_
    exact r_ireturn d_X_end_16.1 rfl (hQ _ _ hw)
  · replace hw := hw.2 w9
    refine r_iload_n (j := 1) d_X_end_4 rfl ?_
    refine r_aload_n (j := 0) d_X_end_5 rfl ?_
    obtain ⟨q1, hw⟩ := hw
    refine r_getR d_X_end_6 ok_11 (nle rfl) (nle rfl) rfl lf_X_10 q1 ?_
    obtain ⟨q2, hw⟩ := hw
    refine r_getI d_X_end_9 ok_10 (nle rfl) (nle rfl) rfl lf_X_107 q2 ?_
    refine r_icmp_le d_X_end_12 (fun w9 => ?_) (fun w9 => ?_)
    · replace hw := hw.1 w9
      refine r_aload_n (j := 0) d_X_end_17 rfl ?_
      refine r_getR d_X_end_18 ok_11 (nle rfl) (nle rfl) rfl lf_X_10 q1 ?_
      refine r_iload_n (j := 1) d_X_end_21 rfl ?_
      refine r_putI d_X_end_22 ok_10 (nle rfl) (nle rfl) rfl lf_X_107 rfl q2 ?_
      refine r_iload_n (j := 1) d_X_end_25 rfl ?_
      exact r_ireturn d_X_end_26.1 rfl (hQ _ _ hw)
    · replace hw := hw.2 w9
      refine r_iconst d_X_end_15 kc_m1 ?_
      exact r_ireturn d_X_end_16.1 rfl (hQ _ _ hw)
set_option maxRecDepth 100000 in
set_option maxHeartbeats 4000000 in
theorem s_X_program_L66 {d : Nat} (hd : 10 ≤ d + 1) {Q : Int32 → Hp → Prop} {QQ : Option AV → Hp → Prop} (hQ : ∀ r9 h9, Q r9 h9 → QQ (some (ai r9)) h9) {v0 : Nat} : ∀ (n : Nat) (v2 : Int32) (h : Hp), w_X_program_L66 Q  v0 n v2 h → aW none m_X_program (d + 1) 66 [(0, ar v0), (2, ai v2)] [] h 0 0 QQ := by
  intro n
  induction n with
  | zero => intro v2 h hw; exact hw.elim
  | succ n ih =>
    intro v2 h hw
    unfold w_X_program_L66 at hw
    refine r_iload_n (j := 1) d_X_program_66 rfl ?_
    refine r_iconst d_X_program_67 kc_2 ?_
    refine r_icmp_ge d_X_program_68 (fun w9 => ?_) (fun w9 => ?_)
    · replace hw := hw.1 w9
      refine r_aload_n (j := 0) d_X_program_84 rfl ?_
      obtain ⟨q20, hw⟩ := hw
      refine r_getR d_X_program_85 ok_11 (nle rfl) (nle rfl) rfl lf_X_23 q20 ?_
      obtain ⟨q21, hw⟩ := hw
      refine r_getI d_X_program_88 ok_1 (nle rfl) (nle rfl) rfl lf_X_129 q21 ?_
      exact r_ireturn d_X_program_91.1 rfl (hQ _ _ hw)
    · replace hw := hw.2 w9
      refine r_aload_n (j := 0) d_X_program_71 rfl ?_
      obtain ⟨q22, hw⟩ := hw
      refine r_getR d_X_program_72 ok_11 (nle rfl) (nle rfl) rfl lf_X_39 q22 ?_
      refine r_iload_n (j := 1) d_X_program_75 rfl ?_
      refine r_iconst d_X_program_76 kc_0 ?_
      obtain ⟨q23, hw⟩ := hw
      obtain ⟨q24, hw⟩ := hw
      refine r_zast d_X_program_77 q23 q24 (Or.inl rfl) ?_
      refine r_iinc (j := 1) (ls2 := [(2, ai (v2 + (1 : Int32))), (0, ar v0)]) d_X_program_78 rfl (congrArg (HAdd.hAdd v2) kc_1) (nle rfl) rfl ?_
      refine r_goto d_X_program_81 ?_
      refine r_pick (ls2 := [(0, ar v0), (2, ai (v2 + (1 : Int32)))]) [1, 0] rfl ?_
      exact ih _ _ hw
set_option maxRecDepth 100000 in
set_option maxHeartbeats 4000000 in
theorem s_X_program {d : Nat} (hd : 10 ≤ d) {v0 : Nat} {h : Hp} {Q : Int32 → Hp → Prop} {QQ : Option AV → Hp → Prop} (hw : w_X_program v0 h Q) (hQ : ∀ r9 h9, Q r9 h9 → QQ (some (ai r9)) h9) : aCall m_X_program d [ar v0] h 0 0 QQ := by
  obtain ⟨d, rfl⟩ : ∃ d9, d = d9 + 1 := ⟨d - 1, by omega⟩
  refine aCall_in pl_X_program (nle rfl) ?_
  show aW none m_X_program (d + 1) 0 [(0, ar v0)] [] h 0 0 QQ
  unfold w_X_program at hw
  refine r_aload_n (j := 0) d_X_program_0 rfl ?_
  obtain ⟨q1, hw⟩ := hw
  refine r_getR d_X_program_1 ok_11 (nle rfl) (nle rfl) rfl lf_X_31 q1 ?_
  obtain ⟨q4, hw⟩ := hw
  refine r_callV (av := []) (rest := []) (ci := 8) d_X_program_4 mk_Rd_read ll_X_115 im_Rd_read se_Rd_read rfl (nle rfl) rfl rfl (nle rfl) q4 (s_Rd_read (by omega) hw (fun r3 h2 hw => ?_))
  show aW none m_X_program (d + 1) 7 [(0, ar v0)] [ai (b2i r3)] h2 0 0 QQ
  refine r_istore_n (ls2 := [(1, ai (b2i r3)), (0, ar v0)]) d_X_program_7 (nle rfl) rfl ?_
  refine r_aload_n (j := 1) d_X_program_8 rfl ?_
  obtain ⟨q5, hw⟩ := hw
  refine r_getR d_X_program_9 ok_11 (nle rfl) (nle rfl) rfl lf_X_10 q5 ?_
  refine r_iconst d_X_program_12 kc_0 ?_
  obtain ⟨q6, hw⟩ := hw
  refine r_putI d_X_program_13 ok_10 (nle rfl) (nle rfl) rfl lf_X_107 rfl q6 ?_
  refine r_iload_n (j := 0) d_X_program_16 rfl ?_
  refine r_if_ne d_X_program_17 (fun w9 => ?_) (fun w9 => ?_)
  · replace hw := hw.2 w9
    refine r_aload_n (j := 1) d_X_program_22 rfl ?_
    refine r_getRb eRI d_X_program_23 ok_11 (nle rfl) (nle rfl) rfl lf_X_19 (kt eKI q5) ?_
    refine r_aload_n (j := 1) d_X_program_26 rfl ?_
    refine r_getRb eRI d_X_program_27 ok_11 (nle rfl) (nle rfl) rfl lf_X_31 (kt eKI q5) ?_
    obtain ⟨q7, hw⟩ := hw
    refine r_getRb eRI d_X_program_30 ok_8 (nle rfl) (nle rfl) rfl lf_X_119 (kt eKI q7) ?_
    obtain ⟨q9, hw⟩ := hw
    refine r_callV (av := [ar (gR h2 (gR h2 v0 3) 1)]) (rest := []) (ci := 1) d_X_program_33 mk_Co_copyFrom ll_X_122 im_Co_copyFrom se_Co_copyFrom rfl (nle rfl) rfl rfl (nle rfl) (kt eKI q9) (s_Co_copyFrom (by omega) hw (fun h8 hw => ?_))
    show aW none m_X_program (d + 1) 36 [(1, ai (b2i r3)), (0, ar v0)] [] h8 0 0 QQ
    refine r_aload_n (j := 1) d_X_program_36 rfl ?_
    obtain ⟨q10, hw⟩ := hw
    refine r_getR d_X_program_37 ok_11 (nle rfl) (nle rfl) rfl lf_X_23 q10 ?_
    refine r_aload_n (j := 1) d_X_program_40 rfl ?_
    refine r_getR d_X_program_41 ok_11 (nle rfl) (nle rfl) rfl lf_X_31 q10 ?_
    obtain ⟨q11, hw⟩ := hw
    refine r_getR d_X_program_44 ok_8 (nle rfl) (nle rfl) rfl lf_X_119 q11 ?_
    obtain ⟨q13, hw⟩ := hw
    refine r_callV (av := [ar (gR h8 (gR h8 v0 3) 1)]) (rest := []) (ci := 1) d_X_program_47 mk_Co_copyFrom ll_X_122 im_Co_copyFrom se_Co_copyFrom rfl (nle rfl) rfl rfl (nle rfl) q13 (s_Co_copyFrom (by omega) hw (fun h12 hw => ?_))
    show aW none m_X_program (d + 1) 50 [(1, ai (b2i r3)), (0, ar v0)] [] h12 0 0 QQ
    refine r_aload_n (j := 1) d_X_program_50 rfl ?_
    obtain ⟨q14, hw⟩ := hw
    refine r_getR d_X_program_51 ok_11 (nle rfl) (nle rfl) rfl lf_X_46 q14 ?_
    obtain ⟨q16, hw⟩ := hw
    refine r_callV (av := []) (rest := []) (ci := 0) d_X_program_54 mk_Ac_forget ll_X_125 im_Ac_forget se_Ac_forget rfl (nle rfl) rfl rfl (nle rfl) q16 (s_Ac_forget  hw (fun h15 hw => ?_))
    show aW none m_X_program (d + 1) 57 [(1, ai (b2i r3)), (0, ar v0)] [] h15 0 0 QQ
    refine r_aload_n (j := 1) d_X_program_57 rfl ?_
    obtain ⟨q17, hw⟩ := hw
    refine r_getR d_X_program_58 ok_11 (nle rfl) (nle rfl) rfl lf_X_99 q17 ?_
    obtain ⟨q19, hw⟩ := hw
    refine r_callV (av := []) (rest := []) (ci := 5) d_X_program_61 mk_Kn_forget ll_X_128 im_Kn_forget se_Kn_forget rfl (nle rfl) rfl rfl (nle rfl) q19 (s_Kn_forget  hw (fun h18 hw => ?_))
    show aW none m_X_program (d + 1) 64 [(1, ai (b2i r3)), (0, ar v0)] [] h18 0 0 QQ
    refine r_iconst d_X_program_64 kc_0 ?_
    refine r_istore_n (ls2 := [(2, ai (0 : Int32)), (1, ai (b2i r3)), (0, ar v0)]) d_X_program_65 (nle rfl) rfl ?_
    obtain ⟨n25, hw⟩ := hw
    refine r_pick (ls2 := [(0, ar v0), (2, ai (0 : Int32))]) [2, 0] rfl ?_
    exact s_X_program_L66 hd hQ  n25 _ _ hw
  · replace hw := hw.1 w9
    refine r_iconst d_X_program_20 kc_m1 ?_
    exact r_ireturn d_X_program_21.1 rfl (hQ _ _ hw)
set_option maxRecDepth 100000 in
set_option maxHeartbeats 4000000 in
theorem s_X_fault {d : Nat} {v0 : Nat} {v1 : Int32} {h : Hp} {Q : Int32 → Hp → Prop} {QQ : Option AV → Hp → Prop} (hw : w_X_fault v0 v1 h Q) (hQ : ∀ r9 h9, Q r9 h9 → QQ (some (ai r9)) h9) : aCall m_X_fault d [ar v0, ai v1] h 0 0 QQ := by
  refine aCall_in pl_X_fault (nle rfl) ?_
  show aW none m_X_fault d 0 [(0, ar v0), (1, ai v1)] [] h 0 0 QQ
  unfold w_X_fault at hw
  refine r_iload_n (j := 1) d_X_fault_0 rfl ?_
  refine r_if_ne d_X_fault_1 (fun w9 => ?_) (fun w9 => ?_)
  · replace hw := hw.2 w9
    refine r_iload_n (j := 1) d_X_fault_12 rfl ?_
    refine r_iconst d_X_fault_13 kc_1 ?_
    refine r_icmp_ne d_X_fault_14 (fun w9 => ?_) (fun w9 => ?_)
    · replace hw := hw.2 w9
      refine r_iconst d_X_fault_27 kc_m1 ?_
      exact r_ireturn d_X_fault_28.1 rfl (hQ _ _ hw)
    · replace hw := hw.1 w9
      refine r_aload_n (j := 0) d_X_fault_17 rfl ?_
      obtain ⟨q1, hw⟩ := hw
      refine r_getR d_X_fault_18 ok_11 (nle rfl) (nle rfl) rfl lf_X_31 q1 ?_
      obtain ⟨q2, hw⟩ := hw
      refine r_getI d_X_fault_21 ok_8 (nle rfl) (nle rfl) rfl lf_X_135 q2 ?_
      refine r_goto d_X_fault_24 ?_
      exact r_ireturn d_X_fault_28.1 rfl (hQ _ _ hw)
  · replace hw := hw.1 w9
    refine r_aload_n (j := 0) d_X_fault_4 rfl ?_
    obtain ⟨q3, hw⟩ := hw
    refine r_getR d_X_fault_5 ok_11 (nle rfl) (nle rfl) rfl lf_X_31 q3 ?_
    obtain ⟨q4, hw⟩ := hw
    refine r_getI d_X_fault_8 ok_8 (nle rfl) (nle rfl) rfl lf_X_132 q4 ?_
    exact r_ireturn d_X_fault_11.1 rfl (hQ _ _ hw)
set_option maxRecDepth 100000 in
set_option maxHeartbeats 4000000 in
theorem s_X_number {d : Nat} (hd : 1 ≤ d) {v0 : Nat} {v1 : Int32} {v2 : Int32} {h : Hp} {Q : Int32 → Hp → Prop} {QQ : Option AV → Hp → Prop} (hw : w_X_number v0 v1 v2 h Q) (hQ : ∀ r9 h9, Q r9 h9 → QQ (some (ai r9)) h9) : aCall m_X_number d [ar v0, ai v1, ai v2] h 0 0 QQ := by
  obtain ⟨d, rfl⟩ : ∃ d9, d = d9 + 1 := ⟨d - 1, by omega⟩
  refine aCall_in pl_X_number (nle rfl) ?_
  show aW none m_X_number (d + 1) 0 [(0, ar v0), (1, ai v1), (2, ai v2)] [] h 0 0 QQ
  unfold w_X_number at hw
  refine r_aload_n (j := 0) d_X_number_0 rfl ?_
  obtain ⟨q1, hw⟩ := hw
  refine r_getR d_X_number_1 ok_11 (nle rfl) (nle rfl) rfl lf_X_23 q1 ?_
  refine r_iload_n (j := 1) d_X_number_4 rfl ?_
  obtain ⟨q4, hw⟩ := hw
  refine r_callV (av := [ai v1]) (rest := []) (ci := 1) d_X_number_5 mk_Co_hasColumn ll_X_138 im_Co_hasColumn se_Co_hasColumn rfl (nle rfl) rfl rfl (nle rfl) q4 (s_Co_hasColumn  hw (fun r3 h2 hw => ?_))
  show aW none m_X_number (d + 1) 8 [(0, ar v0), (1, ai v1), (2, ai v2)] [ai (b2i r3)] h2 0 0 QQ
  refine r_if_eq d_X_number_8 (fun w9 => ?_) (fun w9 => ?_)
  · replace hw := hw.1 (b2i_0.mp w9)
    refine r_ldc d_X_number_22 lc_X_145 ?_
    exact r_ireturn d_X_number_24.1 rfl (hQ _ _ hw)
  · replace hw := hw.2 (fun g9 => w9 (b2i_0.mpr g9))
    refine r_aload_n (j := 0) d_X_number_11 rfl ?_
    obtain ⟨q5, hw⟩ := hw
    refine r_getR d_X_number_12 ok_11 (nle rfl) (nle rfl) rfl lf_X_23 q5 ?_
    refine r_iload_n (j := 2) d_X_number_15 rfl ?_
    obtain ⟨q8, hw⟩ := hw
    refine r_callV (av := [ai v2]) (rest := []) (ci := 1) d_X_number_16 mk_Co_hasRow ll_X_142 im_Co_hasRow se_Co_hasRow rfl (nle rfl) rfl rfl (nle rfl) q8 (s_Co_hasRow  hw (fun r7 h6 hw => ?_))
    show aW none m_X_number (d + 1) 19 [(0, ar v0), (1, ai v1), (2, ai v2)] [ai (b2i r7)] h6 0 0 QQ
    refine r_if_ne d_X_number_19 (fun w9 => ?_) (fun w9 => ?_)
    · replace hw := hw.2 (fun g9 => w9 (b2i_0.mpr g9))
      refine r_aload_n (j := 0) d_X_number_25 rfl ?_
      obtain ⟨q9, hw⟩ := hw
      refine r_getR d_X_number_26 ok_11 (nle rfl) (nle rfl) rfl lf_X_23 q9 ?_
      refine r_iload_n (j := 1) d_X_number_29 rfl ?_
      refine r_iload_n (j := 2) d_X_number_30 rfl ?_
      obtain ⟨q12, hw⟩ := hw
      refine r_callV (av := [ai v1, ai v2]) (rest := []) (ci := 1) d_X_number_31 mk_Co_numberOf ll_X_146 im_Co_numberOf se_Co_numberOf rfl (nle rfl) rfl rfl (nle rfl) q12 (s_Co_numberOf  hw (fun r11 h10 hw => ?_))
      show aW none m_X_number (d + 1) 34 [(0, ar v0), (1, ai v1), (2, ai v2)] [ai r11] h10 0 0 QQ
      exact r_ireturn d_X_number_34.1 rfl (hQ _ _ hw)
    · replace hw := hw.1 (b2i_0.mp w9)
      refine r_ldc d_X_number_22 lc_X_145 ?_
      exact r_ireturn d_X_number_24.1 rfl (hQ _ _ hw)
set_option maxRecDepth 100000 in
set_option maxHeartbeats 4000000 in
theorem s_X_gain {d : Nat} (hd : 1 ≤ d) {v0 : Nat} {v1 : Int32} {h : Hp} {Q : Int32 → Hp → Prop} {QQ : Option AV → Hp → Prop} (hw : w_X_gain v0 v1 h Q) (hQ : ∀ r9 h9, Q r9 h9 → QQ (some (ai r9)) h9) : aCall m_X_gain d [ar v0, ai v1] h 0 0 QQ := by
  obtain ⟨d, rfl⟩ : ∃ d9, d = d9 + 1 := ⟨d - 1, by omega⟩
  refine aCall_in pl_X_gain (nle rfl) ?_
  show aW none m_X_gain (d + 1) 0 [(0, ar v0), (1, ai v1)] [] h 0 0 QQ
  unfold w_X_gain at hw
  refine r_aload_n (j := 0) d_X_gain_0 rfl ?_
  obtain ⟨q1, hw⟩ := hw
  refine r_getR d_X_gain_1 ok_11 (nle rfl) (nle rfl) rfl lf_X_23 q1 ?_
  refine r_iload_n (j := 1) d_X_gain_4 rfl ?_
  obtain ⟨q4, hw⟩ := hw
  refine r_callV (av := [ai v1]) (rest := []) (ci := 1) d_X_gain_5 mk_Co_hasColumn ll_X_138 im_Co_hasColumn se_Co_hasColumn rfl (nle rfl) rfl rfl (nle rfl) q4 (s_Co_hasColumn  hw (fun r3 h2 hw => ?_))
  show aW none m_X_gain (d + 1) 8 [(0, ar v0), (1, ai v1)] [ai (b2i r3)] h2 0 0 QQ
  refine r_if_eq d_X_gain_8 (fun w9 => ?_) (fun w9 => ?_)
  · replace hw := hw.1 (b2i_0.mp w9)
    refine r_ldc d_X_gain_22 lc_X_145 ?_
    exact r_ireturn d_X_gain_24.1 rfl (hQ _ _ hw)
  · replace hw := hw.2 (fun g9 => w9 (b2i_0.mpr g9))
    refine r_aload_n (j := 0) d_X_gain_11 rfl ?_
    obtain ⟨q5, hw⟩ := hw
    refine r_getR d_X_gain_12 ok_11 (nle rfl) (nle rfl) rfl lf_X_23 q5 ?_
    refine r_iload_n (j := 1) d_X_gain_15 rfl ?_
    obtain ⟨q8, hw⟩ := hw
    refine r_callV (av := [ai v1]) (rest := []) (ci := 1) d_X_gain_16 mk_Co_gainOf ll_X_150 im_Co_gainOf se_Co_gainOf rfl (nle rfl) rfl rfl (nle rfl) q8 (s_Co_gainOf  hw (fun r7 h6 hw => ?_))
    show aW none m_X_gain (d + 1) 19 [(0, ar v0), (1, ai v1)] [ai r7] h6 0 0 QQ
    refine r_goto d_X_gain_19 ?_
    exact r_ireturn d_X_gain_24.1 rfl (hQ _ _ hw)
set_option maxRecDepth 100000 in
set_option maxHeartbeats 4000000 in
theorem s_X_need {d : Nat} (hd : 1 ≤ d) {v0 : Nat} {v1 : Int32} {h : Hp} {Q : Int32 → Hp → Prop} {QQ : Option AV → Hp → Prop} (hw : w_X_need v0 v1 h Q) (hQ : ∀ r9 h9, Q r9 h9 → QQ (some (ai r9)) h9) : aCall m_X_need d [ar v0, ai v1] h 0 0 QQ := by
  obtain ⟨d, rfl⟩ : ∃ d9, d = d9 + 1 := ⟨d - 1, by omega⟩
  refine aCall_in pl_X_need (nle rfl) ?_
  show aW none m_X_need (d + 1) 0 [(0, ar v0), (1, ai v1)] [] h 0 0 QQ
  unfold w_X_need at hw
  refine r_aload_n (j := 0) d_X_need_0 rfl ?_
  obtain ⟨q1, hw⟩ := hw
  refine r_getR d_X_need_1 ok_11 (nle rfl) (nle rfl) rfl lf_X_23 q1 ?_
  refine r_iload_n (j := 1) d_X_need_4 rfl ?_
  obtain ⟨q4, hw⟩ := hw
  refine r_callV (av := [ai v1]) (rest := []) (ci := 1) d_X_need_5 mk_Co_hasRow ll_X_142 im_Co_hasRow se_Co_hasRow rfl (nle rfl) rfl rfl (nle rfl) q4 (s_Co_hasRow  hw (fun r3 h2 hw => ?_))
  show aW none m_X_need (d + 1) 8 [(0, ar v0), (1, ai v1)] [ai (b2i r3)] h2 0 0 QQ
  refine r_if_eq d_X_need_8 (fun w9 => ?_) (fun w9 => ?_)
  · replace hw := hw.1 (b2i_0.mp w9)
    refine r_ldc d_X_need_22 lc_X_145 ?_
    exact r_ireturn d_X_need_24.1 rfl (hQ _ _ hw)
  · replace hw := hw.2 (fun g9 => w9 (b2i_0.mpr g9))
    refine r_aload_n (j := 0) d_X_need_11 rfl ?_
    obtain ⟨q5, hw⟩ := hw
    refine r_getR d_X_need_12 ok_11 (nle rfl) (nle rfl) rfl lf_X_23 q5 ?_
    refine r_iload_n (j := 1) d_X_need_15 rfl ?_
    obtain ⟨q8, hw⟩ := hw
    refine r_callV (av := [ai v1]) (rest := []) (ci := 1) d_X_need_16 mk_Co_needOf ll_X_154 im_Co_needOf se_Co_needOf rfl (nle rfl) rfl rfl (nle rfl) q8 (s_Co_needOf  hw (fun r7 h6 hw => ?_))
    show aW none m_X_need (d + 1) 19 [(0, ar v0), (1, ai v1)] [ai r7] h6 0 0 QQ
    refine r_goto d_X_need_19 ?_
    exact r_ireturn d_X_need_24.1 rfl (hQ _ _ hw)
set_option maxRecDepth 100000 in
set_option maxHeartbeats 4000000 in
theorem s_X_turn {d : Nat} (hd : 2 ≤ d) {v0 : Nat} {v1 : Int32} {v2 : Int32} {v3 : Int32} {v4 : Int32} {h : Hp} {Q : Int32 → Hp → Prop} {QQ : Option AV → Hp → Prop} (hw : w_X_turn v0 v1 v2 v3 v4 h Q) (hQ : ∀ r9 h9, Q r9 h9 → QQ (some (ai r9)) h9) : aCall m_X_turn d [ar v0, ai v1, ai v2, ai v3, ai v4] h 0 0 QQ := by
  obtain ⟨d, rfl⟩ : ∃ d9, d = d9 + 1 := ⟨d - 1, by omega⟩
  refine aCall_in pl_X_turn (nle rfl) ?_
  show aW none m_X_turn (d + 1) 0 [(0, ar v0), (1, ai v1), (2, ai v2), (3, ai v3), (4, ai v4)] [] h 0 0 QQ
  unfold w_X_turn at hw
  refine r_aload_n (j := 0) d_X_turn_0 rfl ?_
  obtain ⟨q1, hw⟩ := hw
  refine r_getR d_X_turn_1 ok_11 (nle rfl) (nle rfl) rfl lf_X_23 q1 ?_
  refine r_iload_n (j := 1) d_X_turn_4 rfl ?_
  obtain ⟨q4, hw⟩ := hw
  refine r_callV (av := [ai v1]) (rest := []) (ci := 1) d_X_turn_5 mk_Co_get ll_X_161 im_Co_get se_Co_get rfl (nle rfl) rfl rfl (nle rfl) q4 (s_Co_get  hw (fun r3 h2 hw => ?_))
  show aW none m_X_turn (d + 1) 8 [(0, ar v0), (1, ai v1), (2, ai v2), (3, ai v3), (4, ai v4)] [ai r3] h2 0 0 QQ
  refine r_istore (ls2 := [(5, ai r3), (0, ar v0), (1, ai v1), (2, ai v2), (3, ai v3), (4, ai v4)]) d_X_turn_8 (nle rfl) rfl ?_
  refine r_iload_n (j := 3) d_X_turn_10 rfl ?_
  refine r_iload_n (j := 4) d_X_turn_11 rfl ?_
  refine r_icmp_lt d_X_turn_12 (fun w9 => ?_) (fun w9 => ?_)
  · replace hw := hw.1 w9
    refine r_ldc d_X_turn_27 lc_X_145 ?_
    exact r_ireturn d_X_turn_29.1 rfl (hQ _ _ hw)
  · replace hw := hw.2 w9
    refine r_iload_n (j := 3) d_X_turn_15 rfl ?_
    refine r_iload (j := 5) d_X_turn_16 rfl ?_
    refine r_icmp_gt d_X_turn_18 (fun w9 => ?_) (fun w9 => ?_)
    · replace hw := hw.1 w9
      refine r_ldc d_X_turn_27 lc_X_145 ?_
      exact r_ireturn d_X_turn_29.1 rfl (hQ _ _ hw)
    · replace hw := hw.2 w9
      refine r_iload_n (j := 3) d_X_turn_21 rfl ?_
      refine r_iload (j := 0) d_X_turn_22 rfl ?_
      refine r_icmp_ne d_X_turn_24 (fun w9 => ?_) (fun w9 => ?_)
      · replace hw := hw.2 w9
        refine r_aload_n (j := 1) d_X_turn_30 rfl ?_
        obtain ⟨q5, hw⟩ := hw
        refine r_getR d_X_turn_31 ok_11 (nle rfl) (nle rfl) rfl lf_X_23 q5 ?_
        refine r_iload_n (j := 2) d_X_turn_34 rfl ?_
        refine r_iload_n (j := 3) d_X_turn_35 rfl ?_
        obtain ⟨q7, hw⟩ := hw
        refine r_callV (av := [ai v1, ai v2]) (rest := []) (ci := 1) d_X_turn_36 mk_Co_put ll_X_164 im_Co_put se_Co_put rfl (nle rfl) rfl rfl (nle rfl) q7 (s_Co_put  hw (fun h6 hw => ?_))
        show aW none m_X_turn (d + 1) 39 [(5, ai r3), (0, ar v0), (1, ai v1), (2, ai v2), (3, ai v3), (4, ai v4)] [] h6 0 0 QQ
        refine r_aload_n (j := 1) d_X_turn_39 rfl ?_
        obtain ⟨q8, hw⟩ := hw
        refine r_getR d_X_turn_40 ok_11 (nle rfl) (nle rfl) rfl lf_X_46 q8 ?_
        refine r_iload_n (j := 2) d_X_turn_43 rfl ?_
        refine r_iload (j := 0) d_X_turn_44 rfl ?_
        refine r_iload_n (j := 3) d_X_turn_46 rfl ?_
        obtain ⟨q10, hw⟩ := hw
        refine r_callV (av := [ai v1, ai r3, ai v2]) (rest := []) (ci := 0) d_X_turn_47 mk_Ac_keep ll_X_167 im_Ac_keep se_Ac_keep rfl (nle rfl) rfl rfl (nle rfl) q10 (s_Ac_keep (by omega) hw (fun h9 hw => ?_))
        show aW none m_X_turn (d + 1) 50 [(5, ai r3), (0, ar v0), (1, ai v1), (2, ai v2), (3, ai v3), (4, ai v4)] [] h9 0 0 QQ
        refine r_iload (j := 0) d_X_turn_50 rfl ?_
        exact r_ireturn d_X_turn_52.1 rfl (hQ _ _ hw)
      · replace hw := hw.1 w9
        refine r_ldc d_X_turn_27 lc_X_145 ?_
        exact r_ireturn d_X_turn_29.1 rfl (hQ _ _ hw)
set_option maxRecDepth 100000 in
set_option maxHeartbeats 4000000 in
theorem s_X_change {d : Nat} (hd : 3 ≤ d) {v0 : Nat} {v1 : Int32} {v2 : Int32} {v3 : Int32} {h : Hp} {Q : Int32 → Hp → Prop} {QQ : Option AV → Hp → Prop} (hw : w_X_change v0 v1 v2 v3 h Q) (hQ : ∀ r9 h9, Q r9 h9 → QQ (some (ai r9)) h9) : aCall m_X_change d [ar v0, ai v1, ai v2, ai v3] h 0 0 QQ := by
  obtain ⟨d, rfl⟩ : ∃ d9, d = d9 + 1 := ⟨d - 1, by omega⟩
  refine aCall_in pl_X_change (nle rfl) ?_
  show aW none m_X_change (d + 1) 0 [(0, ar v0), (1, ai v1), (2, ai v2), (3, ai v3)] [] h 0 0 QQ
  unfold w_X_change at hw
  refine r_aload_n (j := 0) d_X_change_0 rfl ?_
  obtain ⟨q1, hw⟩ := hw
  refine r_getR d_X_change_1 ok_11 (nle rfl) (nle rfl) rfl lf_X_23 q1 ?_
  refine r_iload_n (j := 1) d_X_change_4 rfl ?_
  obtain ⟨q4, hw⟩ := hw
  refine r_callV (av := [ai v1]) (rest := []) (ci := 1) d_X_change_5 mk_Co_hasColumn ll_X_138 im_Co_hasColumn se_Co_hasColumn rfl (nle rfl) rfl rfl (nle rfl) q4 (s_Co_hasColumn  hw (fun r3 h2 hw => ?_))
  show aW none m_X_change (d + 1) 8 [(0, ar v0), (1, ai v1), (2, ai v2), (3, ai v3)] [ai (b2i r3)] h2 0 0 QQ
  refine r_if_eq d_X_change_8 (fun w9 => ?_) (fun w9 => ?_)
  · replace hw := hw.1 (b2i_0.mp w9)
    refine r_ldc d_X_change_22 lc_X_145 ?_
    exact r_ireturn d_X_change_24.1 rfl (hQ _ _ hw)
  · replace hw := hw.2 (fun g9 => w9 (b2i_0.mpr g9))
    refine r_aload_n (j := 0) d_X_change_11 rfl ?_
    obtain ⟨q5, hw⟩ := hw
    refine r_getR d_X_change_12 ok_11 (nle rfl) (nle rfl) rfl lf_X_23 q5 ?_
    refine r_iload_n (j := 2) d_X_change_15 rfl ?_
    obtain ⟨q8, hw⟩ := hw
    refine r_callV (av := [ai v2]) (rest := []) (ci := 1) d_X_change_16 mk_Co_hasRow ll_X_142 im_Co_hasRow se_Co_hasRow rfl (nle rfl) rfl rfl (nle rfl) q8 (s_Co_hasRow  hw (fun r7 h6 hw => ?_))
    show aW none m_X_change (d + 1) 19 [(0, ar v0), (1, ai v1), (2, ai v2), (3, ai v3)] [ai (b2i r7)] h6 0 0 QQ
    refine r_if_ne d_X_change_19 (fun w9 => ?_) (fun w9 => ?_)
    · replace hw := hw.2 (fun g9 => w9 (b2i_0.mpr g9))
      refine r_aload_n (j := 0) d_X_change_25 rfl ?_
      refine r_iload_n (j := 1) d_X_change_26 rfl ?_
      refine r_iconst d_X_change_27 kc_3 ?_
      refine r_imul d_X_change_28 ?_
      refine r_iload_n (j := 2) d_X_change_29 rfl ?_
      refine r_iadd d_X_change_30 ?_
      refine r_iload_n (j := 3) d_X_change_31 rfl ?_
      refine r_bipush d_X_change_32 kb_m5 ?_
      refine r_iconst d_X_change_34 kc_5 ?_
      obtain ⟨q11, hw⟩ := hw
      refine r_callV (av := [ai ((v1 * (3 : Int32)) + v2), ai v3, ai (-5 : Int32), ai (5 : Int32)]) (rest := []) (ci := 11) d_X_change_35 mk_X_turn ll_X_157 im_X_turn se_X_turn rfl (nle rfl) rfl rfl (nle rfl) q11 (s_X_turn (by omega) hw (fun r10 h9 hw => ?_))
      show aW none m_X_change (d + 1) 38 [(0, ar v0), (1, ai v1), (2, ai v2), (3, ai v3)] [ai r10] h9 0 0 QQ
      exact r_ireturn d_X_change_38.1 rfl (hQ _ _ hw)
    · replace hw := hw.1 (b2i_0.mp w9)
      refine r_ldc d_X_change_22 lc_X_145 ?_
      exact r_ireturn d_X_change_24.1 rfl (hQ _ _ hw)
set_option maxRecDepth 100000 in
set_option maxHeartbeats 4000000 in
theorem s_X_worth {d : Nat} (hd : 3 ≤ d) {v0 : Nat} {v1 : Int32} {v2 : Int32} {h : Hp} {Q : Int32 → Hp → Prop} {QQ : Option AV → Hp → Prop} (hw : w_X_worth v0 v1 v2 h Q) (hQ : ∀ r9 h9, Q r9 h9 → QQ (some (ai r9)) h9) : aCall m_X_worth d [ar v0, ai v1, ai v2] h 0 0 QQ := by
  obtain ⟨d, rfl⟩ : ∃ d9, d = d9 + 1 := ⟨d - 1, by omega⟩
  refine aCall_in pl_X_worth (nle rfl) ?_
  show aW none m_X_worth (d + 1) 0 [(0, ar v0), (1, ai v1), (2, ai v2)] [] h 0 0 QQ
  unfold w_X_worth at hw
  refine r_aload_n (j := 0) d_X_worth_0 rfl ?_
  obtain ⟨q1, hw⟩ := hw
  refine r_getR d_X_worth_1 ok_11 (nle rfl) (nle rfl) rfl lf_X_23 q1 ?_
  refine r_iload_n (j := 1) d_X_worth_4 rfl ?_
  obtain ⟨q4, hw⟩ := hw
  refine r_callV (av := [ai v1]) (rest := []) (ci := 1) d_X_worth_5 mk_Co_hasColumn ll_X_138 im_Co_hasColumn se_Co_hasColumn rfl (nle rfl) rfl rfl (nle rfl) q4 (s_Co_hasColumn  hw (fun r3 h2 hw => ?_))
  show aW none m_X_worth (d + 1) 8 [(0, ar v0), (1, ai v1), (2, ai v2)] [ai (b2i r3)] h2 0 0 QQ
  refine r_if_ne d_X_worth_8 (fun w9 => ?_) (fun w9 => ?_)
  · replace hw := hw.2 (fun g9 => w9 (b2i_0.mpr g9))
    refine r_aload_n (j := 0) d_X_worth_14 rfl ?_
    refine r_bipush d_X_worth_15 kb_24 ?_
    refine r_iload_n (j := 1) d_X_worth_17 rfl ?_
    refine r_iadd d_X_worth_18 ?_
    refine r_iload_n (j := 2) d_X_worth_19 rfl ?_
    refine r_bipush d_X_worth_20 kb_m99 ?_
    refine r_bipush d_X_worth_22 kb_99 ?_
    obtain ⟨q7, hw⟩ := hw
    refine r_callV (av := [ai ((24 : Int32) + v1), ai v2, ai (-99 : Int32), ai (99 : Int32)]) (rest := []) (ci := 11) d_X_worth_24 mk_X_turn ll_X_157 im_X_turn se_X_turn rfl (nle rfl) rfl rfl (nle rfl) q7 (s_X_turn (by omega) hw (fun r6 h5 hw => ?_))
    show aW none m_X_worth (d + 1) 27 [(0, ar v0), (1, ai v1), (2, ai v2)] [ai r6] h5 0 0 QQ
    exact r_ireturn d_X_worth_27.1 rfl (hQ _ _ hw)
  · replace hw := hw.1 (b2i_0.mp w9)
    refine r_ldc d_X_worth_11 lc_X_145 ?_
    exact r_ireturn d_X_worth_13.1 rfl (hQ _ _ hw)
