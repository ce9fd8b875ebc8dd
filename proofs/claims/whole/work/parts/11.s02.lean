set_option maxRecDepth 100000 in
set_option maxHeartbeats 4000000 in
theorem s_Cr_takeIfBetter {d : Nat} (hd : 2 ≤ d) {v0 : Nat} {v1 : Int32} {h : Hp} {Q : Hp → Prop} {QQ : Option AV → Hp → Prop} (hw : w_Cr_takeIfBetter v0 v1 h Q) (hQ : ∀ h9, Q h9 → QQ none h9) : aCall m_Cr_takeIfBetter d [ar v0, ai v1] h 0 0 QQ := by
  obtain ⟨d, rfl⟩ : ∃ d9, d = d9 + 1 := ⟨d - 1, by omega⟩
  refine aCall_in pl_Cr_takeIfBetter (nle rfl) ?_
  show aW none m_Cr_takeIfBetter (d + 1) 0 [(0, ar v0), (1, ai v1)] [] h 0 0 QQ
  unfold w_Cr_takeIfBetter at hw
  refine r_aload_n (j := 0) d_Cr_takeIfBetter_0 rfl ?_
  obtain ⟨q3, hw⟩ := hw
  refine r_callV (av := []) (rest := []) (ci := 2) d_Cr_takeIfBetter_1 mk_Cr_solvedGain ll_Cr_60 im_Cr_solvedGain se_Cr_solvedGain rfl (nle rfl) rfl rfl (nle rfl) q3 (s_Cr_solvedGain (by omega) hw (fun r2 h1 hw => ?_))
  show aW none m_Cr_takeIfBetter (d + 1) 4 [(0, ar v0), (1, ai v1)] [al r2] h1 0 0 QQ
  refine r_lstore_n (ls2 := [(2, al r2), (0, ar v0), (1, ai v1)]) d_Cr_takeIfBetter_4 (nle rfl) rfl ?_
  refine r_aload_n (j := 1) d_Cr_takeIfBetter_5 rfl ?_
  obtain ⟨q4, hw⟩ := hw
  refine r_getI d_Cr_takeIfBetter_6 ok_2 (nle rfl) (nle rfl) rfl lf_Cr_30 q4 ?_
  refine r_iconst d_Cr_takeIfBetter_9 kc_1 ?_
  refine r_icmp_le d_Cr_takeIfBetter_10 (fun w9 => ?_) (fun w9 => ?_)
  · replace hw := hw.1 w9
    refine r_pick (ls2 := [(0, ar v0), (1, ai v1), (2, al r2)]) [1, 2, 0] rfl ?_
    exact s_Cr_takeIfBetter_B33 hd hQ  hw
  · replace hw := hw.2 w9
    refine r_lload_n (j := 0) d_Cr_takeIfBetter_13 rfl ?_
    refine r_aload_n (j := 1) d_Cr_takeIfBetter_14 rfl ?_
    refine r_getL d_Cr_takeIfBetter_15 ok_2 (nle rfl) (nle rfl) rfl lf_Cr_22 q4 ?_
    refine r_lmul d_Cr_takeIfBetter_18 ?_
    refine r_aload_n (j := 1) d_Cr_takeIfBetter_19 rfl ?_
    refine r_getL d_Cr_takeIfBetter_20 ok_2 (nle rfl) (nle rfl) rfl lf_Cr_64 q4 ?_
    refine r_aload_n (j := 1) d_Cr_takeIfBetter_23 rfl ?_
    refine r_getL d_Cr_takeIfBetter_24 ok_2 (nle rfl) (nle rfl) rfl lf_Cr_67 q4 ?_
    refine r_lmul d_Cr_takeIfBetter_27 ?_
    refine r_lcmp d_Cr_takeIfBetter_28 ?_
    refine r_if_gt d_Cr_takeIfBetter_29 (fun w9 => ?_) (fun w9 => ?_)
    · replace hw := hw.1 ((lg_cmp_gt _ _).mp w9)
      refine r_pick (ls2 := [(0, ar v0), (1, ai v1), (2, al r2)]) [1, 2, 0] rfl ?_
      exact s_Cr_takeIfBetter_B33 hd hQ  hw
    · replace hw := hw.2 (fun g9 => w9 ((lg_cmp_gt _ _).mpr g9))
      exact r_return d_Cr_takeIfBetter_32.1 rfl (hQ _ hw)
set_option maxRecDepth 100000 in
set_option maxHeartbeats 4000000 in
theorem s_Cr_find_L95 {d : Nat} (hd : 3 ≤ d + 1) {Q : Hp → Prop} {QQ : Option AV → Hp → Prop} (hQ : ∀ h9, Q h9 → QQ none h9) {v0 : Nat} : ∀ (n : Nat) (v1 : Int32) (h : Hp), w_Cr_find_L95 Q  v0 n v1 h → aW none m_Cr_find (d + 1) 95 [(0, ar v0), (1, ai v1)] [] h 0 0 QQ := by
  intro n
  induction n with
  | zero => intro v1 h hw; exact hw.elim
  | succ n ih =>
    intro v1 h hw
    unfold w_Cr_find_L95 at hw
    refine r_iload_n (j := 1) d_Cr_find_95 rfl ?_
    refine r_iconst d_Cr_find_96 kc_1 ?_
    refine r_aload_n (j := 0) d_Cr_find_97 rfl ?_
    obtain ⟨q6, hw⟩ := hw
    refine r_getR d_Cr_find_98 ok_2 (nle rfl) (nle rfl) rfl lf_Cr_26 q6 ?_
    obtain ⟨q7, hw⟩ := hw
    refine r_getI d_Cr_find_101 ok_1 (nle rfl) (nle rfl) rfl lf_Cr_49 q7 ?_
    refine r_ishl d_Cr_find_104 ?_
    refine r_icmp_ge d_Cr_find_105 (fun w9 => ?_) (fun w9 => ?_)
    · replace hw := hw.1 w9
      exact r_return d_Cr_find_155.1 rfl (hQ _ hw)
    · replace hw := hw.2 w9
      refine r_aload_n (j := 0) d_Cr_find_108 rfl ?_
      refine r_getI d_Cr_find_109 ok_2 (nle rfl) (nle rfl) rfl lf_Cr_30 q6 ?_
      refine r_if_le d_Cr_find_112 (fun w9 => ?_) (fun w9 => ?_)
      · replace hw := hw.1 w9
        exact r_return d_Cr_find_155.1 rfl (hQ _ hw)
      · replace hw := hw.2 w9
        refine r_aload_n (j := 0) d_Cr_find_115 rfl ?_
        refine r_getI d_Cr_find_116 ok_2 (nle rfl) (nle rfl) rfl lf_Cr_34 q6 ?_
        refine r_if_ne d_Cr_find_119 (fun w9 => ?_) (fun w9 => ?_)
        · replace hw := hw.2 w9
          exact r_return d_Cr_find_155.1 rfl (hQ _ hw)
        · replace hw := hw.1 w9
          refine r_aload_n (j := 0) d_Cr_find_122 rfl ?_
          refine r_aload_n (j := 0) d_Cr_find_123 rfl ?_
          refine r_iload_n (j := 1) d_Cr_find_124 rfl ?_
          refine r_iconst d_Cr_find_125 kc_4 ?_
          refine r_callV (av := [ai v1, ai (4 : Int32)]) (rest := [ar v0]) (ci := 2) d_Cr_find_126 mk_Cr_solve ll_Cr_52 im_Cr_solve se_Cr_solve rfl (nle rfl) rfl rfl (nle rfl) q6 (s_Cr_solve (by omega) hw (fun r9 h8 hw => ?_))
          show aW none m_Cr_find (d + 1) 129 [(0, ar v0), (1, ai v1)] [ai (b2i r9), ar v0] h8 0 0 QQ
          refine r_if_eq d_Cr_find_129 (fun w9 => ?_) (fun w9 => ?_)
          · replace hw := hw.1 (b2i_0.mp w9)
            refine r_iconst d_Cr_find_145 kc_0 ?_
            obtain ⟨q10, hw⟩ := hw
            refine r_putZ d_Cr_find_146 ok_2 (nle rfl) (nle rfl) rfl lf_Cr_34 rfl q10 (Or.inl rfl) ?_
            refine r_iinc (j := 1) (ls2 := [(1, ai (v1 + (1 : Int32))), (0, ar v0)]) d_Cr_find_149 rfl (congrArg (HAdd.hAdd v1) kc_1) (nle rfl) rfl ?_
            refine r_goto d_Cr_find_152 ?_
            refine r_pick (ls2 := [(0, ar v0), (1, ai (v1 + (1 : Int32)))]) [1, 0] rfl ?_
            exact ih _ _ hw
          · replace hw := hw.2 (fun g9 => w9 (b2i_0.mpr g9))
            refine r_aload_n (j := 0) d_Cr_find_132 rfl ?_
            obtain ⟨q13, hw⟩ := hw
            refine r_callV (av := []) (rest := [ar v0]) (ci := 2) d_Cr_find_133 mk_Cr_solvedGain ll_Cr_60 im_Cr_solvedGain se_Cr_solvedGain rfl (nle rfl) rfl rfl (nle rfl) q13 (s_Cr_solvedGain (by omega) hw (fun r12 h11 hw => ?_))
            show aW none m_Cr_find (d + 1) 136 [(0, ar v0), (1, ai v1)] [al r12, ar v0] h11 0 0 QQ
            refine r_lconst d_Cr_find_136 kl_0 ?_
            refine r_lcmp d_Cr_find_137 ?_
            refine r_if_le d_Cr_find_138 (fun w9 => ?_) (fun w9 => ?_)
            · replace hw := hw.1 ((lg_cmp_le _ _).mp w9)
              refine r_iconst d_Cr_find_145 kc_0 ?_
              obtain ⟨q14, hw⟩ := hw
              refine r_putZ d_Cr_find_146 ok_2 (nle rfl) (nle rfl) rfl lf_Cr_34 rfl q14 (Or.inl rfl) ?_
              refine r_iinc (j := 1) (ls2 := [(1, ai (v1 + (1 : Int32))), (0, ar v0)]) d_Cr_find_149 rfl (congrArg (HAdd.hAdd v1) kc_1) (nle rfl) rfl ?_
              refine r_goto d_Cr_find_152 ?_
              refine r_pick (ls2 := [(0, ar v0), (1, ai (v1 + (1 : Int32)))]) [1, 0] rfl ?_
              exact ih _ _ hw
            · replace hw := hw.2 (fun g9 => w9 ((lg_cmp_le _ _).mpr g9))
              refine r_iconst d_Cr_find_141 kc_1 ?_
              refine r_goto d_Cr_find_142 ?_
              obtain ⟨q15, hw⟩ := hw
              refine r_putZ d_Cr_find_146 ok_2 (nle rfl) (nle rfl) rfl lf_Cr_34 rfl q15 (Or.inr rfl) ?_
              refine r_iinc (j := 1) (ls2 := [(1, ai (v1 + (1 : Int32))), (0, ar v0)]) d_Cr_find_149 rfl (congrArg (HAdd.hAdd v1) kc_1) (nle rfl) rfl ?_
              refine r_goto d_Cr_find_152 ?_
              refine r_pick (ls2 := [(0, ar v0), (1, ai (v1 + (1 : Int32)))]) [1, 0] rfl ?_
              exact ih _ _ hw
set_option maxRecDepth 100000 in
set_option maxHeartbeats 4000000 in
theorem s_Cr_find_L50 {d : Nat} (hd : 3 ≤ d + 1) {Q : Hp → Prop} {QQ : Option AV → Hp → Prop} (hQ : ∀ h9, Q h9 → QQ none h9) {v0 : Nat} : ∀ (n : Nat) (v1 : Int32) (h : Hp), w_Cr_find_L50 Q  v0 n v1 h → aW none m_Cr_find (d + 1) 50 [(0, ar v0), (1, ai v1)] [] h 0 0 QQ := by
  intro n
  induction n with
  | zero => intro v1 h hw; exact hw.elim
  | succ n ih =>
    intro v1 h hw
    unfold w_Cr_find_L50 at hw
    refine r_iload_n (j := 1) d_Cr_find_50 rfl ?_
    refine r_iconst d_Cr_find_51 kc_1 ?_
    refine r_aload_n (j := 0) d_Cr_find_52 rfl ?_
    obtain ⟨q4, hw⟩ := hw
    refine r_getR d_Cr_find_53 ok_2 (nle rfl) (nle rfl) rfl lf_Cr_26 q4 ?_
    obtain ⟨q5, hw⟩ := hw
    refine r_getI d_Cr_find_56 ok_1 (nle rfl) (nle rfl) rfl lf_Cr_49 q5 ?_
    refine r_ishl d_Cr_find_59 ?_
    refine r_icmp_ge d_Cr_find_60 (fun w9 => ?_) (fun w9 => ?_)
    · replace hw := hw.1 w9
      refine r_iconst d_Cr_find_93 kc_1 ?_
      refine r_istore_n (ls2 := [(1, ai (1 : Int32)), (0, ar v0)]) d_Cr_find_94 (nle rfl) rfl ?_
      obtain ⟨n16, hw⟩ := hw
      refine r_pick (ls2 := [(0, ar v0), (1, ai (1 : Int32))]) [1, 0] rfl ?_
      exact s_Cr_find_L95 hd hQ  n16 _ _ hw
    · replace hw := hw.2 w9
      refine r_aload_n (j := 0) d_Cr_find_63 rfl ?_
      refine r_iload_n (j := 1) d_Cr_find_64 rfl ?_
      refine r_iconst d_Cr_find_65 kc_3 ?_
      refine r_callV (av := [ai v1, ai (3 : Int32)]) (rest := []) (ci := 2) d_Cr_find_66 mk_Cr_solve ll_Cr_52 im_Cr_solve se_Cr_solve rfl (nle rfl) rfl rfl (nle rfl) q4 (s_Cr_solve (by omega) hw (fun r18 h17 hw => ?_))
      show aW none m_Cr_find (d + 1) 69 [(0, ar v0), (1, ai v1)] [ai (b2i r18)] h17 0 0 QQ
      refine r_if_eq d_Cr_find_69 (fun w9 => ?_) (fun w9 => ?_)
      · replace hw := hw.1 (b2i_0.mp w9)
        refine r_iinc (j := 1) (ls2 := [(1, ai (v1 + (1 : Int32))), (0, ar v0)]) d_Cr_find_87 rfl (congrArg (HAdd.hAdd v1) kc_1) (nle rfl) rfl ?_
        refine r_goto d_Cr_find_90 ?_
        refine r_pick (ls2 := [(0, ar v0), (1, ai (v1 + (1 : Int32)))]) [1, 0] rfl ?_
        exact ih _ _ hw
      · replace hw := hw.2 (fun g9 => w9 (b2i_0.mpr g9))
        refine r_aload_n (j := 0) d_Cr_find_72 rfl ?_
        refine r_dup d_Cr_find_73 rfl ?_
        obtain ⟨q19, hw⟩ := hw
        refine r_getI d_Cr_find_74 ok_2 (nle rfl) (nle rfl) rfl lf_Cr_30 q19 ?_
        refine r_iconst d_Cr_find_77 kc_1 ?_
        refine r_iadd d_Cr_find_78 ?_
        refine r_putI d_Cr_find_79 ok_2 (nle rfl) (nle rfl) rfl lf_Cr_30 rfl q19 ?_
        refine r_aload_n (j := 0) d_Cr_find_82 rfl ?_
        refine r_iload_n (j := 1) d_Cr_find_83 rfl ?_
        refine r_callV (av := [ai v1]) (rest := []) (ci := 2) d_Cr_find_84 mk_Cr_takeIfBetter ll_Cr_56 im_Cr_takeIfBetter se_Cr_takeIfBetter rfl (nle rfl) rfl rfl (nle rfl) (kt eKI q19) (s_Cr_takeIfBetter (by omega) hw (fun h20 hw => ?_))
        show aW none m_Cr_find (d + 1) 87 [(0, ar v0), (1, ai v1)] [] h20 0 0 QQ
        refine r_iinc (j := 1) (ls2 := [(1, ai (v1 + (1 : Int32))), (0, ar v0)]) d_Cr_find_87 rfl (congrArg (HAdd.hAdd v1) kc_1) (nle rfl) rfl ?_
        refine r_goto d_Cr_find_90 ?_
        refine r_pick (ls2 := [(0, ar v0), (1, ai (v1 + (1 : Int32)))]) [1, 0] rfl ?_
        exact ih _ _ hw
set_option maxRecDepth 100000 in
set_option maxHeartbeats 4000000 in
theorem s_Cr_find_B22 {d : Nat} (hd : 3 ≤ d + 1) {Q : Hp → Prop} {QQ : Option AV → Hp → Prop} (hQ : ∀ h9, Q h9 → QQ none h9) {v0 : Nat} {h : Hp} (hw : w_Cr_find_B22 Q  v0 h) : aW none m_Cr_find (d + 1) 22 [(0, ar v0)] [] h 0 0 QQ := by
  unfold w_Cr_find_B22 at hw
  refine r_aload_n (j := 0) d_Cr_find_22 rfl ?_
  refine r_iconst d_Cr_find_23 kc_1 ?_
  obtain ⟨q2, hw⟩ := hw
  refine r_putZ d_Cr_find_24 ok_2 (nle rfl) (nle rfl) rfl lf_Cr_38 rfl q2 (Or.inr rfl) ?_
  refine r_aload_n (j := 0) d_Cr_find_27 rfl ?_
  refine r_aload_n (j := 0) d_Cr_find_28 rfl ?_
  refine r_getRb eRI d_Cr_find_29 ok_2 (nle rfl) (nle rfl) rfl lf_Cr_26 (kt eKI q2) ?_
  obtain ⟨q3, hw⟩ := hw
  refine r_getI d_Cr_find_32 ok_1 (nle rfl) (nle rfl) rfl lf_Cr_44 (kt eKI q3) ?_
  refine r_putI d_Cr_find_35 ok_2 (nle rfl) (nle rfl) rfl lf_Cr_41 rfl (kt eKI q2) ?_
  refine r_aload_n (j := 0) d_Cr_find_38 rfl ?_
  refine r_iconst d_Cr_find_39 kc_0 ?_
  refine r_putI d_Cr_find_40 ok_2 (nle rfl) (nle rfl) rfl lf_Cr_30 rfl (kt (eKI.trans eKI) q2) ?_
  refine r_aload_n (j := 0) d_Cr_find_43 rfl ?_
  refine r_iconst d_Cr_find_44 kc_0 ?_
  refine r_putZ d_Cr_find_45 ok_2 (nle rfl) (nle rfl) rfl lf_Cr_34 rfl (kt (eKI.trans (eKI.trans eKI)) q2) (Or.inl rfl) ?_
  refine r_iconst d_Cr_find_48 kc_0 ?_
  refine r_istore_n (ls2 := [(1, ai (0 : Int32)), (0, ar v0)]) d_Cr_find_49 (nle rfl) rfl ?_
  obtain ⟨n21, hw⟩ := hw
  refine r_pick (ls2 := [(0, ar v0), (1, ai (0 : Int32))]) [1, 0] rfl ?_
  exact s_Cr_find_L50 hd hQ  n21 _ _ hw
set_option maxRecDepth 100000 in
set_option maxHeartbeats 4000000 in
theorem s_Cr_find {d : Nat} (hd : 3 ≤ d) {v0 : Nat} {h : Hp} {Q : Hp → Prop} {QQ : Option AV → Hp → Prop} (hw : w_Cr_find v0 h Q) (hQ : ∀ h9, Q h9 → QQ none h9) : aCall m_Cr_find d [ar v0] h 0 0 QQ := by
  obtain ⟨d, rfl⟩ : ∃ d9, d = d9 + 1 := ⟨d - 1, by omega⟩
  refine aCall_in pl_Cr_find (nle rfl) ?_
  show aW none m_Cr_find (d + 1) 0 [(0, ar v0)] [] h 0 0 QQ
  unfold w_Cr_find at hw
  refine r_aload_n (j := 0) d_Cr_find_0 rfl ?_
  obtain ⟨q1, hw⟩ := hw
  refine r_getI d_Cr_find_1 ok_2 (nle rfl) (nle rfl) rfl lf_Cr_38 q1 ?_
  refine r_if_eq d_Cr_find_4 (fun w9 => ?_) (fun w9 => ?_)
  · replace hw := hw.1 w9
    exact s_Cr_find_B22 hd hQ  hw
  · replace hw := hw.2 w9
    refine r_aload_n (j := 0) d_Cr_find_7 rfl ?_
    refine r_getI d_Cr_find_8 ok_2 (nle rfl) (nle rfl) rfl lf_Cr_41 q1 ?_
    refine r_aload_n (j := 0) d_Cr_find_11 rfl ?_
    refine r_getR d_Cr_find_12 ok_2 (nle rfl) (nle rfl) rfl lf_Cr_26 q1 ?_
    obtain ⟨q22, hw⟩ := hw
    refine r_getI d_Cr_find_15 ok_1 (nle rfl) (nle rfl) rfl lf_Cr_44 q22 ?_
    refine r_icmp_ne d_Cr_find_18 (fun w9 => ?_) (fun w9 => ?_)
    · replace hw := hw.2 w9
      exact s_Cr_find_B22 hd hQ  hw
    · replace hw := hw.1 w9
      exact r_return d_Cr_find_21.1 rfl (hQ _ hw)
set_option maxRecDepth 100000 in
set_option maxHeartbeats 4000000 in
theorem s_Db_init {d : Nat} (hd : 1 ≤ d) {v0 : Nat} {v1 : Nat} {bc bs : Nat} {h : Hp} {Q : Hp → Prop} {QQ : Option AV → Hp → Prop} (hw : w_Db_init bc bs v0 v1 h Q) (hQ : ∀ h9, Q h9 → QQ none h9) : aCall m_Db_init d [ar v0, ar v1] h bc bs QQ := by
  obtain ⟨d, rfl⟩ : ∃ d9, d = d9 + 1 := ⟨d - 1, by omega⟩
  refine aCall_in pl_Db_init (nle rfl) ?_
  show aW none m_Db_init (d + 1) 0 [(0, ar v0), (1, ar v1)] [] h bc bs QQ
  unfold w_Db_init at hw
  refine r_aload_n (j := 0) d_Db_init_0 rfl ?_
  obtain ⟨q1, hw⟩ := hw
  refine r_objInit d_Db_init_1 ll_Db_5 oi_1 oi_2 (nle rfl) q1 ?_
  refine r_aload_n (j := 0) d_Db_init_4 rfl ?_
  refine r_iconst d_Db_init_5 kc_5 ?_
  obtain ⟨q2, hw⟩ := hw
  obtain ⟨q3, hw⟩ := hw
  obtain ⟨b4, t5, u8, u9, u6, u7, hw⟩ := hw
  subst u8 u9
  refine r_newI d_Db_init_6 ac_I u6 rfl u7 (refB_r q2 refB_n) (refL_r q2 (refL_r q3 refL_n)) ?_
  generalize e8 : nw h 20 (ix (5 : Int32)) = h6
  generalize e7 : gX h = a7
  replace hw := hw a7 h6 e7.symm e8.symm
  obtain ⟨q8, hw⟩ := hw
  obtain ⟨q9, hw⟩ := hw
  refine r_putFR d_Db_init_8 ok_3 (nle rfl) (nle rfl) rfl lf_Db_11 rfl rfl rfl q8 q9 ?_
  refine r_aload_n (j := 0) d_Db_init_11 rfl ?_
  refine r_iconst d_Db_init_12 kc_3 ?_
  obtain ⟨q10, hw⟩ := hw
  obtain ⟨q11, hw⟩ := hw
  obtain ⟨b12, t13, u8, u9, u6, u7, hw⟩ := hw
  subst u8 u9
  refine r_newI d_Db_init_13 ac_I u6 rfl u7 (refB_r (xt eXR q10) refB_n) (refL_r (xt eXR q10) (refL_r (xt eXR q11) refL_n)) ?_
  generalize e8 : nw (sR h6 v0 1 a7) 20 (ix (3 : Int32)) = h14
  generalize e7 : gX (sR h6 v0 1 a7) = a15
  replace hw := hw a15 h14 e7.symm e8.symm
  obtain ⟨q16, hw⟩ := hw
  obtain ⟨q17, hw⟩ := hw
  refine r_putFR d_Db_init_15 ok_3 (nle rfl) (nle rfl) rfl lf_Db_15 rfl rfl rfl q16 q17 ?_
  refine r_aload_n (j := 0) d_Db_init_18 rfl ?_
  refine r_iconst d_Db_init_19 kc_3 ?_
  obtain ⟨q18, hw⟩ := hw
  obtain ⟨q19, hw⟩ := hw
  obtain ⟨b20, t21, u8, u9, u6, u7, hw⟩ := hw
  subst u8 u9
  refine r_newI d_Db_init_20 ac_I u6 rfl u7 (refB_r (xt eXR q18) refB_n) (refL_r (xt eXR q18) (refL_r (xt eXR q19) refL_n)) ?_
  generalize e8 : nw (sR h14 v0 2 a15) 20 (ix (3 : Int32)) = h22
  generalize e7 : gX (sR h14 v0 2 a15) = a23
  replace hw := hw a23 h22 e7.symm e8.symm
  obtain ⟨q24, hw⟩ := hw
  obtain ⟨q25, hw⟩ := hw
  refine r_putFR d_Db_init_22 ok_3 (nle rfl) (nle rfl) rfl lf_Db_18 rfl rfl rfl q24 q25 ?_
  refine r_aload_n (j := 0) d_Db_init_25 rfl ?_
  refine r_sipush d_Db_init_26 ks_343 ?_
  obtain ⟨q26, hw⟩ := hw
  obtain ⟨q27, hw⟩ := hw
  obtain ⟨b28, t29, u8, u9, u6, u7, hw⟩ := hw
  subst u8 u9
  refine r_newI d_Db_init_29 ac_I u6 rfl u7 (refB_r (xt eXR q26) refB_n) (refL_r (xt eXR q26) (refL_r (xt eXR q27) refL_n)) ?_
  generalize e8 : nw (sR h22 v0 3 a23) 20 (ix (343 : Int32)) = h30
  generalize e7 : gX (sR h22 v0 3 a23) = a31
  replace hw := hw a31 h30 e7.symm e8.symm
  obtain ⟨q32, hw⟩ := hw
  obtain ⟨q33, hw⟩ := hw
  refine r_putFR d_Db_init_31 ok_3 (nle rfl) (nle rfl) rfl lf_Db_21 rfl rfl rfl q32 q33 ?_
  refine r_aload_n (j := 0) d_Db_init_34 rfl ?_
  refine r_sipush d_Db_init_35 ks_2058 ?_
  obtain ⟨q34, hw⟩ := hw
  obtain ⟨q35, hw⟩ := hw
  obtain ⟨b36, t37, u8, u9, u6, u7, hw⟩ := hw
  subst u8 u9
  refine r_newI d_Db_init_38 ac_I u6 rfl u7 (refB_r (xt eXR q34) refB_n) (refL_r (xt eXR q34) (refL_r (xt eXR q35) refL_n)) ?_
  generalize e8 : nw (sR h30 v0 4 a31) 20 (ix (2058 : Int32)) = h38
  generalize e7 : gX (sR h30 v0 4 a31) = a39
  replace hw := hw a39 h38 e7.symm e8.symm
  obtain ⟨q40, hw⟩ := hw
  obtain ⟨q41, hw⟩ := hw
  refine r_putFR d_Db_init_40 ok_3 (nle rfl) (nle rfl) rfl lf_Db_24 rfl rfl rfl q40 q41 ?_
  refine r_aload_n (j := 0) d_Db_init_43 rfl ?_
  refine r_aload_n (j := 1) d_Db_init_44 rfl ?_
  obtain ⟨q42, hw⟩ := hw
  refine r_putFR d_Db_init_45 ok_3 (nle rfl) (nle rfl) rfl lf_Db_27 rfl rfl rfl (kt eKR q40) (xt eXR q42) ?_
  exact r_return d_Db_init_48.1 rfl (hQ _ hw)
set_option maxRecDepth 100000 in
set_option maxHeartbeats 4000000 in
theorem s_Db_sizeOf {d : Nat} {v0 : Nat} {v1 : Int32} {h : Hp} {Q : Int32 → Hp → Prop} {QQ : Option AV → Hp → Prop} (hw : w_Db_sizeOf v0 v1 h Q) (hQ : ∀ r9 h9, Q r9 h9 → QQ (some (ai r9)) h9) : aCall m_Db_sizeOf d [ar v0, ai v1] h 0 0 QQ := by
  refine aCall_in pl_Db_sizeOf (nle rfl) ?_
  show aW none m_Db_sizeOf d 0 [(0, ar v0), (1, ai v1)] [] h 0 0 QQ
  unfold w_Db_sizeOf at hw
  refine r_aload_n (j := 0) d_Db_sizeOf_0 rfl ?_
  obtain ⟨q1, hw⟩ := hw
  refine r_getR d_Db_sizeOf_1 ok_3 (nle rfl) (nle rfl) rfl lf_Db_11 q1 ?_
  refine r_iload_n (j := 1) d_Db_sizeOf_4 rfl ?_
  obtain ⟨q2, hw⟩ := hw
  obtain ⟨q3, hw⟩ := hw
  refine r_iald d_Db_sizeOf_5 q2 q3 ?_
  exact r_ireturn d_Db_sizeOf_6.1 rfl (hQ _ _ hw)
set_option maxRecDepth 100000 in
set_option maxHeartbeats 4000000 in
theorem s_Db_offsetOf {d : Nat} {v0 : Nat} {v1 : Int32} {v2 : Int32} {v3 : Int32} {h : Hp} {Q : Int32 → Hp → Prop} {QQ : Option AV → Hp → Prop} (hw : w_Db_offsetOf v0 v1 v2 v3 h Q) (hQ : ∀ r9 h9, Q r9 h9 → QQ (some (ai r9)) h9) : aCall m_Db_offsetOf d [ar v0, ai v1, ai v2, ai v3] h 0 0 QQ := by
  refine aCall_in pl_Db_offsetOf (nle rfl) ?_
  show aW none m_Db_offsetOf d 0 [(0, ar v0), (1, ai v1), (2, ai v2), (3, ai v3)] [] h 0 0 QQ
  unfold w_Db_offsetOf at hw
  refine r_iload_n (j := 1) d_Db_offsetOf_0 rfl ?_
  refine r_aload_n (j := 0) d_Db_offsetOf_1 rfl ?_
  obtain ⟨q1, hw⟩ := hw
  refine r_getR d_Db_offsetOf_2 ok_3 (nle rfl) (nle rfl) rfl lf_Db_15 q1 ?_
  refine r_iconst d_Db_offsetOf_5 kc_0 ?_
  obtain ⟨q2, hw⟩ := hw
  obtain ⟨q3, hw⟩ := hw
  refine r_iald d_Db_offsetOf_6 q2 q3 ?_
  refine r_icmp_lt d_Db_offsetOf_7 (fun w9 => ?_) (fun w9 => ?_)
  · replace hw := hw.1 w9
    refine r_iconst d_Db_offsetOf_60 kc_m1 ?_
    exact r_ireturn d_Db_offsetOf_61.1 rfl (hQ _ _ hw)
  · replace hw := hw.2 w9
    refine r_iload_n (j := 1) d_Db_offsetOf_10 rfl ?_
    refine r_aload_n (j := 0) d_Db_offsetOf_11 rfl ?_
    refine r_getR d_Db_offsetOf_12 ok_3 (nle rfl) (nle rfl) rfl lf_Db_18 q1 ?_
    refine r_iconst d_Db_offsetOf_15 kc_0 ?_
    obtain ⟨q4, hw⟩ := hw
    obtain ⟨q5, hw⟩ := hw
    refine r_iald d_Db_offsetOf_16 q4 q5 ?_
    refine r_icmp_gt d_Db_offsetOf_17 (fun w9 => ?_) (fun w9 => ?_)
    · replace hw := hw.1 w9
      refine r_iconst d_Db_offsetOf_60 kc_m1 ?_
      exact r_ireturn d_Db_offsetOf_61.1 rfl (hQ _ _ hw)
    · replace hw := hw.2 w9
      refine r_iload_n (j := 2) d_Db_offsetOf_20 rfl ?_
      refine r_aload_n (j := 0) d_Db_offsetOf_21 rfl ?_
      refine r_getR d_Db_offsetOf_22 ok_3 (nle rfl) (nle rfl) rfl lf_Db_15 q1 ?_
      refine r_iconst d_Db_offsetOf_25 kc_1 ?_
      obtain ⟨q6, hw⟩ := hw
      refine r_iald d_Db_offsetOf_26 q2 q6 ?_
      refine r_icmp_lt d_Db_offsetOf_27 (fun w9 => ?_) (fun w9 => ?_)
      · replace hw := hw.1 w9
        refine r_iconst d_Db_offsetOf_60 kc_m1 ?_
        exact r_ireturn d_Db_offsetOf_61.1 rfl (hQ _ _ hw)
      · replace hw := hw.2 w9
        refine r_iload_n (j := 2) d_Db_offsetOf_30 rfl ?_
        refine r_aload_n (j := 0) d_Db_offsetOf_31 rfl ?_
        refine r_getR d_Db_offsetOf_32 ok_3 (nle rfl) (nle rfl) rfl lf_Db_18 q1 ?_
        refine r_iconst d_Db_offsetOf_35 kc_1 ?_
        obtain ⟨q7, hw⟩ := hw
        refine r_iald d_Db_offsetOf_36 q4 q7 ?_
        refine r_icmp_gt d_Db_offsetOf_37 (fun w9 => ?_) (fun w9 => ?_)
        · replace hw := hw.1 w9
          refine r_iconst d_Db_offsetOf_60 kc_m1 ?_
          exact r_ireturn d_Db_offsetOf_61.1 rfl (hQ _ _ hw)
        · replace hw := hw.2 w9
          refine r_iload_n (j := 3) d_Db_offsetOf_40 rfl ?_
          refine r_aload_n (j := 0) d_Db_offsetOf_41 rfl ?_
          refine r_getR d_Db_offsetOf_42 ok_3 (nle rfl) (nle rfl) rfl lf_Db_15 q1 ?_
          refine r_iconst d_Db_offsetOf_45 kc_2 ?_
          obtain ⟨q8, hw⟩ := hw
          refine r_iald d_Db_offsetOf_46 q2 q8 ?_
          refine r_icmp_lt d_Db_offsetOf_47 (fun w9 => ?_) (fun w9 => ?_)
          · replace hw := hw.1 w9
            refine r_iconst d_Db_offsetOf_60 kc_m1 ?_
            exact r_ireturn d_Db_offsetOf_61.1 rfl (hQ _ _ hw)
          · replace hw := hw.2 w9
            refine r_iload_n (j := 3) d_Db_offsetOf_50 rfl ?_
            refine r_aload_n (j := 0) d_Db_offsetOf_51 rfl ?_
            refine r_getR d_Db_offsetOf_52 ok_3 (nle rfl) (nle rfl) rfl lf_Db_18 q1 ?_
            refine r_iconst d_Db_offsetOf_55 kc_2 ?_
            obtain ⟨q9, hw⟩ := hw
            refine r_iald d_Db_offsetOf_56 q4 q9 ?_
            refine r_icmp_le d_Db_offsetOf_57 (fun w9 => ?_) (fun w9 => ?_)
            · replace hw := hw.1 w9
              refine r_iload_n (j := 1) d_Db_offsetOf_62 rfl ?_
              refine r_aload_n (j := 0) d_Db_offsetOf_63 rfl ?_
              refine r_getR d_Db_offsetOf_64 ok_3 (nle rfl) (nle rfl) rfl lf_Db_15 q1 ?_
              refine r_iconst d_Db_offsetOf_67 kc_0 ?_
              refine r_iald d_Db_offsetOf_68 q2 q3 ?_
              refine r_isub d_Db_offsetOf_69 ?_
              refine r_bipush d_Db_offsetOf_70 kb_7 ?_
              refine r_imul d_Db_offsetOf_72 ?_
              refine r_iload_n (j := 2) d_Db_offsetOf_73 rfl ?_
              refine r_iadd d_Db_offsetOf_74 ?_
              refine r_aload_n (j := 0) d_Db_offsetOf_75 rfl ?_
              refine r_getR d_Db_offsetOf_76 ok_3 (nle rfl) (nle rfl) rfl lf_Db_15 q1 ?_
              refine r_iconst d_Db_offsetOf_79 kc_1 ?_
              refine r_iald d_Db_offsetOf_80 q2 q6 ?_
              refine r_isub d_Db_offsetOf_81 ?_
              refine r_bipush d_Db_offsetOf_82 kb_7 ?_
              refine r_imul d_Db_offsetOf_84 ?_
              refine r_iload_n (j := 3) d_Db_offsetOf_85 rfl ?_
              refine r_iadd d_Db_offsetOf_86 ?_
              refine r_aload_n (j := 0) d_Db_offsetOf_87 rfl ?_
              refine r_getR d_Db_offsetOf_88 ok_3 (nle rfl) (nle rfl) rfl lf_Db_15 q1 ?_
              refine r_iconst d_Db_offsetOf_91 kc_2 ?_
              refine r_iald d_Db_offsetOf_92 q2 q8 ?_
              refine r_isub d_Db_offsetOf_93 ?_
              exact r_ireturn d_Db_offsetOf_94.1 rfl (hQ _ _ hw)
            · replace hw := hw.2 w9
              refine r_iconst d_Db_offsetOf_60 kc_m1 ?_
              exact r_ireturn d_Db_offsetOf_61.1 rfl (hQ _ _ hw)
set_option maxRecDepth 100000 in
set_option maxHeartbeats 4000000 in
theorem s_Db_addSum {d : Nat} (hd : 1 ≤ d) {v0 : Nat} {v1 : Int32} {v2 : Int32} {v3 : Int32} {v4 : Int32} {h : Hp} {Q : Hp → Prop} {QQ : Option AV → Hp → Prop} (hw : w_Db_addSum v0 v1 v2 v3 v4 h Q) (hQ : ∀ h9, Q h9 → QQ none h9) : aCall m_Db_addSum d [ar v0, ai v1, ai v2, ai v3, ai v4] h 0 0 QQ := by
  obtain ⟨d, rfl⟩ : ∃ d9, d = d9 + 1 := ⟨d - 1, by omega⟩
  refine aCall_in pl_Db_addSum (nle rfl) ?_
  show aW none m_Db_addSum (d + 1) 0 [(0, ar v0), (1, ai v1), (2, ai v2), (3, ai v3), (4, ai v4)] [] h 0 0 QQ
  unfold w_Db_addSum at hw
  refine r_aload_n (j := 0) d_Db_addSum_0 rfl ?_
  refine r_iload_n (j := 2) d_Db_addSum_1 rfl ?_
  refine r_iload_n (j := 3) d_Db_addSum_2 rfl ?_
  refine r_iload (j := 4) d_Db_addSum_3 rfl ?_
  obtain ⟨q3, hw⟩ := hw
  refine r_callV (av := [ai v2, ai v3, ai v4]) (rest := []) (ci := 3) d_Db_addSum_5 mk_Db_offsetOf ll_Db_75 im_Db_offsetOf se_Db_offsetOf rfl (nle rfl) rfl rfl (nle rfl) q3 (s_Db_offsetOf  hw (fun r2 h1 hw => ?_))
  show aW none m_Db_addSum (d + 1) 8 [(0, ar v0), (1, ai v1), (2, ai v2), (3, ai v3), (4, ai v4)] [ai r2] h1 0 0 QQ
  refine r_istore (ls2 := [(5, ai r2), (0, ar v0), (1, ai v1), (2, ai v2), (3, ai v3), (4, ai v4)]) d_Db_addSum_8 (nle rfl) rfl ?_
  refine r_iload (j := 0) d_Db_addSum_10 rfl ?_
  refine r_if_lt d_Db_addSum_12 (fun w9 => ?_) (fun w9 => ?_)
  · replace hw := hw.1 w9
    exact r_return d_Db_addSum_36.1 rfl (hQ _ hw)
  · replace hw := hw.2 w9
    refine r_aload_n (j := 1) d_Db_addSum_15 rfl ?_
    obtain ⟨q4, hw⟩ := hw
    refine r_getR d_Db_addSum_16 ok_3 (nle rfl) (nle rfl) rfl lf_Db_21 q4 ?_
    refine r_iload (j := 0) d_Db_addSum_19 rfl ?_
    obtain ⟨q5, hw⟩ := hw
    obtain ⟨q6, hw⟩ := hw
    refine r_iald d_Db_addSum_21 q5 q6 ?_
    refine r_iconst d_Db_addSum_22 kc_1 ?_
    refine r_icmp_eq d_Db_addSum_23 (fun w9 => ?_) (fun w9 => ?_)
    · replace hw := hw.1 w9
      exact r_return d_Db_addSum_36.1 rfl (hQ _ hw)
    · replace hw := hw.2 w9
      refine r_aload_n (j := 1) d_Db_addSum_26 rfl ?_
      refine r_getI d_Db_addSum_27 ok_3 (nle rfl) (nle rfl) rfl lf_Db_65 q4 ?_
      refine r_sipush d_Db_addSum_30 ks_343 ?_
      refine r_icmp_lt d_Db_addSum_33 (fun w9 => ?_) (fun w9 => ?_)
      · replace hw := hw.1 w9
        refine r_aload_n (j := 1) d_Db_addSum_37 rfl ?_
        refine r_getR d_Db_addSum_38 ok_3 (nle rfl) (nle rfl) rfl lf_Db_21 q4 ?_
        refine r_iload (j := 0) d_Db_addSum_41 rfl ?_
        refine r_iconst d_Db_addSum_43 kc_1 ?_
        refine r_iast d_Db_addSum_44 q5 q6 ?_
        refine r_iload_n (j := 2) d_Db_addSum_45 rfl ?_
        refine r_iconst d_Db_addSum_46 kc_1 ?_
        refine r_iand d_Db_addSum_47 ?_
        refine r_sipush d_Db_addSum_48 ks_343 ?_
        refine r_imul d_Db_addSum_51 ?_
        refine r_iconst d_Db_addSum_52 kc_3 ?_
        refine r_imul d_Db_addSum_53 ?_
        refine r_aload_n (j := 1) d_Db_addSum_54 rfl ?_
        refine r_getI d_Db_addSum_55 ok_3 (nle rfl) (nle rfl) rfl lf_Db_65 (kt eKI q4) ?_
        refine r_iconst d_Db_addSum_58 kc_3 ?_
        refine r_imul d_Db_addSum_59 ?_
        refine r_iadd d_Db_addSum_60 ?_
        refine r_istore (ls2 := [(6, ai ((((v1 &&& (1 : Int32)) * (343 : Int32)) * (3 : Int32)) + ((gI (sI h1 (gR h1 v0 4) (ix r2) (1 : Int32)) v0 6) * (3 : Int32)))), (5, ai r2), (0, ar v0), (1, ai v1), (2, ai v2), (3, ai v3), (4, ai v4)]) d_Db_addSum_61 (nle rfl) rfl ?_
        refine r_aload_n (j := 2) d_Db_addSum_63 rfl ?_
        refine r_getRb eRI d_Db_addSum_64 ok_3 (nle rfl) (nle rfl) rfl lf_Db_24 (kt eKI q4) ?_
        refine r_iload (j := 0) d_Db_addSum_67 rfl ?_
        refine r_iload_n (j := 4) d_Db_addSum_69 rfl ?_
        obtain ⟨q7, hw⟩ := hw
        obtain ⟨q8, hw⟩ := hw
        refine r_iast d_Db_addSum_70 (kt eKI q7) (nt eNI q8) ?_
        refine r_aload_n (j := 2) d_Db_addSum_71 rfl ?_
        refine r_getRb (eRI.trans eRI) d_Db_addSum_72 ok_3 (nle rfl) (nle rfl) rfl lf_Db_24 (kt (eKI.trans eKI) q4) ?_
        refine r_iload (j := 0) d_Db_addSum_75 rfl ?_
        refine r_iconst d_Db_addSum_77 kc_1 ?_
        refine r_iadd d_Db_addSum_78 ?_
        refine r_iload_n (j := 5) d_Db_addSum_79 rfl ?_
        obtain ⟨q9, hw⟩ := hw
        refine r_iast d_Db_addSum_80 (kt (eKI.trans eKI) q7) (nt (eNI.trans eNI) q9) ?_
        refine r_aload_n (j := 2) d_Db_addSum_81 rfl ?_
        refine r_getRb (eRI.trans (eRI.trans eRI)) d_Db_addSum_82 ok_3 (nle rfl) (nle rfl) rfl lf_Db_24 (kt (eKI.trans (eKI.trans eKI)) q4) ?_
        refine r_iload (j := 0) d_Db_addSum_85 rfl ?_
        refine r_iconst d_Db_addSum_87 kc_2 ?_
        refine r_iadd d_Db_addSum_88 ?_
        refine r_iload (j := 6) d_Db_addSum_89 rfl ?_
        obtain ⟨q10, hw⟩ := hw
        refine r_iast d_Db_addSum_91 (kt (eKI.trans (eKI.trans eKI)) q7) (nt (eNI.trans (eNI.trans eNI)) q10) ?_
        refine r_aload_n (j := 2) d_Db_addSum_92 rfl ?_
        refine r_dup d_Db_addSum_93 rfl ?_
        refine r_getI d_Db_addSum_94 ok_3 (nle rfl) (nle rfl) rfl lf_Db_65 (kt (eKI.trans (eKI.trans (eKI.trans eKI))) q4) ?_
        refine r_iconst d_Db_addSum_97 kc_1 ?_
        refine r_iadd d_Db_addSum_98 ?_
        refine r_putI d_Db_addSum_99 ok_3 (nle rfl) (nle rfl) rfl lf_Db_65 rfl (kt (eKI.trans (eKI.trans (eKI.trans eKI))) q4) ?_
        exact r_return d_Db_addSum_102.1 rfl (hQ _ hw)
      · replace hw := hw.2 w9
        exact r_return d_Db_addSum_36.1 rfl (hQ _ hw)
set_option maxRecDepth 100000 in
set_option maxHeartbeats 4000000 in
theorem s_Db_addPairs_L33 {d : Nat} (hd : 2 ≤ d + 1) {Q : Hp → Prop} {QQ : Option AV → Hp → Prop} (hQ : ∀ h9, Q h9 → QQ none h9) {v0 : Nat} {v1 : Int32} {v2 : Int32} {v3 : Int32} {v4 : Int32} {v5 : Int32} {k15 : Int32 → Hp → Prop} (hk15 : ∀ v4 h9, k15 v4 h9 → aW none m_Db_addPairs (d + 1) 15 [(0, ar v0), (1, ai v1), (2, ai v2), (3, ai v3), (4, ai v4)] [] h9 0 0 QQ) : ∀ (n : Nat) (v6 : Int32) (h : Hp), w_Db_addPairs_L33 Q k15 v0 v1 v2 v3 v4 v5 n v6 h → aW none m_Db_addPairs (d + 1) 33 [(0, ar v0), (1, ai v1), (2, ai v2), (3, ai v3), (4, ai v4), (5, ai v5), (6, ai v6)] [] h 0 0 QQ := by
  intro n
  induction n with
  | zero => intro v6 h hw; exact hw.elim
  | succ n ih =>
    intro v6 h hw
    unfold w_Db_addPairs_L33 at hw
    refine r_iload (j := 6) d_Db_addPairs_33 rfl ?_
    refine r_iload_n (j := 2) d_Db_addPairs_35 rfl ?_
    refine r_icmp_ge d_Db_addPairs_36 (fun w9 => ?_) (fun w9 => ?_)
    · replace hw := hw.1 w9
      refine r_iinc (j := 4) (ls2 := [(4, ai (v4 + (1 : Int32))), (0, ar v0), (1, ai v1), (2, ai v2), (3, ai v3), (5, ai v5), (6, ai v6)]) d_Db_addPairs_111 rfl (congrArg (HAdd.hAdd v4) kc_1) (nle rfl) rfl ?_
      refine r_goto d_Db_addPairs_114 ?_
      refine r_pick (ls2 := [(0, ar v0), (1, ai v1), (2, ai v2), (3, ai v3), (4, ai (v4 + (1 : Int32)))]) [1, 2, 3, 4, 0] rfl ?_
      exact hk15 _ _ hw
    · replace hw := hw.2 w9
      refine r_iload_n (j := 3) d_Db_addPairs_39 rfl ?_
      refine r_iload (j := 6) d_Db_addPairs_40 rfl ?_
      refine r_iconst d_Db_addPairs_42 kc_3 ?_
      refine r_imul d_Db_addPairs_43 ?_
      refine r_iadd d_Db_addPairs_44 ?_
      refine r_istore (ls2 := [(7, ai (v3 + (v6 * (3 : Int32)))), (0, ar v0), (1, ai v1), (2, ai v2), (3, ai v3), (4, ai v4), (5, ai v5), (6, ai v6)]) d_Db_addPairs_45 (nle rfl) rfl ?_
      refine r_aload_n (j := 1) d_Db_addPairs_47 rfl ?_
      refine r_iload_n (j := 2) d_Db_addPairs_48 rfl ?_
      refine r_aload_n (j := 1) d_Db_addPairs_49 rfl ?_
      obtain ⟨q1, hw⟩ := hw
      refine r_getR d_Db_addPairs_50 ok_3 (nle rfl) (nle rfl) rfl lf_Db_24 q1 ?_
      refine r_iload (j := 6) d_Db_addPairs_53 rfl ?_
      obtain ⟨q2, hw⟩ := hw
      obtain ⟨q3, hw⟩ := hw
      refine r_iald d_Db_addPairs_55 q2 q3 ?_
      refine r_aload_n (j := 1) d_Db_addPairs_56 rfl ?_
      refine r_getR d_Db_addPairs_57 ok_3 (nle rfl) (nle rfl) rfl lf_Db_24 q1 ?_
      refine r_iload (j := 0) d_Db_addPairs_60 rfl ?_
      obtain ⟨q4, hw⟩ := hw
      refine r_iald d_Db_addPairs_62 q2 q4 ?_
      refine r_iadd d_Db_addPairs_63 ?_
      refine r_aload_n (j := 1) d_Db_addPairs_64 rfl ?_
      refine r_getR d_Db_addPairs_65 ok_3 (nle rfl) (nle rfl) rfl lf_Db_24 q1 ?_
      refine r_iload (j := 6) d_Db_addPairs_68 rfl ?_
      refine r_iconst d_Db_addPairs_70 kc_1 ?_
      refine r_iadd d_Db_addPairs_71 ?_
      obtain ⟨q5, hw⟩ := hw
      refine r_iald d_Db_addPairs_72 q2 q5 ?_
      refine r_aload_n (j := 1) d_Db_addPairs_73 rfl ?_
      refine r_getR d_Db_addPairs_74 ok_3 (nle rfl) (nle rfl) rfl lf_Db_24 q1 ?_
      refine r_iload (j := 0) d_Db_addPairs_77 rfl ?_
      refine r_iconst d_Db_addPairs_79 kc_1 ?_
      refine r_iadd d_Db_addPairs_80 ?_
      obtain ⟨q6, hw⟩ := hw
      refine r_iald d_Db_addPairs_81 q2 q6 ?_
      refine r_iadd d_Db_addPairs_82 ?_
      refine r_aload_n (j := 1) d_Db_addPairs_83 rfl ?_
      refine r_getR d_Db_addPairs_84 ok_3 (nle rfl) (nle rfl) rfl lf_Db_24 q1 ?_
      refine r_iload (j := 6) d_Db_addPairs_87 rfl ?_
      refine r_iconst d_Db_addPairs_89 kc_2 ?_
      refine r_iadd d_Db_addPairs_90 ?_
      obtain ⟨q7, hw⟩ := hw
      refine r_iald d_Db_addPairs_91 q2 q7 ?_
      refine r_aload_n (j := 1) d_Db_addPairs_92 rfl ?_
      refine r_getR d_Db_addPairs_93 ok_3 (nle rfl) (nle rfl) rfl lf_Db_24 q1 ?_
      refine r_iload (j := 0) d_Db_addPairs_96 rfl ?_
      refine r_iconst d_Db_addPairs_98 kc_2 ?_
      refine r_iadd d_Db_addPairs_99 ?_
      obtain ⟨q8, hw⟩ := hw
      refine r_iald d_Db_addPairs_100 q2 q8 ?_
      refine r_iadd d_Db_addPairs_101 ?_
      refine r_callV (av := [ai v1, ai ((gI h (gR h v0 5) (ix v5)) + (gI h (gR h v0 5) (ix (v3 + (v6 * (3 : Int32)))))), ai ((gI h (gR h v0 5) (ix (v5 + (1 : Int32)))) + (gI h (gR h v0 5) (ix ((v3 + (v6 * (3 : Int32))) + (1 : Int32))))), ai ((gI h (gR h v0 5) (ix (v5 + (2 : Int32)))) + (gI h (gR h v0 5) (ix ((v3 + (v6 * (3 : Int32))) + (2 : Int32)))))]) (rest := []) (ci := 3) d_Db_addPairs_102 mk_Db_addSum ll_Db_54 im_Db_addSum se_Db_addSum rfl (nle rfl) rfl rfl (nle rfl) q1 (s_Db_addSum (by omega) hw (fun h9 hw => ?_))
      show aW none m_Db_addPairs (d + 1) 105 [(7, ai (v3 + (v6 * (3 : Int32)))), (0, ar v0), (1, ai v1), (2, ai v2), (3, ai v3), (4, ai v4), (5, ai v5), (6, ai v6)] [] h9 0 0 QQ
      refine r_iinc (j := 7) (ls2 := [(6, ai (v6 + (1 : Int32))), (7, ai (v3 + (v6 * (3 : Int32)))), (0, ar v0), (1, ai v1), (2, ai v2), (3, ai v3), (4, ai v4), (5, ai v5)]) d_Db_addPairs_105 rfl (congrArg (HAdd.hAdd v6) kc_1) (nle rfl) rfl ?_
      refine r_goto d_Db_addPairs_108 ?_
      refine r_pick (ls2 := [(0, ar v0), (1, ai v1), (2, ai v2), (3, ai v3), (4, ai v4), (5, ai v5), (6, ai (v6 + (1 : Int32)))]) [2, 3, 4, 5, 6, 7, 0] rfl ?_
      exact ih _ _ hw
set_option maxRecDepth 100000 in
set_option maxHeartbeats 4000000 in
theorem s_Db_addPairs_L15 {d : Nat} (hd : 2 ≤ d + 1) {Q : Hp → Prop} {QQ : Option AV → Hp → Prop} (hQ : ∀ h9, Q h9 → QQ none h9) {v0 : Nat} {v1 : Int32} {v2 : Int32} {v3 : Int32} : ∀ (n : Nat) (v4 : Int32) (h : Hp), w_Db_addPairs_L15 Q  v0 v1 v2 v3 n v4 h → aW none m_Db_addPairs (d + 1) 15 [(0, ar v0), (1, ai v1), (2, ai v2), (3, ai v3), (4, ai v4)] [] h 0 0 QQ := by
  intro n
  induction n with
  | zero => intro v4 h hw; exact hw.elim
  | succ n ih =>
    intro v4 h hw
    unfold w_Db_addPairs_L15 at hw
    refine r_iload (j := 4) d_Db_addPairs_15 rfl ?_
    refine r_iload_n (j := 2) d_Db_addPairs_17 rfl ?_
    refine r_icmp_ge d_Db_addPairs_18 (fun w9 => ?_) (fun w9 => ?_)
    · replace hw := hw.1 w9
      exact r_return d_Db_addPairs_117.1 rfl (hQ _ hw)
    · replace hw := hw.2 w9
      refine r_iload_n (j := 3) d_Db_addPairs_21 rfl ?_
      refine r_iload (j := 4) d_Db_addPairs_22 rfl ?_
      refine r_iconst d_Db_addPairs_24 kc_3 ?_
      refine r_imul d_Db_addPairs_25 ?_
      refine r_iadd d_Db_addPairs_26 ?_
      refine r_istore (ls2 := [(5, ai (v3 + (v4 * (3 : Int32)))), (0, ar v0), (1, ai v1), (2, ai v2), (3, ai v3), (4, ai v4)]) d_Db_addPairs_27 (nle rfl) rfl ?_
      refine r_iload (j := 5) d_Db_addPairs_29 rfl ?_
      refine r_istore (ls2 := [(6, ai v4), (5, ai (v3 + (v4 * (3 : Int32)))), (0, ar v0), (1, ai v1), (2, ai v2), (3, ai v3), (4, ai v4)]) d_Db_addPairs_31 (nle rfl) rfl ?_
      obtain ⟨n10, hw⟩ := hw
      refine r_pick (ls2 := [(0, ar v0), (1, ai v1), (2, ai v2), (3, ai v3), (4, ai v4), (5, ai (v3 + (v4 * (3 : Int32)))), (6, ai v4)]) [2, 3, 4, 5, 6, 1, 0] rfl ?_
      exact s_Db_addPairs_L33 hd hQ ih n10 _ _ hw
set_option maxRecDepth 100000 in
set_option maxHeartbeats 4000000 in
theorem s_Db_addPairs {d : Nat} (hd : 2 ≤ d) {v0 : Nat} {v1 : Int32} {v2 : Int32} {h : Hp} {Q : Hp → Prop} {QQ : Option AV → Hp → Prop} (hw : w_Db_addPairs v0 v1 v2 h Q) (hQ : ∀ h9, Q h9 → QQ none h9) : aCall m_Db_addPairs d [ar v0, ai v1, ai v2] h 0 0 QQ := by
  obtain ⟨d, rfl⟩ : ∃ d9, d = d9 + 1 := ⟨d - 1, by omega⟩
  refine aCall_in pl_Db_addPairs (nle rfl) ?_
  show aW none m_Db_addPairs (d + 1) 0 [(0, ar v0), (1, ai v1), (2, ai v2)] [] h 0 0 QQ
  unfold w_Db_addPairs at hw
  refine r_iload_n (j := 1) d_Db_addPairs_0 rfl ?_
  refine r_iconst d_Db_addPairs_1 kc_1 ?_
  refine r_isub d_Db_addPairs_2 ?_
  refine r_iconst d_Db_addPairs_3 kc_1 ?_
  refine r_iand d_Db_addPairs_4 ?_
  refine r_sipush d_Db_addPairs_5 ks_343 ?_
  refine r_imul d_Db_addPairs_8 ?_
  refine r_iconst d_Db_addPairs_9 kc_3 ?_
  refine r_imul d_Db_addPairs_10 ?_
  refine r_istore_n (ls2 := [(3, ai ((((v1 - (1 : Int32)) &&& (1 : Int32)) * (343 : Int32)) * (3 : Int32))), (0, ar v0), (1, ai v1), (2, ai v2)]) d_Db_addPairs_11 (nle rfl) rfl ?_
  refine r_iconst d_Db_addPairs_12 kc_0 ?_
  refine r_istore (ls2 := [(4, ai (0 : Int32)), (3, ai ((((v1 - (1 : Int32)) &&& (1 : Int32)) * (343 : Int32)) * (3 : Int32))), (0, ar v0), (1, ai v1), (2, ai v2)]) d_Db_addPairs_13 (nle rfl) rfl ?_
  obtain ⟨n11, hw⟩ := hw
  refine r_pick (ls2 := [(0, ar v0), (1, ai v1), (2, ai v2), (3, ai ((((v1 - (1 : Int32)) &&& (1 : Int32)) * (343 : Int32)) * (3 : Int32))), (4, ai (0 : Int32))]) [2, 3, 4, 1, 0] rfl ?_
  exact s_Db_addPairs_L15 hd hQ  n11 _ _ hw
set_option maxRecDepth 100000 in
set_option maxHeartbeats 4000000 in
theorem s_JM_floorDiv {d : Nat} {v0 : Int32} {v1 : Int32} {h : Hp} {Q : Int32 → Hp → Prop} {QQ : Option AV → Hp → Prop} (hw : w_JM_floorDiv v0 v1 h Q) (hQ : ∀ r9 h9, Q r9 h9 → QQ (some (ai r9)) h9) : aCall m_JM_floorDiv d [ai v0, ai v1] h 0 0 QQ := by
  refine aCall_in pl_JM_floorDiv (nle rfl) ?_
  show aW none m_JM_floorDiv d 0 [(0, ai v0), (1, ai v1)] [] h 0 0 QQ
  unfold w_JM_floorDiv at hw
  refine r_iload_n (j := 0) d_JM_floorDiv_0 rfl ?_
  refine r_iload_n (j := 1) d_JM_floorDiv_1 rfl ?_
  obtain ⟨q1, hw⟩ := hw
  refine r_idiv d_JM_floorDiv_2 q1 ?_
  refine r_istore_n (ls2 := [(2, ai (v0 / v1)), (0, ai v0), (1, ai v1)]) d_JM_floorDiv_3 (nle rfl) rfl ?_
  refine r_iload_n (j := 1) d_JM_floorDiv_4 rfl ?_
  refine r_iload_n (j := 2) d_JM_floorDiv_5 rfl ?_
  refine r_ixor d_JM_floorDiv_6 ?_
  refine r_if_ge d_JM_floorDiv_7 (fun w9 => ?_) (fun w9 => ?_)
  · replace hw := hw.1 w9
    refine r_iload_n (j := 0) d_JM_floorDiv_21 rfl ?_
    exact r_ireturn d_JM_floorDiv_22.1 rfl (hQ _ _ hw)
  · replace hw := hw.2 w9
    refine r_iload_n (j := 0) d_JM_floorDiv_10 rfl ?_
    refine r_iload_n (j := 2) d_JM_floorDiv_11 rfl ?_
    refine r_imul d_JM_floorDiv_12 ?_
    refine r_iload_n (j := 1) d_JM_floorDiv_13 rfl ?_
    refine r_icmp_eq d_JM_floorDiv_14 (fun w9 => ?_) (fun w9 => ?_)
    · replace hw := hw.1 w9
      refine r_iload_n (j := 0) d_JM_floorDiv_21 rfl ?_
      exact r_ireturn d_JM_floorDiv_22.1 rfl (hQ _ _ hw)
    · replace hw := hw.2 w9
      refine r_iload_n (j := 0) d_JM_floorDiv_17 rfl ?_
      refine r_iconst d_JM_floorDiv_18 kc_1 ?_
      refine r_isub d_JM_floorDiv_19 ?_
      exact r_ireturn d_JM_floorDiv_20.1 rfl (hQ _ _ hw)
set_option maxRecDepth 100000 in
set_option maxHeartbeats 4000000 in
theorem s_Db_beginLevel_L24 {d : Nat} (hd : 1 ≤ d + 1) {Q : Hp → Prop} {QQ : Option AV → Hp → Prop} (hQ : ∀ h9, Q h9 → QQ none h9) {v0 : Nat} {v2 : Int32} {v3 : Int32} : ∀ (n : Nat) (v4 : Int32) (h : Hp), w_Db_beginLevel_L24 Q  v0 v2 v3 n v4 h → aW none m_Db_beginLevel (d + 1) 24 [(0, ar v0), (2, ai v2), (3, ai v3), (4, ai v4)] [] h 0 0 QQ := by
  intro n
  induction n with
  | zero => intro v4 h hw; exact hw.elim
  | succ n ih =>
    intro v4 h hw
    unfold w_Db_beginLevel_L24 at hw
    refine r_iload (j := 3) d_Db_beginLevel_24 rfl ?_
    refine r_iconst d_Db_beginLevel_26 kc_3 ?_
    refine r_icmp_ge d_Db_beginLevel_27 (fun w9 => ?_) (fun w9 => ?_)
    · replace hw := hw.1 w9
      exact r_return d_Db_beginLevel_79.1 rfl (hQ _ hw)
    · replace hw := hw.2 w9
      refine r_aload_n (j := 0) d_Db_beginLevel_30 rfl ?_
      obtain ⟨q5, hw⟩ := hw
      refine r_getR d_Db_beginLevel_31 ok_3 (nle rfl) (nle rfl) rfl lf_Db_27 q5 ?_
      refine r_iload (j := 3) d_Db_beginLevel_34 rfl ?_
      obtain ⟨q8, hw⟩ := hw
      refine r_callV (av := [ai v4]) (rest := []) (ci := 1) d_Db_beginLevel_36 mk_Co_needOf ll_Db_71 im_Co_needOf se_Co_needOf rfl (nle rfl) rfl rfl (nle rfl) q8 (s_Co_needOf  hw (fun r7 h6 hw => ?_))
      show aW none m_Db_beginLevel (d + 1) 39 [(0, ar v0), (2, ai v2), (3, ai v3), (4, ai v4)] [ai r7] h6 0 0 QQ
      refine r_istore (ls2 := [(5, ai r7), (0, ar v0), (2, ai v2), (3, ai v3), (4, ai v4)]) d_Db_beginLevel_39 (nle rfl) rfl ?_
      refine r_aload_n (j := 1) d_Db_beginLevel_41 rfl ?_
      obtain ⟨q9, hw⟩ := hw
      refine r_getR d_Db_beginLevel_42 ok_3 (nle rfl) (nle rfl) rfl lf_Db_15 q9 ?_
      refine r_iload (j := 4) d_Db_beginLevel_45 rfl ?_
      refine r_iload (j := 0) d_Db_beginLevel_47 rfl ?_
      refine r_ineg d_Db_beginLevel_49 ?_
      refine r_iload_n (j := 3) d_Db_beginLevel_50 rfl ?_
      refine r_callS (av := [ai (-r7), ai v3]) (rest := [ai v4, ar (gR h6 v0 2)]) d_Db_beginLevel_51 mk_JM_floorDiv ll_Db_93 st_JM_floorDiv rfl rfl (nle rfl) (s_JM_floorDiv  hw (fun r11 h10 hw => ?_))
      show aW none m_Db_beginLevel (d + 1) 54 [(5, ai r7), (0, ar v0), (2, ai v2), (3, ai v3), (4, ai v4)] [ai r11, ai v4, ar (gR h6 v0 2)] h10 0 0 QQ
      refine r_ineg d_Db_beginLevel_54 ?_
      refine r_iload_n (j := 2) d_Db_beginLevel_55 rfl ?_
      refine r_isub d_Db_beginLevel_56 ?_
      obtain ⟨q12, hw⟩ := hw
      obtain ⟨q13, hw⟩ := hw
      refine r_iast d_Db_beginLevel_57 q12 q13 ?_
      refine r_aload_n (j := 1) d_Db_beginLevel_58 rfl ?_
      obtain ⟨q14, hw⟩ := hw
      refine r_getRb eRI d_Db_beginLevel_59 ok_3 (nle rfl) (nle rfl) rfl lf_Db_18 (kt eKI q14) ?_
      refine r_iload (j := 4) d_Db_beginLevel_62 rfl ?_
      refine r_iload (j := 0) d_Db_beginLevel_64 rfl ?_
      refine r_iload_n (j := 3) d_Db_beginLevel_66 rfl ?_
      refine r_callS (av := [ai r7, ai v3]) (rest := [ai v4, ar (gR h10 v0 3)]) d_Db_beginLevel_67 mk_JM_floorDiv ll_Db_93 st_JM_floorDiv rfl rfl (nle rfl) (s_JM_floorDiv  hw (fun r16 h15 hw => ?_))
      show aW none m_Db_beginLevel (d + 1) 70 [(5, ai r7), (0, ar v0), (2, ai v2), (3, ai v3), (4, ai v4)] [ai r16, ai v4, ar (gR h10 v0 3)] h15 0 0 QQ
      refine r_iload_n (j := 2) d_Db_beginLevel_70 rfl ?_
      refine r_iadd d_Db_beginLevel_71 ?_
      obtain ⟨q17, hw⟩ := hw
      obtain ⟨q18, hw⟩ := hw
      refine r_iast d_Db_beginLevel_72 q17 q18 ?_
      refine r_iinc (j := 4) (ls2 := [(4, ai (v4 + (1 : Int32))), (5, ai r7), (0, ar v0), (2, ai v2), (3, ai v3)]) d_Db_beginLevel_73 rfl (congrArg (HAdd.hAdd v4) kc_1) (nle rfl) rfl ?_
      refine r_goto d_Db_beginLevel_76 ?_
      refine r_pick (ls2 := [(0, ar v0), (2, ai v2), (3, ai v3), (4, ai (v4 + (1 : Int32)))]) [2, 3, 4, 0] rfl ?_
      exact ih _ _ hw
set_option maxRecDepth 100000 in
set_option maxHeartbeats 4000000 in
theorem s_Db_beginLevel {d : Nat} (hd : 1 ≤ d) {v0 : Nat} {v1 : Int32} {v2 : Int32} {h : Hp} {Q : Hp → Prop} {QQ : Option AV → Hp → Prop} (hw : w_Db_beginLevel v0 v1 v2 h Q) (hQ : ∀ h9, Q h9 → QQ none h9) : aCall m_Db_beginLevel d [ar v0, ai v1, ai v2] h 0 0 QQ := by
  obtain ⟨d, rfl⟩ : ∃ d9, d = d9 + 1 := ⟨d - 1, by omega⟩
  refine aCall_in pl_Db_beginLevel (nle rfl) ?_
  show aW none m_Db_beginLevel (d + 1) 0 [(0, ar v0), (1, ai v1), (2, ai v2)] [] h 0 0 QQ
  unfold w_Db_beginLevel at hw
  refine r_aload_n (j := 0) d_Db_beginLevel_0 rfl ?_
  refine r_iconst d_Db_beginLevel_1 kc_0 ?_
  obtain ⟨q1, hw⟩ := hw
  refine r_putI d_Db_beginLevel_2 ok_3 (nle rfl) (nle rfl) rfl lf_Db_65 rfl q1 ?_
  refine r_aload_n (j := 0) d_Db_beginLevel_5 rfl ?_
  refine r_getRb eRI d_Db_beginLevel_6 ok_3 (nle rfl) (nle rfl) rfl lf_Db_21 (kt eKI q1) ?_
  refine r_iconst d_Db_beginLevel_9 kc_0 ?_
  refine r_callS (av := [ar (gR h v0 4), ai (0 : Int32)]) (rest := []) d_Db_beginLevel_10 mk_JA_fill_IIV ll_Db_82 st_JA_fill_IIV rfl rfl (nle rfl) (s_JA_fill_IIV  hw (fun h2 hw => ?_))
  show aW none m_Db_beginLevel (d + 1) 13 [(0, ar v0), (1, ai v1), (2, ai v2)] [] h2 0 0 QQ
  refine r_iconst d_Db_beginLevel_13 kc_1 ?_
  refine r_iload_n (j := 1) d_Db_beginLevel_14 rfl ?_
  refine r_ishl d_Db_beginLevel_15 ?_
  refine r_iconst d_Db_beginLevel_16 kc_1 ?_
  refine r_callS (av := [ai (jshl (1 : Int32) v1), ai (1 : Int32)]) (rest := []) d_Db_beginLevel_17 mk_JM_max ll_Db_88 st_JM_max rfl rfl (nle rfl) (s_JM_max  hw (fun r4 h3 hw => ?_))
  show aW none m_Db_beginLevel (d + 1) 20 [(0, ar v0), (1, ai v1), (2, ai v2)] [ai r4] h3 0 0 QQ
  refine r_istore_n (ls2 := [(3, ai r4), (0, ar v0), (1, ai v1), (2, ai v2)]) d_Db_beginLevel_20 (nle rfl) rfl ?_
  refine r_iconst d_Db_beginLevel_21 kc_0 ?_
  refine r_istore (ls2 := [(4, ai (0 : Int32)), (3, ai r4), (0, ar v0), (1, ai v1), (2, ai v2)]) d_Db_beginLevel_22 (nle rfl) rfl ?_
  obtain ⟨n19, hw⟩ := hw
  refine r_pick (ls2 := [(0, ar v0), (2, ai v2), (3, ai r4), (4, ai (0 : Int32))]) [2, 4, 1, 0] rfl ?_
  exact s_Db_beginLevel_L24 hd hQ  n19 _ _ hw
set_option maxRecDepth 100000 in
set_option maxHeartbeats 4000000 in
theorem s_Db_raise_L141 {d : Nat} (hd : 3 ≤ d + 1) {Q : Hp → Prop} {QQ : Option AV → Hp → Prop} (hQ : ∀ h9, Q h9 → QQ none h9) {v0 : Nat} {v1 : Int32} {v2 : Int32} : ∀ (n : Nat) (v3 : Int32) (h : Hp), w_Db_raise_L141 Q  v0 v1 v2 n v3 h → aW none m_Db_raise (d + 1) 141 [(0, ar v0), (1, ai v1), (2, ai v2), (3, ai v3)] [] h 0 0 QQ := by
  intro n
  induction n with
  | zero => intro v3 h hw; exact hw.elim
  | succ n ih =>
    intro v3 h hw
    unfold w_Db_raise_L141 at hw
    refine r_iload_n (j := 3) d_Db_raise_141 rfl ?_
    refine r_iload_n (j := 1) d_Db_raise_142 rfl ?_
    refine r_icmp_gt d_Db_raise_143 (fun w9 => ?_) (fun w9 => ?_)
    · replace hw := hw.1 w9
      refine r_aload_n (j := 0) d_Db_raise_183 rfl ?_
      refine r_aload_n (j := 0) d_Db_raise_184 rfl ?_
      obtain ⟨q11, hw⟩ := hw
      refine r_getR d_Db_raise_185 ok_3 (nle rfl) (nle rfl) rfl lf_Db_27 q11 ?_
      refine r_iconst d_Db_raise_188 kc_0 ?_
      obtain ⟨q14, hw⟩ := hw
      refine r_callV (av := [ai (0 : Int32)]) (rest := [ar v0]) (ci := 1) d_Db_raise_189 mk_Co_needOf ll_Db_71 im_Co_needOf se_Co_needOf rfl (nle rfl) rfl rfl (nle rfl) q14 (s_Co_needOf  hw (fun r13 h12 hw => ?_))
      show aW none m_Db_raise (d + 1) 192 [(0, ar v0), (1, ai v1), (2, ai v2), (3, ai v3)] [ai r13, ar v0] h12 0 0 QQ
      refine r_aload_n (j := 0) d_Db_raise_192 rfl ?_
      obtain ⟨q15, hw⟩ := hw
      refine r_getR d_Db_raise_193 ok_3 (nle rfl) (nle rfl) rfl lf_Db_27 q15 ?_
      refine r_iconst d_Db_raise_196 kc_1 ?_
      obtain ⟨q18, hw⟩ := hw
      refine r_callV (av := [ai (1 : Int32)]) (rest := [ai r13, ar v0]) (ci := 1) d_Db_raise_197 mk_Co_needOf ll_Db_71 im_Co_needOf se_Co_needOf rfl (nle rfl) rfl rfl (nle rfl) q18 (s_Co_needOf  hw (fun r17 h16 hw => ?_))
      show aW none m_Db_raise (d + 1) 200 [(0, ar v0), (1, ai v1), (2, ai v2), (3, ai v3)] [ai r17, ai r13, ar v0] h16 0 0 QQ
      refine r_aload_n (j := 0) d_Db_raise_200 rfl ?_
      obtain ⟨q19, hw⟩ := hw
      refine r_getR d_Db_raise_201 ok_3 (nle rfl) (nle rfl) rfl lf_Db_27 q19 ?_
      refine r_iconst d_Db_raise_204 kc_2 ?_
      obtain ⟨q22, hw⟩ := hw
      refine r_callV (av := [ai (2 : Int32)]) (rest := [ai r17, ai r13, ar v0]) (ci := 1) d_Db_raise_205 mk_Co_needOf ll_Db_71 im_Co_needOf se_Co_needOf rfl (nle rfl) rfl rfl (nle rfl) q22 (s_Co_needOf  hw (fun r21 h20 hw => ?_))
      show aW none m_Db_raise (d + 1) 208 [(0, ar v0), (1, ai v1), (2, ai v2), (3, ai v3)] [ai r21, ai r17, ai r13, ar v0] h20 0 0 QQ
      obtain ⟨q25, hw⟩ := hw
      refine r_callV (av := [ai r13, ai r17, ai r21]) (rest := []) (ci := 3) d_Db_raise_208 mk_Db_offsetOf ll_Db_75 im_Db_offsetOf se_Db_offsetOf rfl (nle rfl) rfl rfl (nle rfl) q25 (s_Db_offsetOf  hw (fun r24 h23 hw => ?_))
      show aW none m_Db_raise (d + 1) 211 [(0, ar v0), (1, ai v1), (2, ai v2), (3, ai v3)] [ai r24] h23 0 0 QQ
      refine r_istore_n (ls2 := [(3, ai r24), (0, ar v0), (1, ai v1), (2, ai v2)]) d_Db_raise_211 (nle rfl) rfl ?_
      refine r_aload_n (j := 1) d_Db_raise_212 rfl ?_
      refine r_iload_n (j := 0) d_Db_raise_213 rfl ?_
      refine r_if_lt d_Db_raise_214 (fun w9 => ?_) (fun w9 => ?_)
      · replace hw := hw.1 w9
        refine r_iconst d_Db_raise_231 kc_0 ?_
        obtain ⟨q26, hw⟩ := hw
        refine r_putZ d_Db_raise_232 ok_3 (nle rfl) (nle rfl) rfl lf_Db_79 rfl q26 (Or.inl rfl) ?_
        exact r_return d_Db_raise_235.1 rfl (hQ _ hw)
      · replace hw := hw.2 w9
        refine r_aload_n (j := 1) d_Db_raise_217 rfl ?_
        obtain ⟨q27, hw⟩ := hw
        refine r_getR d_Db_raise_218 ok_3 (nle rfl) (nle rfl) rfl lf_Db_21 q27 ?_
        refine r_iload_n (j := 0) d_Db_raise_221 rfl ?_
        obtain ⟨q28, hw⟩ := hw
        obtain ⟨q29, hw⟩ := hw
        refine r_iald d_Db_raise_222 q28 q29 ?_
        refine r_iconst d_Db_raise_223 kc_1 ?_
        refine r_icmp_ne d_Db_raise_224 (fun w9 => ?_) (fun w9 => ?_)
        · replace hw := hw.2 w9
          refine r_iconst d_Db_raise_231 kc_0 ?_
          refine r_putZ d_Db_raise_232 ok_3 (nle rfl) (nle rfl) rfl lf_Db_79 rfl q27 (Or.inl rfl) ?_
          exact r_return d_Db_raise_235.1 rfl (hQ _ hw)
        · replace hw := hw.1 w9
          refine r_iconst d_Db_raise_227 kc_1 ?_
          refine r_goto d_Db_raise_228 ?_
          refine r_putZ d_Db_raise_232 ok_3 (nle rfl) (nle rfl) rfl lf_Db_79 rfl q27 (Or.inr rfl) ?_
          exact r_return d_Db_raise_235.1 rfl (hQ _ hw)
    · replace hw := hw.2 w9
      refine r_aload_n (j := 0) d_Db_raise_146 rfl ?_
      obtain ⟨q30, hw⟩ := hw
      refine r_getI d_Db_raise_147 ok_3 (nle rfl) (nle rfl) rfl lf_Db_65 q30 ?_
      refine r_istore (ls2 := [(4, ai (gI h v0 6)), (0, ar v0), (1, ai v1), (2, ai v2), (3, ai v3)]) d_Db_raise_150 (nle rfl) rfl ?_
      refine r_aload_n (j := 1) d_Db_raise_152 rfl ?_
      refine r_iload_n (j := 2) d_Db_raise_153 rfl ?_
      refine r_iload_n (j := 4) d_Db_raise_154 rfl ?_
      refine r_isub d_Db_raise_155 ?_
      refine r_iload_n (j := 3) d_Db_raise_156 rfl ?_
      refine r_callV (av := [ai (v1 - v3), ai v2]) (rest := []) (ci := 3) d_Db_raise_157 mk_Db_beginLevel ll_Db_50 im_Db_beginLevel se_Db_beginLevel rfl (nle rfl) rfl rfl (nle rfl) q30 (s_Db_beginLevel (by omega) hw (fun h31 hw => ?_))
      show aW none m_Db_raise (d + 1) 160 [(4, ai (gI h v0 6)), (0, ar v0), (1, ai v1), (2, ai v2), (3, ai v3)] [] h31 0 0 QQ
      refine r_aload_n (j := 1) d_Db_raise_160 rfl ?_
      refine r_iload_n (j := 4) d_Db_raise_161 rfl ?_
      refine r_iload (j := 0) d_Db_raise_162 rfl ?_
      obtain ⟨q33, hw⟩ := hw
      refine r_callV (av := [ai v3, ai (gI h v0 6)]) (rest := []) (ci := 3) d_Db_raise_164 mk_Db_addPairs ll_Db_68 im_Db_addPairs se_Db_addPairs rfl (nle rfl) rfl rfl (nle rfl) q33 (s_Db_addPairs (by omega) hw (fun h32 hw => ?_))
      show aW none m_Db_raise (d + 1) 167 [(4, ai (gI h v0 6)), (0, ar v0), (1, ai v1), (2, ai v2), (3, ai v3)] [] h32 0 0 QQ
      refine r_aload_n (j := 1) d_Db_raise_167 rfl ?_
      obtain ⟨q34, hw⟩ := hw
      refine r_getR d_Db_raise_168 ok_3 (nle rfl) (nle rfl) rfl lf_Db_11 q34 ?_
      refine r_iload_n (j := 4) d_Db_raise_171 rfl ?_
      refine r_aload_n (j := 1) d_Db_raise_172 rfl ?_
      refine r_getI d_Db_raise_173 ok_3 (nle rfl) (nle rfl) rfl lf_Db_65 q34 ?_
      obtain ⟨q35, hw⟩ := hw
      obtain ⟨q36, hw⟩ := hw
      refine r_iast d_Db_raise_176 q35 q36 ?_
      refine r_iinc (j := 4) (ls2 := [(3, ai (v3 + (1 : Int32))), (4, ai (gI h v0 6)), (0, ar v0), (1, ai v1), (2, ai v2)]) d_Db_raise_177 rfl (congrArg (HAdd.hAdd v3) kc_1) (nle rfl) rfl ?_
      refine r_goto d_Db_raise_180 ?_
      refine r_pick (ls2 := [(0, ar v0), (1, ai v1), (2, ai v2), (3, ai (v3 + (1 : Int32)))]) [2, 3, 4, 0] rfl ?_
      exact ih _ _ hw
set_option maxRecDepth 100000 in
set_option maxHeartbeats 4000000 in
theorem s_Db_raise_L80 {d : Nat} (hd : 3 ≤ d + 1) {Q : Hp → Prop} {QQ : Option AV → Hp → Prop} (hQ : ∀ h9, Q h9 → QQ none h9) {v0 : Nat} {v1 : Int32} {v2 : Int32} : ∀ (n : Nat) (v3 : Int32) (h : Hp), w_Db_raise_L80 Q  v0 v1 v2 n v3 h → aW none m_Db_raise (d + 1) 80 [(0, ar v0), (1, ai v1), (2, ai v2), (3, ai v3)] [] h 0 0 QQ := by
  intro n
  induction n with
  | zero => intro v3 h hw; exact hw.elim
  | succ n ih =>
    intro v3 h hw
    unfold w_Db_raise_L80 at hw
    refine r_iload_n (j := 3) d_Db_raise_80 rfl ?_
    refine r_aload_n (j := 0) d_Db_raise_81 rfl ?_
    obtain ⟨q7, hw⟩ := hw
    refine r_getR d_Db_raise_82 ok_3 (nle rfl) (nle rfl) rfl lf_Db_27 q7 ?_
    obtain ⟨q8, hw⟩ := hw
    refine r_getI d_Db_raise_85 ok_1 (nle rfl) (nle rfl) rfl lf_Db_58 q8 ?_
    refine r_icmp_ge d_Db_raise_88 (fun w9 => ?_) (fun w9 => ?_)
    · replace hw := hw.1 w9
      refine r_aload_n (j := 0) d_Db_raise_129 rfl ?_
      refine r_getR d_Db_raise_130 ok_3 (nle rfl) (nle rfl) rfl lf_Db_11 q7 ?_
      refine r_iconst d_Db_raise_133 kc_0 ?_
      refine r_aload_n (j := 0) d_Db_raise_134 rfl ?_
      refine r_getI d_Db_raise_135 ok_3 (nle rfl) (nle rfl) rfl lf_Db_65 q7 ?_
      obtain ⟨q9, hw⟩ := hw
      obtain ⟨q10, hw⟩ := hw
      refine r_iast d_Db_raise_138 q9 q10 ?_
      refine r_iconst d_Db_raise_139 kc_1 ?_
      refine r_istore_n (ls2 := [(3, ai (1 : Int32)), (0, ar v0), (1, ai v1), (2, ai v2)]) d_Db_raise_140 (nle rfl) rfl ?_
      obtain ⟨n37, hw⟩ := hw
      refine r_pick (ls2 := [(0, ar v0), (1, ai v1), (2, ai v2), (3, ai (1 : Int32))]) [1, 2, 3, 0] rfl ?_
      exact s_Db_raise_L141 hd hQ  n37 _ _ hw
    · replace hw := hw.2 w9
      refine r_aload_n (j := 0) d_Db_raise_91 rfl ?_
      refine r_iconst d_Db_raise_92 kc_0 ?_
      refine r_aload_n (j := 0) d_Db_raise_93 rfl ?_
      refine r_getR d_Db_raise_94 ok_3 (nle rfl) (nle rfl) rfl lf_Db_27 q7 ?_
      refine r_iload_n (j := 3) d_Db_raise_97 rfl ?_
      refine r_iconst d_Db_raise_98 kc_0 ?_
      refine r_callV (av := [ai v3, ai (0 : Int32)]) (rest := [ai (0 : Int32), ar v0]) (ci := 1) d_Db_raise_99 mk_Co_numberOf ll_Db_61 im_Co_numberOf se_Co_numberOf rfl (nle rfl) rfl rfl (nle rfl) q8 (s_Co_numberOf  hw (fun r39 h38 hw => ?_))
      show aW none m_Db_raise (d + 1) 102 [(0, ar v0), (1, ai v1), (2, ai v2), (3, ai v3)] [ai r39, ai (0 : Int32), ar v0] h38 0 0 QQ
      refine r_aload_n (j := 0) d_Db_raise_102 rfl ?_
      obtain ⟨q40, hw⟩ := hw
      refine r_getR d_Db_raise_103 ok_3 (nle rfl) (nle rfl) rfl lf_Db_27 q40 ?_
      refine r_iload_n (j := 3) d_Db_raise_106 rfl ?_
      refine r_iconst d_Db_raise_107 kc_1 ?_
      obtain ⟨q43, hw⟩ := hw
      refine r_callV (av := [ai v3, ai (1 : Int32)]) (rest := [ai r39, ai (0 : Int32), ar v0]) (ci := 1) d_Db_raise_108 mk_Co_numberOf ll_Db_61 im_Co_numberOf se_Co_numberOf rfl (nle rfl) rfl rfl (nle rfl) q43 (s_Co_numberOf  hw (fun r42 h41 hw => ?_))
      show aW none m_Db_raise (d + 1) 111 [(0, ar v0), (1, ai v1), (2, ai v2), (3, ai v3)] [ai r42, ai r39, ai (0 : Int32), ar v0] h41 0 0 QQ
      refine r_aload_n (j := 0) d_Db_raise_111 rfl ?_
      obtain ⟨q44, hw⟩ := hw
      refine r_getR d_Db_raise_112 ok_3 (nle rfl) (nle rfl) rfl lf_Db_27 q44 ?_
      refine r_iload_n (j := 3) d_Db_raise_115 rfl ?_
      refine r_iconst d_Db_raise_116 kc_2 ?_
      obtain ⟨q47, hw⟩ := hw
      refine r_callV (av := [ai v3, ai (2 : Int32)]) (rest := [ai r42, ai r39, ai (0 : Int32), ar v0]) (ci := 1) d_Db_raise_117 mk_Co_numberOf ll_Db_61 im_Co_numberOf se_Co_numberOf rfl (nle rfl) rfl rfl (nle rfl) q47 (s_Co_numberOf  hw (fun r46 h45 hw => ?_))
      show aW none m_Db_raise (d + 1) 120 [(0, ar v0), (1, ai v1), (2, ai v2), (3, ai v3)] [ai r46, ai r42, ai r39, ai (0 : Int32), ar v0] h45 0 0 QQ
      obtain ⟨q49, hw⟩ := hw
      refine r_callV (av := [ai (0 : Int32), ai r39, ai r42, ai r46]) (rest := []) (ci := 3) d_Db_raise_120 mk_Db_addSum ll_Db_54 im_Db_addSum se_Db_addSum rfl (nle rfl) rfl rfl (nle rfl) q49 (s_Db_addSum (by omega) hw (fun h48 hw => ?_))
      show aW none m_Db_raise (d + 1) 123 [(0, ar v0), (1, ai v1), (2, ai v2), (3, ai v3)] [] h48 0 0 QQ
      refine r_iinc (j := 3) (ls2 := [(3, ai (v3 + (1 : Int32))), (0, ar v0), (1, ai v1), (2, ai v2)]) d_Db_raise_123 rfl (congrArg (HAdd.hAdd v3) kc_1) (nle rfl) rfl ?_
      refine r_goto d_Db_raise_126 ?_
      refine r_pick (ls2 := [(0, ar v0), (1, ai v1), (2, ai v2), (3, ai (v3 + (1 : Int32)))]) [1, 2, 3, 0] rfl ?_
      exact ih _ _ hw
set_option maxRecDepth 100000 in
set_option maxHeartbeats 4000000 in
theorem s_Db_raise_B38 {d : Nat} (hd : 3 ≤ d + 1) {Q : Hp → Prop} {QQ : Option AV → Hp → Prop} (hQ : ∀ h9, Q h9 → QQ none h9) {v0 : Nat} {v1 : Int32} {v2 : Int32} {h : Hp} (hw : w_Db_raise_B38 Q  v0 v1 v2 h) : aW none m_Db_raise (d + 1) 38 [(0, ar v0), (1, ai v1), (2, ai v2)] [] h 0 0 QQ := by
  unfold w_Db_raise_B38 at hw
  refine r_aload_n (j := 0) d_Db_raise_38 rfl ?_
  refine r_iconst d_Db_raise_39 kc_1 ?_
  obtain ⟨q2, hw⟩ := hw
  refine r_putZ d_Db_raise_40 ok_3 (nle rfl) (nle rfl) rfl lf_Db_31 rfl q2 (Or.inr rfl) ?_
  refine r_aload_n (j := 0) d_Db_raise_43 rfl ?_
  refine r_aload_n (j := 0) d_Db_raise_44 rfl ?_
  refine r_getRb eRI d_Db_raise_45 ok_3 (nle rfl) (nle rfl) rfl lf_Db_27 (kt eKI q2) ?_
  obtain ⟨q3, hw⟩ := hw
  refine r_getI d_Db_raise_48 ok_1 (nle rfl) (nle rfl) rfl lf_Db_39 (kt eKI q3) ?_
  refine r_putI d_Db_raise_51 ok_3 (nle rfl) (nle rfl) rfl lf_Db_35 rfl (kt eKI q2) ?_
  refine r_aload_n (j := 0) d_Db_raise_54 rfl ?_
  refine r_iload_n (j := 1) d_Db_raise_55 rfl ?_
  refine r_putI d_Db_raise_56 ok_3 (nle rfl) (nle rfl) rfl lf_Db_44 rfl (kt (eKI.trans eKI) q2) ?_
  refine r_aload_n (j := 0) d_Db_raise_59 rfl ?_
  refine r_iload_n (j := 2) d_Db_raise_60 rfl ?_
  refine r_putI d_Db_raise_61 ok_3 (nle rfl) (nle rfl) rfl lf_Db_47 rfl (kt (eKI.trans (eKI.trans eKI)) q2) ?_
  refine r_aload_n (j := 0) d_Db_raise_64 rfl ?_
  refine r_iload_n (j := 1) d_Db_raise_65 rfl ?_
  refine r_iload_n (j := 2) d_Db_raise_66 rfl ?_
  refine r_callV (av := [ai v1, ai v2]) (rest := []) (ci := 3) d_Db_raise_67 mk_Db_beginLevel ll_Db_50 im_Db_beginLevel se_Db_beginLevel rfl (nle rfl) rfl rfl (nle rfl) (kt (eKI.trans (eKI.trans (eKI.trans eKI))) q2) (s_Db_beginLevel (by omega) hw (fun h4 hw => ?_))
  show aW none m_Db_raise (d + 1) 70 [(0, ar v0), (1, ai v1), (2, ai v2)] [] h4 0 0 QQ
  refine r_aload_n (j := 0) d_Db_raise_70 rfl ?_
  refine r_iconst d_Db_raise_71 kc_0 ?_
  refine r_iconst d_Db_raise_72 kc_0 ?_
  refine r_iconst d_Db_raise_73 kc_0 ?_
  refine r_iconst d_Db_raise_74 kc_0 ?_
  obtain ⟨q6, hw⟩ := hw
  refine r_callV (av := [ai (0 : Int32), ai (0 : Int32), ai (0 : Int32), ai (0 : Int32)]) (rest := []) (ci := 3) d_Db_raise_75 mk_Db_addSum ll_Db_54 im_Db_addSum se_Db_addSum rfl (nle rfl) rfl rfl (nle rfl) q6 (s_Db_addSum (by omega) hw (fun h5 hw => ?_))
  show aW none m_Db_raise (d + 1) 78 [(0, ar v0), (1, ai v1), (2, ai v2)] [] h5 0 0 QQ
  refine r_iconst d_Db_raise_78 kc_0 ?_
  refine r_istore_n (ls2 := [(3, ai (0 : Int32)), (0, ar v0), (1, ai v1), (2, ai v2)]) d_Db_raise_79 (nle rfl) rfl ?_
  obtain ⟨n50, hw⟩ := hw
  refine r_pick (ls2 := [(0, ar v0), (1, ai v1), (2, ai v2), (3, ai (0 : Int32))]) [1, 2, 3, 0] rfl ?_
  exact s_Db_raise_L80 hd hQ  n50 _ _ hw
set_option maxRecDepth 100000 in
set_option maxHeartbeats 4000000 in
theorem s_Db_raise {d : Nat} (hd : 3 ≤ d) {v0 : Nat} {v1 : Int32} {v2 : Int32} {h : Hp} {Q : Hp → Prop} {QQ : Option AV → Hp → Prop} (hw : w_Db_raise v0 v1 v2 h Q) (hQ : ∀ h9, Q h9 → QQ none h9) : aCall m_Db_raise d [ar v0, ai v1, ai v2] h 0 0 QQ := by
  obtain ⟨d, rfl⟩ : ∃ d9, d = d9 + 1 := ⟨d - 1, by omega⟩
  refine aCall_in pl_Db_raise (nle rfl) ?_
  show aW none m_Db_raise (d + 1) 0 [(0, ar v0), (1, ai v1), (2, ai v2)] [] h 0 0 QQ
  unfold w_Db_raise at hw
  refine r_aload_n (j := 0) d_Db_raise_0 rfl ?_
  obtain ⟨q1, hw⟩ := hw
  refine r_getI d_Db_raise_1 ok_3 (nle rfl) (nle rfl) rfl lf_Db_31 q1 ?_
  refine r_if_eq d_Db_raise_4 (fun w9 => ?_) (fun w9 => ?_)
  · replace hw := hw.1 w9
    exact s_Db_raise_B38 hd hQ  hw
  · replace hw := hw.2 w9
    refine r_aload_n (j := 0) d_Db_raise_7 rfl ?_
    refine r_getI d_Db_raise_8 ok_3 (nle rfl) (nle rfl) rfl lf_Db_35 q1 ?_
    refine r_aload_n (j := 0) d_Db_raise_11 rfl ?_
    refine r_getR d_Db_raise_12 ok_3 (nle rfl) (nle rfl) rfl lf_Db_27 q1 ?_
    obtain ⟨q51, hw⟩ := hw
    refine r_getI d_Db_raise_15 ok_1 (nle rfl) (nle rfl) rfl lf_Db_39 q51 ?_
    refine r_icmp_ne d_Db_raise_18 (fun w9 => ?_) (fun w9 => ?_)
    · replace hw := hw.2 w9
      exact s_Db_raise_B38 hd hQ  hw
    · replace hw := hw.1 w9
      refine r_aload_n (j := 0) d_Db_raise_21 rfl ?_
      refine r_getI d_Db_raise_22 ok_3 (nle rfl) (nle rfl) rfl lf_Db_44 q1 ?_
      refine r_iload_n (j := 1) d_Db_raise_25 rfl ?_
      refine r_icmp_ne d_Db_raise_26 (fun w9 => ?_) (fun w9 => ?_)
      · replace hw := hw.2 w9
        exact s_Db_raise_B38 hd hQ  hw
      · replace hw := hw.1 w9
        refine r_aload_n (j := 0) d_Db_raise_29 rfl ?_
        refine r_getI d_Db_raise_30 ok_3 (nle rfl) (nle rfl) rfl lf_Db_47 q1 ?_
        refine r_iload_n (j := 2) d_Db_raise_33 rfl ?_
        refine r_icmp_ne d_Db_raise_34 (fun w9 => ?_) (fun w9 => ?_)
        · replace hw := hw.2 w9
          exact s_Db_raise_B38 hd hQ  hw
        · replace hw := hw.1 w9
          exact r_return d_Db_raise_37.1 rfl (hQ _ hw)
set_option maxRecDepth 100000 in
set_option maxHeartbeats 4000000 in
theorem s_Ex_init {d : Nat} (hd : 1 ≤ d) {v0 : Nat} {v1 : Nat} {bc bs : Nat} {h : Hp} {Q : Hp → Prop} {QQ : Option AV → Hp → Prop} (hw : w_Ex_init bc bs v0 v1 h Q) (hQ : ∀ h9, Q h9 → QQ none h9) : aCall m_Ex_init d [ar v0, ar v1] h bc bs QQ := by
  obtain ⟨d, rfl⟩ : ∃ d9, d = d9 + 1 := ⟨d - 1, by omega⟩
  refine aCall_in pl_Ex_init (nle rfl) ?_
  show aW none m_Ex_init (d + 1) 0 [(0, ar v0), (1, ar v1)] [] h bc bs QQ
  unfold w_Ex_init at hw
  refine r_aload_n (j := 0) d_Ex_init_0 rfl ?_
  obtain ⟨q1, hw⟩ := hw
  refine r_objInit d_Ex_init_1 ll_Ex_3 oi_1 oi_2 (nle rfl) q1 ?_
  refine r_aload_n (j := 0) d_Ex_init_4 rfl ?_
  refine r_iconst d_Ex_init_5 kc_5 ?_
  obtain ⟨q2, hw⟩ := hw
  obtain ⟨q3, hw⟩ := hw
  obtain ⟨b4, t5, u8, u9, u6, u7, hw⟩ := hw
  subst u8 u9
  refine r_newI d_Ex_init_6 ac_I u6 rfl u7 (refB_r q2 refB_n) (refL_r q2 (refL_r q3 refL_n)) ?_
  generalize e8 : nw h 20 (ix (5 : Int32)) = h6
  generalize e7 : gX h = a7
  replace hw := hw a7 h6 e7.symm e8.symm
  obtain ⟨q8, hw⟩ := hw
  obtain ⟨q9, hw⟩ := hw
  refine r_putFR d_Ex_init_8 ok_4 (nle rfl) (nle rfl) rfl lf_Ex_11 rfl rfl rfl q8 q9 ?_
  refine r_aload_n (j := 0) d_Ex_init_11 rfl ?_
  refine r_sipush d_Ex_init_12 ks_165 ?_
  obtain ⟨q10, hw⟩ := hw
  obtain ⟨q11, hw⟩ := hw
  obtain ⟨b12, t13, u8, u9, u6, u7, hw⟩ := hw
  subst u8 u9
  refine r_newI d_Ex_init_15 ac_I u6 rfl u7 (refB_r (xt eXR q10) refB_n) (refL_r (xt eXR q10) (refL_r (xt eXR q11) refL_n)) ?_
  generalize e8 : nw (sR h6 v0 1 a7) 20 (ix (165 : Int32)) = h14
  generalize e7 : gX (sR h6 v0 1 a7) = a15
  replace hw := hw a15 h14 e7.symm e8.symm
  obtain ⟨q16, hw⟩ := hw
  obtain ⟨q17, hw⟩ := hw
  refine r_putFR d_Ex_init_17 ok_4 (nle rfl) (nle rfl) rfl lf_Ex_15 rfl rfl rfl q16 q17 ?_
  refine r_aload_n (j := 0) d_Ex_init_20 rfl ?_
  refine r_sipush d_Ex_init_21 ks_165 ?_
  obtain ⟨q18, hw⟩ := hw
  obtain ⟨q19, hw⟩ := hw
  obtain ⟨b20, t21, u8, u9, u6, u7, hw⟩ := hw
  subst u8 u9
  refine r_newI d_Ex_init_24 ac_I u6 rfl u7 (refB_r (xt eXR q18) refB_n) (refL_r (xt eXR q18) (refL_r (xt eXR q19) refL_n)) ?_
  generalize e8 : nw (sR h14 v0 2 a15) 20 (ix (165 : Int32)) = h22
  generalize e7 : gX (sR h14 v0 2 a15) = a23
  replace hw := hw a23 h22 e7.symm e8.symm
  obtain ⟨q24, hw⟩ := hw
  obtain ⟨q25, hw⟩ := hw
  refine r_putFR d_Ex_init_26 ok_4 (nle rfl) (nle rfl) rfl lf_Ex_18 rfl rfl rfl q24 q25 ?_
  refine r_aload_n (j := 0) d_Ex_init_29 rfl ?_
  refine r_sipush d_Ex_init_30 ks_165 ?_
  obtain ⟨q26, hw⟩ := hw
  obtain ⟨q27, hw⟩ := hw
  obtain ⟨b28, t29, u8, u9, u6, u7, hw⟩ := hw
  subst u8 u9
  refine r_newI d_Ex_init_33 ac_I u6 rfl u7 (refB_r (xt eXR q26) refB_n) (refL_r (xt eXR q26) (refL_r (xt eXR q27) refL_n)) ?_
  generalize e8 : nw (sR h22 v0 3 a23) 20 (ix (165 : Int32)) = h30
  generalize e7 : gX (sR h22 v0 3 a23) = a31
  replace hw := hw a31 h30 e7.symm e8.symm
  obtain ⟨q32, hw⟩ := hw
  obtain ⟨q33, hw⟩ := hw
  refine r_putFR d_Ex_init_35 ok_4 (nle rfl) (nle rfl) rfl lf_Ex_21 rfl rfl rfl q32 q33 ?_
  refine r_aload_n (j := 0) d_Ex_init_38 rfl ?_
  refine r_aload_n (j := 1) d_Ex_init_39 rfl ?_
  obtain ⟨q34, hw⟩ := hw
  refine r_putFR d_Ex_init_40 ok_4 (nle rfl) (nle rfl) rfl lf_Ex_24 rfl rfl rfl (kt eKR q32) (xt eXR q34) ?_
  exact r_return d_Ex_init_43.1 rfl (hQ _ hw)
set_option maxRecDepth 100000 in
set_option maxHeartbeats 4000000 in
theorem s_Ex_hasPlace_L7 {d : Nat} (hd : 1 ≤ d + 1) {Q : Bool → Hp → Prop} {QQ : Option AV → Hp → Prop} (hQ : ∀ r9 h9, Q r9 h9 → QQ (some (ai (b2i r9))) h9) {v0 : Nat} {v1 : Int32} {v2 : Int32} : ∀ (n : Nat) (v3 : Int32) (h : Hp), w_Ex_hasPlace_L7 Q  v0 v1 v2 n v3 h → aW none m_Ex_hasPlace (d + 1) 7 [(0, ar v0), (1, ai v1), (2, ai v2), (3, ai v3)] [] h 0 0 QQ := by
  intro n
  induction n with
  | zero => intro v3 h hw; exact hw.elim
  | succ n ih =>
    intro v3 h hw
    unfold w_Ex_hasPlace_L7 at hw
    refine r_iload_n (j := 3) d_Ex_hasPlace_7 rfl ?_
    refine r_if_le d_Ex_hasPlace_8 (fun w9 => ?_) (fun w9 => ?_)
    · replace hw := hw.1 w9
      refine r_iconst d_Ex_hasPlace_62 kc_1 ?_
      exact r_zreturn d_Ex_hasPlace_63.1 rfl (Or.inr rfl) (hQ _ _ hw)
    · replace hw := hw.2 w9
      refine r_iload_n (j := 3) d_Ex_hasPlace_11 rfl ?_
      refine r_bipush d_Ex_hasPlace_12 kb_15 ?_
      refine r_iand d_Ex_hasPlace_14 ?_
      refine r_iconst d_Ex_hasPlace_15 kc_1 ?_
      refine r_isub d_Ex_hasPlace_16 ?_
      refine r_istore (ls2 := [(4, ai ((v3 &&& (15 : Int32)) - (1 : Int32))), (0, ar v0), (1, ai v1), (2, ai v2), (3, ai v3)]) d_Ex_hasPlace_17 (nle rfl) rfl ?_
      refine r_aload_n (j := 1) d_Ex_hasPlace_19 rfl ?_
      refine r_iload_n (j := 3) d_Ex_hasPlace_20 rfl ?_
      refine r_iload (j := 0) d_Ex_hasPlace_21 rfl ?_
      obtain ⟨q6, hw⟩ := hw
      refine r_callV (av := [ai v2, ai ((v3 &&& (15 : Int32)) - (1 : Int32))]) (rest := []) (ci := 4) d_Ex_hasPlace_23 mk_Ex_times ll_Ex_57 im_Ex_times se_Ex_times rfl (nle rfl) rfl rfl (nle rfl) q6 (s_Ex_times  hw (fun r5 h4 hw => ?_))
      show aW none m_Ex_hasPlace (d + 1) 26 [(4, ai ((v3 &&& (15 : Int32)) - (1 : Int32))), (0, ar v0), (1, ai v1), (2, ai v2), (3, ai v3)] [ai r5] h4 0 0 QQ
      refine r_aload_n (j := 1) d_Ex_hasPlace_26 rfl ?_
      refine r_iload_n (j := 2) d_Ex_hasPlace_27 rfl ?_
      refine r_iload (j := 0) d_Ex_hasPlace_28 rfl ?_
      obtain ⟨q9, hw⟩ := hw
      refine r_callV (av := [ai v1, ai ((v3 &&& (15 : Int32)) - (1 : Int32))]) (rest := [ai r5]) (ci := 4) d_Ex_hasPlace_30 mk_Ex_times ll_Ex_57 im_Ex_times se_Ex_times rfl (nle rfl) rfl rfl (nle rfl) q9 (s_Ex_times  hw (fun r8 h7 hw => ?_))
      show aW none m_Ex_hasPlace (d + 1) 33 [(4, ai ((v3 &&& (15 : Int32)) - (1 : Int32))), (0, ar v0), (1, ai v1), (2, ai v2), (3, ai v3)] [ai r8, ai r5] h7 0 0 QQ
      refine r_isub d_Ex_hasPlace_33 ?_
      refine r_istore (ls2 := [(5, ai (r5 - r8)), (4, ai ((v3 &&& (15 : Int32)) - (1 : Int32))), (0, ar v0), (1, ai v1), (2, ai v2), (3, ai v3)]) d_Ex_hasPlace_34 (nle rfl) rfl ?_
      refine r_aload_n (j := 2) d_Ex_hasPlace_36 rfl ?_
      obtain ⟨q10, hw⟩ := hw
      refine r_getR d_Ex_hasPlace_37 ok_4 (nle rfl) (nle rfl) rfl lf_Ex_24 q10 ?_
      refine r_iload (j := 1) d_Ex_hasPlace_40 rfl ?_
      obtain ⟨q13, hw⟩ := hw
      refine r_callV (av := [ai ((v3 &&& (15 : Int32)) - (1 : Int32))]) (rest := []) (ci := 1) d_Ex_hasPlace_42 mk_Co_heldOf ll_Ex_103 im_Co_heldOf se_Co_heldOf rfl (nle rfl) rfl rfl (nle rfl) q13 (s_Co_heldOf  hw (fun r12 h11 hw => ?_))
      show aW none m_Ex_hasPlace (d + 1) 45 [(5, ai (r5 - r8)), (4, ai ((v3 &&& (15 : Int32)) - (1 : Int32))), (0, ar v0), (1, ai v1), (2, ai v2), (3, ai v3)] [ai r12] h11 0 0 QQ
      refine r_iload (j := 0) d_Ex_hasPlace_45 rfl ?_
      refine r_iadd d_Ex_hasPlace_47 ?_
      refine r_bipush d_Ex_hasPlace_48 kb_99 ?_
      refine r_icmp_le d_Ex_hasPlace_50 (fun w9 => ?_) (fun w9 => ?_)
      · replace hw := hw.1 w9
        refine r_iload_n (j := 5) d_Ex_hasPlace_55 rfl ?_
        refine r_iconst d_Ex_hasPlace_56 kc_4 ?_
        refine r_ishr d_Ex_hasPlace_57 ?_
        refine r_istore_n (ls2 := [(3, ai (jshr v3 (4 : Int32))), (5, ai (r5 - r8)), (4, ai ((v3 &&& (15 : Int32)) - (1 : Int32))), (0, ar v0), (1, ai v1), (2, ai v2)]) d_Ex_hasPlace_58 (nle rfl) rfl ?_
        refine r_goto d_Ex_hasPlace_59 ?_
        refine r_pick (ls2 := [(0, ar v0), (1, ai v1), (2, ai v2), (3, ai (jshr v3 (4 : Int32)))]) [3, 4, 5, 0] rfl ?_
        exact ih _ _ hw
      · replace hw := hw.2 w9
        refine r_iconst d_Ex_hasPlace_53 kc_0 ?_
        exact r_zreturn d_Ex_hasPlace_54.1 rfl (Or.inl rfl) (hQ _ _ hw)
