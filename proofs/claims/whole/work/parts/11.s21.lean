set_option maxRecDepth 100000 in
set_option maxHeartbeats 4000000 in
theorem s_M_seen {d : Nat} (hd : 2 ≤ d) {v0 : Nat} {v1 : Int32} {v2 : Int32} {v3 : Int32} {v4 : Int32} {v5 : Int32} {h : Hp} {Q : Int32 → Hp → Prop} {QQ : Option AV → Hp → Prop} (hw : w_M_seen v0 v1 v2 v3 v4 v5 h Q) (hQ : ∀ r9 h9, Q r9 h9 → QQ (some (ai r9)) h9) : aCall m_M_seen d [ar v0, ai v1, ai v2, ai v3, ai v4, ai v5] h 0 0 QQ := by
  obtain ⟨d, rfl⟩ : ∃ d9, d = d9 + 1 := ⟨d - 1, by omega⟩
  refine aCall_in pl_M_seen (nle rfl) ?_
  show aW none m_M_seen (d + 1) 0 [(0, ar v0), (1, ai v1), (2, ai v2), (3, ai v3), (4, ai v4), (5, ai v5)] [] h 0 0 QQ
  unfold w_M_seen at hw
  refine r_iload_n (j := 1) d_M_seen_0 rfl ?_
  refine r_iconst d_M_seen_1 kc_0 ?_
  refine r_bipush d_M_seen_2 kb_8 ?_
  refine r_callS (av := [ai v1, ai (0 : Int32), ai (8 : Int32)]) (rest := []) d_M_seen_4 mk_M_isIn ll_M_148 st_M_isIn rfl rfl (nle rfl) (s_M_isIn  hw (fun r2 h1 hw => ?_))
  show aW none m_M_seen (d + 1) 7 [(0, ar v0), (1, ai v1), (2, ai v2), (3, ai v3), (4, ai v4), (5, ai v5)] [ai (b2i r2)] h1 0 0 QQ
  refine r_if_eq d_M_seen_7 (fun w9 => ?_) (fun w9 => ?_)
  · replace hw := hw.1 (b2i_0.mp w9)
    refine r_iconst d_M_seen_41 kc_m1 ?_
    exact r_ireturn d_M_seen_42.1 rfl (hQ _ _ hw)
  · replace hw := hw.2 (fun g9 => w9 (b2i_0.mpr g9))
    refine r_iload_n (j := 2) d_M_seen_10 rfl ?_
    refine r_callS (av := [ai v2]) (rest := []) d_M_seen_11 mk_M_isFar ll_M_524 st_M_isFar rfl rfl (nle rfl) (s_M_isFar (by omega) hw (fun r4 h3 hw => ?_))
    show aW none m_M_seen (d + 1) 14 [(0, ar v0), (1, ai v1), (2, ai v2), (3, ai v3), (4, ai v4), (5, ai v5)] [ai (b2i r4)] h3 0 0 QQ
    refine r_if_eq d_M_seen_14 (fun w9 => ?_) (fun w9 => ?_)
    · replace hw := hw.1 (b2i_0.mp w9)
      refine r_iconst d_M_seen_41 kc_m1 ?_
      exact r_ireturn d_M_seen_42.1 rfl (hQ _ _ hw)
    · replace hw := hw.2 (fun g9 => w9 (b2i_0.mpr g9))
      refine r_iload_n (j := 3) d_M_seen_17 rfl ?_
      refine r_callS (av := [ai v3]) (rest := []) d_M_seen_18 mk_M_isFar ll_M_524 st_M_isFar rfl rfl (nle rfl) (s_M_isFar (by omega) hw (fun r6 h5 hw => ?_))
      show aW none m_M_seen (d + 1) 21 [(0, ar v0), (1, ai v1), (2, ai v2), (3, ai v3), (4, ai v4), (5, ai v5)] [ai (b2i r6)] h5 0 0 QQ
      refine r_if_eq d_M_seen_21 (fun w9 => ?_) (fun w9 => ?_)
      · replace hw := hw.1 (b2i_0.mp w9)
        refine r_iconst d_M_seen_41 kc_m1 ?_
        exact r_ireturn d_M_seen_42.1 rfl (hQ _ _ hw)
      · replace hw := hw.2 (fun g9 => w9 (b2i_0.mpr g9))
        refine r_iload (j := 4) d_M_seen_24 rfl ?_
        refine r_callS (av := [ai v4]) (rest := []) d_M_seen_26 mk_M_isFar ll_M_524 st_M_isFar rfl rfl (nle rfl) (s_M_isFar (by omega) hw (fun r8 h7 hw => ?_))
        show aW none m_M_seen (d + 1) 29 [(0, ar v0), (1, ai v1), (2, ai v2), (3, ai v3), (4, ai v4), (5, ai v5)] [ai (b2i r8)] h7 0 0 QQ
        refine r_if_eq d_M_seen_29 (fun w9 => ?_) (fun w9 => ?_)
        · replace hw := hw.1 (b2i_0.mp w9)
          refine r_iconst d_M_seen_41 kc_m1 ?_
          exact r_ireturn d_M_seen_42.1 rfl (hQ _ _ hw)
        · replace hw := hw.2 (fun g9 => w9 (b2i_0.mpr g9))
          refine r_aload_n (j := 0) d_M_seen_32 rfl ?_
          obtain ⟨q9, hw⟩ := hw
          refine r_getI d_M_seen_33 ok_12 (nle rfl) (nle rfl) rfl lf_M_256 q9 ?_
          refine r_bipush d_M_seen_36 kb_20 ?_
          refine r_icmp_ne d_M_seen_38 (fun w9 => ?_) (fun w9 => ?_)
          · replace hw := hw.2 w9
            refine r_aload_n (j := 0) d_M_seen_43 rfl ?_
            refine r_getR d_M_seen_44 ok_12 (nle rfl) (nle rfl) rfl lf_M_107 q9 ?_
            refine r_aload_n (j := 0) d_M_seen_47 rfl ?_
            refine r_getI d_M_seen_48 ok_12 (nle rfl) (nle rfl) rfl lf_M_256 q9 ?_
            refine r_iload_n (j := 1) d_M_seen_51 rfl ?_
            obtain ⟨q10, hw⟩ := hw
            obtain ⟨q11, hw⟩ := hw
            refine r_iast d_M_seen_52 q10 q11 ?_
            refine r_aload_n (j := 0) d_M_seen_53 rfl ?_
            refine r_getRb eRI d_M_seen_54 ok_12 (nle rfl) (nle rfl) rfl lf_M_110 (kt eKI q9) ?_
            refine r_iconst d_M_seen_57 kc_3 ?_
            refine r_aload_n (j := 0) d_M_seen_58 rfl ?_
            refine r_getI d_M_seen_59 ok_12 (nle rfl) (nle rfl) rfl lf_M_256 (kt eKI q9) ?_
            refine r_imul d_M_seen_62 ?_
            refine r_iload_n (j := 2) d_M_seen_63 rfl ?_
            obtain ⟨q12, hw⟩ := hw
            obtain ⟨q13, hw⟩ := hw
            refine r_iast d_M_seen_64 (kt eKI q12) (nt eNI q13) ?_
            refine r_aload_n (j := 0) d_M_seen_65 rfl ?_
            refine r_getRb (eRI.trans eRI) d_M_seen_66 ok_12 (nle rfl) (nle rfl) rfl lf_M_110 (kt (eKI.trans eKI) q9) ?_
            refine r_iconst d_M_seen_69 kc_3 ?_
            refine r_aload_n (j := 0) d_M_seen_70 rfl ?_
            refine r_getI d_M_seen_71 ok_12 (nle rfl) (nle rfl) rfl lf_M_256 (kt (eKI.trans eKI) q9) ?_
            refine r_imul d_M_seen_74 ?_
            refine r_iconst d_M_seen_75 kc_1 ?_
            refine r_iadd d_M_seen_76 ?_
            refine r_iload_n (j := 3) d_M_seen_77 rfl ?_
            obtain ⟨q14, hw⟩ := hw
            refine r_iast d_M_seen_78 (kt (eKI.trans eKI) q12) (nt (eNI.trans eNI) q14) ?_
            refine r_aload_n (j := 0) d_M_seen_79 rfl ?_
            refine r_getRb (eRI.trans (eRI.trans eRI)) d_M_seen_80 ok_12 (nle rfl) (nle rfl) rfl lf_M_110 (kt (eKI.trans (eKI.trans eKI)) q9) ?_
            refine r_iconst d_M_seen_83 kc_3 ?_
            refine r_aload_n (j := 0) d_M_seen_84 rfl ?_
            refine r_getI d_M_seen_85 ok_12 (nle rfl) (nle rfl) rfl lf_M_256 (kt (eKI.trans (eKI.trans eKI)) q9) ?_
            refine r_imul d_M_seen_88 ?_
            refine r_iconst d_M_seen_89 kc_2 ?_
            refine r_iadd d_M_seen_90 ?_
            refine r_iload (j := 4) d_M_seen_91 rfl ?_
            obtain ⟨q15, hw⟩ := hw
            refine r_iast d_M_seen_93 (kt (eKI.trans (eKI.trans eKI)) q12) (nt (eNI.trans (eNI.trans eNI)) q15) ?_
            refine r_aload_n (j := 0) d_M_seen_94 rfl ?_
            refine r_getRb (eRI.trans (eRI.trans (eRI.trans eRI))) d_M_seen_95 ok_12 (nle rfl) (nle rfl) rfl lf_M_113 (kt (eKI.trans (eKI.trans (eKI.trans eKI))) q9) ?_
            refine r_aload_n (j := 0) d_M_seen_98 rfl ?_
            refine r_getI d_M_seen_99 ok_12 (nle rfl) (nle rfl) rfl lf_M_256 (kt (eKI.trans (eKI.trans (eKI.trans eKI))) q9) ?_
            refine r_iload (j := 5) d_M_seen_102 rfl ?_
            refine r_callS (av := [ai v5]) (rest := [ai (gI (sI (sI (sI (sI h7 (gR h7 v0 68) (ix (gI h7 v0 73)) v1) (gR h7 v0 69) (ix ((3 : Int32) * (gI (sI h7 (gR h7 v0 68) (ix (gI h7 v0 73)) v1) v0 73))) v2) (gR h7 v0 69) (ix (((3 : Int32) * (gI (sI (sI h7 (gR h7 v0 68) (ix (gI h7 v0 73)) v1) (gR h7 v0 69) (ix ((3 : Int32) * (gI (sI h7 (gR h7 v0 68) (ix (gI h7 v0 73)) v1) v0 73))) v2) v0 73)) + (1 : Int32))) v3) (gR h7 v0 69) (ix (((3 : Int32) * (gI (sI (sI (sI h7 (gR h7 v0 68) (ix (gI h7 v0 73)) v1) (gR h7 v0 69) (ix ((3 : Int32) * (gI (sI h7 (gR h7 v0 68) (ix (gI h7 v0 73)) v1) v0 73))) v2) (gR h7 v0 69) (ix (((3 : Int32) * (gI (sI (sI h7 (gR h7 v0 68) (ix (gI h7 v0 73)) v1) (gR h7 v0 69) (ix ((3 : Int32) * (gI (sI h7 (gR h7 v0 68) (ix (gI h7 v0 73)) v1) v0 73))) v2) v0 73)) + (1 : Int32))) v3) v0 73)) + (2 : Int32))) v4) v0 73), ar (gR h7 v0 70)]) d_M_seen_104 mk_M_truth ll_M_318 st_M_truth rfl rfl (nle rfl) (s_M_truth  hw (fun r17 h16 hw => ?_))
            show aW none m_M_seen (d + 1) 107 [(0, ar v0), (1, ai v1), (2, ai v2), (3, ai v3), (4, ai v4), (5, ai v5)] [ai r17, ai (gI (sI (sI (sI (sI h7 (gR h7 v0 68) (ix (gI h7 v0 73)) v1) (gR h7 v0 69) (ix ((3 : Int32) * (gI (sI h7 (gR h7 v0 68) (ix (gI h7 v0 73)) v1) v0 73))) v2) (gR h7 v0 69) (ix (((3 : Int32) * (gI (sI (sI h7 (gR h7 v0 68) (ix (gI h7 v0 73)) v1) (gR h7 v0 69) (ix ((3 : Int32) * (gI (sI h7 (gR h7 v0 68) (ix (gI h7 v0 73)) v1) v0 73))) v2) v0 73)) + (1 : Int32))) v3) (gR h7 v0 69) (ix (((3 : Int32) * (gI (sI (sI (sI h7 (gR h7 v0 68) (ix (gI h7 v0 73)) v1) (gR h7 v0 69) (ix ((3 : Int32) * (gI (sI h7 (gR h7 v0 68) (ix (gI h7 v0 73)) v1) v0 73))) v2) (gR h7 v0 69) (ix (((3 : Int32) * (gI (sI (sI h7 (gR h7 v0 68) (ix (gI h7 v0 73)) v1) (gR h7 v0 69) (ix ((3 : Int32) * (gI (sI h7 (gR h7 v0 68) (ix (gI h7 v0 73)) v1) v0 73))) v2) v0 73)) + (1 : Int32))) v3) v0 73)) + (2 : Int32))) v4) v0 73), ar (gR h7 v0 70)] h16 0 0 QQ
            obtain ⟨q18, hw⟩ := hw
            obtain ⟨q19, hw⟩ := hw
            refine r_iast d_M_seen_107 q18 q19 ?_
            refine r_aload_n (j := 0) d_M_seen_108 rfl ?_
            obtain ⟨q20, hw⟩ := hw
            refine r_getRb eRI d_M_seen_109 ok_12 (nle rfl) (nle rfl) rfl lf_M_116 (kt eKI q20) ?_
            refine r_aload_n (j := 0) d_M_seen_112 rfl ?_
            refine r_getI d_M_seen_113 ok_12 (nle rfl) (nle rfl) rfl lf_M_256 (kt eKI q20) ?_
            refine r_aload_n (j := 0) d_M_seen_116 rfl ?_
            refine r_getI d_M_seen_117 ok_12 (nle rfl) (nle rfl) rfl lf_M_527 (kt eKI q20) ?_
            obtain ⟨q21, hw⟩ := hw
            obtain ⟨q22, hw⟩ := hw
            refine r_iast d_M_seen_120 (kt eKI q21) (nt eNI q22) ?_
            refine r_aload_n (j := 0) d_M_seen_121 rfl ?_
            refine r_getRb (eRI.trans eRI) d_M_seen_122 ok_12 (nle rfl) (nle rfl) rfl lf_M_119 (kt (eKI.trans eKI) q20) ?_
            refine r_aload_n (j := 0) d_M_seen_125 rfl ?_
            refine r_getI d_M_seen_126 ok_12 (nle rfl) (nle rfl) rfl lf_M_256 (kt (eKI.trans eKI) q20) ?_
            refine r_iconst d_M_seen_129 kc_m1 ?_
            obtain ⟨q23, hw⟩ := hw
            obtain ⟨q24, hw⟩ := hw
            refine r_iast d_M_seen_130 (kt (eKI.trans eKI) q23) (nt (eNI.trans eNI) q24) ?_
            refine r_aload_n (j := 0) d_M_seen_131 rfl ?_
            refine r_dup d_M_seen_132 rfl ?_
            refine r_getI d_M_seen_133 ok_12 (nle rfl) (nle rfl) rfl lf_M_256 (kt (eKI.trans (eKI.trans eKI)) q20) ?_
            refine r_iconst d_M_seen_136 kc_1 ?_
            refine r_iadd d_M_seen_137 ?_
            refine r_putI d_M_seen_138 ok_12 (nle rfl) (nle rfl) rfl lf_M_256 rfl (kt (eKI.trans (eKI.trans eKI)) q20) ?_
            refine r_aload_n (j := 0) d_M_seen_141 rfl ?_
            refine r_getI d_M_seen_142 ok_12 (nle rfl) (nle rfl) rfl lf_M_256 (kt (eKI.trans (eKI.trans (eKI.trans eKI))) q20) ?_
            refine r_iconst d_M_seen_145 kc_1 ?_
            refine r_isub d_M_seen_146 ?_
            exact r_ireturn d_M_seen_147.1 rfl (hQ _ _ hw)
          · replace hw := hw.1 w9
            refine r_iconst d_M_seen_41 kc_m1 ?_
            exact r_ireturn d_M_seen_42.1 rfl (hQ _ _ hw)
set_option maxRecDepth 100000 in
set_option maxHeartbeats 4000000 in
theorem s_M_untell {d : Nat} (hd : 1 ≤ d) {v0 : Nat} {v1 : Int32} {h : Hp} {Q : Bool → Hp → Prop} {QQ : Option AV → Hp → Prop} (hw : w_M_untell v0 v1 h Q) (hQ : ∀ r9 h9, Q r9 h9 → QQ (some (ai (b2i r9))) h9) : aCall m_M_untell d [ar v0, ai v1] h 0 0 QQ := by
  obtain ⟨d, rfl⟩ : ∃ d9, d = d9 + 1 := ⟨d - 1, by omega⟩
  refine aCall_in pl_M_untell (nle rfl) ?_
  show aW none m_M_untell (d + 1) 0 [(0, ar v0), (1, ai v1)] [] h 0 0 QQ
  unfold w_M_untell at hw
  refine r_iload_n (j := 1) d_M_untell_0 rfl ?_
  refine r_iconst d_M_untell_1 kc_0 ?_
  refine r_aload_n (j := 0) d_M_untell_2 rfl ?_
  obtain ⟨q1, hw⟩ := hw
  refine r_getI d_M_untell_3 ok_12 (nle rfl) (nle rfl) rfl lf_M_256 q1 ?_
  refine r_iconst d_M_untell_6 kc_1 ?_
  refine r_isub d_M_untell_7 ?_
  refine r_callS (av := [ai v1, ai (0 : Int32), ai ((gI h v0 73) - (1 : Int32))]) (rest := []) d_M_untell_8 mk_M_isIn ll_M_148 st_M_isIn rfl rfl (nle rfl) (s_M_isIn  hw (fun r3 h2 hw => ?_))
  show aW none m_M_untell (d + 1) 11 [(0, ar v0), (1, ai v1)] [ai (b2i r3)] h2 0 0 QQ
  refine r_if_eq d_M_untell_11 (fun w9 => ?_) (fun w9 => ?_)
  · replace hw := hw.1 (b2i_0.mp w9)
    refine r_iconst d_M_untell_24 kc_0 ?_
    exact r_zreturn d_M_untell_25.1 rfl (Or.inl rfl) (hQ _ _ hw)
  · replace hw := hw.2 (fun g9 => w9 (b2i_0.mpr g9))
    refine r_aload_n (j := 0) d_M_untell_14 rfl ?_
    obtain ⟨q4, hw⟩ := hw
    refine r_getR d_M_untell_15 ok_12 (nle rfl) (nle rfl) rfl lf_M_119 q4 ?_
    refine r_iload_n (j := 1) d_M_untell_18 rfl ?_
    obtain ⟨q5, hw⟩ := hw
    obtain ⟨q6, hw⟩ := hw
    refine r_iald d_M_untell_19 q5 q6 ?_
    refine r_iconst d_M_untell_20 kc_m1 ?_
    refine r_icmp_eq d_M_untell_21 (fun w9 => ?_) (fun w9 => ?_)
    · replace hw := hw.1 w9
      refine r_aload_n (j := 0) d_M_untell_26 rfl ?_
      refine r_getR d_M_untell_27 ok_12 (nle rfl) (nle rfl) rfl lf_M_119 q4 ?_
      refine r_iload_n (j := 1) d_M_untell_30 rfl ?_
      refine r_aload_n (j := 0) d_M_untell_31 rfl ?_
      refine r_getI d_M_untell_32 ok_12 (nle rfl) (nle rfl) rfl lf_M_527 q4 ?_
      refine r_iast d_M_untell_35 q5 q6 ?_
      refine r_iconst d_M_untell_36 kc_1 ?_
      exact r_zreturn d_M_untell_37.1 rfl (Or.inr rfl) (hQ _ _ hw)
    · replace hw := hw.2 w9
      refine r_iconst d_M_untell_24 kc_0 ?_
      exact r_zreturn d_M_untell_25.1 rfl (Or.inl rfl) (hQ _ _ hw)
set_option maxRecDepth 100000 in
set_option maxHeartbeats 4000000 in
theorem s_M_later {d : Nat} (hd : 1 ≤ d) {v0 : Nat} {v1 : Int32} {h : Hp} {Q : Int32 → Hp → Prop} {QQ : Option AV → Hp → Prop} (hw : w_M_later v0 v1 h Q) (hQ : ∀ r9 h9, Q r9 h9 → QQ (some (ai r9)) h9) : aCall m_M_later d [ar v0, ai v1] h 0 0 QQ := by
  obtain ⟨d, rfl⟩ : ∃ d9, d = d9 + 1 := ⟨d - 1, by omega⟩
  refine aCall_in pl_M_later (nle rfl) ?_
  show aW none m_M_later (d + 1) 0 [(0, ar v0), (1, ai v1)] [] h 0 0 QQ
  unfold w_M_later at hw
  refine r_iload_n (j := 1) d_M_later_0 rfl ?_
  refine r_iconst d_M_later_1 kc_0 ?_
  refine r_sipush d_M_later_2 ks_1000 ?_
  refine r_callS (av := [ai v1, ai (0 : Int32), ai (1000 : Int32)]) (rest := []) d_M_later_5 mk_M_isIn ll_M_148 st_M_isIn rfl rfl (nle rfl) (s_M_isIn  hw (fun r2 h1 hw => ?_))
  show aW none m_M_later (d + 1) 8 [(0, ar v0), (1, ai v1)] [ai (b2i r2)] h1 0 0 QQ
  refine r_if_eq d_M_later_8 (fun w9 => ?_) (fun w9 => ?_)
  · replace hw := hw.1 (b2i_0.mp w9)
    refine r_iconst d_M_later_23 kc_m1 ?_
    exact r_ireturn d_M_later_24.1 rfl (hQ _ _ hw)
  · replace hw := hw.2 (fun g9 => w9 (b2i_0.mpr g9))
    refine r_aload_n (j := 0) d_M_later_11 rfl ?_
    obtain ⟨q3, hw⟩ := hw
    refine r_getI d_M_later_12 ok_12 (nle rfl) (nle rfl) rfl lf_M_527 q3 ?_
    refine r_iload_n (j := 1) d_M_later_15 rfl ?_
    refine r_iadd d_M_later_16 ?_
    refine r_ldcw d_M_later_17 lc_M_530 ?_
    refine r_icmp_le d_M_later_20 (fun w9 => ?_) (fun w9 => ?_)
    · replace hw := hw.1 w9
      refine r_aload_n (j := 0) d_M_later_25 rfl ?_
      refine r_dup d_M_later_26 rfl ?_
      refine r_getI d_M_later_27 ok_12 (nle rfl) (nle rfl) rfl lf_M_527 q3 ?_
      refine r_iload_n (j := 1) d_M_later_30 rfl ?_
      refine r_iadd d_M_later_31 ?_
      refine r_putI d_M_later_32 ok_12 (nle rfl) (nle rfl) rfl lf_M_527 rfl q3 ?_
      refine r_aload_n (j := 0) d_M_later_35 rfl ?_
      refine r_getI d_M_later_36 ok_12 (nle rfl) (nle rfl) rfl lf_M_527 (kt eKI q3) ?_
      exact r_ireturn d_M_later_39.1 rfl (hQ _ _ hw)
    · replace hw := hw.2 w9
      refine r_iconst d_M_later_23 kc_m1 ?_
      exact r_ireturn d_M_later_24.1 rfl (hQ _ _ hw)
set_option maxRecDepth 100000 in
set_option maxHeartbeats 4000000 in
theorem s_M_doesCount {d : Nat} {v0 : Nat} {v1 : Int32} {v2 : Int32} {h : Hp} {Q : Bool → Hp → Prop} {QQ : Option AV → Hp → Prop} (hw : w_M_doesCount v0 v1 v2 h Q) (hQ : ∀ r9 h9, Q r9 h9 → QQ (some (ai (b2i r9))) h9) : aCall m_M_doesCount d [ar v0, ai v1, ai v2] h 0 0 QQ := by
  refine aCall_in pl_M_doesCount (nle rfl) ?_
  show aW none m_M_doesCount d 0 [(0, ar v0), (1, ai v1), (2, ai v2)] [] h 0 0 QQ
  unfold w_M_doesCount at hw
  refine r_aload_n (j := 0) d_M_doesCount_0 rfl ?_
  obtain ⟨q1, hw⟩ := hw
  refine r_getR d_M_doesCount_1 ok_12 (nle rfl) (nle rfl) rfl lf_M_116 q1 ?_
  refine r_iload_n (j := 1) d_M_doesCount_4 rfl ?_
  obtain ⟨q2, hw⟩ := hw
  obtain ⟨q3, hw⟩ := hw
  refine r_iald d_M_doesCount_5 q2 q3 ?_
  refine r_iload_n (j := 2) d_M_doesCount_6 rfl ?_
  refine r_icmp_gt d_M_doesCount_7 (fun w9 => ?_) (fun w9 => ?_)
  · replace hw := hw.1 w9
    refine r_iconst d_M_doesCount_34 kc_0 ?_
    exact r_zreturn d_M_doesCount_35.1 rfl (Or.inl rfl) (hQ _ _ hw)
  · replace hw := hw.2 w9
    refine r_aload_n (j := 0) d_M_doesCount_10 rfl ?_
    refine r_getR d_M_doesCount_11 ok_12 (nle rfl) (nle rfl) rfl lf_M_119 q1 ?_
    refine r_iload_n (j := 1) d_M_doesCount_14 rfl ?_
    obtain ⟨q4, hw⟩ := hw
    obtain ⟨q5, hw⟩ := hw
    refine r_iald d_M_doesCount_15 q4 q5 ?_
    refine r_iconst d_M_doesCount_16 kc_m1 ?_
    refine r_icmp_eq d_M_doesCount_17 (fun w9 => ?_) (fun w9 => ?_)
    · replace hw := hw.1 w9
      refine r_iconst d_M_doesCount_30 kc_1 ?_
      refine r_goto d_M_doesCount_31 ?_
      exact r_zreturn d_M_doesCount_35.1 rfl (Or.inr rfl) (hQ _ _ hw)
    · replace hw := hw.2 w9
      refine r_aload_n (j := 0) d_M_doesCount_20 rfl ?_
      refine r_getR d_M_doesCount_21 ok_12 (nle rfl) (nle rfl) rfl lf_M_119 q1 ?_
      refine r_iload_n (j := 1) d_M_doesCount_24 rfl ?_
      refine r_iald d_M_doesCount_25 q4 q5 ?_
      refine r_iload_n (j := 2) d_M_doesCount_26 rfl ?_
      refine r_icmp_le d_M_doesCount_27 (fun w9 => ?_) (fun w9 => ?_)
      · replace hw := hw.1 w9
        refine r_iconst d_M_doesCount_34 kc_0 ?_
        exact r_zreturn d_M_doesCount_35.1 rfl (Or.inl rfl) (hQ _ _ hw)
      · replace hw := hw.2 w9
        refine r_iconst d_M_doesCount_30 kc_1 ?_
        refine r_goto d_M_doesCount_31 ?_
        exact r_zreturn d_M_doesCount_35.1 rfl (Or.inr rfl) (hQ _ _ hw)
set_option maxRecDepth 100000 in
set_option maxHeartbeats 4000000 in
theorem s_M_toldSum_L5 {d : Nat} {Q : Int32 → Hp → Prop} {QQ : Option AV → Hp → Prop} (hQ : ∀ r9 h9, Q r9 h9 → QQ (some (ai r9)) h9) {v0 : Nat} {v1 : Int32} {v2 : Int32} : ∀ (n : Nat) (v3 : Int32) (v4 : Int32) (h : Hp), w_M_toldSum_L5 Q  v0 v1 v2 n v3 v4 h → aW none m_M_toldSum d 5 [(0, ar v0), (1, ai v1), (2, ai v2), (3, ai v3), (4, ai v4)] [] h 0 0 QQ := by
  intro n
  induction n with
  | zero => intro v3 v4 h hw; exact hw.elim
  | succ n ih =>
    intro v3 v4 h hw
    unfold w_M_toldSum_L5 at hw
    refine r_iload (j := 4) d_M_toldSum_5 rfl ?_
    refine r_aload_n (j := 0) d_M_toldSum_7 rfl ?_
    obtain ⟨q1, hw⟩ := hw
    refine r_getI d_M_toldSum_8 ok_12 (nle rfl) (nle rfl) rfl lf_M_247 q1 ?_
    refine r_icmp_ge d_M_toldSum_11 (fun w9 => ?_) (fun w9 => ?_)
    · replace hw := hw.1 w9
      refine r_iload_n (j := 3) d_M_toldSum_63 rfl ?_
      exact r_ireturn d_M_toldSum_64.1 rfl (hQ _ _ hw)
    · replace hw := hw.2 w9
      refine r_iload_n (j := 3) d_M_toldSum_14 rfl ?_
      refine r_aload_n (j := 0) d_M_toldSum_15 rfl ?_
      refine r_getR d_M_toldSum_16 ok_12 (nle rfl) (nle rfl) rfl lf_M_36 q1 ?_
      refine r_iload (j := 4) d_M_toldSum_19 rfl ?_
      obtain ⟨q2, hw⟩ := hw
      obtain ⟨q3, hw⟩ := hw
      refine r_iald d_M_toldSum_21 q2 q3 ?_
      refine r_iload (j := 4) d_M_toldSum_22 rfl ?_
      refine r_iload_n (j := 2) d_M_toldSum_24 rfl ?_
      refine r_icmp_ne d_M_toldSum_25 (fun w9 => ?_) (fun w9 => ?_)
      · replace hw := hw.2 w9
        refine r_aload_n (j := 0) d_M_toldSum_43 rfl ?_
        refine r_getR d_M_toldSum_44 ok_12 (nle rfl) (nle rfl) rfl lf_M_23 q1 ?_
        refine r_iconst d_M_toldSum_47 kc_3 ?_
        refine r_iload (j := 4) d_M_toldSum_48 rfl ?_
        refine r_imul d_M_toldSum_50 ?_
        refine r_iload_n (j := 1) d_M_toldSum_51 rfl ?_
        refine r_iadd d_M_toldSum_52 ?_
        obtain ⟨q4, hw⟩ := hw
        obtain ⟨q5, hw⟩ := hw
        refine r_iald d_M_toldSum_53 q4 q5 ?_
        refine r_imul d_M_toldSum_54 ?_
        refine r_iadd d_M_toldSum_55 ?_
        refine r_istore_n (ls2 := [(3, ai (v3 + ((gI h (gR h v0 26) (ix v4)) * (gI h (gR h v0 13) (ix (((3 : Int32) * v4) + v1)))))), (0, ar v0), (1, ai v1), (2, ai v2), (4, ai v4)]) d_M_toldSum_56 (nle rfl) rfl ?_
        refine r_iinc (j := 4) (ls2 := [(4, ai (v4 + (1 : Int32))), (3, ai (v3 + ((gI h (gR h v0 26) (ix v4)) * (gI h (gR h v0 13) (ix (((3 : Int32) * v4) + v1)))))), (0, ar v0), (1, ai v1), (2, ai v2)]) d_M_toldSum_57 rfl (congrArg (HAdd.hAdd v4) kc_1) (nle rfl) rfl ?_
        refine r_goto d_M_toldSum_60 ?_
        refine r_pick (ls2 := [(0, ar v0), (1, ai v1), (2, ai v2), (3, ai (v3 + ((gI h (gR h v0 26) (ix v4)) * (gI h (gR h v0 13) (ix (((3 : Int32) * v4) + v1)))))), (4, ai (v4 + (1 : Int32)))]) [2, 3, 4, 1, 0] rfl ?_
        exact ih _ _ _ hw
      · replace hw := hw.1 w9
        refine r_aload_n (j := 0) d_M_toldSum_28 rfl ?_
        refine r_getR d_M_toldSum_29 ok_12 (nle rfl) (nle rfl) rfl lf_M_23 q1 ?_
        refine r_iconst d_M_toldSum_32 kc_3 ?_
        refine r_iload (j := 4) d_M_toldSum_33 rfl ?_
        refine r_imul d_M_toldSum_35 ?_
        refine r_iload_n (j := 1) d_M_toldSum_36 rfl ?_
        refine r_iadd d_M_toldSum_37 ?_
        obtain ⟨q6, hw⟩ := hw
        obtain ⟨q7, hw⟩ := hw
        refine r_iald d_M_toldSum_38 q6 q7 ?_
        refine r_ineg d_M_toldSum_39 ?_
        refine r_goto d_M_toldSum_40 ?_
        refine r_imul d_M_toldSum_54 ?_
        refine r_iadd d_M_toldSum_55 ?_
        refine r_istore_n (ls2 := [(3, ai (v3 + ((gI h (gR h v0 26) (ix v4)) * (-(gI h (gR h v0 13) (ix (((3 : Int32) * v4) + v1))))))), (0, ar v0), (1, ai v1), (2, ai v2), (4, ai v4)]) d_M_toldSum_56 (nle rfl) rfl ?_
        refine r_iinc (j := 4) (ls2 := [(4, ai (v4 + (1 : Int32))), (3, ai (v3 + ((gI h (gR h v0 26) (ix v4)) * (-(gI h (gR h v0 13) (ix (((3 : Int32) * v4) + v1))))))), (0, ar v0), (1, ai v1), (2, ai v2)]) d_M_toldSum_57 rfl (congrArg (HAdd.hAdd v4) kc_1) (nle rfl) rfl ?_
        refine r_goto d_M_toldSum_60 ?_
        refine r_pick (ls2 := [(0, ar v0), (1, ai v1), (2, ai v2), (3, ai (v3 + ((gI h (gR h v0 26) (ix v4)) * (-(gI h (gR h v0 13) (ix (((3 : Int32) * v4) + v1))))))), (4, ai (v4 + (1 : Int32)))]) [2, 3, 4, 1, 0] rfl ?_
        exact ih _ _ _ hw
set_option maxRecDepth 100000 in
set_option maxHeartbeats 4000000 in
theorem s_M_toldSum {d : Nat} {v0 : Nat} {v1 : Int32} {v2 : Int32} {h : Hp} {Q : Int32 → Hp → Prop} {QQ : Option AV → Hp → Prop} (hw : w_M_toldSum v0 v1 v2 h Q) (hQ : ∀ r9 h9, Q r9 h9 → QQ (some (ai r9)) h9) : aCall m_M_toldSum d [ar v0, ai v1, ai v2] h 0 0 QQ := by
  refine aCall_in pl_M_toldSum (nle rfl) ?_
  show aW none m_M_toldSum d 0 [(0, ar v0), (1, ai v1), (2, ai v2)] [] h 0 0 QQ
  unfold w_M_toldSum at hw
  refine r_iconst d_M_toldSum_0 kc_0 ?_
  refine r_istore_n (ls2 := [(3, ai (0 : Int32)), (0, ar v0), (1, ai v1), (2, ai v2)]) d_M_toldSum_1 (nle rfl) rfl ?_
  refine r_iconst d_M_toldSum_2 kc_0 ?_
  refine r_istore (ls2 := [(4, ai (0 : Int32)), (3, ai (0 : Int32)), (0, ar v0), (1, ai v1), (2, ai v2)]) d_M_toldSum_3 (nle rfl) rfl ?_
  obtain ⟨n8, hw⟩ := hw
  refine r_pick (ls2 := [(0, ar v0), (1, ai v1), (2, ai v2), (3, ai (0 : Int32)), (4, ai (0 : Int32))]) [2, 3, 4, 1, 0] rfl ?_
  exact s_M_toldSum_L5 hQ  n8 _ _ _ hw
set_option maxRecDepth 100000 in
set_option maxHeartbeats 4000000 in
theorem s_M_isSum_L5 {d : Nat} (hd : 1 ≤ d + 1) {Q : Bool → Hp → Prop} {QQ : Option AV → Hp → Prop} (hQ : ∀ r9 h9, Q r9 h9 → QQ (some (ai (b2i r9))) h9) {v0 : Nat} {v1 : Int32} {v2 : Int32} : ∀ (n : Nat) (v3 : Int32) (v4 : Int32) (h : Hp), w_M_isSum_L5 Q  v0 v1 v2 n v3 v4 h → aW none m_M_isSum (d + 1) 5 [(0, ar v0), (1, ai v1), (2, ai v2), (3, ai v3), (4, ai v4)] [] h 0 0 QQ := by
  intro n
  induction n with
  | zero => intro v3 v4 h hw; exact hw.elim
  | succ n ih =>
    intro v3 v4 h hw
    unfold w_M_isSum_L5 at hw
    refine r_iload (j := 4) d_M_isSum_5 rfl ?_
    refine r_aload_n (j := 0) d_M_isSum_7 rfl ?_
    obtain ⟨q1, hw⟩ := hw
    refine r_getI d_M_isSum_8 ok_12 (nle rfl) (nle rfl) rfl lf_M_244 q1 ?_
    refine r_icmp_ge d_M_isSum_11 (fun w9 => ?_) (fun w9 => ?_)
    · replace hw := hw.1 w9
      refine r_iload_n (j := 3) d_M_isSum_51 rfl ?_
      obtain ⟨q2, hw⟩ := hw
      exact r_zreturn d_M_isSum_52.1 rfl q2 (by have g9 := hQ _ _ hw; rwa [b2i_i q2] at g9)
    · replace hw := hw.2 w9
      refine r_iload_n (j := 3) d_M_isSum_14 rfl ?_
      refine r_if_eq d_M_isSum_15 (fun w9 => ?_) (fun w9 => ?_)
      · replace hw := hw.1 w9
        refine r_iconst d_M_isSum_43 kc_0 ?_
        refine r_istore_n (ls2 := [(3, ai (0 : Int32)), (0, ar v0), (1, ai v1), (2, ai v2), (4, ai v4)]) d_M_isSum_44 (nle rfl) rfl ?_
        refine r_iinc (j := 4) (ls2 := [(4, ai (v4 + (1 : Int32))), (3, ai (0 : Int32)), (0, ar v0), (1, ai v1), (2, ai v2)]) d_M_isSum_45 rfl (congrArg (HAdd.hAdd v4) kc_1) (nle rfl) rfl ?_
        refine r_goto d_M_isSum_48 ?_
        refine r_pick (ls2 := [(0, ar v0), (1, ai v1), (2, ai v2), (3, ai (0 : Int32)), (4, ai (v4 + (1 : Int32)))]) [2, 3, 4, 1, 0] rfl ?_
        exact ih _ _ _ hw
      · replace hw := hw.2 w9
        refine r_aload_n (j := 0) d_M_isSum_18 rfl ?_
        refine r_iload (j := 4) d_M_isSum_19 rfl ?_
        refine r_iload_n (j := 2) d_M_isSum_21 rfl ?_
        refine r_callV (av := [ai v4, ai v2]) (rest := []) (ci := 12) d_M_isSum_22 mk_M_toldSum ll_M_531 im_M_toldSum se_M_toldSum rfl (nle rfl) rfl rfl (nle rfl) q1 (s_M_toldSum  hw (fun r4 h3 hw => ?_))
        show aW none m_M_isSum (d + 1) 25 [(0, ar v0), (1, ai v1), (2, ai v2), (3, ai v3), (4, ai v4)] [ai r4] h3 0 0 QQ
        refine r_aload_n (j := 0) d_M_isSum_25 rfl ?_
        obtain ⟨q5, hw⟩ := hw
        refine r_getR d_M_isSum_26 ok_12 (nle rfl) (nle rfl) rfl lf_M_110 q5 ?_
        refine r_iconst d_M_isSum_29 kc_3 ?_
        refine r_iload_n (j := 1) d_M_isSum_30 rfl ?_
        refine r_imul d_M_isSum_31 ?_
        refine r_iload (j := 4) d_M_isSum_32 rfl ?_
        refine r_iadd d_M_isSum_34 ?_
        obtain ⟨q6, hw⟩ := hw
        obtain ⟨q7, hw⟩ := hw
        refine r_iald d_M_isSum_35 q6 q7 ?_
        refine r_icmp_ne d_M_isSum_36 (fun w9 => ?_) (fun w9 => ?_)
        · replace hw := hw.2 w9
          refine r_iconst d_M_isSum_43 kc_0 ?_
          refine r_istore_n (ls2 := [(3, ai (0 : Int32)), (0, ar v0), (1, ai v1), (2, ai v2), (4, ai v4)]) d_M_isSum_44 (nle rfl) rfl ?_
          refine r_iinc (j := 4) (ls2 := [(4, ai (v4 + (1 : Int32))), (3, ai (0 : Int32)), (0, ar v0), (1, ai v1), (2, ai v2)]) d_M_isSum_45 rfl (congrArg (HAdd.hAdd v4) kc_1) (nle rfl) rfl ?_
          refine r_goto d_M_isSum_48 ?_
          refine r_pick (ls2 := [(0, ar v0), (1, ai v1), (2, ai v2), (3, ai (0 : Int32)), (4, ai (v4 + (1 : Int32)))]) [2, 3, 4, 1, 0] rfl ?_
          exact ih _ _ _ hw
        · replace hw := hw.1 w9
          refine r_iconst d_M_isSum_39 kc_1 ?_
          refine r_goto d_M_isSum_40 ?_
          refine r_istore_n (ls2 := [(3, ai (1 : Int32)), (0, ar v0), (1, ai v1), (2, ai v2), (4, ai v4)]) d_M_isSum_44 (nle rfl) rfl ?_
          refine r_iinc (j := 4) (ls2 := [(4, ai (v4 + (1 : Int32))), (3, ai (1 : Int32)), (0, ar v0), (1, ai v1), (2, ai v2)]) d_M_isSum_45 rfl (congrArg (HAdd.hAdd v4) kc_1) (nle rfl) rfl ?_
          refine r_goto d_M_isSum_48 ?_
          refine r_pick (ls2 := [(0, ar v0), (1, ai v1), (2, ai v2), (3, ai (1 : Int32)), (4, ai (v4 + (1 : Int32)))]) [2, 3, 4, 1, 0] rfl ?_
          exact ih _ _ _ hw
set_option maxRecDepth 100000 in
set_option maxHeartbeats 4000000 in
theorem s_M_isSum {d : Nat} (hd : 1 ≤ d) {v0 : Nat} {v1 : Int32} {v2 : Int32} {h : Hp} {Q : Bool → Hp → Prop} {QQ : Option AV → Hp → Prop} (hw : w_M_isSum v0 v1 v2 h Q) (hQ : ∀ r9 h9, Q r9 h9 → QQ (some (ai (b2i r9))) h9) : aCall m_M_isSum d [ar v0, ai v1, ai v2] h 0 0 QQ := by
  obtain ⟨d, rfl⟩ : ∃ d9, d = d9 + 1 := ⟨d - 1, by omega⟩
  refine aCall_in pl_M_isSum (nle rfl) ?_
  show aW none m_M_isSum (d + 1) 0 [(0, ar v0), (1, ai v1), (2, ai v2)] [] h 0 0 QQ
  unfold w_M_isSum at hw
  refine r_iconst d_M_isSum_0 kc_1 ?_
  refine r_istore_n (ls2 := [(3, ai (1 : Int32)), (0, ar v0), (1, ai v1), (2, ai v2)]) d_M_isSum_1 (nle rfl) rfl ?_
  refine r_iconst d_M_isSum_2 kc_0 ?_
  refine r_istore (ls2 := [(4, ai (0 : Int32)), (3, ai (1 : Int32)), (0, ar v0), (1, ai v1), (2, ai v2)]) d_M_isSum_3 (nle rfl) rfl ?_
  obtain ⟨n8, hw⟩ := hw
  refine r_pick (ls2 := [(0, ar v0), (1, ai v1), (2, ai v2), (3, ai (1 : Int32)), (4, ai (0 : Int32))]) [2, 3, 4, 1, 0] rfl ?_
  exact s_M_isSum_L5 hd hQ  n8 _ _ _ hw
set_option maxRecDepth 100000 in
set_option maxHeartbeats 4000000 in
theorem s_M_hasSum_L11 {d : Nat} (hd : 2 ≤ d + 1) {Q : Bool → Hp → Prop} {QQ : Option AV → Hp → Prop} (hQ : ∀ r9 h9, Q r9 h9 → QQ (some (ai (b2i r9))) h9) {v0 : Nat} {v1 : Int32} {v2 : Int32} : ∀ (n : Nat) (v3 : Int32) (h : Hp), w_M_hasSum_L11 Q  v0 v1 v2 n v3 h → aW none m_M_hasSum (d + 1) 11 [(0, ar v0), (1, ai v1), (2, ai v2), (3, ai v3)] [] h 0 0 QQ := by
  intro n
  induction n with
  | zero => intro v3 h hw; exact hw.elim
  | succ n ih =>
    intro v3 h hw
    unfold w_M_hasSum_L11 at hw
    refine r_iload_n (j := 3) d_M_hasSum_11 rfl ?_
    refine r_if_eq d_M_hasSum_12 (fun w9 => ?_) (fun w9 => ?_)
    · replace hw := hw.1 w9
      refine r_iconst d_M_hasSum_34 kc_0 ?_
      exact r_zreturn d_M_hasSum_35.1 rfl (Or.inl rfl) (hQ _ _ hw)
    · replace hw := hw.2 w9
      refine r_aload_n (j := 0) d_M_hasSum_15 rfl ?_
      refine r_iload_n (j := 1) d_M_hasSum_16 rfl ?_
      refine r_iload_n (j := 2) d_M_hasSum_17 rfl ?_
      obtain ⟨q8, hw⟩ := hw
      refine r_callV (av := [ai v1, ai v2]) (rest := []) (ci := 12) d_M_hasSum_18 mk_M_isSum ll_M_534 im_M_isSum se_M_isSum rfl (nle rfl) rfl rfl (nle rfl) q8 (s_M_isSum (by omega) hw (fun r7 h6 hw => ?_))
      show aW none m_M_hasSum (d + 1) 21 [(0, ar v0), (1, ai v1), (2, ai v2), (3, ai v3)] [ai (b2i r7)] h6 0 0 QQ
      refine r_if_eq d_M_hasSum_21 (fun w9 => ?_) (fun w9 => ?_)
      · replace hw := hw.1 (b2i_0.mp w9)
        refine r_aload_n (j := 0) d_M_hasSum_26 rfl ?_
        obtain ⟨q11, hw⟩ := hw
        refine r_callV (av := []) (rest := []) (ci := 12) d_M_hasSum_27 mk_M_nextPlan ll_M_322 im_M_nextPlan se_M_nextPlan rfl (nle rfl) rfl rfl (nle rfl) q11 (s_M_nextPlan  hw (fun r10 h9 hw => ?_))
        show aW none m_M_hasSum (d + 1) 30 [(0, ar v0), (1, ai v1), (2, ai v2), (3, ai v3)] [ai (b2i r10)] h9 0 0 QQ
        refine r_istore_n (ls2 := [(3, ai (b2i r10)), (0, ar v0), (1, ai v1), (2, ai v2)]) d_M_hasSum_30 (nle rfl) rfl ?_
        refine r_goto d_M_hasSum_31 ?_
        refine r_pick (ls2 := [(0, ar v0), (1, ai v1), (2, ai v2), (3, ai (b2i r10))]) [1, 2, 3, 0] rfl ?_
        exact ih _ _ hw
      · replace hw := hw.2 (fun g9 => w9 (b2i_0.mpr g9))
        refine r_iconst d_M_hasSum_24 kc_1 ?_
        exact r_zreturn d_M_hasSum_25.1 rfl (Or.inr rfl) (hQ _ _ hw)
set_option maxRecDepth 100000 in
set_option maxHeartbeats 4000000 in
theorem s_M_hasSum {d : Nat} (hd : 2 ≤ d) {v0 : Nat} {v1 : Int32} {v2 : Int32} {h : Hp} {Q : Bool → Hp → Prop} {QQ : Option AV → Hp → Prop} (hw : w_M_hasSum v0 v1 v2 h Q) (hQ : ∀ r9 h9, Q r9 h9 → QQ (some (ai (b2i r9))) h9) : aCall m_M_hasSum d [ar v0, ai v1, ai v2] h 0 0 QQ := by
  obtain ⟨d, rfl⟩ : ∃ d9, d = d9 + 1 := ⟨d - 1, by omega⟩
  refine aCall_in pl_M_hasSum (nle rfl) ?_
  show aW none m_M_hasSum (d + 1) 0 [(0, ar v0), (1, ai v1), (2, ai v2)] [] h 0 0 QQ
  unfold w_M_hasSum at hw
  refine r_aload_n (j := 0) d_M_hasSum_0 rfl ?_
  refine r_aload_n (j := 0) d_M_hasSum_1 rfl ?_
  obtain ⟨q1, hw⟩ := hw
  refine r_getR d_M_hasSum_2 ok_12 (nle rfl) (nle rfl) rfl lf_M_107 q1 ?_
  refine r_iload_n (j := 1) d_M_hasSum_5 rfl ?_
  obtain ⟨q2, hw⟩ := hw
  obtain ⟨q3, hw⟩ := hw
  refine r_iald d_M_hasSum_6 q2 q3 ?_
  refine r_callV (av := [ai (gI h (gR h v0 68) (ix v1))]) (rest := []) (ci := 12) d_M_hasSum_7 mk_M_firstPlan ll_M_312 im_M_firstPlan se_M_firstPlan rfl (nle rfl) rfl rfl (nle rfl) q1 (s_M_firstPlan  hw (fun r5 h4 hw => ?_))
  show aW none m_M_hasSum (d + 1) 10 [(0, ar v0), (1, ai v1), (2, ai v2)] [ai (b2i r5)] h4 0 0 QQ
  refine r_istore_n (ls2 := [(3, ai (b2i r5)), (0, ar v0), (1, ai v1), (2, ai v2)]) d_M_hasSum_10 (nle rfl) rfl ?_
  obtain ⟨n12, hw⟩ := hw
  refine r_pick (ls2 := [(0, ar v0), (1, ai v1), (2, ai v2), (3, ai (b2i r5))]) [1, 2, 3, 0] rfl ?_
  exact s_M_hasSum_L11 hd hQ  n12 _ _ hw
set_option maxRecDepth 100000 in
set_option maxHeartbeats 4000000 in
theorem s_M_isTurnable_L11 {d : Nat} {Q : Bool → Hp → Prop} {QQ : Option AV → Hp → Prop} (hQ : ∀ r9 h9, Q r9 h9 → QQ (some (ai (b2i r9))) h9) {v0 : Nat} {v1 : Int32} : ∀ (n : Nat) (v2 : Int32) (v3 : Int32) (h : Hp), w_M_isTurnable_L11 Q  v0 v1 n v2 v3 h → aW none m_M_isTurnable d 11 [(0, ar v0), (1, ai v1), (2, ai v2), (3, ai v3)] [] h 0 0 QQ := by
  intro n
  induction n with
  | zero => intro v2 v3 h hw; exact hw.elim
  | succ n ih =>
    intro v2 v3 h hw
    unfold w_M_isTurnable_L11 at hw
    refine r_iload_n (j := 3) d_M_isTurnable_11 rfl ?_
    refine r_aload_n (j := 0) d_M_isTurnable_12 rfl ?_
    obtain ⟨q1, hw⟩ := hw
    refine r_getI d_M_isTurnable_13 ok_12 (nle rfl) (nle rfl) rfl lf_M_244 q1 ?_
    refine r_icmp_ge d_M_isTurnable_16 (fun w9 => ?_) (fun w9 => ?_)
    · replace hw := hw.1 w9
      refine r_iload_n (j := 2) d_M_isTurnable_48 rfl ?_
      obtain ⟨q2, hw⟩ := hw
      exact r_zreturn d_M_isTurnable_49.1 rfl q2 (by have g9 := hQ _ _ hw; rwa [b2i_i q2] at g9)
    · replace hw := hw.2 w9
      refine r_iload_n (j := 2) d_M_isTurnable_19 rfl ?_
      refine r_if_ne d_M_isTurnable_20 (fun w9 => ?_) (fun w9 => ?_)
      · replace hw := hw.2 w9
        refine r_iconst d_M_isTurnable_36 kc_1 ?_
        refine r_goto d_M_isTurnable_37 ?_
        refine r_istore_n (ls2 := [(2, ai (1 : Int32)), (0, ar v0), (1, ai v1), (3, ai v3)]) d_M_isTurnable_41 (nle rfl) rfl ?_
        refine r_iinc (j := 3) (ls2 := [(3, ai (v3 + (1 : Int32))), (2, ai (1 : Int32)), (0, ar v0), (1, ai v1)]) d_M_isTurnable_42 rfl (congrArg (HAdd.hAdd v3) kc_1) (nle rfl) rfl ?_
        refine r_goto d_M_isTurnable_45 ?_
        refine r_pick (ls2 := [(0, ar v0), (1, ai v1), (2, ai (1 : Int32)), (3, ai (v3 + (1 : Int32)))]) [2, 3, 1, 0] rfl ?_
        exact ih _ _ _ hw
      · replace hw := hw.1 w9
        refine r_aload_n (j := 0) d_M_isTurnable_23 rfl ?_
        refine r_getR d_M_isTurnable_24 ok_12 (nle rfl) (nle rfl) rfl lf_M_23 q1 ?_
        refine r_iconst d_M_isTurnable_27 kc_3 ?_
        refine r_iload_n (j := 1) d_M_isTurnable_28 rfl ?_
        refine r_imul d_M_isTurnable_29 ?_
        refine r_iload_n (j := 3) d_M_isTurnable_30 rfl ?_
        refine r_iadd d_M_isTurnable_31 ?_
        obtain ⟨q3, hw⟩ := hw
        obtain ⟨q4, hw⟩ := hw
        refine r_iald d_M_isTurnable_32 q3 q4 ?_
        refine r_if_eq d_M_isTurnable_33 (fun w9 => ?_) (fun w9 => ?_)
        · replace hw := hw.1 w9
          refine r_iconst d_M_isTurnable_40 kc_0 ?_
          refine r_istore_n (ls2 := [(2, ai (0 : Int32)), (0, ar v0), (1, ai v1), (3, ai v3)]) d_M_isTurnable_41 (nle rfl) rfl ?_
          refine r_iinc (j := 3) (ls2 := [(3, ai (v3 + (1 : Int32))), (2, ai (0 : Int32)), (0, ar v0), (1, ai v1)]) d_M_isTurnable_42 rfl (congrArg (HAdd.hAdd v3) kc_1) (nle rfl) rfl ?_
          refine r_goto d_M_isTurnable_45 ?_
          refine r_pick (ls2 := [(0, ar v0), (1, ai v1), (2, ai (0 : Int32)), (3, ai (v3 + (1 : Int32)))]) [2, 3, 1, 0] rfl ?_
          exact ih _ _ _ hw
        · replace hw := hw.2 w9
          refine r_iconst d_M_isTurnable_36 kc_1 ?_
          refine r_goto d_M_isTurnable_37 ?_
          refine r_istore_n (ls2 := [(2, ai (1 : Int32)), (0, ar v0), (1, ai v1), (3, ai v3)]) d_M_isTurnable_41 (nle rfl) rfl ?_
          refine r_iinc (j := 3) (ls2 := [(3, ai (v3 + (1 : Int32))), (2, ai (1 : Int32)), (0, ar v0), (1, ai v1)]) d_M_isTurnable_42 rfl (congrArg (HAdd.hAdd v3) kc_1) (nle rfl) rfl ?_
          refine r_goto d_M_isTurnable_45 ?_
          refine r_pick (ls2 := [(0, ar v0), (1, ai v1), (2, ai (1 : Int32)), (3, ai (v3 + (1 : Int32)))]) [2, 3, 1, 0] rfl ?_
          exact ih _ _ _ hw
set_option maxRecDepth 100000 in
set_option maxHeartbeats 4000000 in
theorem s_M_isTurnable {d : Nat} {v0 : Nat} {v1 : Int32} {h : Hp} {Q : Bool → Hp → Prop} {QQ : Option AV → Hp → Prop} (hw : w_M_isTurnable v0 v1 h Q) (hQ : ∀ r9 h9, Q r9 h9 → QQ (some (ai (b2i r9))) h9) : aCall m_M_isTurnable d [ar v0, ai v1] h 0 0 QQ := by
  refine aCall_in pl_M_isTurnable (nle rfl) ?_
  show aW none m_M_isTurnable d 0 [(0, ar v0), (1, ai v1)] [] h 0 0 QQ
  unfold w_M_isTurnable at hw
  refine r_iload_n (j := 1) d_M_isTurnable_0 rfl ?_
  refine r_iconst d_M_isTurnable_1 kc_m1 ?_
  refine r_icmp_ne d_M_isTurnable_2 (fun w9 => ?_) (fun w9 => ?_)
  · replace hw := hw.2 w9
    refine r_iconst d_M_isTurnable_7 kc_0 ?_
    refine r_istore_n (ls2 := [(2, ai (0 : Int32)), (0, ar v0), (1, ai v1)]) d_M_isTurnable_8 (nle rfl) rfl ?_
    refine r_iconst d_M_isTurnable_9 kc_0 ?_
    refine r_istore_n (ls2 := [(3, ai (0 : Int32)), (2, ai (0 : Int32)), (0, ar v0), (1, ai v1)]) d_M_isTurnable_10 (nle rfl) rfl ?_
    obtain ⟨n5, hw⟩ := hw
    refine r_pick (ls2 := [(0, ar v0), (1, ai v1), (2, ai (0 : Int32)), (3, ai (0 : Int32))]) [2, 3, 1, 0] rfl ?_
    exact s_M_isTurnable_L11 hQ  n5 _ _ _ hw
  · replace hw := hw.1 w9
    refine r_iconst d_M_isTurnable_5 kc_1 ?_
    exact r_zreturn d_M_isTurnable_6.1 rfl (Or.inr rfl) (hQ _ _ hw)
set_option maxRecDepth 100000 in
set_option maxHeartbeats 4000000 in
theorem s_M_laysFits_B79 {d : Nat} (hd : 3 ≤ d + 1) {Q : Int32 → Hp → Prop} {QQ : Option AV → Hp → Prop} (hQ : ∀ r9 h9, Q r9 h9 → QQ (some (ai r9)) h9) {v0 : Nat} {v1 : Int32} {v2 : Int32} {v3 : Int32} {v4 : Int32} {h : Hp} {k4 : Int32 → Int32 → Hp → Prop} (hk4 : ∀ v2 v3 h9, k4 v2 v3 h9 → aW none m_M_laysFits (d + 1) 4 [(0, ar v0), (1, ai v1), (2, ai v2), (3, ai v3)] [] h9 0 0 QQ) (hw : w_M_laysFits_B79 Q k4 v0 v1 v2 v3 v4 h) : aW none m_M_laysFits (d + 1) 79 [(0, ar v0), (1, ai v1), (2, ai v2), (3, ai v3), (4, ai v4)] [] h 0 0 QQ := by
  unfold w_M_laysFits_B79 at hw
  refine r_aload_n (j := 0) d_M_laysFits_79 rfl ?_
  obtain ⟨q5, hw⟩ := hw
  refine r_getR d_M_laysFits_80 ok_12 (nle rfl) (nle rfl) rfl lf_M_122 q5 ?_
  refine r_iload_n (j := 3) d_M_laysFits_83 rfl ?_
  refine r_iconst d_M_laysFits_84 kc_1 ?_
  refine r_iadd d_M_laysFits_85 ?_
  refine r_iload (j := 4) d_M_laysFits_86 rfl ?_
  obtain ⟨q6, hw⟩ := hw
  obtain ⟨q7, hw⟩ := hw
  obtain ⟨q8, hw⟩ := hw
  refine r_zast d_M_laysFits_88 q6 q7 q8 ?_
  refine r_iload_n (j := 2) d_M_laysFits_89 rfl ?_
  refine r_iload (j := 4) d_M_laysFits_90 rfl ?_
  refine r_callS (av := [ai v4]) (rest := [ai v2]) d_M_laysFits_92 mk_M_truth ll_M_318 st_M_truth rfl rfl (nle rfl) (s_M_truth  hw (fun r10 h9 hw => ?_))
  show aW none m_M_laysFits (d + 1) 95 [(0, ar v0), (1, ai v1), (2, ai v2), (3, ai v3), (4, ai v4)] [ai r10, ai v2] h9 0 0 QQ
  refine r_iadd d_M_laysFits_95 ?_
  refine r_istore_n (ls2 := [(2, ai (v2 + r10)), (0, ar v0), (1, ai v1), (3, ai v3), (4, ai v4)]) d_M_laysFits_96 (nle rfl) rfl ?_
  refine r_iinc (j := 3) (ls2 := [(3, ai (v3 + (1 : Int32))), (2, ai (v2 + r10)), (0, ar v0), (1, ai v1), (4, ai v4)]) d_M_laysFits_97 rfl (congrArg (HAdd.hAdd v3) kc_1) (nle rfl) rfl ?_
  refine r_goto d_M_laysFits_100 ?_
  refine r_pick (ls2 := [(0, ar v0), (1, ai v1), (2, ai (v2 + r10)), (3, ai (v3 + (1 : Int32)))]) [2, 3, 1, 0] rfl ?_
  exact hk4 _ _ _ hw
set_option maxRecDepth 100000 in
set_option maxHeartbeats 4000000 in
theorem s_M_laysFits_L22 {d : Nat} (hd : 3 ≤ d + 1) {Q : Int32 → Hp → Prop} {QQ : Option AV → Hp → Prop} (hQ : ∀ r9 h9, Q r9 h9 → QQ (some (ai r9)) h9) {v0 : Nat} {v1 : Int32} {v2 : Int32} {v3 : Int32} {k4 : Int32 → Int32 → Hp → Prop} (hk4 : ∀ v2 v3 h9, k4 v2 v3 h9 → aW none m_M_laysFits (d + 1) 4 [(0, ar v0), (1, ai v1), (2, ai v2), (3, ai v3)] [] h9 0 0 QQ) : ∀ (n : Nat) (v4 : Int32) (v5 : Int32) (h : Hp), w_M_laysFits_L22 Q k4 v0 v1 v2 v3 n v4 v5 h → aW none m_M_laysFits (d + 1) 22 [(0, ar v0), (1, ai v1), (2, ai v2), (3, ai v3), (4, ai v4), (5, ai v5)] [] h 0 0 QQ := by
  intro n
  induction n with
  | zero => intro v4 v5 h hw; exact hw.elim
  | succ n ih =>
    intro v4 v5 h hw
    unfold w_M_laysFits_L22 at hw
    refine r_iload (j := 5) d_M_laysFits_22 rfl ?_
    refine r_aload_n (j := 0) d_M_laysFits_24 rfl ?_
    obtain ⟨q4, hw⟩ := hw
    refine r_getI d_M_laysFits_25 ok_12 (nle rfl) (nle rfl) rfl lf_M_256 q4 ?_
    refine r_icmp_ge d_M_laysFits_28 (fun w9 => ?_) (fun w9 => ?_)
    · replace hw := hw.1 w9
      refine r_pick (ls2 := [(0, ar v0), (1, ai v1), (2, ai v2), (3, ai v3), (4, ai v4)]) [0, 1, 2, 3, 4] rfl ?_
      exact s_M_laysFits_B79 hd hQ hk4 hw
    · replace hw := hw.2 w9
      refine r_iload (j := 4) d_M_laysFits_31 rfl ?_
      refine r_if_eq d_M_laysFits_33 (fun w9 => ?_) (fun w9 => ?_)
      · replace hw := hw.1 w9
        refine r_pick (ls2 := [(0, ar v0), (1, ai v1), (2, ai v2), (3, ai v3), (4, ai v4)]) [0, 1, 2, 3, 4] rfl ?_
        exact s_M_laysFits_B79 hd hQ hk4 hw
      · replace hw := hw.2 w9
        refine r_aload_n (j := 0) d_M_laysFits_36 rfl ?_
        refine r_iload (j := 5) d_M_laysFits_37 rfl ?_
        refine r_iload_n (j := 1) d_M_laysFits_39 rfl ?_
        refine r_callV (av := [ai v5, ai v1]) (rest := []) (ci := 12) d_M_laysFits_40 mk_M_doesCount ll_M_540 im_M_doesCount se_M_doesCount rfl (nle rfl) rfl rfl (nle rfl) q4 (s_M_doesCount  hw (fun r12 h11 hw => ?_))
        show aW none m_M_laysFits (d + 1) 43 [(0, ar v0), (1, ai v1), (2, ai v2), (3, ai v3), (4, ai v4), (5, ai v5)] [ai (b2i r12)] h11 0 0 QQ
        refine r_if_eq d_M_laysFits_43 (fun w9 => ?_) (fun w9 => ?_)
        · replace hw := hw.1 (b2i_0.mp w9)
          refine r_iinc (j := 5) (ls2 := [(5, ai (v5 + (1 : Int32))), (0, ar v0), (1, ai v1), (2, ai v2), (3, ai v3), (4, ai v4)]) d_M_laysFits_73 rfl (congrArg (HAdd.hAdd v5) kc_1) (nle rfl) rfl ?_
          refine r_goto d_M_laysFits_76 ?_
          refine r_pick (ls2 := [(0, ar v0), (1, ai v1), (2, ai v2), (3, ai v3), (4, ai v4), (5, ai (v5 + (1 : Int32)))]) [1, 2, 3, 4, 5, 0] rfl ?_
          exact ih _ _ _ hw
        · replace hw := hw.2 (fun g9 => w9 (b2i_0.mpr g9))
          refine r_aload_n (j := 0) d_M_laysFits_46 rfl ?_
          refine r_iload (j := 5) d_M_laysFits_47 rfl ?_
          refine r_iload_n (j := 3) d_M_laysFits_49 rfl ?_
          obtain ⟨q15, hw⟩ := hw
          refine r_callV (av := [ai v5, ai v3]) (rest := []) (ci := 12) d_M_laysFits_50 mk_M_hasSum ll_M_543 im_M_hasSum se_M_hasSum rfl (nle rfl) rfl rfl (nle rfl) q15 (s_M_hasSum (by omega) hw (fun r14 h13 hw => ?_))
          show aW none m_M_laysFits (d + 1) 53 [(0, ar v0), (1, ai v1), (2, ai v2), (3, ai v3), (4, ai v4), (5, ai v5)] [ai (b2i r14)] h13 0 0 QQ
          refine r_callS (av := [ai (b2i r14)]) (rest := []) d_M_laysFits_53 mk_M_truth ll_M_318 st_M_truth rfl rfl (nle rfl) (s_M_truth  hw (fun r17 h16 hw => ?_))
          show aW none m_M_laysFits (d + 1) 56 [(0, ar v0), (1, ai v1), (2, ai v2), (3, ai v3), (4, ai v4), (5, ai v5)] [ai r17] h16 0 0 QQ
          refine r_aload_n (j := 0) d_M_laysFits_56 rfl ?_
          obtain ⟨q18, hw⟩ := hw
          refine r_getR d_M_laysFits_57 ok_12 (nle rfl) (nle rfl) rfl lf_M_113 q18 ?_
          refine r_iload (j := 5) d_M_laysFits_60 rfl ?_
          obtain ⟨q19, hw⟩ := hw
          obtain ⟨q20, hw⟩ := hw
          refine r_iald d_M_laysFits_62 q19 q20 ?_
          refine r_icmp_ne d_M_laysFits_63 (fun w9 => ?_) (fun w9 => ?_)
          · replace hw := hw.2 w9
            refine r_iconst d_M_laysFits_70 kc_0 ?_
            refine r_istore (ls2 := [(4, ai (0 : Int32)), (0, ar v0), (1, ai v1), (2, ai v2), (3, ai v3), (5, ai v5)]) d_M_laysFits_71 (nle rfl) rfl ?_
            refine r_iinc (j := 5) (ls2 := [(5, ai (v5 + (1 : Int32))), (4, ai (0 : Int32)), (0, ar v0), (1, ai v1), (2, ai v2), (3, ai v3)]) d_M_laysFits_73 rfl (congrArg (HAdd.hAdd v5) kc_1) (nle rfl) rfl ?_
            refine r_goto d_M_laysFits_76 ?_
            refine r_pick (ls2 := [(0, ar v0), (1, ai v1), (2, ai v2), (3, ai v3), (4, ai (0 : Int32)), (5, ai (v5 + (1 : Int32)))]) [2, 3, 4, 5, 1, 0] rfl ?_
            exact ih _ _ _ hw
          · replace hw := hw.1 w9
            refine r_iconst d_M_laysFits_66 kc_1 ?_
            refine r_goto d_M_laysFits_67 ?_
            refine r_istore (ls2 := [(4, ai (1 : Int32)), (0, ar v0), (1, ai v1), (2, ai v2), (3, ai v3), (5, ai v5)]) d_M_laysFits_71 (nle rfl) rfl ?_
            refine r_iinc (j := 5) (ls2 := [(5, ai (v5 + (1 : Int32))), (4, ai (1 : Int32)), (0, ar v0), (1, ai v1), (2, ai v2), (3, ai v3)]) d_M_laysFits_73 rfl (congrArg (HAdd.hAdd v5) kc_1) (nle rfl) rfl ?_
            refine r_goto d_M_laysFits_76 ?_
            refine r_pick (ls2 := [(0, ar v0), (1, ai v1), (2, ai v2), (3, ai v3), (4, ai (1 : Int32)), (5, ai (v5 + (1 : Int32)))]) [2, 3, 4, 5, 1, 0] rfl ?_
            exact ih _ _ _ hw
set_option maxRecDepth 100000 in
set_option maxHeartbeats 4000000 in
theorem s_M_laysFits_L4 {d : Nat} (hd : 3 ≤ d + 1) {Q : Int32 → Hp → Prop} {QQ : Option AV → Hp → Prop} (hQ : ∀ r9 h9, Q r9 h9 → QQ (some (ai r9)) h9) {v0 : Nat} {v1 : Int32} : ∀ (n : Nat) (v2 : Int32) (v3 : Int32) (h : Hp), w_M_laysFits_L4 Q  v0 v1 n v2 v3 h → aW none m_M_laysFits (d + 1) 4 [(0, ar v0), (1, ai v1), (2, ai v2), (3, ai v3)] [] h 0 0 QQ := by
  intro n
  induction n with
  | zero => intro v2 v3 h hw; exact hw.elim
  | succ n ih =>
    intro v2 v3 h hw
    unfold w_M_laysFits_L4 at hw
    refine r_iload_n (j := 3) d_M_laysFits_4 rfl ?_
    refine r_aload_n (j := 0) d_M_laysFits_5 rfl ?_
    obtain ⟨q1, hw⟩ := hw
    refine r_getI d_M_laysFits_6 ok_12 (nle rfl) (nle rfl) rfl lf_M_247 q1 ?_
    refine r_icmp_ge d_M_laysFits_9 (fun w9 => ?_) (fun w9 => ?_)
    · replace hw := hw.1 w9
      refine r_iload_n (j := 2) d_M_laysFits_103 rfl ?_
      exact r_ireturn d_M_laysFits_104.1 rfl (hQ _ _ hw)
    · replace hw := hw.2 w9
      refine r_aload_n (j := 0) d_M_laysFits_12 rfl ?_
      refine r_iload_n (j := 3) d_M_laysFits_13 rfl ?_
      refine r_callV (av := [ai v3]) (rest := []) (ci := 12) d_M_laysFits_14 mk_M_isTurnable ll_M_537 im_M_isTurnable se_M_isTurnable rfl (nle rfl) rfl rfl (nle rfl) q1 (s_M_isTurnable  hw (fun r3 h2 hw => ?_))
      show aW none m_M_laysFits (d + 1) 17 [(0, ar v0), (1, ai v1), (2, ai v2), (3, ai v3)] [ai (b2i r3)] h2 0 0 QQ
      refine r_istore (ls2 := [(4, ai (b2i r3)), (0, ar v0), (1, ai v1), (2, ai v2), (3, ai v3)]) d_M_laysFits_17 (nle rfl) rfl ?_
      refine r_iconst d_M_laysFits_19 kc_0 ?_
      refine r_istore (ls2 := [(5, ai (0 : Int32)), (4, ai (b2i r3)), (0, ar v0), (1, ai v1), (2, ai v2), (3, ai v3)]) d_M_laysFits_20 (nle rfl) rfl ?_
      obtain ⟨n21, hw⟩ := hw
      refine r_pick (ls2 := [(0, ar v0), (1, ai v1), (2, ai v2), (3, ai v3), (4, ai (b2i r3)), (5, ai (0 : Int32))]) [2, 3, 4, 5, 1, 0] rfl ?_
      exact s_M_laysFits_L22 hd hQ ih n21 _ _ _ hw
set_option maxRecDepth 100000 in
set_option maxHeartbeats 4000000 in
theorem s_M_laysFits {d : Nat} (hd : 3 ≤ d) {v0 : Nat} {v1 : Int32} {h : Hp} {Q : Int32 → Hp → Prop} {QQ : Option AV → Hp → Prop} (hw : w_M_laysFits v0 v1 h Q) (hQ : ∀ r9 h9, Q r9 h9 → QQ (some (ai r9)) h9) : aCall m_M_laysFits d [ar v0, ai v1] h 0 0 QQ := by
  obtain ⟨d, rfl⟩ : ∃ d9, d = d9 + 1 := ⟨d - 1, by omega⟩
  refine aCall_in pl_M_laysFits (nle rfl) ?_
  show aW none m_M_laysFits (d + 1) 0 [(0, ar v0), (1, ai v1)] [] h 0 0 QQ
  unfold w_M_laysFits at hw
  refine r_iconst d_M_laysFits_0 kc_0 ?_
  refine r_istore_n (ls2 := [(2, ai (0 : Int32)), (0, ar v0), (1, ai v1)]) d_M_laysFits_1 (nle rfl) rfl ?_
  refine r_iconst d_M_laysFits_2 kc_m1 ?_
  refine r_istore_n (ls2 := [(3, ai (-1 : Int32)), (2, ai (0 : Int32)), (0, ar v0), (1, ai v1)]) d_M_laysFits_3 (nle rfl) rfl ?_
  obtain ⟨n22, hw⟩ := hw
  refine r_pick (ls2 := [(0, ar v0), (1, ai v1), (2, ai (0 : Int32)), (3, ai (-1 : Int32))]) [2, 3, 1, 0] rfl ?_
  exact s_M_laysFits_L4 hd hQ  n22 _ _ _ hw
set_option maxRecDepth 100000 in
set_option maxHeartbeats 4000000 in
theorem s_M_fits {d : Nat} (hd : 4 ≤ d) {v0 : Nat} {v1 : Int32} {h : Hp} {Q : Int32 → Hp → Prop} {QQ : Option AV → Hp → Prop} (hw : w_M_fits v0 v1 h Q) (hQ : ∀ r9 h9, Q r9 h9 → QQ (some (ai r9)) h9) : aCall m_M_fits d [ar v0, ai v1] h 0 0 QQ := by
  obtain ⟨d, rfl⟩ : ∃ d9, d = d9 + 1 := ⟨d - 1, by omega⟩
  refine aCall_in pl_M_fits (nle rfl) ?_
  show aW none m_M_fits (d + 1) 0 [(0, ar v0), (1, ai v1)] [] h 0 0 QQ
  unfold w_M_fits at hw
  refine r_aload_n (j := 0) d_M_fits_0 rfl ?_
  refine r_iload_n (j := 1) d_M_fits_1 rfl ?_
  obtain ⟨q3, hw⟩ := hw
  refine r_callV (av := [ai v1]) (rest := []) (ci := 12) d_M_fits_2 mk_M_laysFits ll_M_546 im_M_laysFits se_M_laysFits rfl (nle rfl) rfl rfl (nle rfl) q3 (s_M_laysFits (by omega) hw (fun r2 h1 hw => ?_))
  show aW none m_M_fits (d + 1) 5 [(0, ar v0), (1, ai v1)] [ai r2] h1 0 0 QQ
  exact r_ireturn d_M_fits_5.1 rfl (hQ _ _ hw)
set_option maxRecDepth 100000 in
set_option maxHeartbeats 4000000 in
theorem s_M_fit_L12 {d : Nat} (hd : 4 ≤ d + 1) {Q : Int32 → Hp → Prop} {QQ : Option AV → Hp → Prop} (hQ : ∀ r9 h9, Q r9 h9 → QQ (some (ai r9)) h9) {v0 : Nat} {v1 : Int32} {v3 : Int32} : ∀ (n : Nat) (v4 : Int32) (v5 : Int32) (h : Hp), w_M_fit_L12 Q  v0 v1 v3 n v4 v5 h → aW none m_M_fit (d + 1) 12 [(0, ar v0), (1, ai v1), (3, ai v3), (4, ai v4), (5, ai v5)] [] h 0 0 QQ := by
  intro n
  induction n with
  | zero => intro v4 v5 h hw; exact hw.elim
  | succ n ih =>
    intro v4 v5 h hw
    unfold w_M_fit_L12 at hw
    refine r_iload (j := 4) d_M_fit_12 rfl ?_
    refine r_aload_n (j := 0) d_M_fit_14 rfl ?_
    obtain ⟨q4, hw⟩ := hw
    refine r_getI d_M_fit_15 ok_12 (nle rfl) (nle rfl) rfl lf_M_247 q4 ?_
    refine r_icmp_ge d_M_fit_18 (fun w9 => ?_) (fun w9 => ?_)
    · replace hw := hw.1 w9
      refine r_bipush d_M_fit_65 kb_m2 ?_
      exact r_ireturn d_M_fit_67.1 rfl (hQ _ _ hw)
    · replace hw := hw.2 w9
      refine r_iload_n (j := 1) d_M_fit_21 rfl ?_
      refine r_iconst d_M_fit_22 kc_0 ?_
      refine r_iload_n (j := 2) d_M_fit_23 rfl ?_
      refine r_iconst d_M_fit_24 kc_1 ?_
      refine r_isub d_M_fit_25 ?_
      refine r_callS (av := [ai v1, ai (0 : Int32), ai (v3 - (1 : Int32))]) (rest := []) d_M_fit_26 mk_M_isIn ll_M_148 st_M_isIn rfl rfl (nle rfl) (s_M_isIn  hw (fun r6 h5 hw => ?_))
      show aW none m_M_fit (d + 1) 29 [(0, ar v0), (1, ai v1), (3, ai v3), (4, ai v4), (5, ai v5)] [ai (b2i r6)] h5 0 0 QQ
      refine r_if_eq d_M_fit_29 (fun w9 => ?_) (fun w9 => ?_)
      · replace hw := hw.1 (b2i_0.mp w9)
        refine r_bipush d_M_fit_65 kb_m2 ?_
        exact r_ireturn d_M_fit_67.1 rfl (hQ _ _ hw)
      · replace hw := hw.2 (fun g9 => w9 (b2i_0.mpr g9))
        refine r_aload_n (j := 0) d_M_fit_32 rfl ?_
        obtain ⟨q7, hw⟩ := hw
        refine r_getR d_M_fit_33 ok_12 (nle rfl) (nle rfl) rfl lf_M_122 q7 ?_
        refine r_iload (j := 4) d_M_fit_36 rfl ?_
        refine r_iconst d_M_fit_38 kc_1 ?_
        refine r_iadd d_M_fit_39 ?_
        obtain ⟨q8, hw⟩ := hw
        obtain ⟨q9, hw⟩ := hw
        refine r_zald d_M_fit_40 q8 q9 ?_
        refine r_if_ne d_M_fit_41 (fun w9 => ?_) (fun w9 => ?_)
        · replace hw := hw.2 w9
          refine r_iload (j := 3) d_M_fit_47 rfl ?_
          refine r_iload_n (j := 1) d_M_fit_49 rfl ?_
          refine r_icmp_ne d_M_fit_50 (fun w9 => ?_) (fun w9 => ?_)
          · replace hw := hw.2 w9
            refine r_iinc (j := 3) (ls2 := [(4, ai (v4 + (1 : Int32))), (0, ar v0), (1, ai v1), (3, ai v3), (5, ai v5)]) d_M_fit_56 rfl (congrArg (HAdd.hAdd v4) kc_1) (nle rfl) rfl ?_
            refine r_iinc (j := 4) (ls2 := [(5, ai (v5 + (1 : Int32))), (4, ai (v4 + (1 : Int32))), (0, ar v0), (1, ai v1), (3, ai v3)]) d_M_fit_59 rfl (congrArg (HAdd.hAdd v5) kc_1) (nle rfl) rfl ?_
            refine r_goto d_M_fit_62 ?_
            refine r_pick (ls2 := [(0, ar v0), (1, ai v1), (3, ai v3), (4, ai (v4 + (1 : Int32))), (5, ai (v5 + (1 : Int32)))]) [2, 3, 4, 1, 0] rfl ?_
            exact ih _ _ _ hw
          · replace hw := hw.1 w9
            refine r_iload (j := 4) d_M_fit_53 rfl ?_
            exact r_ireturn d_M_fit_55.1 rfl (hQ _ _ hw)
        · replace hw := hw.1 w9
          refine r_goto d_M_fit_44 ?_
          refine r_iinc (j := 4) (ls2 := [(5, ai (v5 + (1 : Int32))), (0, ar v0), (1, ai v1), (3, ai v3), (4, ai v4)]) d_M_fit_59 rfl (congrArg (HAdd.hAdd v5) kc_1) (nle rfl) rfl ?_
          refine r_goto d_M_fit_62 ?_
          refine r_pick (ls2 := [(0, ar v0), (1, ai v1), (3, ai v3), (4, ai v4), (5, ai (v5 + (1 : Int32)))]) [1, 2, 3, 4, 0] rfl ?_
          exact ih _ _ _ hw
set_option maxRecDepth 100000 in
set_option maxHeartbeats 4000000 in
theorem s_M_fit {d : Nat} (hd : 4 ≤ d) {v0 : Nat} {v1 : Int32} {v2 : Int32} {h : Hp} {Q : Int32 → Hp → Prop} {QQ : Option AV → Hp → Prop} (hw : w_M_fit v0 v1 v2 h Q) (hQ : ∀ r9 h9, Q r9 h9 → QQ (some (ai r9)) h9) : aCall m_M_fit d [ar v0, ai v1, ai v2] h 0 0 QQ := by
  obtain ⟨d, rfl⟩ : ∃ d9, d = d9 + 1 := ⟨d - 1, by omega⟩
  refine aCall_in pl_M_fit (nle rfl) ?_
  show aW none m_M_fit (d + 1) 0 [(0, ar v0), (1, ai v1), (2, ai v2)] [] h 0 0 QQ
  unfold w_M_fit at hw
  refine r_aload_n (j := 0) d_M_fit_0 rfl ?_
  refine r_iload_n (j := 2) d_M_fit_1 rfl ?_
  obtain ⟨q3, hw⟩ := hw
  refine r_callV (av := [ai v2]) (rest := []) (ci := 12) d_M_fit_2 mk_M_laysFits ll_M_546 im_M_laysFits se_M_laysFits rfl (nle rfl) rfl rfl (nle rfl) q3 (s_M_laysFits (by omega) hw (fun r2 h1 hw => ?_))
  show aW none m_M_fit (d + 1) 5 [(0, ar v0), (1, ai v1), (2, ai v2)] [ai r2] h1 0 0 QQ
  refine r_istore_n (ls2 := [(3, ai r2), (0, ar v0), (1, ai v1), (2, ai v2)]) d_M_fit_5 (nle rfl) rfl ?_
  refine r_iconst d_M_fit_6 kc_0 ?_
  refine r_istore (ls2 := [(4, ai (0 : Int32)), (3, ai r2), (0, ar v0), (1, ai v1), (2, ai v2)]) d_M_fit_7 (nle rfl) rfl ?_
  refine r_iconst d_M_fit_9 kc_m1 ?_
  refine r_istore (ls2 := [(5, ai (-1 : Int32)), (4, ai (0 : Int32)), (3, ai r2), (0, ar v0), (1, ai v1), (2, ai v2)]) d_M_fit_10 (nle rfl) rfl ?_
  obtain ⟨n10, hw⟩ := hw
  refine r_pick (ls2 := [(0, ar v0), (1, ai v1), (3, ai r2), (4, ai (0 : Int32)), (5, ai (-1 : Int32))]) [3, 4, 2, 1, 0] rfl ?_
  exact s_M_fit_L12 hd hQ  n10 _ _ _ hw
set_option maxRecDepth 100000 in
set_option maxHeartbeats 4000000 in
theorem s_M_laysFirst_L34 {d : Nat} (hd : 1 ≤ d + 1) {Q : Hp → Prop} {QQ : Option AV → Hp → Prop} (hQ : ∀ h9, Q h9 → QQ none h9) {v0 : Nat} {k28 : Int32 → Hp → Prop} (hk28 : ∀ v2 h9, k28 v2 h9 → aW none m_M_laysFirst (d + 1) 28 [(0, ar v0), (2, ai v2)] [] h9 0 0 QQ) : ∀ (n : Nat) (v3 : Int32) (h : Hp), w_M_laysFirst_L34 Q k28 v0 n v3 h → aW none m_M_laysFirst (d + 1) 34 [(0, ar v0), (3, ai v3)] [] h 0 0 QQ := by
  intro n
  induction n with
  | zero => intro v3 h hw; exact hw.elim
  | succ n ih =>
    intro v3 h hw
    unfold w_M_laysFirst_L34 at hw
    refine r_iload_n (j := 1) d_M_laysFirst_34 rfl ?_
    refine r_aload_n (j := 0) d_M_laysFirst_35 rfl ?_
    obtain ⟨q4, hw⟩ := hw
    refine r_getI d_M_laysFirst_36 ok_12 (nle rfl) (nle rfl) rfl lf_M_247 q4 ?_
    refine r_icmp_ge d_M_laysFirst_39 (fun w9 => ?_) (fun w9 => ?_)
    · replace hw := hw.1 w9
      refine r_aload_n (j := 0) d_M_laysFirst_86 rfl ?_
      refine r_callV (av := []) (rest := []) (ci := 12) d_M_laysFirst_87 mk_M_nextPlan ll_M_322 im_M_nextPlan se_M_nextPlan rfl (nle rfl) rfl rfl (nle rfl) q4 (s_M_nextPlan  hw (fun r6 h5 hw => ?_))
      show aW none m_M_laysFirst (d + 1) 90 [(0, ar v0), (3, ai v3)] [ai (b2i r6)] h5 0 0 QQ
      refine r_istore_n (ls2 := [(2, ai (b2i r6)), (0, ar v0), (3, ai v3)]) d_M_laysFirst_90 (nle rfl) rfl ?_
      refine r_goto d_M_laysFirst_91 ?_
      refine r_pick (ls2 := [(0, ar v0), (2, ai (b2i r6))]) [1, 0] rfl ?_
      exact hk28 _ _ hw
    · replace hw := hw.2 w9
      refine r_aload_n (j := 0) d_M_laysFirst_42 rfl ?_
      refine r_iconst d_M_laysFirst_43 kc_0 ?_
      refine r_iload_n (j := 1) d_M_laysFirst_44 rfl ?_
      refine r_callV (av := [ai (0 : Int32), ai v3]) (rest := []) (ci := 12) d_M_laysFirst_45 mk_M_toldSum ll_M_531 im_M_toldSum se_M_toldSum rfl (nle rfl) rfl rfl (nle rfl) q4 (s_M_toldSum  hw (fun r8 h7 hw => ?_))
      show aW none m_M_laysFirst (d + 1) 48 [(0, ar v0), (3, ai v3)] [ai r8] h7 0 0 QQ
      refine r_istore (ls2 := [(4, ai r8), (0, ar v0), (3, ai v3)]) d_M_laysFirst_48 (nle rfl) rfl ?_
      refine r_iload (j := 0) d_M_laysFirst_50 rfl ?_
      refine r_bipush d_M_laysFirst_52 kb_m20 ?_
      refine r_bipush d_M_laysFirst_54 kb_20 ?_
      refine r_callS (av := [ai r8, ai (-20 : Int32), ai (20 : Int32)]) (rest := []) d_M_laysFirst_56 mk_M_isIn ll_M_148 st_M_isIn rfl rfl (nle rfl) (s_M_isIn  hw (fun r10 h9 hw => ?_))
      show aW none m_M_laysFirst (d + 1) 59 [(4, ai r8), (0, ar v0), (3, ai v3)] [ai (b2i r10)] h9 0 0 QQ
      refine r_if_eq d_M_laysFirst_59 (fun w9 => ?_) (fun w9 => ?_)
      · replace hw := hw.1 (b2i_0.mp w9)
        refine r_iinc (j := 2) (ls2 := [(3, ai (v3 + (1 : Int32))), (4, ai r8), (0, ar v0)]) d_M_laysFirst_80 rfl (congrArg (HAdd.hAdd v3) kc_1) (nle rfl) rfl ?_
        refine r_goto d_M_laysFirst_83 ?_
        refine r_pick (ls2 := [(0, ar v0), (3, ai (v3 + (1 : Int32)))]) [2, 0] rfl ?_
        exact ih _ _ hw
      · replace hw := hw.2 (fun g9 => w9 (b2i_0.mpr g9))
        refine r_aload_n (j := 1) d_M_laysFirst_62 rfl ?_
        obtain ⟨q11, hw⟩ := hw
        refine r_getR d_M_laysFirst_63 ok_12 (nle rfl) (nle rfl) rfl lf_M_126 q11 ?_
        refine r_bipush d_M_laysFirst_66 kb_41 ?_
        refine r_iload_n (j := 2) d_M_laysFirst_68 rfl ?_
        refine r_iconst d_M_laysFirst_69 kc_1 ?_
        refine r_iadd d_M_laysFirst_70 ?_
        refine r_imul d_M_laysFirst_71 ?_
        refine r_iload (j := 0) d_M_laysFirst_72 rfl ?_
        refine r_iadd d_M_laysFirst_74 ?_
        refine r_bipush d_M_laysFirst_75 kb_20 ?_
        refine r_iadd d_M_laysFirst_77 ?_
        refine r_iconst d_M_laysFirst_78 kc_1 ?_
        obtain ⟨q12, hw⟩ := hw
        obtain ⟨q13, hw⟩ := hw
        refine r_zast d_M_laysFirst_79 q12 q13 (Or.inr rfl) ?_
        refine r_iinc (j := 2) (ls2 := [(3, ai (v3 + (1 : Int32))), (4, ai r8), (0, ar v0)]) d_M_laysFirst_80 rfl (congrArg (HAdd.hAdd v3) kc_1) (nle rfl) rfl ?_
        refine r_goto d_M_laysFirst_83 ?_
        refine r_pick (ls2 := [(0, ar v0), (3, ai (v3 + (1 : Int32)))]) [2, 0] rfl ?_
        exact ih _ _ hw
set_option maxRecDepth 100000 in
set_option maxHeartbeats 4000000 in
theorem s_M_laysFirst_L28 {d : Nat} (hd : 1 ≤ d + 1) {Q : Hp → Prop} {QQ : Option AV → Hp → Prop} (hQ : ∀ h9, Q h9 → QQ none h9) {v0 : Nat} : ∀ (n : Nat) (v2 : Int32) (h : Hp), w_M_laysFirst_L28 Q  v0 n v2 h → aW none m_M_laysFirst (d + 1) 28 [(0, ar v0), (2, ai v2)] [] h 0 0 QQ := by
  intro n
  induction n with
  | zero => intro v2 h hw; exact hw.elim
  | succ n ih =>
    intro v2 h hw
    unfold w_M_laysFirst_L28 at hw
    refine r_iload_n (j := 1) d_M_laysFirst_28 rfl ?_
    refine r_if_eq d_M_laysFirst_29 (fun w9 => ?_) (fun w9 => ?_)
    · replace hw := hw.1 w9
      exact r_return d_M_laysFirst_94.1 rfl (hQ _ hw)
    · replace hw := hw.2 w9
      refine r_iconst d_M_laysFirst_32 kc_m1 ?_
      refine r_istore_n (ls2 := [(3, ai (-1 : Int32)), (0, ar v0), (2, ai v2)]) d_M_laysFirst_33 (nle rfl) rfl ?_
      obtain ⟨n14, hw⟩ := hw
      refine r_pick (ls2 := [(0, ar v0), (3, ai (-1 : Int32))]) [1, 0] rfl ?_
      exact s_M_laysFirst_L34 hd hQ ih n14 _ _ hw
set_option maxRecDepth 100000 in
set_option maxHeartbeats 4000000 in
theorem s_M_laysFirst_L2 {d : Nat} (hd : 1 ≤ d + 1) {Q : Hp → Prop} {QQ : Option AV → Hp → Prop} (hQ : ∀ h9, Q h9 → QQ none h9) {v0 : Nat} {v1 : Int32} : ∀ (n : Nat) (v2 : Int32) (h : Hp), w_M_laysFirst_L2 Q  v0 v1 n v2 h → aW none m_M_laysFirst (d + 1) 2 [(0, ar v0), (1, ai v1), (2, ai v2)] [] h 0 0 QQ := by
  intro n
  induction n with
  | zero => intro v2 h hw; exact hw.elim
  | succ n ih =>
    intro v2 h hw
    unfold w_M_laysFirst_L2 at hw
    refine r_iload_n (j := 2) d_M_laysFirst_2 rfl ?_
    refine r_sipush d_M_laysFirst_3 ks_369 ?_
    refine r_icmp_ge d_M_laysFirst_6 (fun w9 => ?_) (fun w9 => ?_)
    · replace hw := hw.1 w9
      refine r_aload_n (j := 0) d_M_laysFirst_22 rfl ?_
      refine r_iload_n (j := 1) d_M_laysFirst_23 rfl ?_
      obtain ⟨q3, hw⟩ := hw
      refine r_callV (av := [ai v1]) (rest := []) (ci := 12) d_M_laysFirst_24 mk_M_firstPlan ll_M_312 im_M_firstPlan se_M_firstPlan rfl (nle rfl) rfl rfl (nle rfl) q3 (s_M_firstPlan  hw (fun r2 h1 hw => ?_))
      show aW none m_M_laysFirst (d + 1) 27 [(0, ar v0), (1, ai v1), (2, ai v2)] [ai (b2i r2)] h1 0 0 QQ
      refine r_istore_n (ls2 := [(2, ai (b2i r2)), (0, ar v0), (1, ai v1)]) d_M_laysFirst_27 (nle rfl) rfl ?_
      obtain ⟨n15, hw⟩ := hw
      refine r_pick (ls2 := [(0, ar v0), (2, ai (b2i r2))]) [1, 0] rfl ?_
      exact s_M_laysFirst_L28 hd hQ  n15 _ _ hw
    · replace hw := hw.2 w9
      refine r_aload_n (j := 0) d_M_laysFirst_9 rfl ?_
      obtain ⟨q16, hw⟩ := hw
      refine r_getR d_M_laysFirst_10 ok_12 (nle rfl) (nle rfl) rfl lf_M_126 q16 ?_
      refine r_iload_n (j := 2) d_M_laysFirst_13 rfl ?_
      refine r_iconst d_M_laysFirst_14 kc_0 ?_
      obtain ⟨q17, hw⟩ := hw
      obtain ⟨q18, hw⟩ := hw
      refine r_zast d_M_laysFirst_15 q17 q18 (Or.inl rfl) ?_
      refine r_iinc (j := 2) (ls2 := [(2, ai (v2 + (1 : Int32))), (0, ar v0), (1, ai v1)]) d_M_laysFirst_16 rfl (congrArg (HAdd.hAdd v2) kc_1) (nle rfl) rfl ?_
      refine r_goto d_M_laysFirst_19 ?_
      refine r_pick (ls2 := [(0, ar v0), (1, ai v1), (2, ai (v2 + (1 : Int32)))]) [1, 2, 0] rfl ?_
      exact ih _ _ hw
set_option maxRecDepth 100000 in
set_option maxHeartbeats 4000000 in
theorem s_M_laysFirst {d : Nat} (hd : 1 ≤ d) {v0 : Nat} {v1 : Int32} {h : Hp} {Q : Hp → Prop} {QQ : Option AV → Hp → Prop} (hw : w_M_laysFirst v0 v1 h Q) (hQ : ∀ h9, Q h9 → QQ none h9) : aCall m_M_laysFirst d [ar v0, ai v1] h 0 0 QQ := by
  obtain ⟨d, rfl⟩ : ∃ d9, d = d9 + 1 := ⟨d - 1, by omega⟩
  refine aCall_in pl_M_laysFirst (nle rfl) ?_
  show aW none m_M_laysFirst (d + 1) 0 [(0, ar v0), (1, ai v1)] [] h 0 0 QQ
  unfold w_M_laysFirst at hw
  refine r_iconst d_M_laysFirst_0 kc_0 ?_
  refine r_istore_n (ls2 := [(2, ai (0 : Int32)), (0, ar v0), (1, ai v1)]) d_M_laysFirst_1 (nle rfl) rfl ?_
  obtain ⟨n19, hw⟩ := hw
  refine r_pick (ls2 := [(0, ar v0), (1, ai v1), (2, ai (0 : Int32))]) [1, 2, 0] rfl ?_
  exact s_M_laysFirst_L2 hd hQ  n19 _ _ hw
set_option maxRecDepth 100000 in
set_option maxHeartbeats 4000000 in
theorem s_M_ask_B118 {d : Nat} (hd : 4 ≤ d + 1) {Q : Int32 → Hp → Prop} {QQ : Option AV → Hp → Prop} (hQ : ∀ r9 h9, Q r9 h9 → QQ (some (ai r9)) h9) {v0 : Nat} {v2 : Int32} {v4 : Int32} {v5 : Int32} {v6 : Int32} {v7 : Int32} {v9 : Int32} {s0 : Int32} {s1 : Int32} {h : Hp} {k56 : Int32 → Int32 → Int32 → Hp → Prop} {k69 : Int32 → Int32 → Hp → Prop} (hk56 : ∀ v5 v6 v7 h9, k56 v5 v6 v7 h9 → aW none m_M_ask (d + 1) 56 [(0, ar v0), (2, ai v2), (4, ai v4), (5, ai v5), (6, ai v6), (7, ai v7)] [] h9 0 0 QQ) (hk69 : ∀ v8 v9 h9, k69 v8 v9 h9 → aW none m_M_ask (d + 1) 69 [(0, ar v0), (2, ai v2), (4, ai v4), (5, ai v5), (6, ai v6), (7, ai v7), (8, ai v8), (9, ai v9)] [] h9 0 0 QQ) (hw : w_M_ask_B118 Q k56 k69 v0 v2 v4 v5 v6 v7 v9 s0 s1 h) : aW none m_M_ask (d + 1) 118 [(0, ar v0), (2, ai v2), (4, ai v4), (5, ai v5), (6, ai v6), (7, ai v7), (9, ai v9)] [ai s1, ai s0] h 0 0 QQ := by
  unfold w_M_ask_B118 at hw
  refine r_callS (av := [ai s1]) (rest := [ai s0]) d_M_ask_118 mk_M_truth ll_M_318 st_M_truth rfl rfl (nle rfl) (s_M_truth  hw (fun r16 h15 hw => ?_))
  show aW none m_M_ask (d + 1) 121 [(0, ar v0), (2, ai v2), (4, ai v4), (5, ai v5), (6, ai v6), (7, ai v7), (9, ai v9)] [ai r16, ai s0] h15 0 0 QQ
  refine r_iadd d_M_ask_121 ?_
  refine r_istore (ls2 := [(8, ai (s0 + r16)), (0, ar v0), (2, ai v2), (4, ai v4), (5, ai v5), (6, ai v6), (7, ai v7), (9, ai v9)]) d_M_ask_122 (nle rfl) rfl ?_
  refine r_iinc (j := 7) (ls2 := [(9, ai (v9 + (1 : Int32))), (8, ai (s0 + r16)), (0, ar v0), (2, ai v2), (4, ai v4), (5, ai v5), (6, ai v6), (7, ai v7)]) d_M_ask_124 rfl (congrArg (HAdd.hAdd v9) kc_1) (nle rfl) rfl ?_
  refine r_goto d_M_ask_127 ?_
  refine r_pick (ls2 := [(0, ar v0), (2, ai v2), (4, ai v4), (5, ai v5), (6, ai v6), (7, ai v7), (8, ai (s0 + r16)), (9, ai (v9 + (1 : Int32)))]) [2, 3, 4, 5, 6, 7, 1, 0] rfl ?_
  exact hk69 _ _ _ hw
set_option maxRecDepth 100000 in
set_option maxHeartbeats 4000000 in
theorem s_M_ask_B117 {d : Nat} (hd : 4 ≤ d + 1) {Q : Int32 → Hp → Prop} {QQ : Option AV → Hp → Prop} (hQ : ∀ r9 h9, Q r9 h9 → QQ (some (ai r9)) h9) {v0 : Nat} {v2 : Int32} {v4 : Int32} {v5 : Int32} {v6 : Int32} {v7 : Int32} {v9 : Int32} {s0 : Int32} {h : Hp} {k56 : Int32 → Int32 → Int32 → Hp → Prop} {k69 : Int32 → Int32 → Hp → Prop} (hk56 : ∀ v5 v6 v7 h9, k56 v5 v6 v7 h9 → aW none m_M_ask (d + 1) 56 [(0, ar v0), (2, ai v2), (4, ai v4), (5, ai v5), (6, ai v6), (7, ai v7)] [] h9 0 0 QQ) (hk69 : ∀ v8 v9 h9, k69 v8 v9 h9 → aW none m_M_ask (d + 1) 69 [(0, ar v0), (2, ai v2), (4, ai v4), (5, ai v5), (6, ai v6), (7, ai v7), (8, ai v8), (9, ai v9)] [] h9 0 0 QQ) (hw : w_M_ask_B117 Q k56 k69 v0 v2 v4 v5 v6 v7 v9 s0 h) : aW none m_M_ask (d + 1) 117 [(0, ar v0), (2, ai v2), (4, ai v4), (5, ai v5), (6, ai v6), (7, ai v7), (9, ai v9)] [ai s0] h 0 0 QQ := by
  unfold w_M_ask_B117 at hw
  refine r_iconst d_M_ask_117 kc_0 ?_
  exact s_M_ask_B118 hd hQ hk56 hk69 hw
