set_option maxRecDepth 100000 in
set_option maxHeartbeats 4000000 in
theorem s_St_clear_L13 {d : Nat} (hd : 1 ≤ d + 1) {Q : Hp → Prop} {QQ : Option AV → Hp → Prop} (hQ : ∀ h9, Q h9 → QQ none h9) {v0 : Nat} {v2 : Int32} {v3 : Int32} : ∀ (n : Nat) (v4 : Int32) (h : Hp), w_St_clear_L13 Q  v0 v2 v3 n v4 h → aW none m_St_clear (d + 1) 13 [(0, ar v0), (2, ai v2), (3, ai v3), (4, ai v4)] [] h 0 0 QQ := by
  intro n
  induction n with
  | zero => intro v4 h hw; exact hw.elim
  | succ n ih =>
    intro v4 h hw
    unfold w_St_clear_L13 at hw
    refine r_iload (j := 3) d_St_clear_13 rfl ?_
    refine r_iload_n (j := 1) d_St_clear_15 rfl ?_
    refine r_icmp_ge d_St_clear_16 (fun w9 => ?_) (fun w9 => ?_)
    · replace hw := hw.1 w9
      exact r_return d_St_clear_42.1 rfl (hQ _ hw)
    · replace hw := hw.2 w9
      refine r_aload_n (j := 0) d_St_clear_19 rfl ?_
      obtain ⟨q4, hw⟩ := hw
      refine r_getR d_St_clear_20 ok_9 (nle rfl) (nle rfl) rfl lf_St_28 q4 ?_
      refine r_iload_n (j := 2) d_St_clear_23 rfl ?_
      refine r_aload_n (j := 0) d_St_clear_24 rfl ?_
      refine r_getR d_St_clear_25 ok_9 (nle rfl) (nle rfl) rfl lf_St_35 q4 ?_
      refine r_iload_n (j := 2) d_St_clear_28 rfl ?_
      refine r_iload (j := 3) d_St_clear_29 rfl ?_
      refine r_iadd d_St_clear_31 ?_
      obtain ⟨q5, hw⟩ := hw
      obtain ⟨q6, hw⟩ := hw
      refine r_iald d_St_clear_32 q5 q6 ?_
      refine r_iadd d_St_clear_33 ?_
      refine r_lconst d_St_clear_34 kl_0 ?_
      obtain ⟨q7, hw⟩ := hw
      obtain ⟨q8, hw⟩ := hw
      refine r_last d_St_clear_35 q7 q8 ?_
      refine r_iinc (j := 3) (ls2 := [(4, ai (v4 + (1 : Int32))), (0, ar v0), (2, ai v2), (3, ai v3)]) d_St_clear_36 rfl (congrArg (HAdd.hAdd v4) kc_1) (nle rfl) rfl ?_
      refine r_goto d_St_clear_39 ?_
      refine r_pick (ls2 := [(0, ar v0), (2, ai v2), (3, ai v3), (4, ai (v4 + (1 : Int32)))]) [1, 2, 3, 0] rfl ?_
      exact ih _ _ hw
set_option maxRecDepth 100000 in
set_option maxHeartbeats 4000000 in
theorem s_St_clear {d : Nat} (hd : 1 ≤ d) {v0 : Nat} {v1 : Int32} {v2 : Int32} {h : Hp} {Q : Hp → Prop} {QQ : Option AV → Hp → Prop} (hw : w_St_clear v0 v1 v2 h Q) (hQ : ∀ h9, Q h9 → QQ none h9) : aCall m_St_clear d [ar v0, ai v1, ai v2] h 0 0 QQ := by
  obtain ⟨d, rfl⟩ : ∃ d9, d = d9 + 1 := ⟨d - 1, by omega⟩
  refine aCall_in pl_St_clear (nle rfl) ?_
  show aW none m_St_clear (d + 1) 0 [(0, ar v0), (1, ai v1), (2, ai v2)] [] h 0 0 QQ
  unfold w_St_clear at hw
  refine r_iload_n (j := 1) d_St_clear_0 rfl ?_
  refine r_callS (av := [ai v1]) (rest := []) d_St_clear_1 mk_St_layer ll_St_115 st_St_layer rfl rfl (nle rfl) (s_St_layer  hw (fun r2 h1 hw => ?_))
  show aW none m_St_clear (d + 1) 4 [(0, ar v0), (1, ai v1), (2, ai v2)] [ai r2] h1 0 0 QQ
  refine r_aload_n (j := 0) d_St_clear_4 rfl ?_
  obtain ⟨q3, hw⟩ := hw
  refine r_getI d_St_clear_5 ok_9 (nle rfl) (nle rfl) rfl lf_St_87 q3 ?_
  refine r_imul d_St_clear_8 ?_
  refine r_istore_n (ls2 := [(3, ai (r2 * (gI h1 v0 6))), (0, ar v0), (1, ai v1), (2, ai v2)]) d_St_clear_9 (nle rfl) rfl ?_
  refine r_iconst d_St_clear_10 kc_0 ?_
  refine r_istore (ls2 := [(4, ai (0 : Int32)), (3, ai (r2 * (gI h1 v0 6))), (0, ar v0), (1, ai v1), (2, ai v2)]) d_St_clear_11 (nle rfl) rfl ?_
  obtain ⟨n9, hw⟩ := hw
  refine r_pick (ls2 := [(0, ar v0), (2, ai v2), (3, ai (r2 * (gI h1 v0 6))), (4, ai (0 : Int32))]) [2, 4, 1, 0] rfl ?_
  exact s_St_clear_L13 hd hQ  n9 _ _ hw
set_option maxRecDepth 100000 in
set_option maxHeartbeats 4000000 in
theorem s_St_makeRoom_L5 {d : Nat} {Q : Hp → Prop} {QQ : Option AV → Hp → Prop} (hQ : ∀ h9, Q h9 → QQ none h9) {v0 : Nat} : ∀ (n : Nat) (v1 : Int32) (v2 : Int32) (bc : Nat) (bs : Nat) (h : Hp), w_St_makeRoom_L5 Q  v0 n v1 v2 bc bs h → aW none m_St_makeRoom d 5 [(0, ar v0), (1, ai v1), (2, ai v2)] [] h bc bs QQ := by
  intro n
  induction n with
  | zero => intro v1 v2 bc bs h hw; exact hw.elim
  | succ n ih =>
    intro v1 v2 bc bs h hw
    unfold w_St_makeRoom_L5 at hw
    refine r_iload_n (j := 2) d_St_makeRoom_5 rfl ?_
    refine r_aload_n (j := 0) d_St_makeRoom_6 rfl ?_
    obtain ⟨q1, hw⟩ := hw
    refine r_getR d_St_makeRoom_7 ok_9 (nle rfl) (nle rfl) rfl lf_St_47 q1 ?_
    obtain ⟨q2, hw⟩ := hw
    refine r_getI d_St_makeRoom_10 ok_1 (nle rfl) (nle rfl) rfl lf_St_84 q2 ?_
    refine r_icmp_ge d_St_makeRoom_13 (fun w9 => ?_) (fun w9 => ?_)
    · replace hw := hw.1 w9
      refine r_iload_n (j := 1) d_St_makeRoom_27 rfl ?_
      refine r_aload_n (j := 0) d_St_makeRoom_28 rfl ?_
      refine r_getI d_St_makeRoom_29 ok_9 (nle rfl) (nle rfl) rfl lf_St_87 q1 ?_
      refine r_icmp_le d_St_makeRoom_32 (fun w9 => ?_) (fun w9 => ?_)
      · replace hw := hw.1 w9
        exact r_return d_St_makeRoom_94.1 rfl (hQ _ hw)
      · replace hw := hw.2 w9
        refine r_aload_n (j := 0) d_St_makeRoom_35 rfl ?_
        refine r_iload_n (j := 1) d_St_makeRoom_36 rfl ?_
        refine r_putI d_St_makeRoom_37 ok_9 (nle rfl) (nle rfl) rfl lf_St_87 rfl q1 ?_
        refine r_aload_n (j := 0) d_St_makeRoom_40 rfl ?_
        refine r_iconst d_St_makeRoom_41 kc_2 ?_
        refine r_aload_n (j := 0) d_St_makeRoom_42 rfl ?_
        refine r_getI d_St_makeRoom_43 ok_9 (nle rfl) (nle rfl) rfl lf_St_87 q1 ?_
        refine r_imul d_St_makeRoom_46 ?_
        obtain ⟨q3, hw⟩ := hw
        obtain ⟨b4, t5, u8, u9, u6, u7, hw⟩ := hw
        subst u8 u9
        refine r_newL d_St_makeRoom_47 ac_J u6 rfl u7 (refB_r q3 refB_n) (refL_r q3 (refL_i (refL_i refL_n))) ?_
        generalize e8 : nw (sI h v0 6 v1) 21 (ix ((2 : Int32) * (gI (sI h v0 6 v1) v0 6))) = h6 at hw ⊢
        generalize e7 : gX (sI h v0 6 v1) = a7 at hw ⊢
        replace hw := hw a7 h6 e7.symm e8.symm
        obtain ⟨q8, hw⟩ := hw
        obtain ⟨q9, hw⟩ := hw
        refine r_putR d_St_makeRoom_49 ok_9 (nle rfl) (nle rfl) rfl lf_St_28 rfl q8 q9 ?_
        refine r_aload_n (j := 0) d_St_makeRoom_52 rfl ?_
        refine r_iconst d_St_makeRoom_53 kc_2 ?_
        refine r_aload_n (j := 0) d_St_makeRoom_54 rfl ?_
        refine r_getI d_St_makeRoom_55 ok_9 (nle rfl) (nle rfl) rfl lf_St_87 q8 ?_
        refine r_imul d_St_makeRoom_58 ?_
        obtain ⟨q10, hw⟩ := hw
        obtain ⟨b11, t12, u8, u9, u6, u7, hw⟩ := hw
        subst u8 u9
        refine r_newI d_St_makeRoom_59 ac_I u6 rfl u7 (refB_r q10 refB_n) (refL_r q10 (refL_i (refL_i refL_n))) ?_
        generalize e8 : nw (sR h6 v0 7 a7) 20 (ix ((2 : Int32) * (gI (sR h6 v0 7 a7) v0 6))) = h13 at hw ⊢
        generalize e7 : gX (sR h6 v0 7 a7) = a14 at hw ⊢
        replace hw := hw a14 h13 e7.symm e8.symm
        obtain ⟨q15, hw⟩ := hw
        obtain ⟨q16, hw⟩ := hw
        refine r_putR d_St_makeRoom_61 ok_9 (nle rfl) (nle rfl) rfl lf_St_32 rfl q15 q16 ?_
        refine r_aload_n (j := 0) d_St_makeRoom_64 rfl ?_
        refine r_iconst d_St_makeRoom_65 kc_2 ?_
        refine r_aload_n (j := 0) d_St_makeRoom_66 rfl ?_
        refine r_getI d_St_makeRoom_67 ok_9 (nle rfl) (nle rfl) rfl lf_St_87 q15 ?_
        refine r_imul d_St_makeRoom_70 ?_
        obtain ⟨q17, hw⟩ := hw
        obtain ⟨b18, t19, u8, u9, u6, u7, hw⟩ := hw
        subst u8 u9
        refine r_newI d_St_makeRoom_71 ac_I u6 rfl u7 (refB_r q17 refB_n) (refL_r q17 (refL_i (refL_i refL_n))) ?_
        generalize e8 : nw (sR h13 v0 8 a14) 20 (ix ((2 : Int32) * (gI (sR h13 v0 8 a14) v0 6))) = h20 at hw ⊢
        generalize e7 : gX (sR h13 v0 8 a14) = a21 at hw ⊢
        replace hw := hw a21 h20 e7.symm e8.symm
        obtain ⟨q22, hw⟩ := hw
        obtain ⟨q23, hw⟩ := hw
        refine r_putR d_St_makeRoom_73 ok_9 (nle rfl) (nle rfl) rfl lf_St_35 rfl q22 q23 ?_
        refine r_aload_n (j := 0) d_St_makeRoom_76 rfl ?_
        refine r_bipush d_St_makeRoom_77 kb_13 ?_
        refine r_aload_n (j := 0) d_St_makeRoom_79 rfl ?_
        refine r_getI d_St_makeRoom_80 ok_9 (nle rfl) (nle rfl) rfl lf_St_87 q22 ?_
        refine r_imul d_St_makeRoom_83 ?_
        refine r_bipush d_St_makeRoom_84 kb_16 ?_
        refine r_idiv d_St_makeRoom_86 (by decide) ?_
        refine r_iconst d_St_makeRoom_87 kc_1 ?_
        refine r_iadd d_St_makeRoom_88 ?_
        obtain ⟨q24, hw⟩ := hw
        obtain ⟨b25, t26, u8, u9, u6, u7, hw⟩ := hw
        subst u8 u9
        refine r_newL d_St_makeRoom_89 ac_J u6 rfl u7 (refB_r q24 refB_n) (refL_r q24 (refL_i (refL_i refL_n))) ?_
        generalize e8 : nw (sR h20 v0 9 a21) 21 (ix ((((13 : Int32) * (gI (sR h20 v0 9 a21) v0 6)) / (16 : Int32)) + (1 : Int32))) = h27 at hw ⊢
        generalize e7 : gX (sR h20 v0 9 a21) = a28 at hw ⊢
        replace hw := hw a28 h27 e7.symm e8.symm
        obtain ⟨q29, hw⟩ := hw
        obtain ⟨q30, hw⟩ := hw
        refine r_putR d_St_makeRoom_91 ok_9 (nle rfl) (nle rfl) rfl lf_St_38 rfl q29 q30 ?_
        exact r_return d_St_makeRoom_94.1 rfl (hQ _ hw)
    · replace hw := hw.2 w9
      refine r_iload_n (j := 1) d_St_makeRoom_16 rfl ?_
      refine r_bipush d_St_makeRoom_17 kb_25 ?_
      refine r_imul d_St_makeRoom_19 ?_
      refine r_istore_n (ls2 := [(1, ai (v1 * (25 : Int32))), (0, ar v0), (2, ai v2)]) d_St_makeRoom_20 (nle rfl) rfl ?_
      refine r_iinc (j := 2) (ls2 := [(2, ai (v2 + (1 : Int32))), (1, ai (v1 * (25 : Int32))), (0, ar v0)]) d_St_makeRoom_21 rfl (congrArg (HAdd.hAdd v2) kc_1) (nle rfl) rfl ?_
      refine r_goto d_St_makeRoom_24 ?_
      refine r_pick (ls2 := [(0, ar v0), (1, ai (v1 * (25 : Int32))), (2, ai (v2 + (1 : Int32)))]) [2, 1, 0] rfl ?_
      exact ih _ _ _ _ _ hw
set_option maxRecDepth 100000 in
set_option maxHeartbeats 4000000 in
theorem s_St_makeRoom {d : Nat} {v0 : Nat} {bc bs : Nat} {h : Hp} {Q : Hp → Prop} {QQ : Option AV → Hp → Prop} (hw : w_St_makeRoom bc bs v0 h Q) (hQ : ∀ h9, Q h9 → QQ none h9) : aCall m_St_makeRoom d [ar v0] h bc bs QQ := by
  refine aCall_in pl_St_makeRoom (nle rfl) ?_
  show aW none m_St_makeRoom d 0 [(0, ar v0)] [] h bc bs QQ
  unfold w_St_makeRoom at hw
  refine r_bipush d_St_makeRoom_0 kb_25 ?_
  refine r_istore_n (ls2 := [(1, ai (25 : Int32)), (0, ar v0)]) d_St_makeRoom_2 (nle rfl) rfl ?_
  refine r_iconst d_St_makeRoom_3 kc_1 ?_
  refine r_istore_n (ls2 := [(2, ai (1 : Int32)), (1, ai (25 : Int32)), (0, ar v0)]) d_St_makeRoom_4 (nle rfl) rfl ?_
  obtain ⟨n31, hw⟩ := hw
  refine r_pick (ls2 := [(0, ar v0), (1, ai (25 : Int32)), (2, ai (1 : Int32))]) [2, 1, 0] rfl ?_
  exact s_St_makeRoom_L5 hQ  n31 _ _ _ _ _ hw
set_option maxRecDepth 100000 in
set_option maxHeartbeats 4000000 in
theorem s_St_atNeed_L2 {d : Nat} (hd : 1 ≤ d + 1) {Q : Hp → Prop} {QQ : Option AV → Hp → Prop} (hQ : ∀ h9, Q h9 → QQ none h9) {v0 : Nat} : ∀ (n : Nat) (v1 : Int32) (h : Hp), w_St_atNeed_L2 Q  v0 n v1 h → aW none m_St_atNeed (d + 1) 2 [(0, ar v0), (1, ai v1)] [] h 0 0 QQ := by
  intro n
  induction n with
  | zero => intro v1 h hw; exact hw.elim
  | succ n ih =>
    intro v1 h hw
    unfold w_St_atNeed_L2 at hw
    refine r_iload_n (j := 1) d_St_atNeed_2 rfl ?_
    refine r_iconst d_St_atNeed_3 kc_3 ?_
    refine r_icmp_ge d_St_atNeed_4 (fun w9 => ?_) (fun w9 => ?_)
    · replace hw := hw.1 w9
      exact r_return d_St_atNeed_27.1 rfl (hQ _ hw)
    · replace hw := hw.2 w9
      refine r_aload_n (j := 0) d_St_atNeed_7 rfl ?_
      obtain ⟨q1, hw⟩ := hw
      refine r_getR d_St_atNeed_8 ok_9 (nle rfl) (nle rfl) rfl lf_St_18 q1 ?_
      refine r_iload_n (j := 1) d_St_atNeed_11 rfl ?_
      refine r_aload_n (j := 0) d_St_atNeed_12 rfl ?_
      refine r_getR d_St_atNeed_13 ok_9 (nle rfl) (nle rfl) rfl lf_St_47 q1 ?_
      refine r_iload_n (j := 1) d_St_atNeed_16 rfl ?_
      obtain ⟨q4, hw⟩ := hw
      refine r_callV (av := [ai v1]) (rest := [ai v1, ar (gR h v0 3)]) (ci := 1) d_St_atNeed_17 mk_Co_needOf ll_St_94 im_Co_needOf se_Co_needOf rfl (nle rfl) rfl rfl (nle rfl) q4 (s_Co_needOf  hw (fun r3 h2 hw => ?_))
      show aW none m_St_atNeed (d + 1) 20 [(0, ar v0), (1, ai v1)] [ai r3, ai v1, ar (gR h v0 3)] h2 0 0 QQ
      obtain ⟨q5, hw⟩ := hw
      obtain ⟨q6, hw⟩ := hw
      refine r_iast d_St_atNeed_20 q5 q6 ?_
      refine r_iinc (j := 1) (ls2 := [(1, ai (v1 + (1 : Int32))), (0, ar v0)]) d_St_atNeed_21 rfl (congrArg (HAdd.hAdd v1) kc_1) (nle rfl) rfl ?_
      refine r_goto d_St_atNeed_24 ?_
      refine r_pick (ls2 := [(0, ar v0), (1, ai (v1 + (1 : Int32)))]) [1, 0] rfl ?_
      exact ih _ _ hw
set_option maxRecDepth 100000 in
set_option maxHeartbeats 4000000 in
theorem s_St_atNeed {d : Nat} (hd : 1 ≤ d) {v0 : Nat} {h : Hp} {Q : Hp → Prop} {QQ : Option AV → Hp → Prop} (hw : w_St_atNeed v0 h Q) (hQ : ∀ h9, Q h9 → QQ none h9) : aCall m_St_atNeed d [ar v0] h 0 0 QQ := by
  obtain ⟨d, rfl⟩ : ∃ d9, d = d9 + 1 := ⟨d - 1, by omega⟩
  refine aCall_in pl_St_atNeed (nle rfl) ?_
  show aW none m_St_atNeed (d + 1) 0 [(0, ar v0)] [] h 0 0 QQ
  unfold w_St_atNeed at hw
  refine r_iconst d_St_atNeed_0 kc_0 ?_
  refine r_istore_n (ls2 := [(1, ai (0 : Int32)), (0, ar v0)]) d_St_atNeed_1 (nle rfl) rfl ?_
  obtain ⟨n7, hw⟩ := hw
  refine r_pick (ls2 := [(0, ar v0), (1, ai (0 : Int32))]) [1, 0] rfl ?_
  exact s_St_atNeed_L2 hd hQ  n7 _ _ hw
set_option maxRecDepth 100000 in
set_option maxHeartbeats 4000000 in
theorem s_St_cellOf_L6 {d : Nat} {Q : Int32 → Hp → Prop} {QQ : Option AV → Hp → Prop} (hQ : ∀ r9 h9, Q r9 h9 → QQ (some (ai r9)) h9) {v0 : Nat} {v2 : Int32} : ∀ (n : Nat) (v3 : Int32) (h : Hp), w_St_cellOf_L6 Q  v0 v2 n v3 h → aW none m_St_cellOf d 6 [(0, ar v0), (2, ai v2), (3, ai v3)] [] h 0 0 QQ := by
  intro n
  induction n with
  | zero => intro v3 h hw; exact hw.elim
  | succ n ih =>
    intro v3 h hw
    unfold w_St_cellOf_L6 at hw
    refine r_iload_n (j := 2) d_St_cellOf_6 rfl ?_
    refine r_iconst d_St_cellOf_7 kc_3 ?_
    refine r_icmp_ge d_St_cellOf_8 (fun w9 => ?_) (fun w9 => ?_)
    · replace hw := hw.1 w9
      refine r_aload_n (j := 0) d_St_cellOf_53 rfl ?_
      obtain ⟨q1, hw⟩ := hw
      refine r_getR d_St_cellOf_54 ok_9 (nle rfl) (nle rfl) rfl lf_St_18 q1 ?_
      refine r_iconst d_St_cellOf_57 kc_0 ?_
      obtain ⟨q2, hw⟩ := hw
      obtain ⟨q3, hw⟩ := hw
      refine r_iald d_St_cellOf_58 q2 q3 ?_
      refine r_aload_n (j := 0) d_St_cellOf_59 rfl ?_
      refine r_getR d_St_cellOf_60 ok_9 (nle rfl) (nle rfl) rfl lf_St_9 q1 ?_
      refine r_iload_n (j := 1) d_St_cellOf_63 rfl ?_
      obtain ⟨q4, hw⟩ := hw
      obtain ⟨q5, hw⟩ := hw
      refine r_iald d_St_cellOf_64 q4 q5 ?_
      refine r_isub d_St_cellOf_65 ?_
      refine r_istore_n (ls2 := [(3, ai ((gI h (gR h v0 3) (ix (0 : Int32))) - (gI h (gR h v0 1) (ix v2)))), (0, ar v0), (2, ai v2)]) d_St_cellOf_66 (nle rfl) rfl ?_
      refine r_aload_n (j := 1) d_St_cellOf_67 rfl ?_
      refine r_getR d_St_cellOf_68 ok_9 (nle rfl) (nle rfl) rfl lf_St_18 q1 ?_
      refine r_iconst d_St_cellOf_71 kc_1 ?_
      obtain ⟨q6, hw⟩ := hw
      refine r_iald d_St_cellOf_72 q2 q6 ?_
      refine r_aload_n (j := 1) d_St_cellOf_73 rfl ?_
      refine r_getR d_St_cellOf_74 ok_9 (nle rfl) (nle rfl) rfl lf_St_9 q1 ?_
      refine r_iload_n (j := 2) d_St_cellOf_77 rfl ?_
      refine r_iconst d_St_cellOf_78 kc_1 ?_
      refine r_iadd d_St_cellOf_79 ?_
      obtain ⟨q7, hw⟩ := hw
      refine r_iald d_St_cellOf_80 q4 q7 ?_
      refine r_isub d_St_cellOf_81 ?_
      refine r_istore (ls2 := [(4, ai ((gI h (gR h v0 3) (ix (1 : Int32))) - (gI h (gR h v0 1) (ix (v2 + (1 : Int32)))))), (3, ai ((gI h (gR h v0 3) (ix (0 : Int32))) - (gI h (gR h v0 1) (ix v2)))), (0, ar v0), (2, ai v2)]) d_St_cellOf_82 (nle rfl) rfl ?_
      refine r_iload_n (j := 1) d_St_cellOf_84 rfl ?_
      refine r_aload_n (j := 2) d_St_cellOf_85 rfl ?_
      refine r_getI d_St_cellOf_86 ok_9 (nle rfl) (nle rfl) rfl lf_St_21 q1 ?_
      refine r_imul d_St_cellOf_89 ?_
      refine r_iload (j := 0) d_St_cellOf_90 rfl ?_
      refine r_iadd d_St_cellOf_92 ?_
      refine r_aload_n (j := 2) d_St_cellOf_93 rfl ?_
      refine r_getI d_St_cellOf_94 ok_9 (nle rfl) (nle rfl) rfl lf_St_25 q1 ?_
      refine r_imul d_St_cellOf_97 ?_
      refine r_aload_n (j := 2) d_St_cellOf_98 rfl ?_
      refine r_getR d_St_cellOf_99 ok_9 (nle rfl) (nle rfl) rfl lf_St_18 q1 ?_
      refine r_iconst d_St_cellOf_102 kc_2 ?_
      obtain ⟨q8, hw⟩ := hw
      refine r_iald d_St_cellOf_103 q2 q8 ?_
      refine r_iadd d_St_cellOf_104 ?_
      refine r_aload_n (j := 2) d_St_cellOf_105 rfl ?_
      refine r_getR d_St_cellOf_106 ok_9 (nle rfl) (nle rfl) rfl lf_St_9 q1 ?_
      refine r_iload_n (j := 3) d_St_cellOf_109 rfl ?_
      refine r_iconst d_St_cellOf_110 kc_2 ?_
      refine r_iadd d_St_cellOf_111 ?_
      obtain ⟨q9, hw⟩ := hw
      refine r_iald d_St_cellOf_112 q4 q9 ?_
      refine r_isub d_St_cellOf_113 ?_
      exact r_ireturn d_St_cellOf_114.1 rfl (hQ _ _ hw)
    · replace hw := hw.2 w9
      refine r_aload_n (j := 0) d_St_cellOf_11 rfl ?_
      obtain ⟨q10, hw⟩ := hw
      refine r_getR d_St_cellOf_12 ok_9 (nle rfl) (nle rfl) rfl lf_St_18 q10 ?_
      refine r_iload_n (j := 2) d_St_cellOf_15 rfl ?_
      obtain ⟨q11, hw⟩ := hw
      obtain ⟨q12, hw⟩ := hw
      refine r_iald d_St_cellOf_16 q11 q12 ?_
      refine r_aload_n (j := 0) d_St_cellOf_17 rfl ?_
      refine r_getR d_St_cellOf_18 ok_9 (nle rfl) (nle rfl) rfl lf_St_9 q10 ?_
      refine r_iload_n (j := 1) d_St_cellOf_21 rfl ?_
      refine r_iload_n (j := 2) d_St_cellOf_22 rfl ?_
      refine r_iadd d_St_cellOf_23 ?_
      obtain ⟨q13, hw⟩ := hw
      obtain ⟨q14, hw⟩ := hw
      refine r_iald d_St_cellOf_24 q13 q14 ?_
      refine r_icmp_lt d_St_cellOf_25 (fun w9 => ?_) (fun w9 => ?_)
      · replace hw := hw.1 w9
        refine r_iconst d_St_cellOf_45 kc_m1 ?_
        exact r_ireturn d_St_cellOf_46.1 rfl (hQ _ _ hw)
      · replace hw := hw.2 w9
        refine r_aload_n (j := 0) d_St_cellOf_28 rfl ?_
        refine r_getR d_St_cellOf_29 ok_9 (nle rfl) (nle rfl) rfl lf_St_18 q10 ?_
        refine r_iload_n (j := 2) d_St_cellOf_32 rfl ?_
        refine r_iald d_St_cellOf_33 q11 q12 ?_
        refine r_aload_n (j := 0) d_St_cellOf_34 rfl ?_
        refine r_getR d_St_cellOf_35 ok_9 (nle rfl) (nle rfl) rfl lf_St_15 q10 ?_
        refine r_iload_n (j := 1) d_St_cellOf_38 rfl ?_
        refine r_iload_n (j := 2) d_St_cellOf_39 rfl ?_
        refine r_iadd d_St_cellOf_40 ?_
        obtain ⟨q15, hw⟩ := hw
        obtain ⟨q16, hw⟩ := hw
        refine r_iald d_St_cellOf_41 q15 q16 ?_
        refine r_icmp_le d_St_cellOf_42 (fun w9 => ?_) (fun w9 => ?_)
        · replace hw := hw.1 w9
          refine r_iinc (j := 2) (ls2 := [(3, ai (v3 + (1 : Int32))), (0, ar v0), (2, ai v2)]) d_St_cellOf_47 rfl (congrArg (HAdd.hAdd v3) kc_1) (nle rfl) rfl ?_
          refine r_goto d_St_cellOf_50 ?_
          refine r_pick (ls2 := [(0, ar v0), (2, ai v2), (3, ai (v3 + (1 : Int32)))]) [1, 2, 0] rfl ?_
          exact ih _ _ hw
        · replace hw := hw.2 w9
          refine r_iconst d_St_cellOf_45 kc_m1 ?_
          exact r_ireturn d_St_cellOf_46.1 rfl (hQ _ _ hw)
set_option maxRecDepth 100000 in
set_option maxHeartbeats 4000000 in
theorem s_St_cellOf {d : Nat} {v0 : Nat} {v1 : Int32} {h : Hp} {Q : Int32 → Hp → Prop} {QQ : Option AV → Hp → Prop} (hw : w_St_cellOf v0 v1 h Q) (hQ : ∀ r9 h9, Q r9 h9 → QQ (some (ai r9)) h9) : aCall m_St_cellOf d [ar v0, ai v1] h 0 0 QQ := by
  refine aCall_in pl_St_cellOf (nle rfl) ?_
  show aW none m_St_cellOf d 0 [(0, ar v0), (1, ai v1)] [] h 0 0 QQ
  unfold w_St_cellOf at hw
  refine r_iload_n (j := 1) d_St_cellOf_0 rfl ?_
  refine r_iconst d_St_cellOf_1 kc_3 ?_
  refine r_imul d_St_cellOf_2 ?_
  refine r_istore_n (ls2 := [(2, ai (v1 * (3 : Int32))), (0, ar v0), (1, ai v1)]) d_St_cellOf_3 (nle rfl) rfl ?_
  refine r_iconst d_St_cellOf_4 kc_0 ?_
  refine r_istore_n (ls2 := [(3, ai (0 : Int32)), (2, ai (v1 * (3 : Int32))), (0, ar v0), (1, ai v1)]) d_St_cellOf_5 (nle rfl) rfl ?_
  obtain ⟨n17, hw⟩ := hw
  refine r_pick (ls2 := [(0, ar v0), (2, ai (v1 * (3 : Int32))), (3, ai (0 : Int32))]) [2, 1, 0] rfl ?_
  exact s_St_cellOf_L6 hQ  n17 _ _ hw
set_option maxRecDepth 100000 in
set_option maxHeartbeats 4000000 in
theorem s_St_readEnd {d : Nat} (hd : 2 ≤ d) {v0 : Nat} {v1 : Int32} {h : Hp} {Q : Hp → Prop} {QQ : Option AV → Hp → Prop} (hw : w_St_readEnd v0 v1 h Q) (hQ : ∀ h9, Q h9 → QQ none h9) : aCall m_St_readEnd d [ar v0, ai v1] h 0 0 QQ := by
  obtain ⟨d, rfl⟩ : ∃ d9, d = d9 + 1 := ⟨d - 1, by omega⟩
  refine aCall_in pl_St_readEnd (nle rfl) ?_
  show aW none m_St_readEnd (d + 1) 0 [(0, ar v0), (1, ai v1)] [] h 0 0 QQ
  unfold w_St_readEnd at hw
  refine r_aload_n (j := 0) d_St_readEnd_0 rfl ?_
  refine r_lconst d_St_readEnd_1 kl_0 ?_
  obtain ⟨q1, hw⟩ := hw
  refine r_putL d_St_readEnd_2 ok_9 (nle rfl) (nle rfl) rfl lf_St_146 rfl q1 ?_
  refine r_aload_n (j := 0) d_St_readEnd_5 rfl ?_
  refine r_iconst d_St_readEnd_6 kc_0 ?_
  refine r_putI d_St_readEnd_7 ok_9 (nle rfl) (nle rfl) rfl lf_St_150 rfl q1 ?_
  refine r_aload_n (j := 0) d_St_readEnd_10 rfl ?_
  refine r_callV (av := []) (rest := []) (ci := 9) d_St_readEnd_11 mk_St_atNeed ll_St_153 im_St_atNeed se_St_atNeed rfl (nle rfl) rfl rfl (nle rfl) q1 (s_St_atNeed (by omega) hw (fun h2 hw => ?_))
  show aW none m_St_readEnd (d + 1) 14 [(0, ar v0), (1, ai v1)] [] h2 0 0 QQ
  refine r_aload_n (j := 0) d_St_readEnd_14 rfl ?_
  refine r_iload_n (j := 1) d_St_readEnd_15 rfl ?_
  obtain ⟨q5, hw⟩ := hw
  refine r_callV (av := [ai v1]) (rest := []) (ci := 9) d_St_readEnd_16 mk_St_cellOf ll_St_112 im_St_cellOf se_St_cellOf rfl (nle rfl) rfl rfl (nle rfl) q5 (s_St_cellOf  hw (fun r4 h3 hw => ?_))
  show aW none m_St_readEnd (d + 1) 19 [(0, ar v0), (1, ai v1)] [ai r4] h3 0 0 QQ
  refine r_istore_n (ls2 := [(2, ai r4), (0, ar v0), (1, ai v1)]) d_St_readEnd_19 (nle rfl) rfl ?_
  refine r_iload_n (j := 0) d_St_readEnd_20 rfl ?_
  refine r_if_lt d_St_readEnd_21 (fun w9 => ?_) (fun w9 => ?_)
  · replace hw := hw.1 w9
    exact r_return d_St_readEnd_64.1 rfl (hQ _ hw)
  · replace hw := hw.2 w9
    refine r_aload_n (j := 1) d_St_readEnd_24 rfl ?_
    refine r_aload_n (j := 1) d_St_readEnd_25 rfl ?_
    obtain ⟨q6, hw⟩ := hw
    refine r_getR d_St_readEnd_26 ok_9 (nle rfl) (nle rfl) rfl lf_St_28 q6 ?_
    refine r_iload_n (j := 2) d_St_readEnd_29 rfl ?_
    refine r_callS (av := [ai v1]) (rest := [ar (gR h3 v0 7), ar v0]) d_St_readEnd_30 mk_St_layer ll_St_115 st_St_layer rfl rfl (nle rfl) (s_St_layer  hw (fun r8 h7 hw => ?_))
    show aW none m_St_readEnd (d + 1) 33 [(2, ai r4), (0, ar v0), (1, ai v1)] [ai r8, ar (gR h3 v0 7), ar v0] h7 0 0 QQ
    refine r_aload_n (j := 1) d_St_readEnd_33 rfl ?_
    obtain ⟨q9, hw⟩ := hw
    refine r_getI d_St_readEnd_34 ok_9 (nle rfl) (nle rfl) rfl lf_St_87 q9 ?_
    refine r_imul d_St_readEnd_37 ?_
    refine r_iload_n (j := 0) d_St_readEnd_38 rfl ?_
    refine r_iadd d_St_readEnd_39 ?_
    obtain ⟨q10, hw⟩ := hw
    obtain ⟨q11, hw⟩ := hw
    refine r_lald d_St_readEnd_40 q10 q11 ?_
    refine r_putL d_St_readEnd_41 ok_9 (nle rfl) (nle rfl) rfl lf_St_146 rfl q9 ?_
    refine r_aload_n (j := 1) d_St_readEnd_44 rfl ?_
    refine r_aload_n (j := 1) d_St_readEnd_45 rfl ?_
    refine r_getR d_St_readEnd_46 ok_9 (nle rfl) (nle rfl) rfl lf_St_32 q9 ?_
    refine r_iload_n (j := 2) d_St_readEnd_49 rfl ?_
    refine r_callS (av := [ai v1]) (rest := [ar (gR h7 v0 8), ar v0]) d_St_readEnd_50 mk_St_layer ll_St_115 st_St_layer rfl rfl (nle rfl) (s_St_layer  hw (fun r13 h12 hw => ?_))
    show aW none m_St_readEnd (d + 1) 53 [(2, ai r4), (0, ar v0), (1, ai v1)] [ai r13, ar (gR h7 v0 8), ar v0] h12 0 0 QQ
    refine r_aload_n (j := 1) d_St_readEnd_53 rfl ?_
    obtain ⟨q14, hw⟩ := hw
    refine r_getI d_St_readEnd_54 ok_9 (nle rfl) (nle rfl) rfl lf_St_87 q14 ?_
    refine r_imul d_St_readEnd_57 ?_
    refine r_iload_n (j := 0) d_St_readEnd_58 rfl ?_
    refine r_iadd d_St_readEnd_59 ?_
    obtain ⟨q15, hw⟩ := hw
    obtain ⟨q16, hw⟩ := hw
    refine r_iald d_St_readEnd_60 q15 q16 ?_
    refine r_putI d_St_readEnd_61 ok_9 (nle rfl) (nle rfl) rfl lf_St_150 rfl q14 ?_
    exact r_return d_St_readEnd_64.1 rfl (hQ _ hw)
set_option maxRecDepth 100000 in
set_option maxHeartbeats 4000000 in
theorem s_St_setBounds_B125 {d : Nat} (hd : 1 ≤ d + 1) {Q : Hp → Prop} {QQ : Option AV → Hp → Prop} (hQ : ∀ h9, Q h9 → QQ none h9) {k50 : Int32 → Hp → Prop} {k58 : Int32 → Hp → Prop} (hk50 : ∀ v3 h9, k50 v3 h9 → aW none m_St_setBounds (d + 1) 50 [(0, ar v0), (1, ai v1), (2, ai v2), (3, ai v3)] [] h9 0 0 QQ) (hk58 : ∀ v4 h9, k58 v4 h9 → aW none m_St_setBounds (d + 1) 58 [(0, ar v0), (1, ai v1), (2, ai v2), (3, ai v3), (4, ai v4)] [] h9 0 0 QQ) {v0 : Nat} {v1 : Int32} {v2 : Int32} {v3 : Int32} {v4 : Int32} {v5 : Int32} {v6 : Int32} {v7 : Int32} {s0 : Nat} {s1 : Int32} {s2 : Int32} {h : Hp} (hw : w_St_setBounds_B125 Q k50 k58 v0 v1 v2 v3 v4 v5 v6 v7 s0 s1 s2 h) : aW none m_St_setBounds (d + 1) 125 [(0, ar v0), (1, ai v1), (2, ai v2), (3, ai v3), (4, ai v4), (5, ai v5), (6, ai v6), (7, ai v7)] [ar s0, ai s1, ai s2] h 0 0 QQ := by
  unfold w_St_setBounds_B125 at hw
  obtain ⟨q17, hw⟩ := hw
  obtain ⟨q18, hw⟩ := hw
  refine r_iast d_St_setBounds_125 q17 q18 ?_
  refine r_aload_n (j := 0) d_St_setBounds_126 rfl ?_
  obtain ⟨q19, hw⟩ := hw
  refine r_getR d_St_setBounds_127 ok_9 (nle rfl) (nle rfl) rfl lf_St_15 q19 ?_
  refine r_iload_n (j := 3) d_St_setBounds_130 rfl ?_
  refine r_iconst d_St_setBounds_131 kc_3 ?_
  refine r_imul d_St_setBounds_132 ?_
  refine r_iload (j := 4) d_St_setBounds_133 rfl ?_
  refine r_iadd d_St_setBounds_135 ?_
  refine r_iload (j := 5) d_St_setBounds_136 rfl ?_
  refine r_if_eq d_St_setBounds_138 (fun w9 => ?_) (fun w9 => ?_)
  · replace hw := hw.1 w9
    refine r_iconst d_St_setBounds_153 kc_0 ?_
    obtain ⟨q20, hw⟩ := hw
    obtain ⟨q21, hw⟩ := hw
    refine r_iast d_St_setBounds_154 q20 q21 ?_
    refine r_iinc (j := 4) (ls2 := [(4, ai (v4 + (1 : Int32))), (0, ar v0), (1, ai v1), (2, ai v2), (3, ai v3), (5, ai v5), (6, ai v6), (7, ai v7)]) d_St_setBounds_155 rfl (congrArg (HAdd.hAdd v4) kc_1) (nle rfl) rfl ?_
    refine r_goto d_St_setBounds_158 ?_
    refine r_pick (ls2 := [(0, ar v0), (1, ai v1), (2, ai v2), (3, ai v3), (4, ai (v4 + (1 : Int32)))]) [1, 2, 3, 4, 0] rfl ?_
    exact hk58 _ _ hw
  · replace hw := hw.2 w9
    refine r_iload (j := 6) d_St_setBounds_141 rfl ?_
    refine r_iload (j := 7) d_St_setBounds_143 rfl ?_
    refine r_callS (av := [ai v6, ai v7]) (rest := [ai ((v3 * (3 : Int32)) + v4), ar (gR h v0 2)]) d_St_setBounds_145 mk_JM_floorDiv ll_St_103 st_JM_floorDiv rfl rfl (nle rfl) (s_JM_floorDiv  hw (fun r23 h22 hw => ?_))
    show aW none m_St_setBounds (d + 1) 148 [(0, ar v0), (1, ai v1), (2, ai v2), (3, ai v3), (4, ai v4), (5, ai v5), (6, ai v6), (7, ai v7)] [ai r23, ai ((v3 * (3 : Int32)) + v4), ar (gR h v0 2)] h22 0 0 QQ
    refine r_iload_n (j := 2) d_St_setBounds_148 rfl ?_
    refine r_iadd d_St_setBounds_149 ?_
    refine r_goto d_St_setBounds_150 ?_
    obtain ⟨q24, hw⟩ := hw
    obtain ⟨q25, hw⟩ := hw
    refine r_iast d_St_setBounds_154 q24 q25 ?_
    refine r_iinc (j := 4) (ls2 := [(4, ai (v4 + (1 : Int32))), (0, ar v0), (1, ai v1), (2, ai v2), (3, ai v3), (5, ai v5), (6, ai v6), (7, ai v7)]) d_St_setBounds_155 rfl (congrArg (HAdd.hAdd v4) kc_1) (nle rfl) rfl ?_
    refine r_goto d_St_setBounds_158 ?_
    refine r_pick (ls2 := [(0, ar v0), (1, ai v1), (2, ai v2), (3, ai v3), (4, ai (v4 + (1 : Int32)))]) [1, 2, 3, 4, 0] rfl ?_
    exact hk58 _ _ hw
set_option maxRecDepth 100000 in
set_option maxHeartbeats 4000000 in
theorem s_St_setBounds_L58 {d : Nat} (hd : 1 ≤ d + 1) {Q : Hp → Prop} {QQ : Option AV → Hp → Prop} (hQ : ∀ h9, Q h9 → QQ none h9) {k50 : Int32 → Hp → Prop} (hk50 : ∀ v3 h9, k50 v3 h9 → aW none m_St_setBounds (d + 1) 50 [(0, ar v0), (1, ai v1), (2, ai v2), (3, ai v3)] [] h9 0 0 QQ) {v0 : Nat} {v1 : Int32} {v2 : Int32} {v3 : Int32} : ∀ (n : Nat) (v4 : Int32) (h : Hp), w_St_setBounds_L58 Q k50 v0 v1 v2 v3 n v4 h → aW none m_St_setBounds (d + 1) 58 [(0, ar v0), (1, ai v1), (2, ai v2), (3, ai v3), (4, ai v4)] [] h 0 0 QQ := by
  intro n
  induction n with
  | zero => intro v4 h hw; exact hw.elim
  | succ n ih =>
    intro v4 h hw
    unfold w_St_setBounds_L58 at hw
    refine r_iload (j := 4) d_St_setBounds_58 rfl ?_
    refine r_iconst d_St_setBounds_60 kc_3 ?_
    refine r_icmp_ge d_St_setBounds_61 (fun w9 => ?_) (fun w9 => ?_)
    · replace hw := hw.1 w9
      refine r_iinc (j := 3) (ls2 := [(3, ai (v3 + (1 : Int32))), (0, ar v0), (1, ai v1), (2, ai v2), (4, ai v4)]) d_St_setBounds_161 rfl (congrArg (HAdd.hAdd v3) kc_1) (nle rfl) rfl ?_
      refine r_goto d_St_setBounds_164 ?_
      refine r_pick (ls2 := [(0, ar v0), (1, ai v1), (2, ai v2), (3, ai (v3 + (1 : Int32)))]) [1, 2, 3, 0] rfl ?_
      exact hk50 _ _ hw
    · replace hw := hw.2 w9
      refine r_aload_n (j := 0) d_St_setBounds_64 rfl ?_
      obtain ⟨q6, hw⟩ := hw
      refine r_getR d_St_setBounds_65 ok_9 (nle rfl) (nle rfl) rfl lf_St_47 q6 ?_
      refine r_iload (j := 4) d_St_setBounds_68 rfl ?_
      obtain ⟨q9, hw⟩ := hw
      refine r_callV (av := [ai v4]) (rest := []) (ci := 1) d_St_setBounds_70 mk_Co_hasRow ll_St_90 im_Co_hasRow se_Co_hasRow rfl (nle rfl) rfl rfl (nle rfl) q9 (s_Co_hasRow  hw (fun r8 h7 hw => ?_))
      show aW none m_St_setBounds (d + 1) 73 [(0, ar v0), (1, ai v1), (2, ai v2), (3, ai v3), (4, ai v4)] [ai (b2i r8)] h7 0 0 QQ
      refine r_istore (ls2 := [(5, ai (b2i r8)), (0, ar v0), (1, ai v1), (2, ai v2), (3, ai v3), (4, ai v4)]) d_St_setBounds_73 (nle rfl) rfl ?_
      refine r_iload_n (j := 4) d_St_setBounds_75 rfl ?_
      refine r_aload_n (j := 1) d_St_setBounds_76 rfl ?_
      obtain ⟨q10, hw⟩ := hw
      refine r_getR d_St_setBounds_77 ok_9 (nle rfl) (nle rfl) rfl lf_St_47 q10 ?_
      refine r_iload (j := 5) d_St_setBounds_80 rfl ?_
      obtain ⟨q13, hw⟩ := hw
      refine r_callV (av := [ai v4]) (rest := [ai v3]) (ci := 1) d_St_setBounds_82 mk_Co_needOf ll_St_94 im_Co_needOf se_Co_needOf rfl (nle rfl) rfl rfl (nle rfl) q13 (s_Co_needOf  hw (fun r12 h11 hw => ?_))
      show aW none m_St_setBounds (d + 1) 85 [(5, ai (b2i r8)), (0, ar v0), (1, ai v1), (2, ai v2), (3, ai v3), (4, ai v4)] [ai r12, ai v3] h11 0 0 QQ
      refine r_imul d_St_setBounds_85 ?_
      refine r_istore (ls2 := [(6, ai (v3 * r12)), (5, ai (b2i r8)), (0, ar v0), (1, ai v1), (2, ai v2), (3, ai v3), (4, ai v4)]) d_St_setBounds_86 (nle rfl) rfl ?_
      refine r_iload_n (j := 3) d_St_setBounds_88 rfl ?_
      refine r_iconst d_St_setBounds_89 kc_1 ?_
      refine r_callS (av := [ai v1, ai (1 : Int32)]) (rest := []) d_St_setBounds_90 mk_JM_max ll_St_98 st_JM_max rfl rfl (nle rfl) (s_JM_max  hw (fun r15 h14 hw => ?_))
      show aW none m_St_setBounds (d + 1) 93 [(6, ai (v3 * r12)), (5, ai (b2i r8)), (0, ar v0), (1, ai v1), (2, ai v2), (3, ai v3), (4, ai v4)] [ai r15] h14 0 0 QQ
      refine r_istore (ls2 := [(7, ai r15), (6, ai (v3 * r12)), (5, ai (b2i r8)), (0, ar v0), (1, ai v1), (2, ai v2), (3, ai v3), (4, ai v4)]) d_St_setBounds_93 (nle rfl) rfl ?_
      refine r_aload_n (j := 3) d_St_setBounds_95 rfl ?_
      obtain ⟨q16, hw⟩ := hw
      refine r_getR d_St_setBounds_96 ok_9 (nle rfl) (nle rfl) rfl lf_St_9 q16 ?_
      refine r_iload_n (j := 6) d_St_setBounds_99 rfl ?_
      refine r_iconst d_St_setBounds_100 kc_3 ?_
      refine r_imul d_St_setBounds_101 ?_
      refine r_iload (j := 7) d_St_setBounds_102 rfl ?_
      refine r_iadd d_St_setBounds_104 ?_
      refine r_iload (j := 2) d_St_setBounds_105 rfl ?_
      refine r_if_eq d_St_setBounds_107 (fun w9 => ?_) (fun w9 => ?_)
      · replace hw := hw.1 w9
        refine r_iconst d_St_setBounds_124 kc_0 ?_
        refine r_pick (ls2 := [(0, ar v0), (1, ai v1), (2, ai v2), (3, ai v3), (4, ai v4), (5, ai (b2i r8)), (6, ai (v3 * r12)), (7, ai r15)]) [3, 4, 5, 6, 7, 2, 1, 0] rfl ?_
        exact s_St_setBounds_B125 hd hQ hk50 ih hw
      · replace hw := hw.2 w9
        refine r_iload (j := 1) d_St_setBounds_110 rfl ?_
        refine r_ineg d_St_setBounds_112 ?_
        refine r_iload (j := 0) d_St_setBounds_113 rfl ?_
        refine r_callS (av := [ai (-(v3 * r12)), ai r15]) (rest := [ai ((v3 * (3 : Int32)) + v4), ar (gR h14 v0 1)]) d_St_setBounds_115 mk_JM_floorDiv ll_St_103 st_JM_floorDiv rfl rfl (nle rfl) (s_JM_floorDiv  hw (fun r27 h26 hw => ?_))
        show aW none m_St_setBounds (d + 1) 118 [(7, ai r15), (6, ai (v3 * r12)), (5, ai (b2i r8)), (0, ar v0), (1, ai v1), (2, ai v2), (3, ai v3), (4, ai v4)] [ai r27, ai ((v3 * (3 : Int32)) + v4), ar (gR h14 v0 1)] h26 0 0 QQ
        refine r_ineg d_St_setBounds_118 ?_
        refine r_iload_n (j := 5) d_St_setBounds_119 rfl ?_
        refine r_isub d_St_setBounds_120 ?_
        refine r_goto d_St_setBounds_121 ?_
        refine r_pick (ls2 := [(0, ar v0), (1, ai v1), (2, ai v2), (3, ai v3), (4, ai v4), (5, ai (b2i r8)), (6, ai (v3 * r12)), (7, ai r15)]) [3, 4, 5, 6, 7, 2, 1, 0] rfl ?_
        exact s_St_setBounds_B125 hd hQ hk50 ih hw
set_option maxRecDepth 100000 in
set_option maxHeartbeats 4000000 in
theorem s_St_setBounds_L50 {d : Nat} (hd : 1 ≤ d + 1) {Q : Hp → Prop} {QQ : Option AV → Hp → Prop} (hQ : ∀ h9, Q h9 → QQ none h9) {v0 : Nat} {v1 : Int32} {v2 : Int32} : ∀ (n : Nat) (v3 : Int32) (h : Hp), w_St_setBounds_L50 Q  v0 v1 v2 n v3 h → aW none m_St_setBounds (d + 1) 50 [(0, ar v0), (1, ai v1), (2, ai v2), (3, ai v3)] [] h 0 0 QQ := by
  intro n
  induction n with
  | zero => intro v3 h hw; exact hw.elim
  | succ n ih =>
    intro v3 h hw
    unfold w_St_setBounds_L50 at hw
    refine r_iload_n (j := 3) d_St_setBounds_50 rfl ?_
    refine r_iload_n (j := 1) d_St_setBounds_51 rfl ?_
    refine r_icmp_gt d_St_setBounds_52 (fun w9 => ?_) (fun w9 => ?_)
    · replace hw := hw.1 w9
      exact r_return d_St_setBounds_167.1 rfl (hQ _ hw)
    · replace hw := hw.2 w9
      refine r_iconst d_St_setBounds_55 kc_0 ?_
      refine r_istore (ls2 := [(4, ai (0 : Int32)), (0, ar v0), (1, ai v1), (2, ai v2), (3, ai v3)]) d_St_setBounds_56 (nle rfl) rfl ?_
      obtain ⟨n28, hw⟩ := hw
      refine r_pick (ls2 := [(0, ar v0), (1, ai v1), (2, ai v2), (3, ai v3), (4, ai (0 : Int32))]) [1, 2, 3, 4, 0] rfl ?_
      exact s_St_setBounds_L58 hd hQ ih n28 _ _ hw
set_option maxRecDepth 100000 in
set_option maxHeartbeats 4000000 in
theorem s_St_setBounds_B21 {d : Nat} (hd : 1 ≤ d + 1) {Q : Hp → Prop} {QQ : Option AV → Hp → Prop} (hQ : ∀ h9, Q h9 → QQ none h9) {v0 : Nat} {v1 : Int32} {v2 : Int32} {s0 : Nat} {s1 : Int32} {h : Hp} (hw : w_St_setBounds_B21 Q  v0 v1 v2 s0 s1 h) : aW none m_St_setBounds (d + 1) 21 [(0, ar v0), (1, ai v1), (2, ai v2)] [ar s0, ai s1] h 0 0 QQ := by
  unfold w_St_setBounds_B21 at hw
  obtain ⟨q3, hw⟩ := hw
  refine r_putI d_St_setBounds_21 ok_9 (nle rfl) (nle rfl) rfl lf_St_21 rfl q3 ?_
  refine r_aload_n (j := 0) d_St_setBounds_24 rfl ?_
  refine r_aload_n (j := 0) d_St_setBounds_25 rfl ?_
  obtain ⟨q4, hw⟩ := hw
  refine r_getR d_St_setBounds_26 ok_9 (nle rfl) (nle rfl) rfl lf_St_47 q4 ?_
  obtain ⟨q5, hw⟩ := hw
  refine r_getI d_St_setBounds_29 ok_1 (nle rfl) (nle rfl) rfl lf_St_84 q5 ?_
  refine r_iconst d_St_setBounds_32 kc_2 ?_
  refine r_icmp_le d_St_setBounds_33 (fun w9 => ?_) (fun w9 => ?_)
  · replace hw := hw.1 w9
    refine r_iconst d_St_setBounds_44 kc_1 ?_
    refine r_putI d_St_setBounds_45 ok_9 (nle rfl) (nle rfl) rfl lf_St_25 rfl q4 ?_
    refine r_iconst d_St_setBounds_48 kc_0 ?_
    refine r_istore_n (ls2 := [(3, ai (0 : Int32)), (0, ar v0), (1, ai v1), (2, ai v2)]) d_St_setBounds_49 (nle rfl) rfl ?_
    obtain ⟨n29, hw⟩ := hw
    refine r_pick (ls2 := [(0, ar v0), (1, ai v1), (2, ai v2), (3, ai (0 : Int32))]) [1, 2, 3, 0] rfl ?_
    exact s_St_setBounds_L50 hd hQ  n29 _ _ hw
  · replace hw := hw.2 w9
    refine r_iconst d_St_setBounds_36 kc_2 ?_
    refine r_iload_n (j := 2) d_St_setBounds_37 rfl ?_
    refine r_imul d_St_setBounds_38 ?_
    refine r_iconst d_St_setBounds_39 kc_1 ?_
    refine r_iadd d_St_setBounds_40 ?_
    refine r_goto d_St_setBounds_41 ?_
    refine r_putI d_St_setBounds_45 ok_9 (nle rfl) (nle rfl) rfl lf_St_25 rfl q4 ?_
    refine r_iconst d_St_setBounds_48 kc_0 ?_
    refine r_istore_n (ls2 := [(3, ai (0 : Int32)), (0, ar v0), (1, ai v1), (2, ai v2)]) d_St_setBounds_49 (nle rfl) rfl ?_
    obtain ⟨n30, hw⟩ := hw
    refine r_pick (ls2 := [(0, ar v0), (1, ai v1), (2, ai v2), (3, ai (0 : Int32))]) [1, 2, 3, 0] rfl ?_
    exact s_St_setBounds_L50 hd hQ  n30 _ _ hw
set_option maxRecDepth 100000 in
set_option maxHeartbeats 4000000 in
theorem s_St_setBounds {d : Nat} (hd : 1 ≤ d) {v0 : Nat} {v1 : Int32} {v2 : Int32} {h : Hp} {Q : Hp → Prop} {QQ : Option AV → Hp → Prop} (hw : w_St_setBounds v0 v1 v2 h Q) (hQ : ∀ h9, Q h9 → QQ none h9) : aCall m_St_setBounds d [ar v0, ai v1, ai v2] h 0 0 QQ := by
  obtain ⟨d, rfl⟩ : ∃ d9, d = d9 + 1 := ⟨d - 1, by omega⟩
  refine aCall_in pl_St_setBounds (nle rfl) ?_
  show aW none m_St_setBounds (d + 1) 0 [(0, ar v0), (1, ai v1), (2, ai v2)] [] h 0 0 QQ
  unfold w_St_setBounds at hw
  refine r_aload_n (j := 0) d_St_setBounds_0 rfl ?_
  refine r_aload_n (j := 0) d_St_setBounds_1 rfl ?_
  obtain ⟨q1, hw⟩ := hw
  refine r_getR d_St_setBounds_2 ok_9 (nle rfl) (nle rfl) rfl lf_St_47 q1 ?_
  obtain ⟨q2, hw⟩ := hw
  refine r_getI d_St_setBounds_5 ok_1 (nle rfl) (nle rfl) rfl lf_St_84 q2 ?_
  refine r_iconst d_St_setBounds_8 kc_1 ?_
  refine r_icmp_le d_St_setBounds_9 (fun w9 => ?_) (fun w9 => ?_)
  · replace hw := hw.1 w9
    refine r_iconst d_St_setBounds_20 kc_1 ?_
    exact s_St_setBounds_B21 hd hQ  hw
  · replace hw := hw.2 w9
    refine r_iconst d_St_setBounds_12 kc_2 ?_
    refine r_iload_n (j := 2) d_St_setBounds_13 rfl ?_
    refine r_imul d_St_setBounds_14 ?_
    refine r_iconst d_St_setBounds_15 kc_1 ?_
    refine r_iadd d_St_setBounds_16 ?_
    refine r_goto d_St_setBounds_17 ?_
    exact s_St_setBounds_B21 hd hQ  hw
set_option maxRecDepth 100000 in
set_option maxHeartbeats 4000000 in
theorem s_St_choiceAt {d : Nat} {v0 : Nat} {v1 : Int32} {v2 : Int32} {h : Hp} {Q : Int32 → Hp → Prop} {QQ : Option AV → Hp → Prop} (hw : w_St_choiceAt v0 v1 v2 h Q) (hQ : ∀ r9 h9, Q r9 h9 → QQ (some (ai r9)) h9) : aCall m_St_choiceAt d [ar v0, ai v1, ai v2] h 0 0 QQ := by
  refine aCall_in pl_St_choiceAt (nle rfl) ?_
  show aW none m_St_choiceAt d 0 [(0, ar v0), (1, ai v1), (2, ai v2)] [] h 0 0 QQ
  unfold w_St_choiceAt at hw
  refine r_iload_n (j := 1) d_St_choiceAt_0 rfl ?_
  refine r_aload_n (j := 0) d_St_choiceAt_1 rfl ?_
  obtain ⟨q1, hw⟩ := hw
  refine r_getI d_St_choiceAt_2 ok_9 (nle rfl) (nle rfl) rfl lf_St_87 q1 ?_
  refine r_imul d_St_choiceAt_5 ?_
  refine r_iload_n (j := 2) d_St_choiceAt_6 rfl ?_
  refine r_iadd d_St_choiceAt_7 ?_
  refine r_istore_n (ls2 := [(3, ai ((v1 * (gI h v0 6)) + v2)), (0, ar v0), (1, ai v1), (2, ai v2)]) d_St_choiceAt_8 (nle rfl) rfl ?_
  refine r_aload_n (j := 1) d_St_choiceAt_9 rfl ?_
  refine r_getR d_St_choiceAt_10 ok_9 (nle rfl) (nle rfl) rfl lf_St_38 q1 ?_
  refine r_iload_n (j := 0) d_St_choiceAt_13 rfl ?_
  refine r_bipush d_St_choiceAt_14 kb_16 ?_
  refine r_idiv d_St_choiceAt_16 (by decide) ?_
  obtain ⟨q2, hw⟩ := hw
  obtain ⟨q3, hw⟩ := hw
  refine r_lald d_St_choiceAt_17 q2 q3 ?_
  refine r_iload_n (j := 0) d_St_choiceAt_18 rfl ?_
  refine r_bipush d_St_choiceAt_19 kb_16 ?_
  refine r_irem d_St_choiceAt_21 (by decide) ?_
  refine r_iconst d_St_choiceAt_22 kc_4 ?_
  refine r_imul d_St_choiceAt_23 ?_
  refine r_lushr d_St_choiceAt_24 ?_
  refine r_l2i d_St_choiceAt_25 ?_
  refine r_bipush d_St_choiceAt_26 kb_15 ?_
  refine r_iand d_St_choiceAt_28 ?_
  exact r_ireturn d_St_choiceAt_29.1 rfl (hQ _ _ hw)
set_option maxRecDepth 100000 in
set_option maxHeartbeats 4000000 in
theorem s_St_choose {d : Nat} {v0 : Nat} {v1 : Int32} {v2 : Int32} {v3 : Int32} {h : Hp} {Q : Hp → Prop} {QQ : Option AV → Hp → Prop} (hw : w_St_choose v0 v1 v2 v3 h Q) (hQ : ∀ h9, Q h9 → QQ none h9) : aCall m_St_choose d [ar v0, ai v1, ai v2, ai v3] h 0 0 QQ := by
  refine aCall_in pl_St_choose (nle rfl) ?_
  show aW none m_St_choose d 0 [(0, ar v0), (1, ai v1), (2, ai v2), (3, ai v3)] [] h 0 0 QQ
  unfold w_St_choose at hw
  refine r_iload_n (j := 1) d_St_choose_0 rfl ?_
  refine r_aload_n (j := 0) d_St_choose_1 rfl ?_
  obtain ⟨q1, hw⟩ := hw
  refine r_getI d_St_choose_2 ok_9 (nle rfl) (nle rfl) rfl lf_St_87 q1 ?_
  refine r_imul d_St_choose_5 ?_
  refine r_iload_n (j := 2) d_St_choose_6 rfl ?_
  refine r_iadd d_St_choose_7 ?_
  refine r_istore (ls2 := [(4, ai ((v1 * (gI h v0 6)) + v2)), (0, ar v0), (1, ai v1), (2, ai v2), (3, ai v3)]) d_St_choose_8 (nle rfl) rfl ?_
  refine r_iload (j := 0) d_St_choose_10 rfl ?_
  refine r_bipush d_St_choose_12 kb_16 ?_
  refine r_irem d_St_choose_14 (by decide) ?_
  refine r_iconst d_St_choose_15 kc_4 ?_
  refine r_imul d_St_choose_16 ?_
  refine r_istore (ls2 := [(5, ai ((jrem ((v1 * (gI h v0 6)) + v2) (16 : Int32)) * (4 : Int32))), (4, ai ((v1 * (gI h v0 6)) + v2)), (0, ar v0), (1, ai v1), (2, ai v2), (3, ai v3)]) d_St_choose_17 (nle rfl) rfl ?_
  refine r_aload_n (j := 2) d_St_choose_19 rfl ?_
  refine r_getR d_St_choose_20 ok_9 (nle rfl) (nle rfl) rfl lf_St_38 q1 ?_
  refine r_iload (j := 1) d_St_choose_23 rfl ?_
  refine r_bipush d_St_choose_25 kb_16 ?_
  refine r_idiv d_St_choose_27 (by decide) ?_
  refine r_aload_n (j := 2) d_St_choose_28 rfl ?_
  refine r_getR d_St_choose_29 ok_9 (nle rfl) (nle rfl) rfl lf_St_38 q1 ?_
  refine r_iload (j := 1) d_St_choose_32 rfl ?_
  refine r_bipush d_St_choose_34 kb_16 ?_
  refine r_idiv d_St_choose_36 (by decide) ?_
  obtain ⟨q2, hw⟩ := hw
  obtain ⟨q3, hw⟩ := hw
  refine r_lald d_St_choose_37 q2 q3 ?_
  refine r_ldc2 d_St_choose_38 lc_St_142 ?_
  refine r_iload (j := 0) d_St_choose_41 rfl ?_
  refine r_lshl d_St_choose_43 ?_
  refine r_ldc2 d_St_choose_44 lc_St_144 ?_
  refine r_lxor d_St_choose_47 ?_
  refine r_land d_St_choose_48 ?_
  refine r_iload_n (j := 5) d_St_choose_49 rfl ?_
  refine r_i2l d_St_choose_50 ?_
  refine r_iload (j := 0) d_St_choose_51 rfl ?_
  refine r_lshl d_St_choose_53 ?_
  refine r_lor d_St_choose_54 ?_
  refine r_last d_St_choose_55 q2 q3 ?_
  exact r_return d_St_choose_56.1 rfl (hQ _ hw)
set_option maxRecDepth 100000 in
set_option maxHeartbeats 4000000 in
theorem s_St_reach_B107 {d : Nat} (hd : 1 ≤ d + 1) {Q : Bool → Hp → Prop} {QQ : Option AV → Hp → Prop} (hQ : ∀ r9 h9, Q r9 h9 → QQ (some (ai (b2i r9))) h9) {v0 : Nat} {v3 : Int32} {v5 : Int32} {v7 : Int32} {h : Hp} (hw : w_St_reach_B107 Q  v0 v3 v5 v7 h) : aW none m_St_reach (d + 1) 107 [(0, ar v0), (3, ai v3), (5, ai v5), (7, ai v7)] [] h 0 0 QQ := by
  unfold w_St_reach_B107 at hw
  refine r_aload_n (j := 0) d_St_reach_107 rfl ?_
  obtain ⟨q16, hw⟩ := hw
  refine r_getR d_St_reach_108 ok_9 (nle rfl) (nle rfl) rfl lf_St_28 q16 ?_
  refine r_iload (j := 2) d_St_reach_111 rfl ?_
  refine r_dup2 d_St_reach_113 rfl rfl ?_
  obtain ⟨q17, hw⟩ := hw
  obtain ⟨q18, hw⟩ := hw
  refine r_lald d_St_reach_114 q17 q18 ?_
  refine r_aload_n (j := 0) d_St_reach_115 rfl ?_
  refine r_getR d_St_reach_116 ok_9 (nle rfl) (nle rfl) rfl lf_St_28 q16 ?_
  refine r_iload_n (j := 1) d_St_reach_119 rfl ?_
  obtain ⟨q19, hw⟩ := hw
  refine r_lald d_St_reach_120 q17 q19 ?_
  refine r_ladd d_St_reach_121 ?_
  refine r_last d_St_reach_122 q17 q18 ?_
  refine r_iload (j := 3) d_St_reach_123 rfl ?_
  obtain ⟨q20, hw⟩ := hw
  exact r_zreturn d_St_reach_125.1 rfl q20 (by have g9 := hQ _ _ hw; rwa [b2i_i q20] at g9)
set_option maxRecDepth 100000 in
set_option maxHeartbeats 4000000 in
theorem s_St_reach_B90 {d : Nat} (hd : 1 ≤ d + 1) {Q : Bool → Hp → Prop} {QQ : Option AV → Hp → Prop} (hQ : ∀ r9 h9, Q r9 h9 → QQ (some (ai (b2i r9))) h9) {v0 : Nat} {v1 : Int32} {v2 : Int32} {v3 : Int32} {v4 : Int32} {v5 : Int32} {v6 : Int32} {v7 : Int32} {h : Hp} (hw : w_St_reach_B90 Q  v0 v1 v2 v3 v4 v5 v6 v7 h) : aW none m_St_reach (d + 1) 90 [(0, ar v0), (1, ai v1), (2, ai v2), (3, ai v3), (4, ai v4), (5, ai v5), (6, ai v6), (7, ai v7)] [] h 0 0 QQ := by
  unfold w_St_reach_B90 at hw
  refine r_aload_n (j := 0) d_St_reach_90 rfl ?_
  obtain ⟨q12, hw⟩ := hw
  refine r_getR d_St_reach_91 ok_9 (nle rfl) (nle rfl) rfl lf_St_32 q12 ?_
  refine r_iload (j := 5) d_St_reach_94 rfl ?_
  refine r_iload (j := 6) d_St_reach_96 rfl ?_
  obtain ⟨q13, hw⟩ := hw
  obtain ⟨q14, hw⟩ := hw
  refine r_iast d_St_reach_98 q13 q14 ?_
  refine r_aload_n (j := 0) d_St_reach_99 rfl ?_
  refine r_iload_n (j := 1) d_St_reach_100 rfl ?_
  refine r_iload_n (j := 2) d_St_reach_101 rfl ?_
  refine r_iload (j := 4) d_St_reach_102 rfl ?_
  refine r_callV (av := [ai v1, ai v2, ai v4]) (rest := []) (ci := 9) d_St_reach_104 mk_St_choose ll_St_138 im_St_choose se_St_choose rfl (nle rfl) rfl rfl (nle rfl) q12 (s_St_choose  hw (fun h15 hw => ?_))
  show aW none m_St_reach (d + 1) 107 [(0, ar v0), (1, ai v1), (2, ai v2), (3, ai v3), (4, ai v4), (5, ai v5), (6, ai v6), (7, ai v7)] [] h15 0 0 QQ
  refine r_pick (ls2 := [(0, ar v0), (3, ai v3), (5, ai v5), (7, ai v7)]) [0, 3, 5, 7] rfl ?_
  exact s_St_reach_B107 hd hQ  hw
set_option maxRecDepth 100000 in
set_option maxHeartbeats 4000000 in
theorem s_St_reach_B48 {d : Nat} (hd : 1 ≤ d + 1) {Q : Bool → Hp → Prop} {QQ : Option AV → Hp → Prop} (hQ : ∀ r9 h9, Q r9 h9 → QQ (some (ai (b2i r9))) h9) {v0 : Nat} {v1 : Int32} {v2 : Int32} {v3 : Int32} {v4 : Int32} {v5 : Int32} {v6 : Int32} {s0 : Int32} {h : Hp} (hw : w_St_reach_B48 Q  v0 v1 v2 v3 v4 v5 v6 s0 h) : aW none m_St_reach (d + 1) 48 [(0, ar v0), (1, ai v1), (2, ai v2), (3, ai v3), (4, ai v4), (5, ai v5), (6, ai v6)] [ai s0] h 0 0 QQ := by
  unfold w_St_reach_B48 at hw
  refine r_istore (ls2 := [(7, ai s0), (0, ar v0), (1, ai v1), (2, ai v2), (3, ai v3), (4, ai v4), (5, ai v5), (6, ai v6)]) d_St_reach_48 (nle rfl) rfl ?_
  refine r_iload (j := 0) d_St_reach_50 rfl ?_
  refine r_if_ne d_St_reach_52 (fun w9 => ?_) (fun w9 => ?_)
  · replace hw := hw.2 w9
    refine r_pick (ls2 := [(0, ar v0), (1, ai v1), (2, ai v2), (3, ai v3), (4, ai v4), (5, ai v5), (6, ai v6), (7, ai s0)]) [1, 2, 3, 4, 5, 6, 7, 0] rfl ?_
    exact s_St_reach_B90 hd hQ  hw
  · replace hw := hw.1 w9
    refine r_iload (j := 7) d_St_reach_55 rfl ?_
    refine r_aload_n (j := 1) d_St_reach_57 rfl ?_
    obtain ⟨q21, hw⟩ := hw
    refine r_getR d_St_reach_58 ok_9 (nle rfl) (nle rfl) rfl lf_St_32 q21 ?_
    refine r_iload (j := 6) d_St_reach_61 rfl ?_
    obtain ⟨q22, hw⟩ := hw
    obtain ⟨q23, hw⟩ := hw
    refine r_iald d_St_reach_63 q22 q23 ?_
    refine r_icmp_gt d_St_reach_64 (fun w9 => ?_) (fun w9 => ?_)
    · replace hw := hw.1 w9
      refine r_pick (ls2 := [(0, ar v0), (1, ai v1), (2, ai v2), (3, ai v3), (4, ai v4), (5, ai v5), (6, ai v6), (7, ai s0)]) [1, 2, 3, 4, 5, 6, 7, 0] rfl ?_
      exact s_St_reach_B90 hd hQ  hw
    · replace hw := hw.2 w9
      refine r_iload (j := 7) d_St_reach_67 rfl ?_
      refine r_aload_n (j := 1) d_St_reach_69 rfl ?_
      refine r_getR d_St_reach_70 ok_9 (nle rfl) (nle rfl) rfl lf_St_32 q21 ?_
      refine r_iload (j := 6) d_St_reach_73 rfl ?_
      refine r_iald d_St_reach_75 q22 q23 ?_
      refine r_icmp_ne d_St_reach_76 (fun w9 => ?_) (fun w9 => ?_)
      · replace hw := hw.2 w9
        refine r_pick (ls2 := [(0, ar v0), (3, ai v3), (5, ai v5), (7, ai s0)]) [1, 4, 6, 0] rfl ?_
        exact s_St_reach_B107 hd hQ  hw
      · replace hw := hw.1 w9
        refine r_iload (j := 5) d_St_reach_79 rfl ?_
        refine r_aload_n (j := 1) d_St_reach_81 rfl ?_
        refine r_iload_n (j := 2) d_St_reach_82 rfl ?_
        refine r_iload_n (j := 3) d_St_reach_83 rfl ?_
        refine r_callV (av := [ai v1, ai v2]) (rest := [ai v4]) (ci := 9) d_St_reach_84 mk_St_choiceAt ll_St_135 im_St_choiceAt se_St_choiceAt rfl (nle rfl) rfl rfl (nle rfl) q21 (s_St_choiceAt  hw (fun r25 h24 hw => ?_))
        show aW none m_St_reach (d + 1) 87 [(7, ai s0), (0, ar v0), (1, ai v1), (2, ai v2), (3, ai v3), (4, ai v4), (5, ai v5), (6, ai v6)] [ai r25, ai v4] h24 0 0 QQ
        refine r_icmp_ge d_St_reach_87 (fun w9 => ?_) (fun w9 => ?_)
        · replace hw := hw.1 w9
          refine r_pick (ls2 := [(0, ar v0), (3, ai v3), (5, ai v5), (7, ai s0)]) [1, 4, 6, 0] rfl ?_
          exact s_St_reach_B107 hd hQ  hw
        · replace hw := hw.2 w9
          refine r_pick (ls2 := [(0, ar v0), (1, ai v1), (2, ai v2), (3, ai v3), (4, ai v4), (5, ai v5), (6, ai v6), (7, ai s0)]) [1, 2, 3, 4, 5, 6, 7, 0] rfl ?_
          exact s_St_reach_B90 hd hQ  hw
set_option maxRecDepth 100000 in
set_option maxHeartbeats 4000000 in
theorem s_St_reach {d : Nat} (hd : 1 ≤ d) {v0 : Nat} {v1 : Int32} {v2 : Int32} {v3 : Int32} {v4 : Int32} {h : Hp} {Q : Bool → Hp → Prop} {QQ : Option AV → Hp → Prop} (hw : w_St_reach v0 v1 v2 v3 v4 h Q) (hQ : ∀ r9 h9, Q r9 h9 → QQ (some (ai (b2i r9))) h9) : aCall m_St_reach d [ar v0, ai v1, ai v2, ai v3, ai v4] h 0 0 QQ := by
  obtain ⟨d, rfl⟩ : ∃ d9, d = d9 + 1 := ⟨d - 1, by omega⟩
  refine aCall_in pl_St_reach (nle rfl) ?_
  show aW none m_St_reach (d + 1) 0 [(0, ar v0), (1, ai v1), (2, ai v2), (3, ai v3), (4, ai v4)] [] h 0 0 QQ
  unfold w_St_reach at hw
  refine r_iload_n (j := 1) d_St_reach_0 rfl ?_
  refine r_callS (av := [ai v1]) (rest := []) d_St_reach_1 mk_St_layer ll_St_115 st_St_layer rfl rfl (nle rfl) (s_St_layer  hw (fun r2 h1 hw => ?_))
  show aW none m_St_reach (d + 1) 4 [(0, ar v0), (1, ai v1), (2, ai v2), (3, ai v3), (4, ai v4)] [ai r2] h1 0 0 QQ
  refine r_aload_n (j := 0) d_St_reach_4 rfl ?_
  obtain ⟨q3, hw⟩ := hw
  refine r_getI d_St_reach_5 ok_9 (nle rfl) (nle rfl) rfl lf_St_87 q3 ?_
  refine r_imul d_St_reach_8 ?_
  refine r_iload_n (j := 2) d_St_reach_9 rfl ?_
  refine r_iadd d_St_reach_10 ?_
  refine r_istore (ls2 := [(5, ai ((r2 * (gI h1 v0 6)) + v2)), (0, ar v0), (1, ai v1), (2, ai v2), (3, ai v3), (4, ai v4)]) d_St_reach_11 (nle rfl) rfl ?_
  refine r_aload_n (j := 1) d_St_reach_13 rfl ?_
  refine r_getR d_St_reach_14 ok_9 (nle rfl) (nle rfl) rfl lf_St_32 q3 ?_
  refine r_iload_n (j := 4) d_St_reach_17 rfl ?_
  obtain ⟨q4, hw⟩ := hw
  obtain ⟨q5, hw⟩ := hw
  refine r_iald d_St_reach_18 q4 q5 ?_
  refine r_aload_n (j := 1) d_St_reach_19 rfl ?_
  refine r_getR d_St_reach_20 ok_9 (nle rfl) (nle rfl) rfl lf_St_47 q3 ?_
  refine r_iload (j := 5) d_St_reach_23 rfl ?_
  obtain ⟨q8, hw⟩ := hw
  refine r_callV (av := [ai v4]) (rest := [ai (gI h1 (gR h1 v0 8) (ix v3))]) (ci := 1) d_St_reach_25 mk_Co_gainOf ll_St_132 im_Co_gainOf se_Co_gainOf rfl (nle rfl) rfl rfl (nle rfl) q8 (s_Co_gainOf  hw (fun r7 h6 hw => ?_))
  show aW none m_St_reach (d + 1) 28 [(5, ai ((r2 * (gI h1 v0 6)) + v2)), (0, ar v0), (1, ai v1), (2, ai v2), (3, ai v3), (4, ai v4)] [ai r7, ai (gI h1 (gR h1 v0 8) (ix v3))] h6 0 0 QQ
  refine r_iadd d_St_reach_28 ?_
  refine r_istore (ls2 := [(6, ai ((gI h1 (gR h1 v0 8) (ix v3)) + r7)), (5, ai ((r2 * (gI h1 v0 6)) + v2)), (0, ar v0), (1, ai v1), (2, ai v2), (3, ai v3), (4, ai v4)]) d_St_reach_29 (nle rfl) rfl ?_
  refine r_aload_n (j := 2) d_St_reach_31 rfl ?_
  obtain ⟨q9, hw⟩ := hw
  refine r_getR d_St_reach_32 ok_9 (nle rfl) (nle rfl) rfl lf_St_28 q9 ?_
  refine r_iload (j := 1) d_St_reach_35 rfl ?_
  obtain ⟨q10, hw⟩ := hw
  obtain ⟨q11, hw⟩ := hw
  refine r_lald d_St_reach_37 q10 q11 ?_
  refine r_lconst d_St_reach_38 kl_0 ?_
  refine r_lcmp d_St_reach_39 ?_
  refine r_if_ne d_St_reach_40 (fun w9 => ?_) (fun w9 => ?_)
  · replace hw := hw.2 (fun g9 => w9 ((lg_cmp_eq _ _).mpr g9))
    refine r_iconst d_St_reach_47 kc_0 ?_
    refine r_pick (ls2 := [(0, ar v0), (1, ai v1), (2, ai v2), (3, ai v3), (4, ai v4), (5, ai ((r2 * (gI h1 v0 6)) + v2)), (6, ai ((gI h1 (gR h1 v0 8) (ix v3)) + r7))]) [2, 3, 4, 5, 6, 1, 0] rfl ?_
    exact s_St_reach_B48 hd hQ  hw
  · replace hw := hw.1 ((lg_cmp_eq _ _).mp w9)
    refine r_iconst d_St_reach_43 kc_1 ?_
    refine r_goto d_St_reach_44 ?_
    refine r_pick (ls2 := [(0, ar v0), (1, ai v1), (2, ai v2), (3, ai v3), (4, ai v4), (5, ai ((r2 * (gI h1 v0 6)) + v2)), (6, ai ((gI h1 (gR h1 v0 8) (ix v3)) + r7))]) [2, 3, 4, 5, 6, 1, 0] rfl ?_
    exact s_St_reach_B48 hd hQ  hw
set_option maxRecDepth 100000 in
set_option maxHeartbeats 4000000 in
theorem s_St_leave_L133 {d : Nat} (hd : 2 ≤ d + 1) {Q : Int32 → Hp → Prop} {QQ : Option AV → Hp → Prop} (hQ : ∀ r9 h9, Q r9 h9 → QQ (some (ai r9)) h9) {v0 : Nat} {v1 : Int32} {v2 : Int32} {v5 : Int32} {v6 : Int32} {v7 : Int32} {v8 : Int32} {v9 : Int32} {v10 : Int32} {v11 : Int32} : ∀ (n : Nat) (v12 : Int32) (v13 : Int32) (h : Hp), w_St_leave_L133 Q  v0 v1 v2 v5 v6 v7 v8 v9 v10 v11 n v12 v13 h → aW none m_St_leave (d + 1) 133 [(0, ar v0), (1, ai v1), (2, ai v2), (5, ai v5), (6, ai v6), (7, ai v7), (8, ai v8), (9, ai v9), (10, ai v10), (11, ai v11), (12, ai v12), (13, ai v13)] [] h 0 0 QQ := by
  intro n
  induction n with
  | zero => intro v12 v13 h hw; exact hw.elim
  | succ n ih =>
    intro v12 v13 h hw
    unfold w_St_leave_L133 at hw
    refine r_iload (j := 11) d_St_leave_133 rfl ?_
    refine r_aload_n (j := 0) d_St_leave_135 rfl ?_
    obtain ⟨q16, hw⟩ := hw
    refine r_getR d_St_leave_136 ok_9 (nle rfl) (nle rfl) rfl lf_St_47 q16 ?_
    obtain ⟨q17, hw⟩ := hw
    refine r_getI d_St_leave_139 ok_1 (nle rfl) (nle rfl) rfl lf_St_122 q17 ?_
    refine r_icmp_ge d_St_leave_142 (fun w9 => ?_) (fun w9 => ?_)
    · replace hw := hw.1 w9
      refine r_iload (j := 10) d_St_leave_283 rfl ?_
      exact r_ireturn d_St_leave_285.1 rfl (hQ _ _ hw)
    · replace hw := hw.2 w9
      refine r_iload (j := 4) d_St_leave_145 rfl ?_
      refine r_aload_n (j := 0) d_St_leave_147 rfl ?_
      refine r_getR d_St_leave_148 ok_9 (nle rfl) (nle rfl) rfl lf_St_47 q16 ?_
      refine r_iload (j := 11) d_St_leave_151 rfl ?_
      refine r_iconst d_St_leave_153 kc_0 ?_
      refine r_callV (av := [ai v13, ai (0 : Int32)]) (rest := [ai v6]) (ci := 1) d_St_leave_154 mk_Co_numberOf ll_St_125 im_Co_numberOf se_Co_numberOf rfl (nle rfl) rfl rfl (nle rfl) q17 (s_Co_numberOf  hw (fun r19 h18 hw => ?_))
      show aW none m_St_leave (d + 1) 157 [(0, ar v0), (1, ai v1), (2, ai v2), (5, ai v5), (6, ai v6), (7, ai v7), (8, ai v8), (9, ai v9), (10, ai v10), (11, ai v11), (12, ai v12), (13, ai v13)] [ai r19, ai v6] h18 0 0 QQ
      refine r_iadd d_St_leave_157 ?_
      refine r_istore (ls2 := [(14, ai (v6 + r19)), (0, ar v0), (1, ai v1), (2, ai v2), (5, ai v5), (6, ai v6), (7, ai v7), (8, ai v8), (9, ai v9), (10, ai v10), (11, ai v11), (12, ai v12), (13, ai v13)]) d_St_leave_158 (nle rfl) rfl ?_
      refine r_iload (j := 6) d_St_leave_160 rfl ?_
      refine r_aload_n (j := 1) d_St_leave_162 rfl ?_
      obtain ⟨q20, hw⟩ := hw
      refine r_getR d_St_leave_163 ok_9 (nle rfl) (nle rfl) rfl lf_St_47 q20 ?_
      refine r_iload (j := 12) d_St_leave_166 rfl ?_
      refine r_iconst d_St_leave_168 kc_1 ?_
      obtain ⟨q23, hw⟩ := hw
      refine r_callV (av := [ai v13, ai (1 : Int32)]) (rest := [ai v7]) (ci := 1) d_St_leave_169 mk_Co_numberOf ll_St_125 im_Co_numberOf se_Co_numberOf rfl (nle rfl) rfl rfl (nle rfl) q23 (s_Co_numberOf  hw (fun r22 h21 hw => ?_))
      show aW none m_St_leave (d + 1) 172 [(14, ai (v6 + r19)), (0, ar v0), (1, ai v1), (2, ai v2), (5, ai v5), (6, ai v6), (7, ai v7), (8, ai v8), (9, ai v9), (10, ai v10), (11, ai v11), (12, ai v12), (13, ai v13)] [ai r22, ai v7] h21 0 0 QQ
      refine r_iadd d_St_leave_172 ?_
      refine r_istore (ls2 := [(15, ai (v7 + r22)), (14, ai (v6 + r19)), (0, ar v0), (1, ai v1), (2, ai v2), (5, ai v5), (6, ai v6), (7, ai v7), (8, ai v8), (9, ai v9), (10, ai v10), (11, ai v11), (12, ai v12), (13, ai v13)]) d_St_leave_173 (nle rfl) rfl ?_
      refine r_iload (j := 8) d_St_leave_175 rfl ?_
      refine r_aload_n (j := 2) d_St_leave_177 rfl ?_
      obtain ⟨q24, hw⟩ := hw
      refine r_getR d_St_leave_178 ok_9 (nle rfl) (nle rfl) rfl lf_St_47 q24 ?_
      refine r_iload (j := 13) d_St_leave_181 rfl ?_
      refine r_iconst d_St_leave_183 kc_2 ?_
      obtain ⟨q27, hw⟩ := hw
      refine r_callV (av := [ai v13, ai (2 : Int32)]) (rest := [ai v8]) (ci := 1) d_St_leave_184 mk_Co_numberOf ll_St_125 im_Co_numberOf se_Co_numberOf rfl (nle rfl) rfl rfl (nle rfl) q27 (s_Co_numberOf  hw (fun r26 h25 hw => ?_))
      show aW none m_St_leave (d + 1) 187 [(15, ai (v7 + r22)), (14, ai (v6 + r19)), (0, ar v0), (1, ai v1), (2, ai v2), (5, ai v5), (6, ai v6), (7, ai v7), (8, ai v8), (9, ai v9), (10, ai v10), (11, ai v11), (12, ai v12), (13, ai v13)] [ai r26, ai v8] h25 0 0 QQ
      refine r_iadd d_St_leave_187 ?_
      refine r_istore (ls2 := [(16, ai (v8 + r26)), (15, ai (v7 + r22)), (14, ai (v6 + r19)), (0, ar v0), (1, ai v1), (2, ai v2), (5, ai v5), (6, ai v6), (7, ai v7), (8, ai v8), (9, ai v9), (10, ai v10), (11, ai v11), (12, ai v12), (13, ai v13)]) d_St_leave_188 (nle rfl) rfl ?_
      refine r_iload (j := 2) d_St_leave_190 rfl ?_
      refine r_if_lt d_St_leave_192 (fun w9 => ?_) (fun w9 => ?_)
      · replace hw := hw.1 w9
        refine r_iinc (j := 14) (ls2 := [(13, ai (v13 + (1 : Int32))), (16, ai (v8 + r26)), (15, ai (v7 + r22)), (14, ai (v6 + r19)), (0, ar v0), (1, ai v1), (2, ai v2), (5, ai v5), (6, ai v6), (7, ai v7), (8, ai v8), (9, ai v9), (10, ai v10), (11, ai v11), (12, ai v12)]) d_St_leave_277 rfl (congrArg (HAdd.hAdd v13) kc_1) (nle rfl) rfl ?_
        refine r_goto d_St_leave_280 ?_
        refine r_pick (ls2 := [(0, ar v0), (1, ai v1), (2, ai v2), (5, ai v5), (6, ai v6), (7, ai v7), (8, ai v8), (9, ai v9), (10, ai v10), (11, ai v11), (12, ai v12), (13, ai (v13 + (1 : Int32)))]) [4, 5, 6, 7, 8, 9, 10, 11, 12, 13, 14, 0] rfl ?_
        exact ih _ _ _ hw
      · replace hw := hw.2 w9
        refine r_iload (j := 2) d_St_leave_195 rfl ?_
        refine r_iload (j := 10) d_St_leave_197 rfl ?_
        refine r_icmp_gt d_St_leave_199 (fun w9 => ?_) (fun w9 => ?_)
        · replace hw := hw.1 w9
          refine r_iinc (j := 14) (ls2 := [(13, ai (v13 + (1 : Int32))), (16, ai (v8 + r26)), (15, ai (v7 + r22)), (14, ai (v6 + r19)), (0, ar v0), (1, ai v1), (2, ai v2), (5, ai v5), (6, ai v6), (7, ai v7), (8, ai v8), (9, ai v9), (10, ai v10), (11, ai v11), (12, ai v12)]) d_St_leave_277 rfl (congrArg (HAdd.hAdd v13) kc_1) (nle rfl) rfl ?_
          refine r_goto d_St_leave_280 ?_
          refine r_pick (ls2 := [(0, ar v0), (1, ai v1), (2, ai v2), (5, ai v5), (6, ai v6), (7, ai v7), (8, ai v8), (9, ai v9), (10, ai v10), (11, ai v11), (12, ai v12), (13, ai (v13 + (1 : Int32)))]) [4, 5, 6, 7, 8, 9, 10, 11, 12, 13, 14, 0] rfl ?_
          exact ih _ _ _ hw
        · replace hw := hw.2 w9
          refine r_iload (j := 1) d_St_leave_202 rfl ?_
          refine r_if_lt d_St_leave_204 (fun w9 => ?_) (fun w9 => ?_)
          · replace hw := hw.1 w9
            refine r_iinc (j := 14) (ls2 := [(13, ai (v13 + (1 : Int32))), (16, ai (v8 + r26)), (15, ai (v7 + r22)), (14, ai (v6 + r19)), (0, ar v0), (1, ai v1), (2, ai v2), (5, ai v5), (6, ai v6), (7, ai v7), (8, ai v8), (9, ai v9), (10, ai v10), (11, ai v11), (12, ai v12)]) d_St_leave_277 rfl (congrArg (HAdd.hAdd v13) kc_1) (nle rfl) rfl ?_
            refine r_goto d_St_leave_280 ?_
            refine r_pick (ls2 := [(0, ar v0), (1, ai v1), (2, ai v2), (5, ai v5), (6, ai v6), (7, ai v7), (8, ai v8), (9, ai v9), (10, ai v10), (11, ai v11), (12, ai v12), (13, ai (v13 + (1 : Int32)))]) [4, 5, 6, 7, 8, 9, 10, 11, 12, 13, 14, 0] rfl ?_
            exact ih _ _ _ hw
          · replace hw := hw.2 w9
            refine r_iload (j := 1) d_St_leave_207 rfl ?_
            refine r_iload (j := 11) d_St_leave_209 rfl ?_
            refine r_icmp_gt d_St_leave_211 (fun w9 => ?_) (fun w9 => ?_)
            · replace hw := hw.1 w9
              refine r_iinc (j := 14) (ls2 := [(13, ai (v13 + (1 : Int32))), (16, ai (v8 + r26)), (15, ai (v7 + r22)), (14, ai (v6 + r19)), (0, ar v0), (1, ai v1), (2, ai v2), (5, ai v5), (6, ai v6), (7, ai v7), (8, ai v8), (9, ai v9), (10, ai v10), (11, ai v11), (12, ai v12)]) d_St_leave_277 rfl (congrArg (HAdd.hAdd v13) kc_1) (nle rfl) rfl ?_
              refine r_goto d_St_leave_280 ?_
              refine r_pick (ls2 := [(0, ar v0), (1, ai v1), (2, ai v2), (5, ai v5), (6, ai v6), (7, ai v7), (8, ai v8), (9, ai v9), (10, ai v10), (11, ai v11), (12, ai v12), (13, ai (v13 + (1 : Int32)))]) [4, 5, 6, 7, 8, 9, 10, 11, 12, 13, 14, 0] rfl ?_
              exact ih _ _ _ hw
            · replace hw := hw.2 w9
              refine r_iload (j := 0) d_St_leave_214 rfl ?_
              refine r_if_lt d_St_leave_216 (fun w9 => ?_) (fun w9 => ?_)
              · replace hw := hw.1 w9
                refine r_iinc (j := 14) (ls2 := [(13, ai (v13 + (1 : Int32))), (16, ai (v8 + r26)), (15, ai (v7 + r22)), (14, ai (v6 + r19)), (0, ar v0), (1, ai v1), (2, ai v2), (5, ai v5), (6, ai v6), (7, ai v7), (8, ai v8), (9, ai v9), (10, ai v10), (11, ai v11), (12, ai v12)]) d_St_leave_277 rfl (congrArg (HAdd.hAdd v13) kc_1) (nle rfl) rfl ?_
                refine r_goto d_St_leave_280 ?_
                refine r_pick (ls2 := [(0, ar v0), (1, ai v1), (2, ai v2), (5, ai v5), (6, ai v6), (7, ai v7), (8, ai v8), (9, ai v9), (10, ai v10), (11, ai v11), (12, ai v12), (13, ai (v13 + (1 : Int32)))]) [4, 5, 6, 7, 8, 9, 10, 11, 12, 13, 14, 0] rfl ?_
                exact ih _ _ _ hw
              · replace hw := hw.2 w9
                refine r_iload (j := 0) d_St_leave_219 rfl ?_
                refine r_iload (j := 12) d_St_leave_221 rfl ?_
                refine r_icmp_le d_St_leave_223 (fun w9 => ?_) (fun w9 => ?_)
                · replace hw := hw.1 w9
                  refine r_iload (j := 2) d_St_leave_229 rfl ?_
                  refine r_aload_n (j := 3) d_St_leave_231 rfl ?_
                  obtain ⟨q28, hw⟩ := hw
                  refine r_getI d_St_leave_232 ok_9 (nle rfl) (nle rfl) rfl lf_St_21 q28 ?_
                  refine r_imul d_St_leave_235 ?_
                  refine r_iload (j := 1) d_St_leave_236 rfl ?_
                  refine r_iadd d_St_leave_238 ?_
                  refine r_aload_n (j := 3) d_St_leave_239 rfl ?_
                  refine r_getI d_St_leave_240 ok_9 (nle rfl) (nle rfl) rfl lf_St_25 q28 ?_
                  refine r_imul d_St_leave_243 ?_
                  refine r_iload (j := 0) d_St_leave_244 rfl ?_
                  refine r_iadd d_St_leave_246 ?_
                  refine r_istore (ls2 := [(17, ai (((((v6 + r19) * (gI h25 v0 4)) + (v7 + r22)) * (gI h25 v0 5)) + (v8 + r26))), (16, ai (v8 + r26)), (15, ai (v7 + r22)), (14, ai (v6 + r19)), (0, ar v0), (1, ai v1), (2, ai v2), (5, ai v5), (6, ai v6), (7, ai v7), (8, ai v8), (9, ai v9), (10, ai v10), (11, ai v11), (12, ai v12), (13, ai v13)]) d_St_leave_247 (nle rfl) rfl ?_
                  refine r_aload_n (j := 4) d_St_leave_249 rfl ?_
                  refine r_iload_n (j := 6) d_St_leave_250 rfl ?_
                  refine r_iload (j := 0) d_St_leave_251 rfl ?_
                  refine r_iload_n (j := 5) d_St_leave_253 rfl ?_
                  refine r_iload (j := 15) d_St_leave_254 rfl ?_
                  refine r_callV (av := [ai v2, ai (((((v6 + r19) * (gI h25 v0 4)) + (v7 + r22)) * (gI h25 v0 5)) + (v8 + r26)), ai v1, ai v13]) (rest := []) (ci := 9) d_St_leave_256 mk_St_reach ll_St_128 im_St_reach se_St_reach rfl (nle rfl) rfl rfl (nle rfl) q28 (s_St_reach (by omega) hw (fun r30 h29 hw => ?_))
                  show aW none m_St_leave (d + 1) 259 [(17, ai (((((v6 + r19) * (gI h25 v0 4)) + (v7 + r22)) * (gI h25 v0 5)) + (v8 + r26))), (16, ai (v8 + r26)), (15, ai (v7 + r22)), (14, ai (v6 + r19)), (0, ar v0), (1, ai v1), (2, ai v2), (5, ai v5), (6, ai v6), (7, ai v7), (8, ai v8), (9, ai v9), (10, ai v10), (11, ai v11), (12, ai v12), (13, ai v13)] [ai (b2i r30)] h29 0 0 QQ
                  refine r_if_eq d_St_leave_259 (fun w9 => ?_) (fun w9 => ?_)
                  · replace hw := hw.1 (b2i_0.mp w9)
                    refine r_iinc (j := 15) (ls2 := [(13, ai (v13 + (1 : Int32))), (17, ai (((((v6 + r19) * (gI h25 v0 4)) + (v7 + r22)) * (gI h25 v0 5)) + (v8 + r26))), (16, ai (v8 + r26)), (15, ai (v7 + r22)), (14, ai (v6 + r19)), (0, ar v0), (1, ai v1), (2, ai v2), (5, ai v5), (6, ai v6), (7, ai v7), (8, ai v8), (9, ai v9), (10, ai v10), (11, ai v11), (12, ai v12)]) d_St_leave_277 rfl (congrArg (HAdd.hAdd v13) kc_1) (nle rfl) rfl ?_
                    refine r_goto d_St_leave_280 ?_
                    refine r_pick (ls2 := [(0, ar v0), (1, ai v1), (2, ai v2), (5, ai v5), (6, ai v6), (7, ai v7), (8, ai v8), (9, ai v9), (10, ai v10), (11, ai v11), (12, ai v12), (13, ai (v13 + (1 : Int32)))]) [5, 6, 7, 8, 9, 10, 11, 12, 13, 14, 15, 0] rfl ?_
                    exact ih _ _ _ hw
                  · replace hw := hw.2 (fun g9 => w9 (b2i_0.mpr g9))
                    refine r_aload_n (j := 4) d_St_leave_262 rfl ?_
                    obtain ⟨q31, hw⟩ := hw
                    refine r_getR d_St_leave_263 ok_9 (nle rfl) (nle rfl) rfl lf_St_35 q31 ?_
                    refine r_iload (j := 7) d_St_leave_266 rfl ?_
                    refine r_iload (j := 14) d_St_leave_268 rfl ?_
                    refine r_iadd d_St_leave_270 ?_
                    refine r_iload (j := 0) d_St_leave_271 rfl ?_
                    obtain ⟨q32, hw⟩ := hw
                    obtain ⟨q33, hw⟩ := hw
                    refine r_iast d_St_leave_273 q32 q33 ?_
                    refine r_iinc (j := 14) (ls2 := [(12, ai (v12 + (1 : Int32))), (17, ai (((((v6 + r19) * (gI h25 v0 4)) + (v7 + r22)) * (gI h25 v0 5)) + (v8 + r26))), (16, ai (v8 + r26)), (15, ai (v7 + r22)), (14, ai (v6 + r19)), (0, ar v0), (1, ai v1), (2, ai v2), (5, ai v5), (6, ai v6), (7, ai v7), (8, ai v8), (9, ai v9), (10, ai v10), (11, ai v11), (13, ai v13)]) d_St_leave_274 rfl (congrArg (HAdd.hAdd v12) kc_1) (nle rfl) rfl ?_
                    refine r_iinc (j := 15) (ls2 := [(13, ai (v13 + (1 : Int32))), (12, ai (v12 + (1 : Int32))), (17, ai (((((v6 + r19) * (gI h25 v0 4)) + (v7 + r22)) * (gI h25 v0 5)) + (v8 + r26))), (16, ai (v8 + r26)), (15, ai (v7 + r22)), (14, ai (v6 + r19)), (0, ar v0), (1, ai v1), (2, ai v2), (5, ai v5), (6, ai v6), (7, ai v7), (8, ai v8), (9, ai v9), (10, ai v10), (11, ai v11)]) d_St_leave_277 rfl (congrArg (HAdd.hAdd v13) kc_1) (nle rfl) rfl ?_
                    refine r_goto d_St_leave_280 ?_
                    refine r_pick (ls2 := [(0, ar v0), (1, ai v1), (2, ai v2), (5, ai v5), (6, ai v6), (7, ai v7), (8, ai v8), (9, ai v9), (10, ai v10), (11, ai v11), (12, ai (v12 + (1 : Int32))), (13, ai (v13 + (1 : Int32)))]) [6, 7, 8, 9, 10, 11, 12, 13, 14, 15, 1, 0] rfl ?_
                    exact ih _ _ _ hw
                · replace hw := hw.2 w9
                  refine r_goto d_St_leave_226 ?_
                  refine r_iinc (j := 14) (ls2 := [(13, ai (v13 + (1 : Int32))), (16, ai (v8 + r26)), (15, ai (v7 + r22)), (14, ai (v6 + r19)), (0, ar v0), (1, ai v1), (2, ai v2), (5, ai v5), (6, ai v6), (7, ai v7), (8, ai v8), (9, ai v9), (10, ai v10), (11, ai v11), (12, ai v12)]) d_St_leave_277 rfl (congrArg (HAdd.hAdd v13) kc_1) (nle rfl) rfl ?_
                  refine r_goto d_St_leave_280 ?_
                  refine r_pick (ls2 := [(0, ar v0), (1, ai v1), (2, ai v2), (5, ai v5), (6, ai v6), (7, ai v7), (8, ai v8), (9, ai v9), (10, ai v10), (11, ai v11), (12, ai v12), (13, ai (v13 + (1 : Int32)))]) [4, 5, 6, 7, 8, 9, 10, 11, 12, 13, 14, 0] rfl ?_
                  exact ih _ _ _ hw
set_option maxRecDepth 100000 in
set_option maxHeartbeats 4000000 in
theorem s_St_leave {d : Nat} (hd : 2 ≤ d) {v0 : Nat} {v1 : Int32} {v2 : Int32} {v3 : Int32} {h : Hp} {Q : Int32 → Hp → Prop} {QQ : Option AV → Hp → Prop} (hw : w_St_leave v0 v1 v2 v3 h Q) (hQ : ∀ r9 h9, Q r9 h9 → QQ (some (ai r9)) h9) : aCall m_St_leave d [ar v0, ai v1, ai v2, ai v3] h 0 0 QQ := by
  obtain ⟨d, rfl⟩ : ∃ d9, d = d9 + 1 := ⟨d - 1, by omega⟩
  refine aCall_in pl_St_leave (nle rfl) ?_
  show aW none m_St_leave (d + 1) 0 [(0, ar v0), (1, ai v1), (2, ai v2), (3, ai v3)] [] h 0 0 QQ
  unfold w_St_leave at hw
  refine r_iload_n (j := 2) d_St_leave_0 rfl ?_
  refine r_iconst d_St_leave_1 kc_3 ?_
  refine r_imul d_St_leave_2 ?_
  refine r_istore (ls2 := [(4, ai (v2 * (3 : Int32))), (0, ar v0), (1, ai v1), (2, ai v2), (3, ai v3)]) d_St_leave_3 (nle rfl) rfl ?_
  refine r_iload_n (j := 3) d_St_leave_5 rfl ?_
  refine r_callS (av := [ai v2]) (rest := []) d_St_leave_6 mk_St_layer ll_St_115 st_St_layer rfl rfl (nle rfl) (s_St_layer  hw (fun r2 h1 hw => ?_))
  show aW none m_St_leave (d + 1) 9 [(4, ai (v2 * (3 : Int32))), (0, ar v0), (1, ai v1), (2, ai v2), (3, ai v3)] [ai r2] h1 0 0 QQ
  refine r_aload_n (j := 1) d_St_leave_9 rfl ?_
  obtain ⟨q3, hw⟩ := hw
  refine r_getI d_St_leave_10 ok_9 (nle rfl) (nle rfl) rfl lf_St_87 q3 ?_
  refine r_imul d_St_leave_13 ?_
  refine r_istore (ls2 := [(5, ai (r2 * (gI h1 v0 6))), (4, ai (v2 * (3 : Int32))), (0, ar v0), (1, ai v1), (2, ai v2), (3, ai v3)]) d_St_leave_14 (nle rfl) rfl ?_
  refine r_aload_n (j := 2) d_St_leave_16 rfl ?_
  refine r_getR d_St_leave_17 ok_9 (nle rfl) (nle rfl) rfl lf_St_18 q3 ?_
  refine r_iconst d_St_leave_20 kc_0 ?_
  obtain ⟨q4, hw⟩ := hw
  obtain ⟨q5, hw⟩ := hw
  refine r_iald d_St_leave_21 q4 q5 ?_
  refine r_aload_n (j := 2) d_St_leave_22 rfl ?_
  refine r_getR d_St_leave_23 ok_9 (nle rfl) (nle rfl) rfl lf_St_9 q3 ?_
  refine r_iload (j := 1) d_St_leave_26 rfl ?_
  obtain ⟨q6, hw⟩ := hw
  obtain ⟨q7, hw⟩ := hw
  refine r_iald d_St_leave_28 q6 q7 ?_
  refine r_isub d_St_leave_29 ?_
  refine r_istore (ls2 := [(6, ai ((gI h1 (gR h1 v0 3) (ix (0 : Int32))) - (gI h1 (gR h1 v0 1) (ix (v2 * (3 : Int32)))))), (5, ai (r2 * (gI h1 v0 6))), (4, ai (v2 * (3 : Int32))), (0, ar v0), (1, ai v1), (2, ai v2), (3, ai v3)]) d_St_leave_30 (nle rfl) rfl ?_
  refine r_aload_n (j := 3) d_St_leave_32 rfl ?_
  refine r_getR d_St_leave_33 ok_9 (nle rfl) (nle rfl) rfl lf_St_18 q3 ?_
  refine r_iconst d_St_leave_36 kc_1 ?_
  obtain ⟨q8, hw⟩ := hw
  refine r_iald d_St_leave_37 q4 q8 ?_
  refine r_aload_n (j := 3) d_St_leave_38 rfl ?_
  refine r_getR d_St_leave_39 ok_9 (nle rfl) (nle rfl) rfl lf_St_9 q3 ?_
  refine r_iload (j := 2) d_St_leave_42 rfl ?_
  refine r_iconst d_St_leave_44 kc_1 ?_
  refine r_iadd d_St_leave_45 ?_
  obtain ⟨q9, hw⟩ := hw
  refine r_iald d_St_leave_46 q6 q9 ?_
  refine r_isub d_St_leave_47 ?_
  refine r_istore (ls2 := [(7, ai ((gI h1 (gR h1 v0 3) (ix (1 : Int32))) - (gI h1 (gR h1 v0 1) (ix ((v2 * (3 : Int32)) + (1 : Int32)))))), (6, ai ((gI h1 (gR h1 v0 3) (ix (0 : Int32))) - (gI h1 (gR h1 v0 1) (ix (v2 * (3 : Int32)))))), (5, ai (r2 * (gI h1 v0 6))), (4, ai (v2 * (3 : Int32))), (0, ar v0), (1, ai v1), (2, ai v2), (3, ai v3)]) d_St_leave_48 (nle rfl) rfl ?_
  refine r_aload_n (j := 4) d_St_leave_50 rfl ?_
  refine r_getR d_St_leave_51 ok_9 (nle rfl) (nle rfl) rfl lf_St_18 q3 ?_
  refine r_iconst d_St_leave_54 kc_2 ?_
  obtain ⟨q10, hw⟩ := hw
  refine r_iald d_St_leave_55 q4 q10 ?_
  refine r_aload_n (j := 4) d_St_leave_56 rfl ?_
  refine r_getR d_St_leave_57 ok_9 (nle rfl) (nle rfl) rfl lf_St_9 q3 ?_
  refine r_iload (j := 3) d_St_leave_60 rfl ?_
  refine r_iconst d_St_leave_62 kc_2 ?_
  refine r_iadd d_St_leave_63 ?_
  obtain ⟨q11, hw⟩ := hw
  refine r_iald d_St_leave_64 q6 q11 ?_
  refine r_isub d_St_leave_65 ?_
  refine r_istore (ls2 := [(8, ai ((gI h1 (gR h1 v0 3) (ix (2 : Int32))) - (gI h1 (gR h1 v0 1) (ix ((v2 * (3 : Int32)) + (2 : Int32)))))), (7, ai ((gI h1 (gR h1 v0 3) (ix (1 : Int32))) - (gI h1 (gR h1 v0 1) (ix ((v2 * (3 : Int32)) + (1 : Int32)))))), (6, ai ((gI h1 (gR h1 v0 3) (ix (0 : Int32))) - (gI h1 (gR h1 v0 1) (ix (v2 * (3 : Int32)))))), (5, ai (r2 * (gI h1 v0 6))), (4, ai (v2 * (3 : Int32))), (0, ar v0), (1, ai v1), (2, ai v2), (3, ai v3)]) d_St_leave_66 (nle rfl) rfl ?_
  refine r_aload_n (j := 5) d_St_leave_68 rfl ?_
  refine r_getR d_St_leave_69 ok_9 (nle rfl) (nle rfl) rfl lf_St_15 q3 ?_
  refine r_iload (j := 4) d_St_leave_72 rfl ?_
  obtain ⟨q12, hw⟩ := hw
  obtain ⟨q13, hw⟩ := hw
  refine r_iald d_St_leave_74 q12 q13 ?_
  refine r_aload_n (j := 5) d_St_leave_75 rfl ?_
  refine r_getR d_St_leave_76 ok_9 (nle rfl) (nle rfl) rfl lf_St_9 q3 ?_
  refine r_iload (j := 4) d_St_leave_79 rfl ?_
  refine r_iald d_St_leave_81 q6 q7 ?_
  refine r_isub d_St_leave_82 ?_
  refine r_istore (ls2 := [(9, ai ((gI h1 (gR h1 v0 2) (ix (v2 * (3 : Int32)))) - (gI h1 (gR h1 v0 1) (ix (v2 * (3 : Int32)))))), (8, ai ((gI h1 (gR h1 v0 3) (ix (2 : Int32))) - (gI h1 (gR h1 v0 1) (ix ((v2 * (3 : Int32)) + (2 : Int32)))))), (7, ai ((gI h1 (gR h1 v0 3) (ix (1 : Int32))) - (gI h1 (gR h1 v0 1) (ix ((v2 * (3 : Int32)) + (1 : Int32)))))), (6, ai ((gI h1 (gR h1 v0 3) (ix (0 : Int32))) - (gI h1 (gR h1 v0 1) (ix (v2 * (3 : Int32)))))), (5, ai (r2 * (gI h1 v0 6))), (4, ai (v2 * (3 : Int32))), (0, ar v0), (1, ai v1), (2, ai v2), (3, ai v3)]) d_St_leave_83 (nle rfl) rfl ?_
  refine r_aload_n (j := 6) d_St_leave_85 rfl ?_
  refine r_getR d_St_leave_86 ok_9 (nle rfl) (nle rfl) rfl lf_St_15 q3 ?_
  refine r_iload (j := 5) d_St_leave_89 rfl ?_
  refine r_iconst d_St_leave_91 kc_1 ?_
  refine r_iadd d_St_leave_92 ?_
  obtain ⟨q14, hw⟩ := hw
  refine r_iald d_St_leave_93 q12 q14 ?_
  refine r_aload_n (j := 6) d_St_leave_94 rfl ?_
  refine r_getR d_St_leave_95 ok_9 (nle rfl) (nle rfl) rfl lf_St_9 q3 ?_
  refine r_iload (j := 5) d_St_leave_98 rfl ?_
  refine r_iconst d_St_leave_100 kc_1 ?_
  refine r_iadd d_St_leave_101 ?_
  refine r_iald d_St_leave_102 q6 q9 ?_
  refine r_isub d_St_leave_103 ?_
  refine r_istore (ls2 := [(10, ai ((gI h1 (gR h1 v0 2) (ix ((v2 * (3 : Int32)) + (1 : Int32)))) - (gI h1 (gR h1 v0 1) (ix ((v2 * (3 : Int32)) + (1 : Int32)))))), (9, ai ((gI h1 (gR h1 v0 2) (ix (v2 * (3 : Int32)))) - (gI h1 (gR h1 v0 1) (ix (v2 * (3 : Int32)))))), (8, ai ((gI h1 (gR h1 v0 3) (ix (2 : Int32))) - (gI h1 (gR h1 v0 1) (ix ((v2 * (3 : Int32)) + (2 : Int32)))))), (7, ai ((gI h1 (gR h1 v0 3) (ix (1 : Int32))) - (gI h1 (gR h1 v0 1) (ix ((v2 * (3 : Int32)) + (1 : Int32)))))), (6, ai ((gI h1 (gR h1 v0 3) (ix (0 : Int32))) - (gI h1 (gR h1 v0 1) (ix (v2 * (3 : Int32)))))), (5, ai (r2 * (gI h1 v0 6))), (4, ai (v2 * (3 : Int32))), (0, ar v0), (1, ai v1), (2, ai v2), (3, ai v3)]) d_St_leave_104 (nle rfl) rfl ?_
  refine r_aload_n (j := 7) d_St_leave_106 rfl ?_
  refine r_getR d_St_leave_107 ok_9 (nle rfl) (nle rfl) rfl lf_St_15 q3 ?_
  refine r_iload (j := 6) d_St_leave_110 rfl ?_
  refine r_iconst d_St_leave_112 kc_2 ?_
  refine r_iadd d_St_leave_113 ?_
  obtain ⟨q15, hw⟩ := hw
  refine r_iald d_St_leave_114 q12 q15 ?_
  refine r_aload_n (j := 7) d_St_leave_115 rfl ?_
  refine r_getR d_St_leave_116 ok_9 (nle rfl) (nle rfl) rfl lf_St_9 q3 ?_
  refine r_iload (j := 6) d_St_leave_119 rfl ?_
  refine r_iconst d_St_leave_121 kc_2 ?_
  refine r_iadd d_St_leave_122 ?_
  refine r_iald d_St_leave_123 q6 q11 ?_
  refine r_isub d_St_leave_124 ?_
  refine r_istore (ls2 := [(11, ai ((gI h1 (gR h1 v0 2) (ix ((v2 * (3 : Int32)) + (2 : Int32)))) - (gI h1 (gR h1 v0 1) (ix ((v2 * (3 : Int32)) + (2 : Int32)))))), (10, ai ((gI h1 (gR h1 v0 2) (ix ((v2 * (3 : Int32)) + (1 : Int32)))) - (gI h1 (gR h1 v0 1) (ix ((v2 * (3 : Int32)) + (1 : Int32)))))), (9, ai ((gI h1 (gR h1 v0 2) (ix (v2 * (3 : Int32)))) - (gI h1 (gR h1 v0 1) (ix (v2 * (3 : Int32)))))), (8, ai ((gI h1 (gR h1 v0 3) (ix (2 : Int32))) - (gI h1 (gR h1 v0 1) (ix ((v2 * (3 : Int32)) + (2 : Int32)))))), (7, ai ((gI h1 (gR h1 v0 3) (ix (1 : Int32))) - (gI h1 (gR h1 v0 1) (ix ((v2 * (3 : Int32)) + (1 : Int32)))))), (6, ai ((gI h1 (gR h1 v0 3) (ix (0 : Int32))) - (gI h1 (gR h1 v0 1) (ix (v2 * (3 : Int32)))))), (5, ai (r2 * (gI h1 v0 6))), (4, ai (v2 * (3 : Int32))), (0, ar v0), (1, ai v1), (2, ai v2), (3, ai v3)]) d_St_leave_125 (nle rfl) rfl ?_
  refine r_iload_n (j := 11) d_St_leave_127 rfl ?_
  refine r_istore (ls2 := [(12, ai v3), (11, ai ((gI h1 (gR h1 v0 2) (ix ((v2 * (3 : Int32)) + (2 : Int32)))) - (gI h1 (gR h1 v0 1) (ix ((v2 * (3 : Int32)) + (2 : Int32)))))), (10, ai ((gI h1 (gR h1 v0 2) (ix ((v2 * (3 : Int32)) + (1 : Int32)))) - (gI h1 (gR h1 v0 1) (ix ((v2 * (3 : Int32)) + (1 : Int32)))))), (9, ai ((gI h1 (gR h1 v0 2) (ix (v2 * (3 : Int32)))) - (gI h1 (gR h1 v0 1) (ix (v2 * (3 : Int32)))))), (8, ai ((gI h1 (gR h1 v0 3) (ix (2 : Int32))) - (gI h1 (gR h1 v0 1) (ix ((v2 * (3 : Int32)) + (2 : Int32)))))), (7, ai ((gI h1 (gR h1 v0 3) (ix (1 : Int32))) - (gI h1 (gR h1 v0 1) (ix ((v2 * (3 : Int32)) + (1 : Int32)))))), (6, ai ((gI h1 (gR h1 v0 3) (ix (0 : Int32))) - (gI h1 (gR h1 v0 1) (ix (v2 * (3 : Int32)))))), (5, ai (r2 * (gI h1 v0 6))), (4, ai (v2 * (3 : Int32))), (0, ar v0), (1, ai v1), (2, ai v2), (3, ai v3)]) d_St_leave_128 (nle rfl) rfl ?_
  refine r_iconst d_St_leave_130 kc_0 ?_
  refine r_istore (ls2 := [(13, ai (0 : Int32)), (12, ai v3), (11, ai ((gI h1 (gR h1 v0 2) (ix ((v2 * (3 : Int32)) + (2 : Int32)))) - (gI h1 (gR h1 v0 1) (ix ((v2 * (3 : Int32)) + (2 : Int32)))))), (10, ai ((gI h1 (gR h1 v0 2) (ix ((v2 * (3 : Int32)) + (1 : Int32)))) - (gI h1 (gR h1 v0 1) (ix ((v2 * (3 : Int32)) + (1 : Int32)))))), (9, ai ((gI h1 (gR h1 v0 2) (ix (v2 * (3 : Int32)))) - (gI h1 (gR h1 v0 1) (ix (v2 * (3 : Int32)))))), (8, ai ((gI h1 (gR h1 v0 3) (ix (2 : Int32))) - (gI h1 (gR h1 v0 1) (ix ((v2 * (3 : Int32)) + (2 : Int32)))))), (7, ai ((gI h1 (gR h1 v0 3) (ix (1 : Int32))) - (gI h1 (gR h1 v0 1) (ix ((v2 * (3 : Int32)) + (1 : Int32)))))), (6, ai ((gI h1 (gR h1 v0 3) (ix (0 : Int32))) - (gI h1 (gR h1 v0 1) (ix (v2 * (3 : Int32)))))), (5, ai (r2 * (gI h1 v0 6))), (4, ai (v2 * (3 : Int32))), (0, ar v0), (1, ai v1), (2, ai v2), (3, ai v3)]) d_St_leave_131 (nle rfl) rfl ?_
  obtain ⟨n34, hw⟩ := hw
  refine r_pick (ls2 := [(0, ar v0), (1, ai v1), (2, ai v2), (5, ai (r2 * (gI h1 v0 6))), (6, ai ((gI h1 (gR h1 v0 3) (ix (0 : Int32))) - (gI h1 (gR h1 v0 1) (ix (v2 * (3 : Int32)))))), (7, ai ((gI h1 (gR h1 v0 3) (ix (1 : Int32))) - (gI h1 (gR h1 v0 1) (ix ((v2 * (3 : Int32)) + (1 : Int32)))))), (8, ai ((gI h1 (gR h1 v0 3) (ix (2 : Int32))) - (gI h1 (gR h1 v0 1) (ix ((v2 * (3 : Int32)) + (2 : Int32)))))), (9, ai ((gI h1 (gR h1 v0 2) (ix (v2 * (3 : Int32)))) - (gI h1 (gR h1 v0 1) (ix (v2 * (3 : Int32)))))), (10, ai ((gI h1 (gR h1 v0 2) (ix ((v2 * (3 : Int32)) + (1 : Int32)))) - (gI h1 (gR h1 v0 1) (ix ((v2 * (3 : Int32)) + (1 : Int32)))))), (11, ai ((gI h1 (gR h1 v0 2) (ix ((v2 * (3 : Int32)) + (2 : Int32)))) - (gI h1 (gR h1 v0 1) (ix ((v2 * (3 : Int32)) + (2 : Int32)))))), (12, ai v3), (13, ai (0 : Int32))]) [10, 11, 12, 8, 7, 6, 5, 4, 3, 2, 1, 0] rfl ?_
  exact s_St_leave_L133 hd hQ  n34 _ _ _ hw
set_option maxRecDepth 100000 in
set_option maxHeartbeats 4000000 in
theorem s_St_spread_L21 {d : Nat} (hd : 3 ≤ d + 1) {Q : Int32 → Hp → Prop} {QQ : Option AV → Hp → Prop} (hQ : ∀ r9 h9, Q r9 h9 → QQ (some (ai r9)) h9) {v0 : Nat} {v1 : Int32} {v2 : Int32} {v3 : Int32} {v4 : Int32} : ∀ (n : Nat) (v5 : Int32) (v6 : Int32) (h : Hp), w_St_spread_L21 Q  v0 v1 v2 v3 v4 n v5 v6 h → aW none m_St_spread (d + 1) 21 [(0, ar v0), (1, ai v1), (2, ai v2), (3, ai v3), (4, ai v4), (5, ai v5), (6, ai v6)] [] h 0 0 QQ := by
  intro n
  induction n with
  | zero => intro v5 v6 h hw; exact hw.elim
  | succ n ih =>
    intro v5 v6 h hw
    unfold w_St_spread_L21 at hw
    refine r_iload (j := 6) d_St_spread_21 rfl ?_
    refine r_iload_n (j := 2) d_St_spread_23 rfl ?_
    refine r_icmp_ge d_St_spread_24 (fun w9 => ?_) (fun w9 => ?_)
    · replace hw := hw.1 w9
      refine r_iload (j := 5) d_St_spread_136 rfl ?_
      exact r_ireturn d_St_spread_138.1 rfl (hQ _ _ hw)
    · replace hw := hw.2 w9
      refine r_aload_n (j := 0) d_St_spread_27 rfl ?_
      obtain ⟨q4, hw⟩ := hw
      refine r_getR d_St_spread_28 ok_9 (nle rfl) (nle rfl) rfl lf_St_35 q4 ?_
      refine r_iload_n (j := 3) d_St_spread_31 rfl ?_
      refine r_iload (j := 6) d_St_spread_32 rfl ?_
      refine r_iadd d_St_spread_34 ?_
      obtain ⟨q5, hw⟩ := hw
      obtain ⟨q6, hw⟩ := hw
      refine r_iald d_St_spread_35 q5 q6 ?_
      refine r_istore (ls2 := [(7, ai (gI h (gR h v0 9) (ix (v3 + v6)))), (0, ar v0), (1, ai v1), (2, ai v2), (3, ai v3), (4, ai v4), (5, ai v5), (6, ai v6)]) d_St_spread_36 (nle rfl) rfl ?_
      refine r_aload_n (j := 1) d_St_spread_38 rfl ?_
      refine r_getR d_St_spread_39 ok_9 (nle rfl) (nle rfl) rfl lf_St_18 q4 ?_
      refine r_iconst d_St_spread_42 kc_2 ?_
      refine r_iload (j := 0) d_St_spread_43 rfl ?_
      refine r_aload_n (j := 1) d_St_spread_45 rfl ?_
      refine r_getI d_St_spread_46 ok_9 (nle rfl) (nle rfl) rfl lf_St_25 q4 ?_
      obtain ⟨q7, hw⟩ := hw
      refine r_irem d_St_spread_49 q7 ?_
      refine r_aload_n (j := 1) d_St_spread_50 rfl ?_
      refine r_getR d_St_spread_51 ok_9 (nle rfl) (nle rfl) rfl lf_St_9 q4 ?_
      refine r_iload (j := 5) d_St_spread_54 rfl ?_
      refine r_iconst d_St_spread_56 kc_2 ?_
      refine r_iadd d_St_spread_57 ?_
      obtain ⟨q8, hw⟩ := hw
      obtain ⟨q9, hw⟩ := hw
      refine r_iald d_St_spread_58 q8 q9 ?_
      refine r_iadd d_St_spread_59 ?_
      obtain ⟨q10, hw⟩ := hw
      obtain ⟨q11, hw⟩ := hw
      refine r_iast d_St_spread_60 q10 q11 ?_
      refine r_aload_n (j := 1) d_St_spread_61 rfl ?_
      refine r_getR d_St_spread_62 ok_9 (nle rfl) (nle rfl) rfl lf_St_18 q4 ?_
      refine r_iconst d_St_spread_65 kc_1 ?_
      refine r_iload (j := 0) d_St_spread_66 rfl ?_
      refine r_aload_n (j := 1) d_St_spread_68 rfl ?_
      refine r_getI d_St_spread_69 ok_9 (nle rfl) (nle rfl) rfl lf_St_25 q4 ?_
      obtain ⟨q12, hw⟩ := hw
      refine r_idiv d_St_spread_72 q12 ?_
      refine r_aload_n (j := 1) d_St_spread_73 rfl ?_
      refine r_getI d_St_spread_74 ok_9 (nle rfl) (nle rfl) rfl lf_St_21 q4 ?_
      obtain ⟨q13, hw⟩ := hw
      refine r_irem d_St_spread_77 q13 ?_
      refine r_aload_n (j := 1) d_St_spread_78 rfl ?_
      refine r_getR d_St_spread_79 ok_9 (nle rfl) (nle rfl) rfl lf_St_9 q4 ?_
      refine r_iload (j := 5) d_St_spread_82 rfl ?_
      refine r_iconst d_St_spread_84 kc_1 ?_
      refine r_iadd d_St_spread_85 ?_
      obtain ⟨q14, hw⟩ := hw
      refine r_iald d_St_spread_86 q8 q14 ?_
      refine r_iadd d_St_spread_87 ?_
      obtain ⟨q15, hw⟩ := hw
      refine r_iast d_St_spread_88 q10 q15 ?_
      refine r_aload_n (j := 1) d_St_spread_89 rfl ?_
      refine r_getR d_St_spread_90 ok_9 (nle rfl) (nle rfl) rfl lf_St_18 q4 ?_
      refine r_iconst d_St_spread_93 kc_0 ?_
      refine r_iload (j := 0) d_St_spread_94 rfl ?_
      refine r_aload_n (j := 1) d_St_spread_96 rfl ?_
      refine r_getI d_St_spread_97 ok_9 (nle rfl) (nle rfl) rfl lf_St_25 q4 ?_
      obtain ⟨q16, hw⟩ := hw
      refine r_idiv d_St_spread_100 q16 ?_
      refine r_aload_n (j := 1) d_St_spread_101 rfl ?_
      refine r_getI d_St_spread_102 ok_9 (nle rfl) (nle rfl) rfl lf_St_21 q4 ?_
      obtain ⟨q17, hw⟩ := hw
      refine r_idiv d_St_spread_105 q17 ?_
      refine r_aload_n (j := 1) d_St_spread_106 rfl ?_
      refine r_getR d_St_spread_107 ok_9 (nle rfl) (nle rfl) rfl lf_St_9 q4 ?_
      refine r_iload (j := 5) d_St_spread_110 rfl ?_
      obtain ⟨q18, hw⟩ := hw
      refine r_iald d_St_spread_112 q8 q18 ?_
      refine r_iadd d_St_spread_113 ?_
      obtain ⟨q19, hw⟩ := hw
      refine r_iast d_St_spread_114 q10 q19 ?_
      refine r_aload_n (j := 1) d_St_spread_115 rfl ?_
      refine r_iload_n (j := 4) d_St_spread_116 rfl ?_
      refine r_iload (j := 0) d_St_spread_117 rfl ?_
      refine r_iadd d_St_spread_119 ?_
      refine r_iload_n (j := 2) d_St_spread_120 rfl ?_
      refine r_iconst d_St_spread_121 kc_1 ?_
      refine r_iadd d_St_spread_122 ?_
      refine r_iload (j := 6) d_St_spread_123 rfl ?_
      refine r_callV (av := [ai (v3 + (gI h (gR h v0 9) (ix (v3 + v6)))), ai (v1 + (1 : Int32)), ai v5]) (rest := []) (ci := 9) d_St_spread_125 mk_St_leave ll_St_118 im_St_leave se_St_leave rfl (nle rfl) rfl rfl (nle rfl) q4 (s_St_leave (by omega) hw (fun r21 h20 hw => ?_))
      show aW none m_St_spread (d + 1) 128 [(7, ai (gI h (gR h v0 9) (ix (v3 + v6)))), (0, ar v0), (1, ai v1), (2, ai v2), (3, ai v3), (4, ai v4), (5, ai v5), (6, ai v6)] [ai r21] h20 0 0 QQ
      refine r_istore (ls2 := [(5, ai r21), (7, ai (gI h (gR h v0 9) (ix (v3 + v6)))), (0, ar v0), (1, ai v1), (2, ai v2), (3, ai v3), (4, ai v4), (6, ai v6)]) d_St_spread_128 (nle rfl) rfl ?_
      refine r_iinc (j := 7) (ls2 := [(6, ai (v6 + (1 : Int32))), (5, ai r21), (7, ai (gI h (gR h v0 9) (ix (v3 + v6)))), (0, ar v0), (1, ai v1), (2, ai v2), (3, ai v3), (4, ai v4)]) d_St_spread_130 rfl (congrArg (HAdd.hAdd v6) kc_1) (nle rfl) rfl ?_
      refine r_goto d_St_spread_133 ?_
      refine r_pick (ls2 := [(0, ar v0), (1, ai v1), (2, ai v2), (3, ai v3), (4, ai v4), (5, ai r21), (6, ai (v6 + (1 : Int32)))]) [3, 4, 5, 6, 7, 1, 0] rfl ?_
      exact ih _ _ _ hw
set_option maxRecDepth 100000 in
set_option maxHeartbeats 4000000 in
theorem s_St_spread {d : Nat} (hd : 3 ≤ d) {v0 : Nat} {v1 : Int32} {v2 : Int32} {h : Hp} {Q : Int32 → Hp → Prop} {QQ : Option AV → Hp → Prop} (hw : w_St_spread v0 v1 v2 h Q) (hQ : ∀ r9 h9, Q r9 h9 → QQ (some (ai r9)) h9) : aCall m_St_spread d [ar v0, ai v1, ai v2] h 0 0 QQ := by
  obtain ⟨d, rfl⟩ : ∃ d9, d = d9 + 1 := ⟨d - 1, by omega⟩
  refine aCall_in pl_St_spread (nle rfl) ?_
  show aW none m_St_spread (d + 1) 0 [(0, ar v0), (1, ai v1), (2, ai v2)] [] h 0 0 QQ
  unfold w_St_spread at hw
  refine r_iload_n (j := 1) d_St_spread_0 rfl ?_
  refine r_callS (av := [ai v1]) (rest := []) d_St_spread_1 mk_St_layer ll_St_115 st_St_layer rfl rfl (nle rfl) (s_St_layer  hw (fun r2 h1 hw => ?_))
  show aW none m_St_spread (d + 1) 4 [(0, ar v0), (1, ai v1), (2, ai v2)] [ai r2] h1 0 0 QQ
  refine r_aload_n (j := 0) d_St_spread_4 rfl ?_
  obtain ⟨q3, hw⟩ := hw
  refine r_getI d_St_spread_5 ok_9 (nle rfl) (nle rfl) rfl lf_St_87 q3 ?_
  refine r_imul d_St_spread_8 ?_
  refine r_istore_n (ls2 := [(3, ai (r2 * (gI h1 v0 6))), (0, ar v0), (1, ai v1), (2, ai v2)]) d_St_spread_9 (nle rfl) rfl ?_
  refine r_iload_n (j := 2) d_St_spread_10 rfl ?_
  refine r_iconst d_St_spread_11 kc_3 ?_
  refine r_imul d_St_spread_12 ?_
  refine r_istore (ls2 := [(4, ai (v1 * (3 : Int32))), (3, ai (r2 * (gI h1 v0 6))), (0, ar v0), (1, ai v1), (2, ai v2)]) d_St_spread_13 (nle rfl) rfl ?_
  refine r_iconst d_St_spread_15 kc_0 ?_
  refine r_istore (ls2 := [(5, ai (0 : Int32)), (4, ai (v1 * (3 : Int32))), (3, ai (r2 * (gI h1 v0 6))), (0, ar v0), (1, ai v1), (2, ai v2)]) d_St_spread_16 (nle rfl) rfl ?_
  refine r_iconst d_St_spread_18 kc_0 ?_
  refine r_istore (ls2 := [(6, ai (0 : Int32)), (5, ai (0 : Int32)), (4, ai (v1 * (3 : Int32))), (3, ai (r2 * (gI h1 v0 6))), (0, ar v0), (1, ai v1), (2, ai v2)]) d_St_spread_19 (nle rfl) rfl ?_
  obtain ⟨n22, hw⟩ := hw
  refine r_pick (ls2 := [(0, ar v0), (1, ai v1), (2, ai v2), (3, ai (r2 * (gI h1 v0 6))), (4, ai (v1 * (3 : Int32))), (5, ai (0 : Int32)), (6, ai (0 : Int32))]) [4, 5, 6, 3, 2, 1, 0] rfl ?_
  exact s_St_spread_L21 hd hQ  n22 _ _ _ hw
set_option maxRecDepth 100000 in
set_option maxHeartbeats 4000000 in
theorem s_St_start {d : Nat} (hd : 1 ≤ d) {v0 : Nat} {h : Hp} {Q : Int32 → Hp → Prop} {QQ : Option AV → Hp → Prop} (hw : w_St_start v0 h Q) (hQ : ∀ r9 h9, Q r9 h9 → QQ (some (ai r9)) h9) : aCall m_St_start d [ar v0] h 0 0 QQ := by
  obtain ⟨d, rfl⟩ : ∃ d9, d = d9 + 1 := ⟨d - 1, by omega⟩
  refine aCall_in pl_St_start (nle rfl) ?_
  show aW none m_St_start (d + 1) 0 [(0, ar v0)] [] h 0 0 QQ
  unfold w_St_start at hw
  refine r_aload_n (j := 0) d_St_start_0 rfl ?_
  obtain ⟨q1, hw⟩ := hw
  refine r_getR d_St_start_1 ok_9 (nle rfl) (nle rfl) rfl lf_St_18 q1 ?_
  refine r_iconst d_St_start_4 kc_0 ?_
  refine r_callS (av := [ar (gR h v0 3), ai (0 : Int32)]) (rest := []) d_St_start_5 mk_JA_fill_IIV ll_St_106 st_JA_fill_IIV rfl rfl (nle rfl) (s_JA_fill_IIV  hw (fun h2 hw => ?_))
  show aW none m_St_start (d + 1) 8 [(0, ar v0)] [] h2 0 0 QQ
  refine r_aload_n (j := 0) d_St_start_8 rfl ?_
  refine r_iconst d_St_start_9 kc_0 ?_
  obtain ⟨q5, hw⟩ := hw
  refine r_callV (av := [ai (0 : Int32)]) (rest := []) (ci := 9) d_St_start_10 mk_St_cellOf ll_St_112 im_St_cellOf se_St_cellOf rfl (nle rfl) rfl rfl (nle rfl) q5 (s_St_cellOf  hw (fun r4 h3 hw => ?_))
  show aW none m_St_start (d + 1) 13 [(0, ar v0)] [ai r4] h3 0 0 QQ
  refine r_istore_n (ls2 := [(1, ai r4), (0, ar v0)]) d_St_start_13 (nle rfl) rfl ?_
  refine r_iload_n (j := 0) d_St_start_14 rfl ?_
  refine r_if_ge d_St_start_15 (fun w9 => ?_) (fun w9 => ?_)
  · replace hw := hw.1 w9
    refine r_aload_n (j := 1) d_St_start_20 rfl ?_
    obtain ⟨q6, hw⟩ := hw
    refine r_getR d_St_start_21 ok_9 (nle rfl) (nle rfl) rfl lf_St_28 q6 ?_
    refine r_iload_n (j := 0) d_St_start_24 rfl ?_
    refine r_lconst d_St_start_25 kl_1 ?_
    obtain ⟨q7, hw⟩ := hw
    obtain ⟨q8, hw⟩ := hw
    refine r_last d_St_start_26 q7 q8 ?_
    refine r_aload_n (j := 1) d_St_start_27 rfl ?_
    refine r_getR d_St_start_28 ok_9 (nle rfl) (nle rfl) rfl lf_St_32 q6 ?_
    refine r_iload_n (j := 0) d_St_start_31 rfl ?_
    refine r_iconst d_St_start_32 kc_0 ?_
    obtain ⟨q9, hw⟩ := hw
    obtain ⟨q10, hw⟩ := hw
    refine r_iast d_St_start_33 q9 q10 ?_
    refine r_aload_n (j := 1) d_St_start_34 rfl ?_
    refine r_getR d_St_start_35 ok_9 (nle rfl) (nle rfl) rfl lf_St_35 q6 ?_
    refine r_iconst d_St_start_38 kc_0 ?_
    refine r_iload_n (j := 0) d_St_start_39 rfl ?_
    obtain ⟨q11, hw⟩ := hw
    obtain ⟨q12, hw⟩ := hw
    refine r_iast d_St_start_40 q11 q12 ?_
    refine r_iconst d_St_start_41 kc_1 ?_
    exact r_ireturn d_St_start_42.1 rfl (hQ _ _ hw)
  · replace hw := hw.2 w9
    refine r_iconst d_St_start_18 kc_0 ?_
    exact r_ireturn d_St_start_19.1 rfl (hQ _ _ hw)
set_option maxRecDepth 100000 in
set_option maxHeartbeats 4000000 in
theorem s_St_sweep_L75 {d : Nat} (hd : 4 ≤ d + 1) {Q : Hp → Prop} {QQ : Option AV → Hp → Prop} (hQ : ∀ h9, Q h9 → QQ none h9) {v0 : Nat} {v1 : Int32} : ∀ (n : Nat) (v3 : Int32) (v4 : Int32) (bc : Nat) (bs : Nat) (h : Hp), w_St_sweep_L75 Q  v0 v1 n v3 v4 bc bs h → aW none m_St_sweep (d + 1) 75 [(0, ar v0), (1, ai v1), (3, ai v3), (4, ai v4)] [] h bc bs QQ := by
  intro n
  induction n with
  | zero => intro v3 v4 bc bs h hw; exact hw.elim
  | succ n ih =>
    intro v3 v4 bc bs h hw
    unfold w_St_sweep_L75 at hw
    refine r_iload (j := 3) d_St_sweep_75 rfl ?_
    refine r_iload_n (j := 1) d_St_sweep_77 rfl ?_
    refine r_icmp_ge d_St_sweep_78 (fun w9 => ?_) (fun w9 => ?_)
    · replace hw := hw.1 w9
      refine r_aload_n (j := 0) d_St_sweep_116 rfl ?_
      refine r_iload_n (j := 1) d_St_sweep_117 rfl ?_
      obtain ⟨q17, hw⟩ := hw
      refine r_callV (av := [ai v1]) (rest := []) (ci := 9) d_St_sweep_118 mk_St_readEnd ll_St_80 im_St_readEnd se_St_readEnd rfl (nle rfl) rfl rfl (nle rfl) q17 (s_St_readEnd (by omega) hw (fun h16 hw => ?_))
      show aW none m_St_sweep (d + 1) 121 [(0, ar v0), (1, ai v1), (3, ai v3), (4, ai v4)] [] h16 bc bs QQ
      refine r_aload_n (j := 0) d_St_sweep_121 rfl ?_
      refine r_iload_n (j := 1) d_St_sweep_122 rfl ?_
      refine r_iload_n (j := 2) d_St_sweep_123 rfl ?_
      obtain ⟨q19, hw⟩ := hw
      refine r_callV (av := [ai v1, ai v3]) (rest := []) (ci := 9) d_St_sweep_124 mk_St_clear ll_St_77 im_St_clear se_St_clear rfl (nle rfl) rfl rfl (nle rfl) q19 (s_St_clear (by omega) hw (fun h18 hw => ?_))
      show aW none m_St_sweep (d + 1) 127 [(0, ar v0), (1, ai v1), (3, ai v3), (4, ai v4)] [] h18 bc bs QQ
      exact r_return d_St_sweep_127.1 rfl (hQ _ hw)
    · replace hw := hw.2 w9
      refine r_aload_n (j := 0) d_St_sweep_81 rfl ?_
      refine r_iload (j := 3) d_St_sweep_82 rfl ?_
      refine r_iload_n (j := 2) d_St_sweep_84 rfl ?_
      obtain ⟨q22, hw⟩ := hw
      refine r_callV (av := [ai v4, ai v3]) (rest := []) (ci := 9) d_St_sweep_85 mk_St_spread ll_St_73 im_St_spread se_St_spread rfl (nle rfl) rfl rfl (nle rfl) q22 (s_St_spread (by omega) hw (fun r21 h20 hw => ?_))
      show aW none m_St_sweep (d + 1) 88 [(0, ar v0), (1, ai v1), (3, ai v3), (4, ai v4)] [ai r21] h20 bc bs QQ
      refine r_istore (ls2 := [(5, ai r21), (0, ar v0), (1, ai v1), (3, ai v3), (4, ai v4)]) d_St_sweep_88 (nle rfl) rfl ?_
      refine r_aload_n (j := 1) d_St_sweep_90 rfl ?_
      refine r_iload (j := 4) d_St_sweep_91 rfl ?_
      refine r_iload_n (j := 3) d_St_sweep_93 rfl ?_
      obtain ⟨q24, hw⟩ := hw
      refine r_callV (av := [ai v4, ai v3]) (rest := []) (ci := 9) d_St_sweep_94 mk_St_clear ll_St_77 im_St_clear se_St_clear rfl (nle rfl) rfl rfl (nle rfl) q24 (s_St_clear (by omega) hw (fun h23 hw => ?_))
      show aW none m_St_sweep (d + 1) 97 [(5, ai r21), (0, ar v0), (1, ai v1), (3, ai v3), (4, ai v4)] [] h23 bc bs QQ
      refine r_iload (j := 0) d_St_sweep_97 rfl ?_
      refine r_istore_n (ls2 := [(3, ai r21), (5, ai r21), (0, ar v0), (1, ai v1), (4, ai v4)]) d_St_sweep_99 (nle rfl) rfl ?_
      refine r_aload_n (j := 2) d_St_sweep_100 rfl ?_
      refine r_dup d_St_sweep_101 rfl ?_
      obtain ⟨q25, hw⟩ := hw
      refine r_getI d_St_sweep_102 ok_9 (nle rfl) (nle rfl) rfl lf_St_70 q25 ?_
      refine r_iload_n (j := 0) d_St_sweep_105 rfl ?_
      refine r_iadd d_St_sweep_106 ?_
      refine r_putI d_St_sweep_107 ok_9 (nle rfl) (nle rfl) rfl lf_St_70 rfl q25 ?_
      refine r_iinc (j := 4) (ls2 := [(4, ai (v4 + (1 : Int32))), (3, ai r21), (5, ai r21), (0, ar v0), (1, ai v1)]) d_St_sweep_110 rfl (congrArg (HAdd.hAdd v4) kc_1) (nle rfl) rfl ?_
      refine r_goto d_St_sweep_113 ?_
      refine r_pick (ls2 := [(0, ar v0), (1, ai v1), (3, ai r21), (4, ai (v4 + (1 : Int32)))]) [3, 4, 1, 0] rfl ?_
      exact ih _ _ _ _ _ hw
set_option maxRecDepth 100000 in
set_option maxHeartbeats 4000000 in
theorem s_St_sweep_B31 {d : Nat} (hd : 4 ≤ d + 1) {Q : Hp → Prop} {QQ : Option AV → Hp → Prop} (hQ : ∀ h9, Q h9 → QQ none h9) {v0 : Nat} {v1 : Int32} {v2 : Int32} {bc : Nat} {bs : Nat} {h : Hp} (hw : w_St_sweep_B31 Q  v0 v1 v2 bc bs h) : aW none m_St_sweep (d + 1) 31 [(0, ar v0), (1, ai v1), (2, ai v2)] [] h bc bs QQ := by
  unfold w_St_sweep_B31 at hw
  refine r_aload_n (j := 0) d_St_sweep_31 rfl ?_
  refine r_iload_n (j := 1) d_St_sweep_32 rfl ?_
  obtain ⟨q2, hw⟩ := hw
  refine r_putI d_St_sweep_33 ok_9 (nle rfl) (nle rfl) rfl lf_St_41 rfl q2 ?_
  refine r_aload_n (j := 0) d_St_sweep_36 rfl ?_
  refine r_iload_n (j := 2) d_St_sweep_37 rfl ?_
  refine r_putI d_St_sweep_38 ok_9 (nle rfl) (nle rfl) rfl lf_St_44 rfl q2 ?_
  refine r_aload_n (j := 0) d_St_sweep_41 rfl ?_
  refine r_aload_n (j := 0) d_St_sweep_42 rfl ?_
  refine r_getR d_St_sweep_43 ok_9 (nle rfl) (nle rfl) rfl lf_St_47 q2 ?_
  obtain ⟨q3, hw⟩ := hw
  refine r_getI d_St_sweep_46 ok_1 (nle rfl) (nle rfl) rfl lf_St_51 q3 ?_
  refine r_putI d_St_sweep_49 ok_9 (nle rfl) (nle rfl) rfl lf_St_56 rfl q2 ?_
  refine r_aload_n (j := 0) d_St_sweep_52 rfl ?_
  obtain ⟨q5, hw⟩ := hw
  obtain ⟨b6, t7, m8, m9, u8, u9, hw⟩ := hw
  subst u8 u9
  refine r_callA (av := []) (rest := []) (ci := 9) d_St_sweep_53 mk_St_makeRoom ll_St_59 im_St_makeRoom se_St_makeRoom rfl (nle rfl) rfl rfl (nle rfl) refB_n (refL_r q5 (refL_i (refL_i refL_n))) q2 (s_St_makeRoom  hw (fun h4 hw => ?_))
  show aW none m_St_sweep (d + 1) 56 [(0, ar v0), (1, ai v1), (2, ai v2)] [] h4 b6 t7 QQ
  refine r_aload_n (j := 0) d_St_sweep_56 rfl ?_
  refine r_iload_n (j := 1) d_St_sweep_57 rfl ?_
  refine r_iload_n (j := 2) d_St_sweep_58 rfl ?_
  obtain ⟨q11, hw⟩ := hw
  refine r_callV (av := [ai v1, ai v2]) (rest := []) (ci := 9) d_St_sweep_59 mk_St_setBounds ll_St_62 im_St_setBounds se_St_setBounds rfl (nle rfl) rfl rfl (nle rfl) q11 (s_St_setBounds (by omega) hw (fun h10 hw => ?_))
  show aW none m_St_sweep (d + 1) 62 [(0, ar v0), (1, ai v1), (2, ai v2)] [] h10 b6 t7 QQ
  refine r_aload_n (j := 0) d_St_sweep_62 rfl ?_
  obtain ⟨q14, hw⟩ := hw
  refine r_callV (av := []) (rest := []) (ci := 9) d_St_sweep_63 mk_St_start ll_St_66 im_St_start se_St_start rfl (nle rfl) rfl rfl (nle rfl) q14 (s_St_start (by omega) hw (fun r13 h12 hw => ?_))
  show aW none m_St_sweep (d + 1) 66 [(0, ar v0), (1, ai v1), (2, ai v2)] [ai r13] h12 b6 t7 QQ
  refine r_istore_n (ls2 := [(3, ai r13), (0, ar v0), (1, ai v1), (2, ai v2)]) d_St_sweep_66 (nle rfl) rfl ?_
  refine r_aload_n (j := 1) d_St_sweep_67 rfl ?_
  refine r_iload_n (j := 0) d_St_sweep_68 rfl ?_
  obtain ⟨q15, hw⟩ := hw
  refine r_putI d_St_sweep_69 ok_9 (nle rfl) (nle rfl) rfl lf_St_70 rfl q15 ?_
  refine r_iconst d_St_sweep_72 kc_0 ?_
  refine r_istore (ls2 := [(4, ai (0 : Int32)), (3, ai r13), (0, ar v0), (1, ai v1), (2, ai v2)]) d_St_sweep_73 (nle rfl) rfl ?_
  obtain ⟨n26, hw⟩ := hw
  refine r_pick (ls2 := [(0, ar v0), (1, ai v1), (3, ai r13), (4, ai (0 : Int32))]) [2, 3, 1, 0] rfl ?_
  exact s_St_sweep_L75 hd hQ  n26 _ _ _ _ _ hw
set_option maxRecDepth 100000 in
set_option maxHeartbeats 4000000 in
theorem s_St_sweep {d : Nat} (hd : 4 ≤ d) {v0 : Nat} {v1 : Int32} {v2 : Int32} {bc bs : Nat} {h : Hp} {Q : Hp → Prop} {QQ : Option AV → Hp → Prop} (hw : w_St_sweep bc bs v0 v1 v2 h Q) (hQ : ∀ h9, Q h9 → QQ none h9) : aCall m_St_sweep d [ar v0, ai v1, ai v2] h bc bs QQ := by
  obtain ⟨d, rfl⟩ : ∃ d9, d = d9 + 1 := ⟨d - 1, by omega⟩
  refine aCall_in pl_St_sweep (nle rfl) ?_
  show aW none m_St_sweep (d + 1) 0 [(0, ar v0), (1, ai v1), (2, ai v2)] [] h bc bs QQ
  unfold w_St_sweep at hw
  refine r_iload_n (j := 1) d_St_sweep_0 rfl ?_
  refine r_aload_n (j := 0) d_St_sweep_1 rfl ?_
  obtain ⟨q1, hw⟩ := hw
  refine r_getI d_St_sweep_2 ok_9 (nle rfl) (nle rfl) rfl lf_St_41 q1 ?_
  refine r_icmp_ne d_St_sweep_5 (fun w9 => ?_) (fun w9 => ?_)
  · replace hw := hw.2 w9
    exact s_St_sweep_B31 hd hQ  hw
  · replace hw := hw.1 w9
    refine r_iload_n (j := 2) d_St_sweep_8 rfl ?_
    refine r_aload_n (j := 0) d_St_sweep_9 rfl ?_
    refine r_getI d_St_sweep_10 ok_9 (nle rfl) (nle rfl) rfl lf_St_44 q1 ?_
    refine r_icmp_ne d_St_sweep_13 (fun w9 => ?_) (fun w9 => ?_)
    · replace hw := hw.2 w9
      exact s_St_sweep_B31 hd hQ  hw
    · replace hw := hw.1 w9
      refine r_aload_n (j := 0) d_St_sweep_16 rfl ?_
      refine r_getR d_St_sweep_17 ok_9 (nle rfl) (nle rfl) rfl lf_St_47 q1 ?_
      obtain ⟨q27, hw⟩ := hw
      refine r_getI d_St_sweep_20 ok_1 (nle rfl) (nle rfl) rfl lf_St_51 q27 ?_
      refine r_aload_n (j := 0) d_St_sweep_23 rfl ?_
      refine r_getI d_St_sweep_24 ok_9 (nle rfl) (nle rfl) rfl lf_St_56 q1 ?_
      refine r_icmp_ne d_St_sweep_27 (fun w9 => ?_) (fun w9 => ?_)
      · replace hw := hw.2 w9
        exact s_St_sweep_B31 hd hQ  hw
      · replace hw := hw.1 w9
        exact r_return d_St_sweep_30.1 rfl (hQ _ hw)
set_option maxRecDepth 100000 in
set_option maxHeartbeats 4000000 in
theorem s_St_columnAt_B48 {d : Nat} (hd : 2 ≤ d + 1) {Q : Int32 → Hp → Prop} {QQ : Option AV → Hp → Prop} (hQ : ∀ r9 h9, Q r9 h9 → QQ (some (ai r9)) h9) {k11 : Int32 → Int32 → Hp → Prop} (hk11 : ∀ v2 v3 h9, k11 v2 v3 h9 → aW none m_St_columnAt (d + 1) 11 [(0, ar v0), (1, ai v1), (2, ai v2), (3, ai v3)] [] h9 0 0 QQ) {v0 : Nat} {v1 : Int32} {v3 : Int32} {s0 : Int32} {h : Hp} (hw : w_St_columnAt_B48 Q k11 v0 v1 v3 s0 h) : aW none m_St_columnAt (d + 1) 48 [(0, ar v0), (1, ai v1), (3, ai v3)] [ai s0] h 0 0 QQ := by
  unfold w_St_columnAt_B48 at hw
  refine r_istore_n (ls2 := [(2, ai s0), (0, ar v0), (1, ai v1), (3, ai v3)]) d_St_columnAt_48 (nle rfl) rfl ?_
  refine r_aload_n (j := 1) d_St_columnAt_49 rfl ?_
  obtain ⟨q10, hw⟩ := hw
  refine r_getR d_St_columnAt_50 ok_9 (nle rfl) (nle rfl) rfl lf_St_47 q10 ?_
  refine r_iload_n (j := 0) d_St_columnAt_53 rfl ?_
  obtain ⟨q13, hw⟩ := hw
  refine r_callV (av := [ai s0]) (rest := []) (ci := 1) d_St_columnAt_54 mk_Co_hasColumn ll_St_156 im_Co_hasColumn se_Co_hasColumn rfl (nle rfl) rfl rfl (nle rfl) q13 (s_Co_hasColumn  hw (fun r12 h11 hw => ?_))
  show aW none m_St_columnAt (d + 1) 57 [(2, ai s0), (0, ar v0), (1, ai v1), (3, ai v3)] [ai (b2i r12)] h11 0 0 QQ
  refine r_if_ne d_St_columnAt_57 (fun w9 => ?_) (fun w9 => ?_)
  · replace hw := hw.2 (fun g9 => w9 (b2i_0.mpr g9))
    refine r_aload_n (j := 1) d_St_columnAt_62 rfl ?_
    obtain ⟨q14, hw⟩ := hw
    refine r_getR d_St_columnAt_63 ok_9 (nle rfl) (nle rfl) rfl lf_St_47 q14 ?_
    refine r_aload_n (j := 1) d_St_columnAt_66 rfl ?_
    refine r_getR d_St_columnAt_67 ok_9 (nle rfl) (nle rfl) rfl lf_St_18 q14 ?_
    refine r_iload_n (j := 0) d_St_columnAt_70 rfl ?_
    refine r_iconst d_St_columnAt_71 kc_m1 ?_
    obtain ⟨q16, hw⟩ := hw
    refine r_callV (av := [ar (gR h11 v0 3), ai s0, ai (-1 : Int32)]) (rest := []) (ci := 1) d_St_columnAt_72 mk_Co_addTo ll_St_159 im_Co_addTo se_Co_addTo rfl (nle rfl) rfl rfl (nle rfl) q16 (s_Co_addTo (by omega) hw (fun h15 hw => ?_))
    show aW none m_St_columnAt (d + 1) 75 [(2, ai s0), (0, ar v0), (1, ai v1), (3, ai v3)] [] h15 0 0 QQ
    refine r_iinc (j := 3) (ls2 := [(3, ai (v3 + (-1 : Int32))), (2, ai s0), (0, ar v0), (1, ai v1)]) d_St_columnAt_75 rfl (congrArg (HAdd.hAdd v3) kc_m1) (nle rfl) rfl ?_
    refine r_goto d_St_columnAt_78 ?_
    refine r_pick (ls2 := [(0, ar v0), (1, ai v1), (2, ai s0), (3, ai (v3 + (-1 : Int32)))]) [2, 3, 1, 0] rfl ?_
    exact hk11 _ _ _ hw
  · replace hw := hw.1 (b2i_0.mp w9)
    refine r_iconst d_St_columnAt_60 kc_m1 ?_
    exact r_ireturn d_St_columnAt_61.1 rfl (hQ _ _ hw)
set_option maxRecDepth 100000 in
set_option maxHeartbeats 4000000 in
theorem s_St_columnAt_L11 {d : Nat} (hd : 2 ≤ d + 1) {Q : Int32 → Hp → Prop} {QQ : Option AV → Hp → Prop} (hQ : ∀ r9 h9, Q r9 h9 → QQ (some (ai r9)) h9) {v0 : Nat} {v1 : Int32} : ∀ (n : Nat) (v2 : Int32) (v3 : Int32) (h : Hp), w_St_columnAt_L11 Q  v0 v1 n v2 v3 h → aW none m_St_columnAt (d + 1) 11 [(0, ar v0), (1, ai v1), (2, ai v2), (3, ai v3)] [] h 0 0 QQ := by
  intro n
  induction n with
  | zero => intro v2 v3 h hw; exact hw.elim
  | succ n ih =>
    intro v2 v3 h hw
    unfold w_St_columnAt_L11 at hw
    refine r_iload_n (j := 3) d_St_columnAt_11 rfl ?_
    refine r_if_le d_St_columnAt_12 (fun w9 => ?_) (fun w9 => ?_)
    · replace hw := hw.1 w9
      refine r_iload_n (j := 2) d_St_columnAt_81 rfl ?_
      exact r_ireturn d_St_columnAt_82.1 rfl (hQ _ _ hw)
    · replace hw := hw.2 w9
      refine r_iload_n (j := 3) d_St_columnAt_15 rfl ?_
      refine r_aload_n (j := 0) d_St_columnAt_16 rfl ?_
      obtain ⟨q4, hw⟩ := hw
      refine r_getI d_St_columnAt_17 ok_9 (nle rfl) (nle rfl) rfl lf_St_41 q4 ?_
      refine r_iload_n (j := 1) d_St_columnAt_20 rfl ?_
      refine r_isub d_St_columnAt_21 ?_
      refine r_icmp_lt d_St_columnAt_22 (fun w9 => ?_) (fun w9 => ?_)
      · replace hw := hw.1 w9
        refine r_iload_n (j := 2) d_St_columnAt_81 rfl ?_
        exact r_ireturn d_St_columnAt_82.1 rfl (hQ _ _ hw)
      · replace hw := hw.2 w9
        refine r_aload_n (j := 0) d_St_columnAt_25 rfl ?_
        refine r_iload_n (j := 3) d_St_columnAt_26 rfl ?_
        refine r_callV (av := [ai v3]) (rest := []) (ci := 9) d_St_columnAt_27 mk_St_cellOf ll_St_112 im_St_cellOf se_St_cellOf rfl (nle rfl) rfl rfl (nle rfl) q4 (s_St_cellOf  hw (fun r6 h5 hw => ?_))
        show aW none m_St_columnAt (d + 1) 30 [(0, ar v0), (1, ai v1), (2, ai v2), (3, ai v3)] [ai r6] h5 0 0 QQ
        refine r_istore (ls2 := [(4, ai r6), (0, ar v0), (1, ai v1), (2, ai v2), (3, ai v3)]) d_St_columnAt_30 (nle rfl) rfl ?_
        refine r_iload (j := 0) d_St_columnAt_32 rfl ?_
        refine r_if_ge d_St_columnAt_34 (fun w9 => ?_) (fun w9 => ?_)
        · replace hw := hw.1 w9
          refine r_aload_n (j := 1) d_St_columnAt_41 rfl ?_
          refine r_iload_n (j := 4) d_St_columnAt_42 rfl ?_
          refine r_iload (j := 0) d_St_columnAt_43 rfl ?_
          obtain ⟨q9, hw⟩ := hw
          refine r_callV (av := [ai v3, ai r6]) (rest := []) (ci := 9) d_St_columnAt_45 mk_St_choiceAt ll_St_135 im_St_choiceAt se_St_choiceAt rfl (nle rfl) rfl rfl (nle rfl) q9 (s_St_choiceAt  hw (fun r8 h7 hw => ?_))
          show aW none m_St_columnAt (d + 1) 48 [(4, ai r6), (0, ar v0), (1, ai v1), (2, ai v2), (3, ai v3)] [ai r8] h7 0 0 QQ
          refine r_pick (ls2 := [(0, ar v0), (1, ai v1), (3, ai v3)]) [1, 2, 4] rfl ?_
          exact s_St_columnAt_B48 hd hQ ih hw
        · replace hw := hw.2 w9
          refine r_iconst d_St_columnAt_37 kc_m1 ?_
          refine r_goto d_St_columnAt_38 ?_
          refine r_pick (ls2 := [(0, ar v0), (1, ai v1), (3, ai v3)]) [1, 2, 4] rfl ?_
          exact s_St_columnAt_B48 hd hQ ih hw
set_option maxRecDepth 100000 in
set_option maxHeartbeats 4000000 in
theorem s_St_columnAt {d : Nat} (hd : 2 ≤ d) {v0 : Nat} {v1 : Int32} {h : Hp} {Q : Int32 → Hp → Prop} {QQ : Option AV → Hp → Prop} (hw : w_St_columnAt v0 v1 h Q) (hQ : ∀ r9 h9, Q r9 h9 → QQ (some (ai r9)) h9) : aCall m_St_columnAt d [ar v0, ai v1] h 0 0 QQ := by
  obtain ⟨d, rfl⟩ : ∃ d9, d = d9 + 1 := ⟨d - 1, by omega⟩
  refine aCall_in pl_St_columnAt (nle rfl) ?_
  show aW none m_St_columnAt (d + 1) 0 [(0, ar v0), (1, ai v1)] [] h 0 0 QQ
  unfold w_St_columnAt at hw
  refine r_aload_n (j := 0) d_St_columnAt_0 rfl ?_
  obtain ⟨q2, hw⟩ := hw
  refine r_callV (av := []) (rest := []) (ci := 9) d_St_columnAt_1 mk_St_atNeed ll_St_153 im_St_atNeed se_St_atNeed rfl (nle rfl) rfl rfl (nle rfl) q2 (s_St_atNeed (by omega) hw (fun h1 hw => ?_))
  show aW none m_St_columnAt (d + 1) 4 [(0, ar v0), (1, ai v1)] [] h1 0 0 QQ
  refine r_iconst d_St_columnAt_4 kc_m1 ?_
  refine r_istore_n (ls2 := [(2, ai (-1 : Int32)), (0, ar v0), (1, ai v1)]) d_St_columnAt_5 (nle rfl) rfl ?_
  refine r_aload_n (j := 1) d_St_columnAt_6 rfl ?_
  obtain ⟨q3, hw⟩ := hw
  refine r_getI d_St_columnAt_7 ok_9 (nle rfl) (nle rfl) rfl lf_St_41 q3 ?_
  refine r_istore_n (ls2 := [(3, ai (gI h1 v0 11)), (2, ai (-1 : Int32)), (0, ar v0), (1, ai v1)]) d_St_columnAt_10 (nle rfl) rfl ?_
  obtain ⟨n17, hw⟩ := hw
  refine r_pick (ls2 := [(0, ar v0), (1, ai v1), (2, ai (-1 : Int32)), (3, ai (gI h1 v0 11))]) [2, 3, 1, 0] rfl ?_
  exact s_St_columnAt_L11 hd hQ  n17 _ _ _ hw
set_option maxRecDepth 100000 in
set_option maxHeartbeats 4000000 in
theorem s_Tp_init {d : Nat} (hd : 1 ≤ d) {v0 : Nat} {bc bs : Nat} {h : Hp} {Q : Hp → Prop} {QQ : Option AV → Hp → Prop} (hw : w_Tp_init bc bs v0 h Q) (hQ : ∀ h9, Q h9 → QQ none h9) : aCall m_Tp_init d [ar v0] h bc bs QQ := by
  obtain ⟨d, rfl⟩ : ∃ d9, d = d9 + 1 := ⟨d - 1, by omega⟩
  refine aCall_in pl_Tp_init (nle rfl) ?_
  show aW none m_Tp_init (d + 1) 0 [(0, ar v0)] [] h bc bs QQ
  unfold w_Tp_init at hw
  refine r_aload_n (j := 0) d_Tp_init_0 rfl ?_
  obtain ⟨q1, hw⟩ := hw
  refine r_objInit d_Tp_init_1 ll_Tp_3 oi_1 oi_2 (nle rfl) q1 ?_
  refine r_aload_n (j := 0) d_Tp_init_4 rfl ?_
  refine r_sipush d_Tp_init_5 ks_700 ?_
  obtain ⟨q2, hw⟩ := hw
  obtain ⟨b3, t4, u8, u9, u6, u7, hw⟩ := hw
  subst u8 u9
  refine r_newI d_Tp_init_8 ac_I u6 rfl u7 (refB_r q2 refB_n) (refL_r q2 refL_n) ?_
  generalize e8 : nw h 20 (ix (700 : Int32)) = h5 at hw ⊢
  generalize e7 : gX h = a6 at hw ⊢
  replace hw := hw a6 h5 e7.symm e8.symm
  obtain ⟨q7, hw⟩ := hw
  obtain ⟨q8, hw⟩ := hw
  refine r_putFR d_Tp_init_10 ok_10 (nle rfl) (nle rfl) rfl lf_Tp_9 rfl rfl rfl q7 q8 ?_
  exact r_return d_Tp_init_13.1 rfl (hQ _ hw)
set_option maxRecDepth 100000 in
set_option maxHeartbeats 4000000 in
theorem s_Tp_put_L3 {d : Nat} {Q : Hp → Prop} {QQ : Option AV → Hp → Prop} (hQ : ∀ h9, Q h9 → QQ none h9) {v0 : Nat} {v1 : Int32} : ∀ (n : Nat) (v2 : Int32) (h : Hp), w_Tp_put_L3 Q  v0 v1 n v2 h → aW none m_Tp_put d 3 [(0, ar v0), (1, ai v1), (2, ai v2)] [] h 0 0 QQ := by
  intro n
  induction n with
  | zero => intro v2 h hw; exact hw.elim
  | succ n ih =>
    intro v2 h hw
    unfold w_Tp_put_L3 at hw
    refine r_iload_n (j := 2) d_Tp_put_3 rfl ?_
    refine r_if_lt d_Tp_put_4 (fun w9 => ?_) (fun w9 => ?_)
    · replace hw := hw.1 w9
      exact r_return d_Tp_put_49.1 rfl (hQ _ hw)
    · replace hw := hw.2 w9
      refine r_aload_n (j := 0) d_Tp_put_7 rfl ?_
      obtain ⟨q1, hw⟩ := hw
      refine r_getI d_Tp_put_8 ok_10 (nle rfl) (nle rfl) rfl lf_Tp_15 q1 ?_
      refine r_sipush d_Tp_put_11 ks_700 ?_
      refine r_icmp_ge d_Tp_put_14 (fun w9 => ?_) (fun w9 => ?_)
      · replace hw := hw.1 w9
        exact r_return d_Tp_put_49.1 rfl (hQ _ hw)
      · replace hw := hw.2 w9
        refine r_aload_n (j := 0) d_Tp_put_17 rfl ?_
        refine r_getR d_Tp_put_18 ok_10 (nle rfl) (nle rfl) rfl lf_Tp_9 q1 ?_
        refine r_aload_n (j := 0) d_Tp_put_21 rfl ?_
        refine r_getI d_Tp_put_22 ok_10 (nle rfl) (nle rfl) rfl lf_Tp_15 q1 ?_
        refine r_iload_n (j := 1) d_Tp_put_25 rfl ?_
        refine r_iload_n (j := 2) d_Tp_put_26 rfl ?_
        refine r_iushr d_Tp_put_27 ?_
        refine r_sipush d_Tp_put_28 ks_255 ?_
        refine r_iand d_Tp_put_31 ?_
        obtain ⟨q2, hw⟩ := hw
        obtain ⟨q3, hw⟩ := hw
        refine r_iast d_Tp_put_32 q2 q3 ?_
        refine r_aload_n (j := 0) d_Tp_put_33 rfl ?_
        refine r_dup d_Tp_put_34 rfl ?_
        refine r_getI d_Tp_put_35 ok_10 (nle rfl) (nle rfl) rfl lf_Tp_15 q1 ?_
        refine r_iconst d_Tp_put_38 kc_1 ?_
        refine r_iadd d_Tp_put_39 ?_
        refine r_putI d_Tp_put_40 ok_10 (nle rfl) (nle rfl) rfl lf_Tp_15 rfl q1 ?_
        refine r_iinc (j := 2) (ls2 := [(2, ai (v2 + (-8 : Int32))), (0, ar v0), (1, ai v1)]) d_Tp_put_43 rfl (congrArg (HAdd.hAdd v2) kc_m8) (nle rfl) rfl ?_
        refine r_goto d_Tp_put_46 ?_
        refine r_pick (ls2 := [(0, ar v0), (1, ai v1), (2, ai (v2 + (-8 : Int32)))]) [1, 2, 0] rfl ?_
        exact ih _ _ hw
set_option maxRecDepth 100000 in
set_option maxHeartbeats 4000000 in
theorem s_Tp_put {d : Nat} {v0 : Nat} {v1 : Int32} {h : Hp} {Q : Hp → Prop} {QQ : Option AV → Hp → Prop} (hw : w_Tp_put v0 v1 h Q) (hQ : ∀ h9, Q h9 → QQ none h9) : aCall m_Tp_put d [ar v0, ai v1] h 0 0 QQ := by
  refine aCall_in pl_Tp_put (nle rfl) ?_
  show aW none m_Tp_put d 0 [(0, ar v0), (1, ai v1)] [] h 0 0 QQ
  unfold w_Tp_put at hw
  refine r_bipush d_Tp_put_0 kb_24 ?_
  refine r_istore_n (ls2 := [(2, ai (24 : Int32)), (0, ar v0), (1, ai v1)]) d_Tp_put_2 (nle rfl) rfl ?_
  obtain ⟨n4, hw⟩ := hw
  refine r_pick (ls2 := [(0, ar v0), (1, ai v1), (2, ai (24 : Int32))]) [1, 2, 0] rfl ?_
  exact s_Tp_put_L3 hQ  n4 _ _ hw
set_option maxRecDepth 100000 in
set_option maxHeartbeats 4000000 in
theorem s_X_init_L196 {d : Nat} (hd : 3 ≤ d + 1) {Q : Hp → Prop} {QQ : Option AV → Hp → Prop} (hQ : ∀ h9, Q h9 → QQ none h9) {v0 : Nat} : ∀ (n : Nat) (v1 : Int32) (bc : Nat) (bs : Nat) (h : Hp), w_X_init_L196 Q  v0 n v1 bc bs h → aW none m_X_init (d + 1) 196 [(0, ar v0), (1, ai v1)] [] h bc bs QQ := by
  intro n
  induction n with
  | zero => intro v1 bc bs h hw; exact hw.elim
  | succ n ih =>
    intro v1 bc bs h hw
    unfold w_X_init_L196 at hw
    refine r_iload_n (j := 1) d_X_init_196 rfl ?_
    refine r_iconst d_X_init_197 kc_2 ?_
    refine r_icmp_ge d_X_init_198 (fun w9 => ?_) (fun w9 => ?_)
    · replace hw := hw.1 w9
      exact r_return d_X_init_220.1 rfl (hQ _ hw)
    · replace hw := hw.2 w9
      refine r_aload_n (j := 0) d_X_init_201 rfl ?_
      obtain ⟨q210, hw⟩ := hw
      refine r_getR d_X_init_202 ok_11 (nle rfl) (nle rfl) rfl lf_X_35 q210 ?_
      refine r_iload_n (j := 1) d_X_init_205 rfl ?_
      obtain ⟨q211, hw⟩ := hw
      obtain ⟨q212, hw⟩ := hw
      obtain ⟨b213, t214, u8, u9, hw⟩ := hw
      subst u8 u9
      refine r_new d_X_init_206 ok_1 (nle rfl) ty_1 lk_X_16 in_1 ini_1 (refB_i (refB_r q211 refB_n)) (refL_r q212 (refL_i refL_n)) ?_
      generalize e8 : nw h 1 0 = h215 at hw ⊢
      generalize e7 : gX h = a216 at hw ⊢
      replace hw := hw a216 h215 e7.symm e8.symm
      refine r_dup d_X_init_209 rfl ?_
      obtain ⟨q218, hw⟩ := hw
      obtain ⟨q219, hw⟩ := hw
      obtain ⟨q220, hw⟩ := hw
      obtain ⟨q225, hw⟩ := hw
      obtain ⟨b221, t222, m223, m224, u8, u9, hw⟩ := hw
      subst u8 u9
      refine r_callI (av := []) (rest := [ar a216, ai v1, ar (gR h v0 4)]) d_X_init_210 mk_Co_init ll_X_18 im_Co_init rfl rfl rfl rfl (nle rfl) (refB_r q219 (refB_i (refB_r q218 refB_n))) (refL_r q220 (refL_i refL_n)) q225 (s_Co_init (by omega) hw (fun h217 hw => ?_))
      show aW none m_X_init (d + 1) 213 [(0, ar v0), (1, ai v1)] [ar a216, ai v1, ar (gR h v0 4)] h217 b221 t222 QQ
      obtain ⟨q226, hw⟩ := hw
      obtain ⟨q227, hw⟩ := hw
      obtain ⟨q228, hw⟩ := hw
      refine r_aast d_X_init_213 q226 q227 q228 ?_
      refine r_iinc (j := 1) (ls2 := [(1, ai (v1 + (1 : Int32))), (0, ar v0)]) d_X_init_214 rfl (congrArg (HAdd.hAdd v1) kc_1) (nle rfl) rfl ?_
      refine r_goto d_X_init_217 ?_
      refine r_pick (ls2 := [(0, ar v0), (1, ai (v1 + (1 : Int32)))]) [1, 0] rfl ?_
      exact ih _ _ _ _ hw
set_option maxRecDepth 100000 in
set_option maxHeartbeats 4000000 in
theorem s_X_init {d : Nat} (hd : 3 ≤ d) {v0 : Nat} {bc bs : Nat} {h : Hp} {Q : Hp → Prop} {QQ : Option AV → Hp → Prop} (hw : w_X_init bc bs v0 h Q) (hQ : ∀ h9, Q h9 → QQ none h9) : aCall m_X_init d [ar v0] h bc bs QQ := by
  obtain ⟨d, rfl⟩ : ∃ d9, d = d9 + 1 := ⟨d - 1, by omega⟩
  refine aCall_in pl_X_init (nle rfl) ?_
  show aW none m_X_init (d + 1) 0 [(0, ar v0)] [] h bc bs QQ
  unfold w_X_init at hw
  refine r_aload_n (j := 0) d_X_init_0 rfl ?_
  obtain ⟨q1, hw⟩ := hw
  refine r_objInit d_X_init_1 ll_X_1 oi_1 oi_2 (nle rfl) q1 ?_
  refine r_aload_n (j := 0) d_X_init_4 rfl ?_
  obtain ⟨q2, hw⟩ := hw
  obtain ⟨b3, t4, u8, u9, hw⟩ := hw
  subst u8 u9
  refine r_new d_X_init_5 ok_10 (nle rfl) ty_10 lk_X_7 in_10 ini_10 (refB_r q2 refB_n) (refL_r q2 refL_n) ?_
  generalize e8 : nw h 10 0 = h5 at hw ⊢
  generalize e7 : gX h = a6 at hw ⊢
  replace hw := hw a6 h5 e7.symm e8.symm
  refine r_dup d_X_init_8 rfl ?_
  obtain ⟨q8, hw⟩ := hw
  obtain ⟨q9, hw⟩ := hw
  obtain ⟨q14, hw⟩ := hw
  obtain ⟨b10, t11, m12, m13, u8, u9, hw⟩ := hw
  subst u8 u9
  refine r_callN (av := []) (rest := [ar a6, ar v0]) d_X_init_9 mk_Tp_init (ni := 0) rfl (nle rfl) rfl im_Tp_init rfl rfl rfl rfl (nle rfl) (refB_r q9 (refB_r q8 refB_n)) (refL_r q8 refL_n) q14 (s_Tp_init (by omega) hw (fun h7 hw => ?_))
  show aW none m_X_init (d + 1) 12 [(0, ar v0)] [ar a6, ar v0] h7 b10 t11 QQ
  obtain ⟨q15, hw⟩ := hw
  obtain ⟨q16, hw⟩ := hw
  refine r_putFR d_X_init_12 ok_11 (nle rfl) (nle rfl) rfl lf_X_10 rfl rfl rfl q15 q16 ?_
  refine r_aload_n (j := 0) d_X_init_15 rfl ?_
  obtain ⟨q17, hw⟩ := hw
  obtain ⟨b18, t19, u8, u9, hw⟩ := hw
  subst u8 u9
  refine r_new d_X_init_16 ok_1 (nle rfl) ty_1 lk_X_16 in_1 ini_1 (refB_r q17 refB_n) (refL_r q17 refL_n) ?_
  generalize e8 : nw (sR h7 v0 0 a6) 1 0 = h20 at hw ⊢
  generalize e7 : gX (sR h7 v0 0 a6) = a21 at hw ⊢
  replace hw := hw a21 h20 e7.symm e8.symm
  refine r_dup d_X_init_19 rfl ?_
  obtain ⟨q23, hw⟩ := hw
  obtain ⟨q24, hw⟩ := hw
  obtain ⟨q29, hw⟩ := hw
  obtain ⟨b25, t26, m27, m28, u8, u9, hw⟩ := hw
  subst u8 u9
  refine r_callI (av := []) (rest := [ar a21, ar v0]) d_X_init_20 mk_Co_init ll_X_18 im_Co_init rfl rfl rfl rfl (nle rfl) (refB_r q24 (refB_r q23 refB_n)) (refL_r q23 refL_n) q29 (s_Co_init (by omega) hw (fun h22 hw => ?_))
  show aW none m_X_init (d + 1) 23 [(0, ar v0)] [ar a21, ar v0] h22 b25 t26 QQ
  obtain ⟨q30, hw⟩ := hw
  obtain ⟨q31, hw⟩ := hw
  refine r_putFR d_X_init_23 ok_11 (nle rfl) (nle rfl) rfl lf_X_19 rfl rfl rfl q30 q31 ?_
  refine r_aload_n (j := 0) d_X_init_26 rfl ?_
  obtain ⟨q32, hw⟩ := hw
  obtain ⟨b33, t34, u8, u9, hw⟩ := hw
  subst u8 u9
  refine r_new d_X_init_27 ok_1 (nle rfl) ty_1 lk_X_16 in_1 ini_1 (refB_r q32 refB_n) (refL_r q32 refL_n) ?_
  generalize e8 : nw (sR h22 v0 1 a21) 1 0 = h35 at hw ⊢
  generalize e7 : gX (sR h22 v0 1 a21) = a36 at hw ⊢
  replace hw := hw a36 h35 e7.symm e8.symm
  refine r_dup d_X_init_30 rfl ?_
  obtain ⟨q38, hw⟩ := hw
  obtain ⟨q39, hw⟩ := hw
  obtain ⟨q44, hw⟩ := hw
  obtain ⟨b40, t41, m42, m43, u8, u9, hw⟩ := hw
  subst u8 u9
  refine r_callI (av := []) (rest := [ar a36, ar v0]) d_X_init_31 mk_Co_init ll_X_18 im_Co_init rfl rfl rfl rfl (nle rfl) (refB_r q39 (refB_r q38 refB_n)) (refL_r q38 refL_n) q44 (s_Co_init (by omega) hw (fun h37 hw => ?_))
  show aW none m_X_init (d + 1) 34 [(0, ar v0)] [ar a36, ar v0] h37 b40 t41 QQ
  obtain ⟨q45, hw⟩ := hw
  obtain ⟨q46, hw⟩ := hw
  refine r_putFR d_X_init_34 ok_11 (nle rfl) (nle rfl) rfl lf_X_23 rfl rfl rfl q45 q46 ?_
  refine r_aload_n (j := 0) d_X_init_37 rfl ?_
  obtain ⟨q47, hw⟩ := hw
  obtain ⟨b48, t49, u8, u9, hw⟩ := hw
  subst u8 u9
  refine r_new d_X_init_38 ok_8 (nle rfl) ty_8 lk_X_26 in_8 ini_8 (refB_r q47 refB_n) (refL_r q47 refL_n) ?_
  generalize e8 : nw (sR h37 v0 2 a36) 8 0 = h50 at hw ⊢
  generalize e7 : gX (sR h37 v0 2 a36) = a51 at hw ⊢
  replace hw := hw a51 h50 e7.symm e8.symm
  refine r_dup d_X_init_41 rfl ?_
  refine r_aload_n (j := 0) d_X_init_42 rfl ?_
  obtain ⟨q52, hw⟩ := hw
  refine r_getR d_X_init_43 ok_11 (nle rfl) (nle rfl) rfl lf_X_10 q52 ?_
  obtain ⟨q54, hw⟩ := hw
  obtain ⟨q55, hw⟩ := hw
  obtain ⟨q60, hw⟩ := hw
  obtain ⟨b56, t57, m58, m59, u8, u9, hw⟩ := hw
  subst u8 u9
  refine r_callI (av := [ar (gR h50 v0 0)]) (rest := [ar a51, ar v0]) d_X_init_46 mk_Rd_init ll_X_28 im_Rd_init rfl rfl rfl rfl (nle rfl) (refB_r q55 (refB_r q54 refB_n)) (refL_r q54 refL_n) q60 (s_Rd_init (by omega) hw (fun h53 hw => ?_))
  show aW none m_X_init (d + 1) 49 [(0, ar v0)] [ar a51, ar v0] h53 b56 t57 QQ
  obtain ⟨q61, hw⟩ := hw
  obtain ⟨q62, hw⟩ := hw
  refine r_putFR d_X_init_49 ok_11 (nle rfl) (nle rfl) rfl lf_X_31 rfl rfl rfl q61 q62 ?_
  refine r_aload_n (j := 0) d_X_init_52 rfl ?_
  refine r_iconst d_X_init_53 kc_2 ?_
  obtain ⟨q63, hw⟩ := hw
  obtain ⟨b64, t65, u8, u9, u6, u7, hw⟩ := hw
  subst u8 u9
  refine r_newO d_X_init_54 lk_X_16 u6 rfl u7 (refB_r q63 refB_n) (refL_r q63 refL_n) ?_
  generalize e8 : nw (sR h53 v0 3 a51) 23 (ix (2 : Int32)) = h66 at hw ⊢
  generalize e7 : gX (sR h53 v0 3 a51) = a67 at hw ⊢
  replace hw := hw a67 h66 e7.symm e8.symm
  obtain ⟨q68, hw⟩ := hw
  obtain ⟨q69, hw⟩ := hw
  refine r_putFR d_X_init_57 ok_11 (nle rfl) (nle rfl) rfl lf_X_35 rfl rfl rfl q68 q69 ?_
  refine r_aload_n (j := 0) d_X_init_60 rfl ?_
  refine r_iconst d_X_init_61 kc_2 ?_
  obtain ⟨q70, hw⟩ := hw
  obtain ⟨b71, t72, u8, u9, u6, u7, hw⟩ := hw
  subst u8 u9
  refine r_newZ d_X_init_62 ac_Z u6 rfl u7 (refB_r q70 refB_n) (refL_r q70 refL_n) ?_
  generalize e8 : nw (sR h66 v0 4 a67) 22 (ix (2 : Int32)) = h73 at hw ⊢
  generalize e7 : gX (sR h66 v0 4 a67) = a74 at hw ⊢
  replace hw := hw a74 h73 e7.symm e8.symm
  obtain ⟨q75, hw⟩ := hw
  obtain ⟨q76, hw⟩ := hw
  refine r_putFR d_X_init_64 ok_11 (nle rfl) (nle rfl) rfl lf_X_39 rfl rfl rfl q75 q76 ?_
  refine r_aload_n (j := 0) d_X_init_67 rfl ?_
  obtain ⟨q77, hw⟩ := hw
  obtain ⟨b78, t79, u8, u9, hw⟩ := hw
  subst u8 u9
  refine r_new d_X_init_68 ok_0 (nle rfl) ty_0 lk_X_43 in_0 ini_0 (refB_r q77 refB_n) (refL_r q77 refL_n) ?_
  generalize e8 : nw (sR h73 v0 5 a74) 0 0 = h80 at hw ⊢
  generalize e7 : gX (sR h73 v0 5 a74) = a81 at hw ⊢
  replace hw := hw a81 h80 e7.symm e8.symm
  refine r_dup d_X_init_71 rfl ?_
  obtain ⟨q83, hw⟩ := hw
  obtain ⟨q84, hw⟩ := hw
  obtain ⟨q89, hw⟩ := hw
  obtain ⟨b85, t86, m87, m88, u8, u9, hw⟩ := hw
  subst u8 u9
  refine r_callN (av := []) (rest := [ar a81, ar v0]) d_X_init_72 mk_Ac_init (ni := 1) rfl (nle rfl) rfl im_Ac_init rfl rfl rfl rfl (nle rfl) (refB_r q84 (refB_r q83 refB_n)) (refL_r q83 refL_n) q89 (s_Ac_init (by omega) hw (fun h82 hw => ?_))
  show aW none m_X_init (d + 1) 75 [(0, ar v0)] [ar a81, ar v0] h82 b85 t86 QQ
  obtain ⟨q90, hw⟩ := hw
  obtain ⟨q91, hw⟩ := hw
  refine r_putFR d_X_init_75 ok_11 (nle rfl) (nle rfl) rfl lf_X_46 rfl rfl rfl q90 q91 ?_
  refine r_aload_n (j := 0) d_X_init_78 rfl ?_
  obtain ⟨q92, hw⟩ := hw
  obtain ⟨b93, t94, u8, u9, hw⟩ := hw
  subst u8 u9
  refine r_new d_X_init_79 ok_7 (nle rfl) ty_7 lk_X_50 in_7 ini_7 (refB_r q92 refB_n) (refL_r q92 refL_n) ?_
  generalize e8 : nw (sR h82 v0 6 a81) 7 0 = h95 at hw ⊢
  generalize e7 : gX (sR h82 v0 6 a81) = a96 at hw ⊢
  replace hw := hw a96 h95 e7.symm e8.symm
  refine r_dup d_X_init_82 rfl ?_
  obtain ⟨q98, hw⟩ := hw
  obtain ⟨q99, hw⟩ := hw
  obtain ⟨q104, hw⟩ := hw
  obtain ⟨b100, t101, m102, m103, u8, u9, hw⟩ := hw
  subst u8 u9
  refine r_callN (av := []) (rest := [ar a96, ar v0]) d_X_init_83 mk_Ps_init (ni := 2) rfl (nle rfl) rfl im_Ps_init rfl rfl rfl rfl (nle rfl) (refB_r q99 (refB_r q98 refB_n)) (refL_r q98 refL_n) q104 (s_Ps_init (by omega) hw (fun h97 hw => ?_))
  show aW none m_X_init (d + 1) 86 [(0, ar v0)] [ar a96, ar v0] h97 b100 t101 QQ
  obtain ⟨q105, hw⟩ := hw
  obtain ⟨q106, hw⟩ := hw
  refine r_putFR d_X_init_86 ok_11 (nle rfl) (nle rfl) rfl lf_X_53 rfl rfl rfl q105 q106 ?_
  refine r_aload_n (j := 0) d_X_init_89 rfl ?_
  obtain ⟨q107, hw⟩ := hw
  obtain ⟨b108, t109, u8, u9, hw⟩ := hw
  subst u8 u9
  refine r_new d_X_init_90 ok_9 (nle rfl) ty_9 lk_X_57 in_9 ini_9 (refB_r q107 refB_n) (refL_r q107 refL_n) ?_
  generalize e8 : nw (sR h97 v0 7 a96) 9 0 = h110 at hw ⊢
  generalize e7 : gX (sR h97 v0 7 a96) = a111 at hw ⊢
  replace hw := hw a111 h110 e7.symm e8.symm
  refine r_dup d_X_init_93 rfl ?_
  refine r_aload_n (j := 0) d_X_init_94 rfl ?_
  obtain ⟨q112, hw⟩ := hw
  refine r_getR d_X_init_95 ok_11 (nle rfl) (nle rfl) rfl lf_X_23 q112 ?_
  obtain ⟨q114, hw⟩ := hw
  obtain ⟨q115, hw⟩ := hw
  obtain ⟨q120, hw⟩ := hw
  obtain ⟨b116, t117, m118, m119, u8, u9, hw⟩ := hw
  subst u8 u9
  refine r_callI (av := [ar (gR h110 v0 2)]) (rest := [ar a111, ar v0]) d_X_init_98 mk_St_init ll_X_59 im_St_init rfl rfl rfl rfl (nle rfl) (refB_r q115 (refB_r q114 refB_n)) (refL_r q114 refL_n) q120 (s_St_init (by omega) hw (fun h113 hw => ?_))
  show aW none m_X_init (d + 1) 101 [(0, ar v0)] [ar a111, ar v0] h113 b116 t117 QQ
  obtain ⟨q121, hw⟩ := hw
  obtain ⟨q122, hw⟩ := hw
  refine r_putFR d_X_init_101 ok_11 (nle rfl) (nle rfl) rfl lf_X_62 rfl rfl rfl q121 q122 ?_
  refine r_aload_n (j := 0) d_X_init_104 rfl ?_
  obtain ⟨q123, hw⟩ := hw
  obtain ⟨b124, t125, u8, u9, hw⟩ := hw
  subst u8 u9
  refine r_new d_X_init_105 ok_6 (nle rfl) ty_6 lk_X_66 in_6 ini_6 (refB_r q123 refB_n) (refL_r q123 refL_n) ?_
  generalize e8 : nw (sR h113 v0 8 a111) 6 0 = h126 at hw ⊢
  generalize e7 : gX (sR h113 v0 8 a111) = a127 at hw ⊢
  replace hw := hw a127 h126 e7.symm e8.symm
  refine r_dup d_X_init_108 rfl ?_
  refine r_aload_n (j := 0) d_X_init_109 rfl ?_
  obtain ⟨q128, hw⟩ := hw
  refine r_getR d_X_init_110 ok_11 (nle rfl) (nle rfl) rfl lf_X_23 q128 ?_
  refine r_aload_n (j := 0) d_X_init_113 rfl ?_
  refine r_getR d_X_init_114 ok_11 (nle rfl) (nle rfl) rfl lf_X_53 q128 ?_
  obtain ⟨q130, hw⟩ := hw
  obtain ⟨q131, hw⟩ := hw
  obtain ⟨q136, hw⟩ := hw
  obtain ⟨b132, t133, m134, m135, u8, u9, hw⟩ := hw
  subst u8 u9
  refine r_callI (av := [ar (gR h126 v0 2), ar (gR h126 v0 7)]) (rest := [ar a127, ar v0]) d_X_init_117 mk_Op_init ll_X_68 im_Op_init rfl rfl rfl rfl (nle rfl) (refB_r q131 (refB_r q130 refB_n)) (refL_r q130 refL_n) q136 (s_Op_init (by omega) hw (fun h129 hw => ?_))
  show aW none m_X_init (d + 1) 120 [(0, ar v0)] [ar a127, ar v0] h129 b132 t133 QQ
  obtain ⟨q137, hw⟩ := hw
  obtain ⟨q138, hw⟩ := hw
  refine r_putFR d_X_init_120 ok_11 (nle rfl) (nle rfl) rfl lf_X_71 rfl rfl rfl q137 q138 ?_
  refine r_aload_n (j := 0) d_X_init_123 rfl ?_
  obtain ⟨q139, hw⟩ := hw
  obtain ⟨b140, t141, u8, u9, hw⟩ := hw
  subst u8 u9
  refine r_new d_X_init_124 ok_2 (nle rfl) ty_2 lk_X_75 in_2 ini_2 (refB_r q139 refB_n) (refL_r q139 refL_n) ?_
  generalize e8 : nw (sR h129 v0 9 a127) 2 0 = h142 at hw ⊢
  generalize e7 : gX (sR h129 v0 9 a127) = a143 at hw ⊢
  replace hw := hw a143 h142 e7.symm e8.symm
  refine r_dup d_X_init_127 rfl ?_
  refine r_aload_n (j := 0) d_X_init_128 rfl ?_
  obtain ⟨q144, hw⟩ := hw
  refine r_getR d_X_init_129 ok_11 (nle rfl) (nle rfl) rfl lf_X_23 q144 ?_
  obtain ⟨q146, hw⟩ := hw
  obtain ⟨q147, hw⟩ := hw
  obtain ⟨q152, hw⟩ := hw
  obtain ⟨b148, t149, m150, m151, u8, u9, hw⟩ := hw
  subst u8 u9
  refine r_callI (av := [ar (gR h142 v0 2)]) (rest := [ar a143, ar v0]) d_X_init_132 mk_Cr_init ll_X_77 im_Cr_init rfl rfl rfl rfl (nle rfl) (refB_r q147 (refB_r q146 refB_n)) (refL_r q146 refL_n) q152 (s_Cr_init (by omega) hw (fun h145 hw => ?_))
  show aW none m_X_init (d + 1) 135 [(0, ar v0)] [ar a143, ar v0] h145 b148 t149 QQ
  obtain ⟨q153, hw⟩ := hw
  obtain ⟨q154, hw⟩ := hw
  refine r_putFR d_X_init_135 ok_11 (nle rfl) (nle rfl) rfl lf_X_78 rfl rfl rfl q153 q154 ?_
  refine r_aload_n (j := 0) d_X_init_138 rfl ?_
  obtain ⟨q155, hw⟩ := hw
  obtain ⟨b156, t157, u8, u9, hw⟩ := hw
  subst u8 u9
  refine r_new d_X_init_139 ok_4 (nle rfl) ty_4 lk_X_82 in_4 ini_4 (refB_r q155 refB_n) (refL_r q155 refL_n) ?_
  generalize e8 : nw (sR h145 v0 10 a143) 4 0 = h158 at hw ⊢
  generalize e7 : gX (sR h145 v0 10 a143) = a159 at hw ⊢
  replace hw := hw a159 h158 e7.symm e8.symm
  refine r_dup d_X_init_142 rfl ?_
  refine r_aload_n (j := 0) d_X_init_143 rfl ?_
  obtain ⟨q160, hw⟩ := hw
  refine r_getR d_X_init_144 ok_11 (nle rfl) (nle rfl) rfl lf_X_23 q160 ?_
  obtain ⟨q162, hw⟩ := hw
  obtain ⟨q163, hw⟩ := hw
  obtain ⟨q168, hw⟩ := hw
  obtain ⟨b164, t165, m166, m167, u8, u9, hw⟩ := hw
  subst u8 u9
  refine r_callI (av := [ar (gR h158 v0 2)]) (rest := [ar a159, ar v0]) d_X_init_147 mk_Ex_init ll_X_84 im_Ex_init rfl rfl rfl rfl (nle rfl) (refB_r q163 (refB_r q162 refB_n)) (refL_r q162 refL_n) q168 (s_Ex_init (by omega) hw (fun h161 hw => ?_))
  show aW none m_X_init (d + 1) 150 [(0, ar v0)] [ar a159, ar v0] h161 b164 t165 QQ
  obtain ⟨q169, hw⟩ := hw
  obtain ⟨q170, hw⟩ := hw
  refine r_putFR d_X_init_150 ok_11 (nle rfl) (nle rfl) rfl lf_X_85 rfl rfl rfl q169 q170 ?_
  refine r_aload_n (j := 0) d_X_init_153 rfl ?_
  obtain ⟨q171, hw⟩ := hw
  obtain ⟨b172, t173, u8, u9, hw⟩ := hw
  subst u8 u9
  refine r_new d_X_init_154 ok_3 (nle rfl) ty_3 lk_X_89 in_3 ini_3 (refB_r q171 refB_n) (refL_r q171 refL_n) ?_
  generalize e8 : nw (sR h161 v0 11 a159) 3 0 = h174 at hw ⊢
  generalize e7 : gX (sR h161 v0 11 a159) = a175 at hw ⊢
  replace hw := hw a175 h174 e7.symm e8.symm
  refine r_dup d_X_init_157 rfl ?_
  refine r_aload_n (j := 0) d_X_init_158 rfl ?_
  obtain ⟨q176, hw⟩ := hw
  refine r_getR d_X_init_159 ok_11 (nle rfl) (nle rfl) rfl lf_X_23 q176 ?_
  obtain ⟨q178, hw⟩ := hw
  obtain ⟨q179, hw⟩ := hw
  obtain ⟨q184, hw⟩ := hw
  obtain ⟨b180, t181, m182, m183, u8, u9, hw⟩ := hw
  subst u8 u9
  refine r_callI (av := [ar (gR h174 v0 2)]) (rest := [ar a175, ar v0]) d_X_init_162 mk_Db_init ll_X_91 im_Db_init rfl rfl rfl rfl (nle rfl) (refB_r q179 (refB_r q178 refB_n)) (refL_r q178 refL_n) q184 (s_Db_init (by omega) hw (fun h177 hw => ?_))
  show aW none m_X_init (d + 1) 165 [(0, ar v0)] [ar a175, ar v0] h177 b180 t181 QQ
  obtain ⟨q185, hw⟩ := hw
  obtain ⟨q186, hw⟩ := hw
  refine r_putFR d_X_init_165 ok_11 (nle rfl) (nle rfl) rfl lf_X_92 rfl rfl rfl q185 q186 ?_
  refine r_aload_n (j := 0) d_X_init_168 rfl ?_
  obtain ⟨q187, hw⟩ := hw
  obtain ⟨b188, t189, u8, u9, hw⟩ := hw
  subst u8 u9
  refine r_new d_X_init_169 ok_5 (nle rfl) ty_5 lk_X_96 in_5 ini_5 (refB_r q187 refB_n) (refL_r q187 refL_n) ?_
  generalize e8 : nw (sR h177 v0 12 a175) 5 0 = h190 at hw ⊢
  generalize e7 : gX (sR h177 v0 12 a175) = a191 at hw ⊢
  replace hw := hw a191 h190 e7.symm e8.symm
  refine r_dup d_X_init_172 rfl ?_
  refine r_aload_n (j := 0) d_X_init_173 rfl ?_
  obtain ⟨q192, hw⟩ := hw
  refine r_getR d_X_init_174 ok_11 (nle rfl) (nle rfl) rfl lf_X_19 q192 ?_
  refine r_aload_n (j := 0) d_X_init_177 rfl ?_
  refine r_getR d_X_init_178 ok_11 (nle rfl) (nle rfl) rfl lf_X_53 q192 ?_
  obtain ⟨q194, hw⟩ := hw
  obtain ⟨q195, hw⟩ := hw
  obtain ⟨q200, hw⟩ := hw
  obtain ⟨b196, t197, m198, m199, u8, u9, hw⟩ := hw
  subst u8 u9
  refine r_callI (av := [ar (gR h190 v0 1), ar (gR h190 v0 7)]) (rest := [ar a191, ar v0]) d_X_init_181 mk_Kn_init ll_X_98 im_Kn_init rfl rfl rfl rfl (nle rfl) (refB_r q195 (refB_r q194 refB_n)) (refL_r q194 refL_n) q200 (s_Kn_init (by omega) hw (fun h193 hw => ?_))
  show aW none m_X_init (d + 1) 184 [(0, ar v0)] [ar a191, ar v0] h193 b196 t197 QQ
  obtain ⟨q201, hw⟩ := hw
  obtain ⟨q202, hw⟩ := hw
  refine r_putFR d_X_init_184 ok_11 (nle rfl) (nle rfl) rfl lf_X_99 rfl rfl rfl q201 q202 ?_
  refine r_aload_n (j := 0) d_X_init_187 rfl ?_
  refine r_iconst d_X_init_188 kc_3 ?_
  obtain ⟨q203, hw⟩ := hw
  obtain ⟨b204, t205, u8, u9, u6, u7, hw⟩ := hw
  subst u8 u9
  refine r_newI d_X_init_189 ac_I u6 rfl u7 (refB_r q203 refB_n) (refL_r q203 refL_n) ?_
  generalize e8 : nw (sR h193 v0 13 a191) 20 (ix (3 : Int32)) = h206 at hw ⊢
  generalize e7 : gX (sR h193 v0 13 a191) = a207 at hw ⊢
  replace hw := hw a207 h206 e7.symm e8.symm
  obtain ⟨q208, hw⟩ := hw
  obtain ⟨q209, hw⟩ := hw
  refine r_putFR d_X_init_191 ok_11 (nle rfl) (nle rfl) rfl lf_X_103 rfl rfl rfl q208 q209 ?_
  refine r_iconst d_X_init_194 kc_0 ?_
  refine r_istore_n (ls2 := [(1, ai (0 : Int32)), (0, ar v0)]) d_X_init_195 (nle rfl) rfl ?_
  obtain ⟨n229, hw⟩ := hw
  refine r_pick (ls2 := [(0, ar v0), (1, ai (0 : Int32))]) [1, 0] rfl ?_
  exact s_X_init_L196 hd hQ  n229 _ _ _ _ hw
set_option maxRecDepth 100000 in
set_option maxHeartbeats 4000000 in
theorem s_X_feed {d : Nat} (hd : 1 ≤ d) {v0 : Nat} {v1 : Int32} {v2 : Int32} {v3 : Int32} {v4 : Int32} {v5 : Int32} {h : Hp} {Q : Int32 → Hp → Prop} {QQ : Option AV → Hp → Prop} (hw : w_X_feed v0 v1 v2 v3 v4 v5 h Q) (hQ : ∀ r9 h9, Q r9 h9 → QQ (some (ai r9)) h9) : aCall m_X_feed d [ar v0, ai v1, ai v2, ai v3, ai v4, ai v5] h 0 0 QQ := by
  obtain ⟨d, rfl⟩ : ∃ d9, d = d9 + 1 := ⟨d - 1, by omega⟩
  refine aCall_in pl_X_feed (nle rfl) ?_
  show aW none m_X_feed (d + 1) 0 [(0, ar v0), (1, ai v1), (2, ai v2), (3, ai v3), (4, ai v4), (5, ai v5)] [] h 0 0 QQ
  unfold w_X_feed at hw
  refine r_aload_n (j := 0) d_X_feed_0 rfl ?_
  obtain ⟨q1, hw⟩ := hw
  refine r_getR d_X_feed_1 ok_11 (nle rfl) (nle rfl) rfl lf_X_10 q1 ?_
  obtain ⟨q2, hw⟩ := hw
  refine r_getI d_X_feed_4 ok_10 (nle rfl) (nle rfl) rfl lf_X_107 q2 ?_
  refine r_bipush d_X_feed_7 kb_20 ?_
  refine r_iadd d_X_feed_9 ?_
  refine r_sipush d_X_feed_10 ks_700 ?_
  refine r_icmp_le d_X_feed_13 (fun w9 => ?_) (fun w9 => ?_)
  · replace hw := hw.1 w9
    refine r_aload_n (j := 0) d_X_feed_18 rfl ?_
    refine r_getR d_X_feed_19 ok_11 (nle rfl) (nle rfl) rfl lf_X_10 q1 ?_
    refine r_iload_n (j := 1) d_X_feed_22 rfl ?_
    refine r_callV (av := [ai v1]) (rest := []) (ci := 10) d_X_feed_23 mk_Tp_put ll_X_111 im_Tp_put se_Tp_put rfl (nle rfl) rfl rfl (nle rfl) q2 (s_Tp_put  hw (fun h3 hw => ?_))
    show aW none m_X_feed (d + 1) 26 [(0, ar v0), (1, ai v1), (2, ai v2), (3, ai v3), (4, ai v4), (5, ai v5)] [] h3 0 0 QQ
    refine r_aload_n (j := 0) d_X_feed_26 rfl ?_
    obtain ⟨q4, hw⟩ := hw
    refine r_getR d_X_feed_27 ok_11 (nle rfl) (nle rfl) rfl lf_X_10 q4 ?_
    refine r_iload_n (j := 2) d_X_feed_30 rfl ?_
    obtain ⟨q6, hw⟩ := hw
    refine r_callV (av := [ai v2]) (rest := []) (ci := 10) d_X_feed_31 mk_Tp_put ll_X_111 im_Tp_put se_Tp_put rfl (nle rfl) rfl rfl (nle rfl) q6 (s_Tp_put  hw (fun h5 hw => ?_))
    show aW none m_X_feed (d + 1) 34 [(0, ar v0), (1, ai v1), (2, ai v2), (3, ai v3), (4, ai v4), (5, ai v5)] [] h5 0 0 QQ
    refine r_aload_n (j := 0) d_X_feed_34 rfl ?_
    obtain ⟨q7, hw⟩ := hw
    refine r_getR d_X_feed_35 ok_11 (nle rfl) (nle rfl) rfl lf_X_10 q7 ?_
    refine r_iload_n (j := 3) d_X_feed_38 rfl ?_
    obtain ⟨q9, hw⟩ := hw
    refine r_callV (av := [ai v3]) (rest := []) (ci := 10) d_X_feed_39 mk_Tp_put ll_X_111 im_Tp_put se_Tp_put rfl (nle rfl) rfl rfl (nle rfl) q9 (s_Tp_put  hw (fun h8 hw => ?_))
    show aW none m_X_feed (d + 1) 42 [(0, ar v0), (1, ai v1), (2, ai v2), (3, ai v3), (4, ai v4), (5, ai v5)] [] h8 0 0 QQ
    refine r_aload_n (j := 0) d_X_feed_42 rfl ?_
    obtain ⟨q10, hw⟩ := hw
    refine r_getR d_X_feed_43 ok_11 (nle rfl) (nle rfl) rfl lf_X_10 q10 ?_
    refine r_iload (j := 4) d_X_feed_46 rfl ?_
    obtain ⟨q12, hw⟩ := hw
    refine r_callV (av := [ai v4]) (rest := []) (ci := 10) d_X_feed_48 mk_Tp_put ll_X_111 im_Tp_put se_Tp_put rfl (nle rfl) rfl rfl (nle rfl) q12 (s_Tp_put  hw (fun h11 hw => ?_))
    show aW none m_X_feed (d + 1) 51 [(0, ar v0), (1, ai v1), (2, ai v2), (3, ai v3), (4, ai v4), (5, ai v5)] [] h11 0 0 QQ
    refine r_aload_n (j := 0) d_X_feed_51 rfl ?_
    obtain ⟨q13, hw⟩ := hw
    refine r_getR d_X_feed_52 ok_11 (nle rfl) (nle rfl) rfl lf_X_10 q13 ?_
    refine r_iload (j := 5) d_X_feed_55 rfl ?_
    obtain ⟨q15, hw⟩ := hw
    refine r_callV (av := [ai v5]) (rest := []) (ci := 10) d_X_feed_57 mk_Tp_put ll_X_111 im_Tp_put se_Tp_put rfl (nle rfl) rfl rfl (nle rfl) q15 (s_Tp_put  hw (fun h14 hw => ?_))
    show aW none m_X_feed (d + 1) 60 [(0, ar v0), (1, ai v1), (2, ai v2), (3, ai v3), (4, ai v4), (5, ai v5)] [] h14 0 0 QQ
    refine r_aload_n (j := 0) d_X_feed_60 rfl ?_
    obtain ⟨q16, hw⟩ := hw
    refine r_getR d_X_feed_61 ok_11 (nle rfl) (nle rfl) rfl lf_X_10 q16 ?_
    obtain ⟨q17, hw⟩ := hw
    refine r_getI d_X_feed_64 ok_10 (nle rfl) (nle rfl) rfl lf_X_107 q17 ?_
    exact r_ireturn d_X_feed_67.1 rfl (hQ _ _ hw)
  · replace hw := hw.2 w9
    refine r_iconst d_X_feed_16 kc_m1 ?_
    exact r_ireturn d_X_feed_17.1 rfl (hQ _ _ hw)
set_option maxRecDepth 100000 in
set_option maxHeartbeats 4000000 in
theorem s_X_end {d : Nat} {v0 : Nat} {v1 : Int32} {h : Hp} {Q : Int32 → Hp → Prop} {QQ : Option AV → Hp → Prop} (hw : w_X_end v0 v1 h Q) (hQ : ∀ r9 h9, Q r9 h9 → QQ (some (ai r9)) h9) : aCall m_X_end d [ar v0, ai v1] h 0 0 QQ := by
  refine aCall_in pl_X_end (nle rfl) ?_
  show aW none m_X_end d 0 [(0, ar v0), (1, ai v1)] [] h 0 0 QQ
  unfold w_X_end at hw
  refine r_iload_n (j := 1) d_X_end_0 rfl ?_
  refine r_if_lt d_X_end_1 (fun w9 => ?_) (fun w9 => ?_)
  · replace hw := hw.1 w9
    refine r_iconst d_X_end_15 kc_m1 ?_
    exact r_ireturn d_X_end_16.1 rfl (hQ _ _ hw)
  · replace hw := hw.2 w9
    refine r_iload_n (j := 1) d_X_end_4 rfl ?_
    refine r_aload_n (j := 0) d_X_end_5 rfl ?_
    obtain ⟨q1, hw⟩ := hw
    refine r_getR d_X_end_6 ok_11 (nle rfl) (nle rfl) rfl lf_X_10 q1 ?_
    obtain ⟨q2, hw⟩ := hw
    refine r_getI d_X_end_9 ok_10 (nle rfl) (nle rfl) rfl lf_X_107 q2 ?_
    refine r_icmp_le d_X_end_12 (fun w9 => ?_) (fun w9 => ?_)
    · replace hw := hw.1 w9
      refine r_aload_n (j := 0) d_X_end_17 rfl ?_
      refine r_getR d_X_end_18 ok_11 (nle rfl) (nle rfl) rfl lf_X_10 q1 ?_
      refine r_iload_n (j := 1) d_X_end_21 rfl ?_
      refine r_putI d_X_end_22 ok_10 (nle rfl) (nle rfl) rfl lf_X_107 rfl q2 ?_
      refine r_iload_n (j := 1) d_X_end_25 rfl ?_
      exact r_ireturn d_X_end_26.1 rfl (hQ _ _ hw)
    · replace hw := hw.2 w9
      refine r_iconst d_X_end_15 kc_m1 ?_
      exact r_ireturn d_X_end_16.1 rfl (hQ _ _ hw)
set_option maxRecDepth 100000 in
set_option maxHeartbeats 4000000 in
theorem s_X_program_L66 {d : Nat} (hd : 10 ≤ d + 1) {Q : Int32 → Hp → Prop} {QQ : Option AV → Hp → Prop} (hQ : ∀ r9 h9, Q r9 h9 → QQ (some (ai r9)) h9) {v0 : Nat} : ∀ (n : Nat) (v2 : Int32) (h : Hp), w_X_program_L66 Q  v0 n v2 h → aW none m_X_program (d + 1) 66 [(0, ar v0), (2, ai v2)] [] h 0 0 QQ := by
  intro n
  induction n with
  | zero => intro v2 h hw; exact hw.elim
  | succ n ih =>
    intro v2 h hw
    unfold w_X_program_L66 at hw
    refine r_iload_n (j := 1) d_X_program_66 rfl ?_
    refine r_iconst d_X_program_67 kc_2 ?_
    refine r_icmp_ge d_X_program_68 (fun w9 => ?_) (fun w9 => ?_)
    · replace hw := hw.1 w9
      refine r_aload_n (j := 0) d_X_program_84 rfl ?_
      obtain ⟨q20, hw⟩ := hw
      refine r_getR d_X_program_85 ok_11 (nle rfl) (nle rfl) rfl lf_X_23 q20 ?_
      obtain ⟨q21, hw⟩ := hw
      refine r_getI d_X_program_88 ok_1 (nle rfl) (nle rfl) rfl lf_X_129 q21 ?_
      exact r_ireturn d_X_program_91.1 rfl (hQ _ _ hw)
    · replace hw := hw.2 w9
      refine r_aload_n (j := 0) d_X_program_71 rfl ?_
      obtain ⟨q22, hw⟩ := hw
      refine r_getR d_X_program_72 ok_11 (nle rfl) (nle rfl) rfl lf_X_39 q22 ?_
      refine r_iload_n (j := 1) d_X_program_75 rfl ?_
      refine r_iconst d_X_program_76 kc_0 ?_
      obtain ⟨q23, hw⟩ := hw
      obtain ⟨q24, hw⟩ := hw
      refine r_zast d_X_program_77 q23 q24 (Or.inl rfl) ?_
      refine r_iinc (j := 1) (ls2 := [(2, ai (v2 + (1 : Int32))), (0, ar v0)]) d_X_program_78 rfl (congrArg (HAdd.hAdd v2) kc_1) (nle rfl) rfl ?_
      refine r_goto d_X_program_81 ?_
      refine r_pick (ls2 := [(0, ar v0), (2, ai (v2 + (1 : Int32)))]) [1, 0] rfl ?_
      exact ih _ _ hw
set_option maxRecDepth 100000 in
set_option maxHeartbeats 4000000 in
theorem s_X_program {d : Nat} (hd : 10 ≤ d) {v0 : Nat} {h : Hp} {Q : Int32 → Hp → Prop} {QQ : Option AV → Hp → Prop} (hw : w_X_program v0 h Q) (hQ : ∀ r9 h9, Q r9 h9 → QQ (some (ai r9)) h9) : aCall m_X_program d [ar v0] h 0 0 QQ := by
  obtain ⟨d, rfl⟩ : ∃ d9, d = d9 + 1 := ⟨d - 1, by omega⟩
  refine aCall_in pl_X_program (nle rfl) ?_
  show aW none m_X_program (d + 1) 0 [(0, ar v0)] [] h 0 0 QQ
  unfold w_X_program at hw
  refine r_aload_n (j := 0) d_X_program_0 rfl ?_
  obtain ⟨q1, hw⟩ := hw
  refine r_getR d_X_program_1 ok_11 (nle rfl) (nle rfl) rfl lf_X_31 q1 ?_
  obtain ⟨q4, hw⟩ := hw
  refine r_callV (av := []) (rest := []) (ci := 8) d_X_program_4 mk_Rd_read ll_X_115 im_Rd_read se_Rd_read rfl (nle rfl) rfl rfl (nle rfl) q4 (s_Rd_read (by omega) hw (fun r3 h2 hw => ?_))
  show aW none m_X_program (d + 1) 7 [(0, ar v0)] [ai (b2i r3)] h2 0 0 QQ
  refine r_istore_n (ls2 := [(1, ai (b2i r3)), (0, ar v0)]) d_X_program_7 (nle rfl) rfl ?_
  refine r_aload_n (j := 1) d_X_program_8 rfl ?_
  obtain ⟨q5, hw⟩ := hw
  refine r_getR d_X_program_9 ok_11 (nle rfl) (nle rfl) rfl lf_X_10 q5 ?_
  refine r_iconst d_X_program_12 kc_0 ?_
  obtain ⟨q6, hw⟩ := hw
  refine r_putI d_X_program_13 ok_10 (nle rfl) (nle rfl) rfl lf_X_107 rfl q6 ?_
  refine r_iload_n (j := 0) d_X_program_16 rfl ?_
  refine r_if_ne d_X_program_17 (fun w9 => ?_) (fun w9 => ?_)
  · replace hw := hw.2 w9
    refine r_aload_n (j := 1) d_X_program_22 rfl ?_
    refine r_getR d_X_program_23 ok_11 (nle rfl) (nle rfl) rfl lf_X_19 q5 ?_
    refine r_aload_n (j := 1) d_X_program_26 rfl ?_
    refine r_getR d_X_program_27 ok_11 (nle rfl) (nle rfl) rfl lf_X_31 q5 ?_
    obtain ⟨q7, hw⟩ := hw
    refine r_getR d_X_program_30 ok_8 (nle rfl) (nle rfl) rfl lf_X_119 q7 ?_
    obtain ⟨q9, hw⟩ := hw
    refine r_callV (av := [ar (gR h2 (gR h2 v0 3) 1)]) (rest := []) (ci := 1) d_X_program_33 mk_Co_copyFrom ll_X_122 im_Co_copyFrom se_Co_copyFrom rfl (nle rfl) rfl rfl (nle rfl) q9 (s_Co_copyFrom (by omega) hw (fun h8 hw => ?_))
    show aW none m_X_program (d + 1) 36 [(1, ai (b2i r3)), (0, ar v0)] [] h8 0 0 QQ
    refine r_aload_n (j := 1) d_X_program_36 rfl ?_
    obtain ⟨q10, hw⟩ := hw
    refine r_getR d_X_program_37 ok_11 (nle rfl) (nle rfl) rfl lf_X_23 q10 ?_
    refine r_aload_n (j := 1) d_X_program_40 rfl ?_
    refine r_getR d_X_program_41 ok_11 (nle rfl) (nle rfl) rfl lf_X_31 q10 ?_
    obtain ⟨q11, hw⟩ := hw
    refine r_getR d_X_program_44 ok_8 (nle rfl) (nle rfl) rfl lf_X_119 q11 ?_
    obtain ⟨q13, hw⟩ := hw
    refine r_callV (av := [ar (gR h8 (gR h8 v0 3) 1)]) (rest := []) (ci := 1) d_X_program_47 mk_Co_copyFrom ll_X_122 im_Co_copyFrom se_Co_copyFrom rfl (nle rfl) rfl rfl (nle rfl) q13 (s_Co_copyFrom (by omega) hw (fun h12 hw => ?_))
    show aW none m_X_program (d + 1) 50 [(1, ai (b2i r3)), (0, ar v0)] [] h12 0 0 QQ
    refine r_aload_n (j := 1) d_X_program_50 rfl ?_
    obtain ⟨q14, hw⟩ := hw
    refine r_getR d_X_program_51 ok_11 (nle rfl) (nle rfl) rfl lf_X_46 q14 ?_
    obtain ⟨q16, hw⟩ := hw
    refine r_callV (av := []) (rest := []) (ci := 0) d_X_program_54 mk_Ac_forget ll_X_125 im_Ac_forget se_Ac_forget rfl (nle rfl) rfl rfl (nle rfl) q16 (s_Ac_forget  hw (fun h15 hw => ?_))
    show aW none m_X_program (d + 1) 57 [(1, ai (b2i r3)), (0, ar v0)] [] h15 0 0 QQ
    refine r_aload_n (j := 1) d_X_program_57 rfl ?_
    obtain ⟨q17, hw⟩ := hw
    refine r_getR d_X_program_58 ok_11 (nle rfl) (nle rfl) rfl lf_X_99 q17 ?_
    obtain ⟨q19, hw⟩ := hw
    refine r_callV (av := []) (rest := []) (ci := 5) d_X_program_61 mk_Kn_forget ll_X_128 im_Kn_forget se_Kn_forget rfl (nle rfl) rfl rfl (nle rfl) q19 (s_Kn_forget  hw (fun h18 hw => ?_))
    show aW none m_X_program (d + 1) 64 [(1, ai (b2i r3)), (0, ar v0)] [] h18 0 0 QQ
    refine r_iconst d_X_program_64 kc_0 ?_
    refine r_istore_n (ls2 := [(2, ai (0 : Int32)), (1, ai (b2i r3)), (0, ar v0)]) d_X_program_65 (nle rfl) rfl ?_
    obtain ⟨n25, hw⟩ := hw
    refine r_pick (ls2 := [(0, ar v0), (2, ai (0 : Int32))]) [2, 0] rfl ?_
    exact s_X_program_L66 hd hQ  n25 _ _ hw
  · replace hw := hw.1 w9
    refine r_iconst d_X_program_20 kc_m1 ?_
    exact r_ireturn d_X_program_21.1 rfl (hQ _ _ hw)
set_option maxRecDepth 100000 in
set_option maxHeartbeats 4000000 in
theorem s_X_fault {d : Nat} {v0 : Nat} {v1 : Int32} {h : Hp} {Q : Int32 → Hp → Prop} {QQ : Option AV → Hp → Prop} (hw : w_X_fault v0 v1 h Q) (hQ : ∀ r9 h9, Q r9 h9 → QQ (some (ai r9)) h9) : aCall m_X_fault d [ar v0, ai v1] h 0 0 QQ := by
  refine aCall_in pl_X_fault (nle rfl) ?_
  show aW none m_X_fault d 0 [(0, ar v0), (1, ai v1)] [] h 0 0 QQ
  unfold w_X_fault at hw
  refine r_iload_n (j := 1) d_X_fault_0 rfl ?_
  refine r_if_ne d_X_fault_1 (fun w9 => ?_) (fun w9 => ?_)
  · replace hw := hw.2 w9
    refine r_iload_n (j := 1) d_X_fault_12 rfl ?_
    refine r_iconst d_X_fault_13 kc_1 ?_
    refine r_icmp_ne d_X_fault_14 (fun w9 => ?_) (fun w9 => ?_)
    · replace hw := hw.2 w9
      refine r_iconst d_X_fault_27 kc_m1 ?_
      exact r_ireturn d_X_fault_28.1 rfl (hQ _ _ hw)
    · replace hw := hw.1 w9
      refine r_aload_n (j := 0) d_X_fault_17 rfl ?_
      obtain ⟨q1, hw⟩ := hw
      refine r_getR d_X_fault_18 ok_11 (nle rfl) (nle rfl) rfl lf_X_31 q1 ?_
      obtain ⟨q2, hw⟩ := hw
      refine r_getI d_X_fault_21 ok_8 (nle rfl) (nle rfl) rfl lf_X_135 q2 ?_
      refine r_goto d_X_fault_24 ?_
      exact r_ireturn d_X_fault_28.1 rfl (hQ _ _ hw)
  · replace hw := hw.1 w9
    refine r_aload_n (j := 0) d_X_fault_4 rfl ?_
    obtain ⟨q3, hw⟩ := hw
    refine r_getR d_X_fault_5 ok_11 (nle rfl) (nle rfl) rfl lf_X_31 q3 ?_
    obtain ⟨q4, hw⟩ := hw
    refine r_getI d_X_fault_8 ok_8 (nle rfl) (nle rfl) rfl lf_X_132 q4 ?_
    exact r_ireturn d_X_fault_11.1 rfl (hQ _ _ hw)
set_option maxRecDepth 100000 in
set_option maxHeartbeats 4000000 in
theorem s_X_number {d : Nat} (hd : 1 ≤ d) {v0 : Nat} {v1 : Int32} {v2 : Int32} {h : Hp} {Q : Int32 → Hp → Prop} {QQ : Option AV → Hp → Prop} (hw : w_X_number v0 v1 v2 h Q) (hQ : ∀ r9 h9, Q r9 h9 → QQ (some (ai r9)) h9) : aCall m_X_number d [ar v0, ai v1, ai v2] h 0 0 QQ := by
  obtain ⟨d, rfl⟩ : ∃ d9, d = d9 + 1 := ⟨d - 1, by omega⟩
  refine aCall_in pl_X_number (nle rfl) ?_
  show aW none m_X_number (d + 1) 0 [(0, ar v0), (1, ai v1), (2, ai v2)] [] h 0 0 QQ
  unfold w_X_number at hw
  refine r_aload_n (j := 0) d_X_number_0 rfl ?_
  obtain ⟨q1, hw⟩ := hw
  refine r_getR d_X_number_1 ok_11 (nle rfl) (nle rfl) rfl lf_X_23 q1 ?_
  refine r_iload_n (j := 1) d_X_number_4 rfl ?_
  obtain ⟨q4, hw⟩ := hw
  refine r_callV (av := [ai v1]) (rest := []) (ci := 1) d_X_number_5 mk_Co_hasColumn ll_X_138 im_Co_hasColumn se_Co_hasColumn rfl (nle rfl) rfl rfl (nle rfl) q4 (s_Co_hasColumn  hw (fun r3 h2 hw => ?_))
  show aW none m_X_number (d + 1) 8 [(0, ar v0), (1, ai v1), (2, ai v2)] [ai (b2i r3)] h2 0 0 QQ
  refine r_if_eq d_X_number_8 (fun w9 => ?_) (fun w9 => ?_)
  · replace hw := hw.1 (b2i_0.mp w9)
    refine r_ldc d_X_number_22 lc_X_145 ?_
    exact r_ireturn d_X_number_24.1 rfl (hQ _ _ hw)
  · replace hw := hw.2 (fun g9 => w9 (b2i_0.mpr g9))
    refine r_aload_n (j := 0) d_X_number_11 rfl ?_
    obtain ⟨q5, hw⟩ := hw
    refine r_getR d_X_number_12 ok_11 (nle rfl) (nle rfl) rfl lf_X_23 q5 ?_
    refine r_iload_n (j := 2) d_X_number_15 rfl ?_
    obtain ⟨q8, hw⟩ := hw
    refine r_callV (av := [ai v2]) (rest := []) (ci := 1) d_X_number_16 mk_Co_hasRow ll_X_142 im_Co_hasRow se_Co_hasRow rfl (nle rfl) rfl rfl (nle rfl) q8 (s_Co_hasRow  hw (fun r7 h6 hw => ?_))
    show aW none m_X_number (d + 1) 19 [(0, ar v0), (1, ai v1), (2, ai v2)] [ai (b2i r7)] h6 0 0 QQ
    refine r_if_ne d_X_number_19 (fun w9 => ?_) (fun w9 => ?_)
    · replace hw := hw.2 (fun g9 => w9 (b2i_0.mpr g9))
      refine r_aload_n (j := 0) d_X_number_25 rfl ?_
      obtain ⟨q9, hw⟩ := hw
      refine r_getR d_X_number_26 ok_11 (nle rfl) (nle rfl) rfl lf_X_23 q9 ?_
      refine r_iload_n (j := 1) d_X_number_29 rfl ?_
      refine r_iload_n (j := 2) d_X_number_30 rfl ?_
      obtain ⟨q12, hw⟩ := hw
      refine r_callV (av := [ai v1, ai v2]) (rest := []) (ci := 1) d_X_number_31 mk_Co_numberOf ll_X_146 im_Co_numberOf se_Co_numberOf rfl (nle rfl) rfl rfl (nle rfl) q12 (s_Co_numberOf  hw (fun r11 h10 hw => ?_))
      show aW none m_X_number (d + 1) 34 [(0, ar v0), (1, ai v1), (2, ai v2)] [ai r11] h10 0 0 QQ
      exact r_ireturn d_X_number_34.1 rfl (hQ _ _ hw)
    · replace hw := hw.1 (b2i_0.mp w9)
      refine r_ldc d_X_number_22 lc_X_145 ?_
      exact r_ireturn d_X_number_24.1 rfl (hQ _ _ hw)
set_option maxRecDepth 100000 in
set_option maxHeartbeats 4000000 in
theorem s_X_gain {d : Nat} (hd : 1 ≤ d) {v0 : Nat} {v1 : Int32} {h : Hp} {Q : Int32 → Hp → Prop} {QQ : Option AV → Hp → Prop} (hw : w_X_gain v0 v1 h Q) (hQ : ∀ r9 h9, Q r9 h9 → QQ (some (ai r9)) h9) : aCall m_X_gain d [ar v0, ai v1] h 0 0 QQ := by
  obtain ⟨d, rfl⟩ : ∃ d9, d = d9 + 1 := ⟨d - 1, by omega⟩
  refine aCall_in pl_X_gain (nle rfl) ?_
  show aW none m_X_gain (d + 1) 0 [(0, ar v0), (1, ai v1)] [] h 0 0 QQ
  unfold w_X_gain at hw
  refine r_aload_n (j := 0) d_X_gain_0 rfl ?_
  obtain ⟨q1, hw⟩ := hw
  refine r_getR d_X_gain_1 ok_11 (nle rfl) (nle rfl) rfl lf_X_23 q1 ?_
  refine r_iload_n (j := 1) d_X_gain_4 rfl ?_
  obtain ⟨q4, hw⟩ := hw
  refine r_callV (av := [ai v1]) (rest := []) (ci := 1) d_X_gain_5 mk_Co_hasColumn ll_X_138 im_Co_hasColumn se_Co_hasColumn rfl (nle rfl) rfl rfl (nle rfl) q4 (s_Co_hasColumn  hw (fun r3 h2 hw => ?_))
  show aW none m_X_gain (d + 1) 8 [(0, ar v0), (1, ai v1)] [ai (b2i r3)] h2 0 0 QQ
  refine r_if_eq d_X_gain_8 (fun w9 => ?_) (fun w9 => ?_)
  · replace hw := hw.1 (b2i_0.mp w9)
    refine r_ldc d_X_gain_22 lc_X_145 ?_
    exact r_ireturn d_X_gain_24.1 rfl (hQ _ _ hw)
  · replace hw := hw.2 (fun g9 => w9 (b2i_0.mpr g9))
    refine r_aload_n (j := 0) d_X_gain_11 rfl ?_
    obtain ⟨q5, hw⟩ := hw
    refine r_getR d_X_gain_12 ok_11 (nle rfl) (nle rfl) rfl lf_X_23 q5 ?_
    refine r_iload_n (j := 1) d_X_gain_15 rfl ?_
    obtain ⟨q8, hw⟩ := hw
    refine r_callV (av := [ai v1]) (rest := []) (ci := 1) d_X_gain_16 mk_Co_gainOf ll_X_150 im_Co_gainOf se_Co_gainOf rfl (nle rfl) rfl rfl (nle rfl) q8 (s_Co_gainOf  hw (fun r7 h6 hw => ?_))
    show aW none m_X_gain (d + 1) 19 [(0, ar v0), (1, ai v1)] [ai r7] h6 0 0 QQ
    refine r_goto d_X_gain_19 ?_
    exact r_ireturn d_X_gain_24.1 rfl (hQ _ _ hw)
set_option maxRecDepth 100000 in
set_option maxHeartbeats 4000000 in
theorem s_X_need {d : Nat} (hd : 1 ≤ d) {v0 : Nat} {v1 : Int32} {h : Hp} {Q : Int32 → Hp → Prop} {QQ : Option AV → Hp → Prop} (hw : w_X_need v0 v1 h Q) (hQ : ∀ r9 h9, Q r9 h9 → QQ (some (ai r9)) h9) : aCall m_X_need d [ar v0, ai v1] h 0 0 QQ := by
  obtain ⟨d, rfl⟩ : ∃ d9, d = d9 + 1 := ⟨d - 1, by omega⟩
  refine aCall_in pl_X_need (nle rfl) ?_
  show aW none m_X_need (d + 1) 0 [(0, ar v0), (1, ai v1)] [] h 0 0 QQ
  unfold w_X_need at hw
  refine r_aload_n (j := 0) d_X_need_0 rfl ?_
  obtain ⟨q1, hw⟩ := hw
  refine r_getR d_X_need_1 ok_11 (nle rfl) (nle rfl) rfl lf_X_23 q1 ?_
  refine r_iload_n (j := 1) d_X_need_4 rfl ?_
  obtain ⟨q4, hw⟩ := hw
  refine r_callV (av := [ai v1]) (rest := []) (ci := 1) d_X_need_5 mk_Co_hasRow ll_X_142 im_Co_hasRow se_Co_hasRow rfl (nle rfl) rfl rfl (nle rfl) q4 (s_Co_hasRow  hw (fun r3 h2 hw => ?_))
  show aW none m_X_need (d + 1) 8 [(0, ar v0), (1, ai v1)] [ai (b2i r3)] h2 0 0 QQ
  refine r_if_eq d_X_need_8 (fun w9 => ?_) (fun w9 => ?_)
  · replace hw := hw.1 (b2i_0.mp w9)
    refine r_ldc d_X_need_22 lc_X_145 ?_
    exact r_ireturn d_X_need_24.1 rfl (hQ _ _ hw)
  · replace hw := hw.2 (fun g9 => w9 (b2i_0.mpr g9))
    refine r_aload_n (j := 0) d_X_need_11 rfl ?_
    obtain ⟨q5, hw⟩ := hw
    refine r_getR d_X_need_12 ok_11 (nle rfl) (nle rfl) rfl lf_X_23 q5 ?_
    refine r_iload_n (j := 1) d_X_need_15 rfl ?_
    obtain ⟨q8, hw⟩ := hw
    refine r_callV (av := [ai v1]) (rest := []) (ci := 1) d_X_need_16 mk_Co_needOf ll_X_154 im_Co_needOf se_Co_needOf rfl (nle rfl) rfl rfl (nle rfl) q8 (s_Co_needOf  hw (fun r7 h6 hw => ?_))
    show aW none m_X_need (d + 1) 19 [(0, ar v0), (1, ai v1)] [ai r7] h6 0 0 QQ
    refine r_goto d_X_need_19 ?_
    exact r_ireturn d_X_need_24.1 rfl (hQ _ _ hw)
set_option maxRecDepth 100000 in
set_option maxHeartbeats 4000000 in
theorem s_X_turn {d : Nat} (hd : 2 ≤ d) {v0 : Nat} {v1 : Int32} {v2 : Int32} {v3 : Int32} {v4 : Int32} {h : Hp} {Q : Int32 → Hp → Prop} {QQ : Option AV → Hp → Prop} (hw : w_X_turn v0 v1 v2 v3 v4 h Q) (hQ : ∀ r9 h9, Q r9 h9 → QQ (some (ai r9)) h9) : aCall m_X_turn d [ar v0, ai v1, ai v2, ai v3, ai v4] h 0 0 QQ := by
  obtain ⟨d, rfl⟩ : ∃ d9, d = d9 + 1 := ⟨d - 1, by omega⟩
  refine aCall_in pl_X_turn (nle rfl) ?_
  show aW none m_X_turn (d + 1) 0 [(0, ar v0), (1, ai v1), (2, ai v2), (3, ai v3), (4, ai v4)] [] h 0 0 QQ
  unfold w_X_turn at hw
  refine r_aload_n (j := 0) d_X_turn_0 rfl ?_
  obtain ⟨q1, hw⟩ := hw
  refine r_getR d_X_turn_1 ok_11 (nle rfl) (nle rfl) rfl lf_X_23 q1 ?_
  refine r_iload_n (j := 1) d_X_turn_4 rfl ?_
  obtain ⟨q4, hw⟩ := hw
  refine r_callV (av := [ai v1]) (rest := []) (ci := 1) d_X_turn_5 mk_Co_get ll_X_161 im_Co_get se_Co_get rfl (nle rfl) rfl rfl (nle rfl) q4 (s_Co_get  hw (fun r3 h2 hw => ?_))
  show aW none m_X_turn (d + 1) 8 [(0, ar v0), (1, ai v1), (2, ai v2), (3, ai v3), (4, ai v4)] [ai r3] h2 0 0 QQ
  refine r_istore (ls2 := [(5, ai r3), (0, ar v0), (1, ai v1), (2, ai v2), (3, ai v3), (4, ai v4)]) d_X_turn_8 (nle rfl) rfl ?_
  refine r_iload_n (j := 3) d_X_turn_10 rfl ?_
  refine r_iload_n (j := 4) d_X_turn_11 rfl ?_
  refine r_icmp_lt d_X_turn_12 (fun w9 => ?_) (fun w9 => ?_)
  · replace hw := hw.1 w9
    refine r_ldc d_X_turn_27 lc_X_145 ?_
    exact r_ireturn d_X_turn_29.1 rfl (hQ _ _ hw)
  · replace hw := hw.2 w9
    refine r_iload_n (j := 3) d_X_turn_15 rfl ?_
    refine r_iload (j := 5) d_X_turn_16 rfl ?_
    refine r_icmp_gt d_X_turn_18 (fun w9 => ?_) (fun w9 => ?_)
    · replace hw := hw.1 w9
      refine r_ldc d_X_turn_27 lc_X_145 ?_
      exact r_ireturn d_X_turn_29.1 rfl (hQ _ _ hw)
    · replace hw := hw.2 w9
      refine r_iload_n (j := 3) d_X_turn_21 rfl ?_
      refine r_iload (j := 0) d_X_turn_22 rfl ?_
      refine r_icmp_ne d_X_turn_24 (fun w9 => ?_) (fun w9 => ?_)
      · replace hw := hw.2 w9
        refine r_aload_n (j := 1) d_X_turn_30 rfl ?_
        obtain ⟨q5, hw⟩ := hw
        refine r_getR d_X_turn_31 ok_11 (nle rfl) (nle rfl) rfl lf_X_23 q5 ?_
        refine r_iload_n (j := 2) d_X_turn_34 rfl ?_
        refine r_iload_n (j := 3) d_X_turn_35 rfl ?_
        obtain ⟨q7, hw⟩ := hw
        refine r_callV (av := [ai v1, ai v2]) (rest := []) (ci := 1) d_X_turn_36 mk_Co_put ll_X_164 im_Co_put se_Co_put rfl (nle rfl) rfl rfl (nle rfl) q7 (s_Co_put  hw (fun h6 hw => ?_))
        show aW none m_X_turn (d + 1) 39 [(5, ai r3), (0, ar v0), (1, ai v1), (2, ai v2), (3, ai v3), (4, ai v4)] [] h6 0 0 QQ
        refine r_aload_n (j := 1) d_X_turn_39 rfl ?_
        obtain ⟨q8, hw⟩ := hw
        refine r_getR d_X_turn_40 ok_11 (nle rfl) (nle rfl) rfl lf_X_46 q8 ?_
        refine r_iload_n (j := 2) d_X_turn_43 rfl ?_
        refine r_iload (j := 0) d_X_turn_44 rfl ?_
        refine r_iload_n (j := 3) d_X_turn_46 rfl ?_
        obtain ⟨q10, hw⟩ := hw
        refine r_callV (av := [ai v1, ai r3, ai v2]) (rest := []) (ci := 0) d_X_turn_47 mk_Ac_keep ll_X_167 im_Ac_keep se_Ac_keep rfl (nle rfl) rfl rfl (nle rfl) q10 (s_Ac_keep (by omega) hw (fun h9 hw => ?_))
        show aW none m_X_turn (d + 1) 50 [(5, ai r3), (0, ar v0), (1, ai v1), (2, ai v2), (3, ai v3), (4, ai v4)] [] h9 0 0 QQ
        refine r_iload (j := 0) d_X_turn_50 rfl ?_
        exact r_ireturn d_X_turn_52.1 rfl (hQ _ _ hw)
      · replace hw := hw.1 w9
        refine r_ldc d_X_turn_27 lc_X_145 ?_
        exact r_ireturn d_X_turn_29.1 rfl (hQ _ _ hw)
set_option maxRecDepth 100000 in
set_option maxHeartbeats 4000000 in
theorem s_X_change {d : Nat} (hd : 3 ≤ d) {v0 : Nat} {v1 : Int32} {v2 : Int32} {v3 : Int32} {h : Hp} {Q : Int32 → Hp → Prop} {QQ : Option AV → Hp → Prop} (hw : w_X_change v0 v1 v2 v3 h Q) (hQ : ∀ r9 h9, Q r9 h9 → QQ (some (ai r9)) h9) : aCall m_X_change d [ar v0, ai v1, ai v2, ai v3] h 0 0 QQ := by
  obtain ⟨d, rfl⟩ : ∃ d9, d = d9 + 1 := ⟨d - 1, by omega⟩
  refine aCall_in pl_X_change (nle rfl) ?_
  show aW none m_X_change (d + 1) 0 [(0, ar v0), (1, ai v1), (2, ai v2), (3, ai v3)] [] h 0 0 QQ
  unfold w_X_change at hw
  refine r_aload_n (j := 0) d_X_change_0 rfl ?_
  obtain ⟨q1, hw⟩ := hw
  refine r_getR d_X_change_1 ok_11 (nle rfl) (nle rfl) rfl lf_X_23 q1 ?_
  refine r_iload_n (j := 1) d_X_change_4 rfl ?_
  obtain ⟨q4, hw⟩ := hw
  refine r_callV (av := [ai v1]) (rest := []) (ci := 1) d_X_change_5 mk_Co_hasColumn ll_X_138 im_Co_hasColumn se_Co_hasColumn rfl (nle rfl) rfl rfl (nle rfl) q4 (s_Co_hasColumn  hw (fun r3 h2 hw => ?_))
  show aW none m_X_change (d + 1) 8 [(0, ar v0), (1, ai v1), (2, ai v2), (3, ai v3)] [ai (b2i r3)] h2 0 0 QQ
  refine r_if_eq d_X_change_8 (fun w9 => ?_) (fun w9 => ?_)
  · replace hw := hw.1 (b2i_0.mp w9)
    refine r_ldc d_X_change_22 lc_X_145 ?_
    exact r_ireturn d_X_change_24.1 rfl (hQ _ _ hw)
  · replace hw := hw.2 (fun g9 => w9 (b2i_0.mpr g9))
    refine r_aload_n (j := 0) d_X_change_11 rfl ?_
    obtain ⟨q5, hw⟩ := hw
    refine r_getR d_X_change_12 ok_11 (nle rfl) (nle rfl) rfl lf_X_23 q5 ?_
    refine r_iload_n (j := 2) d_X_change_15 rfl ?_
    obtain ⟨q8, hw⟩ := hw
    refine r_callV (av := [ai v2]) (rest := []) (ci := 1) d_X_change_16 mk_Co_hasRow ll_X_142 im_Co_hasRow se_Co_hasRow rfl (nle rfl) rfl rfl (nle rfl) q8 (s_Co_hasRow  hw (fun r7 h6 hw => ?_))
    show aW none m_X_change (d + 1) 19 [(0, ar v0), (1, ai v1), (2, ai v2), (3, ai v3)] [ai (b2i r7)] h6 0 0 QQ
    refine r_if_ne d_X_change_19 (fun w9 => ?_) (fun w9 => ?_)
    · replace hw := hw.2 (fun g9 => w9 (b2i_0.mpr g9))
      refine r_aload_n (j := 0) d_X_change_25 rfl ?_
      refine r_iload_n (j := 1) d_X_change_26 rfl ?_
      refine r_iconst d_X_change_27 kc_3 ?_
      refine r_imul d_X_change_28 ?_
      refine r_iload_n (j := 2) d_X_change_29 rfl ?_
      refine r_iadd d_X_change_30 ?_
      refine r_iload_n (j := 3) d_X_change_31 rfl ?_
      refine r_bipush d_X_change_32 kb_m5 ?_
      refine r_iconst d_X_change_34 kc_5 ?_
      obtain ⟨q11, hw⟩ := hw
      refine r_callV (av := [ai ((v1 * (3 : Int32)) + v2), ai v3, ai (-5 : Int32), ai (5 : Int32)]) (rest := []) (ci := 11) d_X_change_35 mk_X_turn ll_X_157 im_X_turn se_X_turn rfl (nle rfl) rfl rfl (nle rfl) q11 (s_X_turn (by omega) hw (fun r10 h9 hw => ?_))
      show aW none m_X_change (d + 1) 38 [(0, ar v0), (1, ai v1), (2, ai v2), (3, ai v3)] [ai r10] h9 0 0 QQ
      exact r_ireturn d_X_change_38.1 rfl (hQ _ _ hw)
    · replace hw := hw.1 (b2i_0.mp w9)
      refine r_ldc d_X_change_22 lc_X_145 ?_
      exact r_ireturn d_X_change_24.1 rfl (hQ _ _ hw)
set_option maxRecDepth 100000 in
set_option maxHeartbeats 4000000 in
theorem s_X_worth {d : Nat} (hd : 3 ≤ d) {v0 : Nat} {v1 : Int32} {v2 : Int32} {h : Hp} {Q : Int32 → Hp → Prop} {QQ : Option AV → Hp → Prop} (hw : w_X_worth v0 v1 v2 h Q) (hQ : ∀ r9 h9, Q r9 h9 → QQ (some (ai r9)) h9) : aCall m_X_worth d [ar v0, ai v1, ai v2] h 0 0 QQ := by
  obtain ⟨d, rfl⟩ : ∃ d9, d = d9 + 1 := ⟨d - 1, by omega⟩
  refine aCall_in pl_X_worth (nle rfl) ?_
  show aW none m_X_worth (d + 1) 0 [(0, ar v0), (1, ai v1), (2, ai v2)] [] h 0 0 QQ
  unfold w_X_worth at hw
  refine r_aload_n (j := 0) d_X_worth_0 rfl ?_
  obtain ⟨q1, hw⟩ := hw
  refine r_getR d_X_worth_1 ok_11 (nle rfl) (nle rfl) rfl lf_X_23 q1 ?_
  refine r_iload_n (j := 1) d_X_worth_4 rfl ?_
  obtain ⟨q4, hw⟩ := hw
  refine r_callV (av := [ai v1]) (rest := []) (ci := 1) d_X_worth_5 mk_Co_hasColumn ll_X_138 im_Co_hasColumn se_Co_hasColumn rfl (nle rfl) rfl rfl (nle rfl) q4 (s_Co_hasColumn  hw (fun r3 h2 hw => ?_))
  show aW none m_X_worth (d + 1) 8 [(0, ar v0), (1, ai v1), (2, ai v2)] [ai (b2i r3)] h2 0 0 QQ
  refine r_if_ne d_X_worth_8 (fun w9 => ?_) (fun w9 => ?_)
  · replace hw := hw.2 (fun g9 => w9 (b2i_0.mpr g9))
    refine r_aload_n (j := 0) d_X_worth_14 rfl ?_
    refine r_bipush d_X_worth_15 kb_24 ?_
    refine r_iload_n (j := 1) d_X_worth_17 rfl ?_
    refine r_iadd d_X_worth_18 ?_
    refine r_iload_n (j := 2) d_X_worth_19 rfl ?_
    refine r_bipush d_X_worth_20 kb_m99 ?_
    refine r_bipush d_X_worth_22 kb_99 ?_
    obtain ⟨q7, hw⟩ := hw
    refine r_callV (av := [ai ((24 : Int32) + v1), ai v2, ai (-99 : Int32), ai (99 : Int32)]) (rest := []) (ci := 11) d_X_worth_24 mk_X_turn ll_X_157 im_X_turn se_X_turn rfl (nle rfl) rfl rfl (nle rfl) q7 (s_X_turn (by omega) hw (fun r6 h5 hw => ?_))
    show aW none m_X_worth (d + 1) 27 [(0, ar v0), (1, ai v1), (2, ai v2)] [ai r6] h5 0 0 QQ
    exact r_ireturn d_X_worth_27.1 rfl (hQ _ _ hw)
  · replace hw := hw.1 (b2i_0.mp w9)
    refine r_ldc d_X_worth_11 lc_X_145 ?_
    exact r_ireturn d_X_worth_13.1 rfl (hQ _ _ hw)
set_option maxRecDepth 100000 in
set_option maxHeartbeats 4000000 in
theorem s_X_want {d : Nat} (hd : 3 ≤ d) {v0 : Nat} {v1 : Int32} {v2 : Int32} {h : Hp} {Q : Int32 → Hp → Prop} {QQ : Option AV → Hp → Prop} (hw : w_X_want v0 v1 v2 h Q) (hQ : ∀ r9 h9, Q r9 h9 → QQ (some (ai r9)) h9) : aCall m_X_want d [ar v0, ai v1, ai v2] h 0 0 QQ := by
  obtain ⟨d, rfl⟩ : ∃ d9, d = d9 + 1 := ⟨d - 1, by omega⟩
  refine aCall_in pl_X_want (nle rfl) ?_
  show aW none m_X_want (d + 1) 0 [(0, ar v0), (1, ai v1), (2, ai v2)] [] h 0 0 QQ
  unfold w_X_want at hw
  refine r_aload_n (j := 0) d_X_want_0 rfl ?_
  obtain ⟨q1, hw⟩ := hw
  refine r_getR d_X_want_1 ok_11 (nle rfl) (nle rfl) rfl lf_X_23 q1 ?_
  refine r_iload_n (j := 1) d_X_want_4 rfl ?_
  obtain ⟨q4, hw⟩ := hw
  refine r_callV (av := [ai v1]) (rest := []) (ci := 1) d_X_want_5 mk_Co_hasRow ll_X_142 im_Co_hasRow se_Co_hasRow rfl (nle rfl) rfl rfl (nle rfl) q4 (s_Co_hasRow  hw (fun r3 h2 hw => ?_))
  show aW none m_X_want (d + 1) 8 [(0, ar v0), (1, ai v1), (2, ai v2)] [ai (b2i r3)] h2 0 0 QQ
  refine r_if_ne d_X_want_8 (fun w9 => ?_) (fun w9 => ?_)
  · replace hw := hw.2 (fun g9 => w9 (b2i_0.mpr g9))
    refine r_aload_n (j := 0) d_X_want_14 rfl ?_
    refine r_bipush d_X_want_15 kb_32 ?_
    refine r_iload_n (j := 1) d_X_want_17 rfl ?_
    refine r_iadd d_X_want_18 ?_
    refine r_iload_n (j := 2) d_X_want_19 rfl ?_
    refine r_bipush d_X_want_20 kb_m20 ?_
    refine r_bipush d_X_want_22 kb_20 ?_
    obtain ⟨q7, hw⟩ := hw
    refine r_callV (av := [ai ((32 : Int32) + v1), ai v2, ai (-20 : Int32), ai (20 : Int32)]) (rest := []) (ci := 11) d_X_want_24 mk_X_turn ll_X_157 im_X_turn se_X_turn rfl (nle rfl) rfl rfl (nle rfl) q7 (s_X_turn (by omega) hw (fun r6 h5 hw => ?_))
    show aW none m_X_want (d + 1) 27 [(0, ar v0), (1, ai v1), (2, ai v2)] [ai r6] h5 0 0 QQ
    exact r_ireturn d_X_want_27.1 rfl (hQ _ _ hw)
  · replace hw := hw.1 (b2i_0.mp w9)
    refine r_ldc d_X_want_11 lc_X_145 ?_
    exact r_ireturn d_X_want_13.1 rfl (hQ _ _ hw)
set_option maxRecDepth 100000 in
set_option maxHeartbeats 4000000 in
theorem s_X_allow {d : Nat} (hd : 3 ≤ d) {v0 : Nat} {v1 : Int32} {h : Hp} {Q : Int32 → Hp → Prop} {QQ : Option AV → Hp → Prop} (hw : w_X_allow v0 v1 h Q) (hQ : ∀ r9 h9, Q r9 h9 → QQ (some (ai r9)) h9) : aCall m_X_allow d [ar v0, ai v1] h 0 0 QQ := by
  obtain ⟨d, rfl⟩ : ∃ d9, d = d9 + 1 := ⟨d - 1, by omega⟩
  refine aCall_in pl_X_allow (nle rfl) ?_
  show aW none m_X_allow (d + 1) 0 [(0, ar v0), (1, ai v1)] [] h 0 0 QQ
  unfold w_X_allow at hw
  refine r_aload_n (j := 0) d_X_allow_0 rfl ?_
  refine r_bipush d_X_allow_1 kb_35 ?_
  refine r_iload_n (j := 1) d_X_allow_3 rfl ?_
  refine r_iconst d_X_allow_4 kc_1 ?_
  refine r_bipush d_X_allow_5 kb_12 ?_
  obtain ⟨q3, hw⟩ := hw
  refine r_callV (av := [ai (35 : Int32), ai v1, ai (1 : Int32), ai (12 : Int32)]) (rest := []) (ci := 11) d_X_allow_7 mk_X_turn ll_X_157 im_X_turn se_X_turn rfl (nle rfl) rfl rfl (nle rfl) q3 (s_X_turn (by omega) hw (fun r2 h1 hw => ?_))
  show aW none m_X_allow (d + 1) 10 [(0, ar v0), (1, ai v1)] [ai r2] h1 0 0 QQ
  exact r_ireturn d_X_allow_10.1 rfl (hQ _ _ hw)
set_option maxRecDepth 100000 in
set_option maxHeartbeats 4000000 in
theorem s_X_hold {d : Nat} (hd : 3 ≤ d) {v0 : Nat} {v1 : Int32} {v2 : Int32} {h : Hp} {Q : Int32 → Hp → Prop} {QQ : Option AV → Hp → Prop} (hw : w_X_hold v0 v1 v2 h Q) (hQ : ∀ r9 h9, Q r9 h9 → QQ (some (ai r9)) h9) : aCall m_X_hold d [ar v0, ai v1, ai v2] h 0 0 QQ := by
  obtain ⟨d, rfl⟩ : ∃ d9, d = d9 + 1 := ⟨d - 1, by omega⟩
  refine aCall_in pl_X_hold (nle rfl) ?_
  show aW none m_X_hold (d + 1) 0 [(0, ar v0), (1, ai v1), (2, ai v2)] [] h 0 0 QQ
  unfold w_X_hold at hw
  refine r_aload_n (j := 0) d_X_hold_0 rfl ?_
  obtain ⟨q1, hw⟩ := hw
  refine r_getR d_X_hold_1 ok_11 (nle rfl) (nle rfl) rfl lf_X_23 q1 ?_
  refine r_iload_n (j := 1) d_X_hold_4 rfl ?_
  obtain ⟨q4, hw⟩ := hw
  refine r_callV (av := [ai v1]) (rest := []) (ci := 1) d_X_hold_5 mk_Co_hasColumn ll_X_138 im_Co_hasColumn se_Co_hasColumn rfl (nle rfl) rfl rfl (nle rfl) q4 (s_Co_hasColumn  hw (fun r3 h2 hw => ?_))
  show aW none m_X_hold (d + 1) 8 [(0, ar v0), (1, ai v1), (2, ai v2)] [ai (b2i r3)] h2 0 0 QQ
  refine r_if_ne d_X_hold_8 (fun w9 => ?_) (fun w9 => ?_)
  · replace hw := hw.2 (fun g9 => w9 (b2i_0.mpr g9))
    refine r_aload_n (j := 0) d_X_hold_13 rfl ?_
    refine r_bipush d_X_hold_14 kb_36 ?_
    refine r_iload_n (j := 1) d_X_hold_16 rfl ?_
    refine r_iadd d_X_hold_17 ?_
    refine r_iload_n (j := 2) d_X_hold_18 rfl ?_
    refine r_iconst d_X_hold_19 kc_0 ?_
    refine r_bipush d_X_hold_20 kb_99 ?_
    obtain ⟨q7, hw⟩ := hw
    refine r_callV (av := [ai ((36 : Int32) + v1), ai v2, ai (0 : Int32), ai (99 : Int32)]) (rest := []) (ci := 11) d_X_hold_22 mk_X_turn ll_X_157 im_X_turn se_X_turn rfl (nle rfl) rfl rfl (nle rfl) q7 (s_X_turn (by omega) hw (fun r6 h5 hw => ?_))
    show aW none m_X_hold (d + 1) 25 [(0, ar v0), (1, ai v1), (2, ai v2)] [ai r6] h5 0 0 QQ
    refine r_istore_n (ls2 := [(3, ai r6), (0, ar v0), (1, ai v1), (2, ai v2)]) d_X_hold_25 (nle rfl) rfl ?_
    refine r_iload_n (j := 0) d_X_hold_26 rfl ?_
    refine r_ldc d_X_hold_27 lc_X_145 ?_
    refine r_icmp_ne d_X_hold_29 (fun w9 => ?_) (fun w9 => ?_)
    · replace hw := hw.2 w9
      refine r_iload_n (j := 0) d_X_hold_36 rfl ?_
      exact r_ireturn d_X_hold_37.1 rfl (hQ _ _ hw)
    · replace hw := hw.1 w9
      refine r_iconst d_X_hold_32 kc_m1 ?_
      refine r_goto d_X_hold_33 ?_
      exact r_ireturn d_X_hold_37.1 rfl (hQ _ _ hw)
  · replace hw := hw.1 (b2i_0.mp w9)
    refine r_iconst d_X_hold_11 kc_m1 ?_
    exact r_ireturn d_X_hold_12.1 rfl (hQ _ _ hw)
set_option maxRecDepth 100000 in
set_option maxHeartbeats 4000000 in
theorem s_X_better {d : Nat} (hd : 5 ≤ d) {v0 : Nat} {v1 : Int32} {h : Hp} {Q : Int32 → Hp → Prop} {QQ : Option AV → Hp → Prop} (hw : w_X_better v0 v1 h Q) (hQ : ∀ r9 h9, Q r9 h9 → QQ (some (ai r9)) h9) : aCall m_X_better d [ar v0, ai v1] h 0 0 QQ := by
  obtain ⟨d, rfl⟩ : ∃ d9, d = d9 + 1 := ⟨d - 1, by omega⟩
  refine aCall_in pl_X_better (nle rfl) ?_
  show aW none m_X_better (d + 1) 0 [(0, ar v0), (1, ai v1)] [] h 0 0 QQ
  unfold w_X_better at hw
  refine r_aload_n (j := 0) d_X_better_0 rfl ?_
  obtain ⟨q1, hw⟩ := hw
  refine r_getR d_X_better_1 ok_11 (nle rfl) (nle rfl) rfl lf_X_85 q1 ?_
  refine r_iload_n (j := 1) d_X_better_4 rfl ?_
  obtain ⟨q4, hw⟩ := hw
  refine r_callV (av := [ai v1]) (rest := []) (ci := 4) d_X_better_5 mk_Ex_find ll_X_171 im_Ex_find se_Ex_find rfl (nle rfl) rfl rfl (nle rfl) q4 (s_Ex_find (by omega) hw (fun r3 h2 hw => ?_))
  show aW none m_X_better (d + 1) 8 [(0, ar v0), (1, ai v1)] [ai (b2i r3)] h2 0 0 QQ
  refine r_if_ne d_X_better_8 (fun w9 => ?_) (fun w9 => ?_)
  · replace hw := hw.2 (fun g9 => w9 (b2i_0.mpr g9))
    refine r_aload_n (j := 0) d_X_better_14 rfl ?_
    obtain ⟨q5, hw⟩ := hw
    refine r_getR d_X_better_15 ok_11 (nle rfl) (nle rfl) rfl lf_X_46 q5 ?_
    refine r_aload_n (j := 0) d_X_better_18 rfl ?_
    refine r_getR d_X_better_19 ok_11 (nle rfl) (nle rfl) rfl lf_X_85 q5 ?_
    obtain ⟨q7, hw⟩ := hw
    refine r_callV (av := [ar (gR h2 v0 11)]) (rest := []) (ci := 0) d_X_better_22 mk_Ac_keepShifts ll_X_174 im_Ac_keepShifts se_Ac_keepShifts rfl (nle rfl) rfl rfl (nle rfl) q7 (s_Ac_keepShifts (by omega) hw (fun h6 hw => ?_))
    show aW none m_X_better (d + 1) 25 [(0, ar v0), (1, ai v1)] [] h6 0 0 QQ
    refine r_aload_n (j := 0) d_X_better_25 rfl ?_
    obtain ⟨q8, hw⟩ := hw
    refine r_getR d_X_better_26 ok_11 (nle rfl) (nle rfl) rfl lf_X_46 q8 ?_
    refine r_aload_n (j := 0) d_X_better_29 rfl ?_
    refine r_getR d_X_better_30 ok_11 (nle rfl) (nle rfl) rfl lf_X_23 q8 ?_
    refine r_aload_n (j := 0) d_X_better_33 rfl ?_
    refine r_getR d_X_better_34 ok_11 (nle rfl) (nle rfl) rfl lf_X_46 q8 ?_
    obtain ⟨q11, hw⟩ := hw
    refine r_callV (av := []) (rest := [ar (gR h6 v0 2), ar (gR h6 v0 6)]) (ci := 0) d_X_better_37 mk_Ac_latest ll_X_178 im_Ac_latest se_Ac_latest rfl (nle rfl) rfl rfl (nle rfl) q11 (s_Ac_latest  hw (fun r10 h9 hw => ?_))
    show aW none m_X_better (d + 1) 40 [(0, ar v0), (1, ai v1)] [ai r10, ar (gR h6 v0 2), ar (gR h6 v0 6)] h9 0 0 QQ
    refine r_iconst d_X_better_40 kc_1 ?_
    obtain ⟨q13, hw⟩ := hw
    refine r_callV (av := [ar (gR h6 v0 2), ai r10, ai (1 : Int32)]) (rest := []) (ci := 0) d_X_better_41 mk_Ac_apply ll_X_182 im_Ac_apply se_Ac_apply rfl (nle rfl) rfl rfl (nle rfl) q13 (s_Ac_apply (by omega) hw (fun h12 hw => ?_))
    show aW none m_X_better (d + 1) 44 [(0, ar v0), (1, ai v1)] [] h12 0 0 QQ
    refine r_aload_n (j := 0) d_X_better_44 rfl ?_
    obtain ⟨q14, hw⟩ := hw
    refine r_getR d_X_better_45 ok_11 (nle rfl) (nle rfl) rfl lf_X_23 q14 ?_
    obtain ⟨q17, hw⟩ := hw
    refine r_callV (av := []) (rest := []) (ci := 1) d_X_better_48 mk_Co_heldGain ll_X_186 im_Co_heldGain se_Co_heldGain rfl (nle rfl) rfl rfl (nle rfl) q17 (s_Co_heldGain (by omega) hw (fun r16 h15 hw => ?_))
    show aW none m_X_better (d + 1) 51 [(0, ar v0), (1, ai v1)] [ai r16] h15 0 0 QQ
    exact r_ireturn d_X_better_51.1 rfl (hQ _ _ hw)
  · replace hw := hw.1 (b2i_0.mp w9)
    refine r_ldc d_X_better_11 lc_X_145 ?_
    exact r_ireturn d_X_better_13.1 rfl (hQ _ _ hw)
set_option maxRecDepth 100000 in
set_option maxHeartbeats 4000000 in
theorem s_X_undo {d : Nat} (hd : 3 ≤ d) {v0 : Nat} {h : Hp} {Q : Bool → Hp → Prop} {QQ : Option AV → Hp → Prop} (hw : w_X_undo v0 h Q) (hQ : ∀ r9 h9, Q r9 h9 → QQ (some (ai (b2i r9))) h9) : aCall m_X_undo d [ar v0] h 0 0 QQ := by
  obtain ⟨d, rfl⟩ : ∃ d9, d = d9 + 1 := ⟨d - 1, by omega⟩
  refine aCall_in pl_X_undo (nle rfl) ?_
  show aW none m_X_undo (d + 1) 0 [(0, ar v0)] [] h 0 0 QQ
  unfold w_X_undo at hw
  refine r_aload_n (j := 0) d_X_undo_0 rfl ?_
  obtain ⟨q1, hw⟩ := hw
  refine r_getR d_X_undo_1 ok_11 (nle rfl) (nle rfl) rfl lf_X_46 q1 ?_
  refine r_aload_n (j := 0) d_X_undo_4 rfl ?_
  refine r_getR d_X_undo_5 ok_11 (nle rfl) (nle rfl) rfl lf_X_23 q1 ?_
  obtain ⟨q4, hw⟩ := hw
  refine r_callV (av := [ar (gR h v0 2)]) (rest := []) (ci := 0) d_X_undo_8 mk_Ac_takeBack ll_X_189 im_Ac_takeBack se_Ac_takeBack rfl (nle rfl) rfl rfl (nle rfl) q4 (s_Ac_takeBack (by omega) hw (fun r3 h2 hw => ?_))
  show aW none m_X_undo (d + 1) 11 [(0, ar v0)] [ai (b2i r3)] h2 0 0 QQ
  exact r_zreturn d_X_undo_11.1 rfl (b2i_B _) (hQ _ _ hw)
set_option maxRecDepth 100000 in
set_option maxHeartbeats 4000000 in
theorem s_X_redo {d : Nat} (hd : 3 ≤ d) {v0 : Nat} {h : Hp} {Q : Bool → Hp → Prop} {QQ : Option AV → Hp → Prop} (hw : w_X_redo v0 h Q) (hQ : ∀ r9 h9, Q r9 h9 → QQ (some (ai (b2i r9))) h9) : aCall m_X_redo d [ar v0] h 0 0 QQ := by
  obtain ⟨d, rfl⟩ : ∃ d9, d = d9 + 1 := ⟨d - 1, by omega⟩
  refine aCall_in pl_X_redo (nle rfl) ?_
  show aW none m_X_redo (d + 1) 0 [(0, ar v0)] [] h 0 0 QQ
  unfold w_X_redo at hw
  refine r_aload_n (j := 0) d_X_redo_0 rfl ?_
  obtain ⟨q1, hw⟩ := hw
  refine r_getR d_X_redo_1 ok_11 (nle rfl) (nle rfl) rfl lf_X_46 q1 ?_
  refine r_aload_n (j := 0) d_X_redo_4 rfl ?_
  refine r_getR d_X_redo_5 ok_11 (nle rfl) (nle rfl) rfl lf_X_23 q1 ?_
  obtain ⟨q4, hw⟩ := hw
  refine r_callV (av := [ar (gR h v0 2)]) (rest := []) (ci := 0) d_X_redo_8 mk_Ac_doAgain ll_X_193 im_Ac_doAgain se_Ac_doAgain rfl (nle rfl) rfl rfl (nle rfl) q4 (s_Ac_doAgain (by omega) hw (fun r3 h2 hw => ?_))
  show aW none m_X_redo (d + 1) 11 [(0, ar v0)] [ai (b2i r3)] h2 0 0 QQ
  exact r_zreturn d_X_redo_11.1 rfl (b2i_B _) (hQ _ _ hw)
set_option maxRecDepth 100000 in
set_option maxHeartbeats 4000000 in
theorem s_X_held {d : Nat} (hd : 1 ≤ d) {v0 : Nat} {v1 : Int32} {h : Hp} {Q : Int32 → Hp → Prop} {QQ : Option AV → Hp → Prop} (hw : w_X_held v0 v1 h Q) (hQ : ∀ r9 h9, Q r9 h9 → QQ (some (ai r9)) h9) : aCall m_X_held d [ar v0, ai v1] h 0 0 QQ := by
  obtain ⟨d, rfl⟩ : ∃ d9, d = d9 + 1 := ⟨d - 1, by omega⟩
  refine aCall_in pl_X_held (nle rfl) ?_
  show aW none m_X_held (d + 1) 0 [(0, ar v0), (1, ai v1)] [] h 0 0 QQ
  unfold w_X_held at hw
  refine r_aload_n (j := 0) d_X_held_0 rfl ?_
  obtain ⟨q1, hw⟩ := hw
  refine r_getR d_X_held_1 ok_11 (nle rfl) (nle rfl) rfl lf_X_23 q1 ?_
  refine r_iload_n (j := 1) d_X_held_4 rfl ?_
  obtain ⟨q4, hw⟩ := hw
  refine r_callV (av := [ai v1]) (rest := []) (ci := 1) d_X_held_5 mk_Co_hasColumn ll_X_138 im_Co_hasColumn se_Co_hasColumn rfl (nle rfl) rfl rfl (nle rfl) q4 (s_Co_hasColumn  hw (fun r3 h2 hw => ?_))
  show aW none m_X_held (d + 1) 8 [(0, ar v0), (1, ai v1)] [ai (b2i r3)] h2 0 0 QQ
  refine r_if_eq d_X_held_8 (fun w9 => ?_) (fun w9 => ?_)
  · replace hw := hw.1 (b2i_0.mp w9)
    refine r_iconst d_X_held_22 kc_m1 ?_
    exact r_ireturn d_X_held_23.1 rfl (hQ _ _ hw)
  · replace hw := hw.2 (fun g9 => w9 (b2i_0.mpr g9))
    refine r_aload_n (j := 0) d_X_held_11 rfl ?_
    obtain ⟨q5, hw⟩ := hw
    refine r_getR d_X_held_12 ok_11 (nle rfl) (nle rfl) rfl lf_X_23 q5 ?_
    refine r_iload_n (j := 1) d_X_held_15 rfl ?_
    obtain ⟨q8, hw⟩ := hw
    refine r_callV (av := [ai v1]) (rest := []) (ci := 1) d_X_held_16 mk_Co_heldOf ll_X_196 im_Co_heldOf se_Co_heldOf rfl (nle rfl) rfl rfl (nle rfl) q8 (s_Co_heldOf  hw (fun r7 h6 hw => ?_))
    show aW none m_X_held (d + 1) 19 [(0, ar v0), (1, ai v1)] [ai r7] h6 0 0 QQ
    refine r_goto d_X_held_19 ?_
    exact r_ireturn d_X_held_23.1 rfl (hQ _ _ hw)
set_option maxRecDepth 100000 in
set_option maxHeartbeats 4000000 in
theorem s_X_holding_B45 {d : Nat} (hd : 3 ≤ d + 1) {Q : Int32 → Hp → Prop} {QQ : Option AV → Hp → Prop} (hQ : ∀ r9 h9, Q r9 h9 → QQ (some (ai r9)) h9) {v0 : Nat} {v1 : Int32} {h : Hp} (hw : w_X_holding_B45 Q  v0 v1 h) : aW none m_X_holding (d + 1) 45 [(0, ar v0), (1, ai v1)] [] h 0 0 QQ := by
  unfold w_X_holding_B45 at hw
  refine r_aload_n (j := 0) d_X_holding_45 rfl ?_
  obtain ⟨q1, hw⟩ := hw
  refine r_getR d_X_holding_46 ok_11 (nle rfl) (nle rfl) rfl lf_X_23 q1 ?_
  refine r_aload_n (j := 0) d_X_holding_49 rfl ?_
  refine r_getR d_X_holding_50 ok_11 (nle rfl) (nle rfl) rfl lf_X_103 q1 ?_
  obtain ⟨q3, hw⟩ := hw
  refine r_callV (av := [ar (gR h v0 14)]) (rest := []) (ci := 1) d_X_holding_53 mk_Co_heldSums ll_X_202 im_Co_heldSums se_Co_heldSums rfl (nle rfl) rfl rfl (nle rfl) q3 (s_Co_heldSums (by omega) hw (fun h2 hw => ?_))
  show aW none m_X_holding (d + 1) 56 [(0, ar v0), (1, ai v1)] [] h2 0 0 QQ
  refine r_iload_n (j := 1) d_X_holding_56 rfl ?_
  refine r_iconst d_X_holding_57 kc_5 ?_
  refine r_icmp_ne d_X_holding_58 (fun w9 => ?_) (fun w9 => ?_)
  · replace hw := hw.2 w9
    refine r_aload_n (j := 0) d_X_holding_75 rfl ?_
    obtain ⟨q4, hw⟩ := hw
    refine r_getR d_X_holding_76 ok_11 (nle rfl) (nle rfl) rfl lf_X_103 q4 ?_
    refine r_iload_n (j := 1) d_X_holding_79 rfl ?_
    obtain ⟨q5, hw⟩ := hw
    obtain ⟨q6, hw⟩ := hw
    refine r_iald d_X_holding_80 q5 q6 ?_
    exact r_ireturn d_X_holding_81.1 rfl (hQ _ _ hw)
  · replace hw := hw.1 w9
    refine r_aload_n (j := 0) d_X_holding_61 rfl ?_
    obtain ⟨q7, hw⟩ := hw
    refine r_getR d_X_holding_62 ok_11 (nle rfl) (nle rfl) rfl lf_X_23 q7 ?_
    refine r_aload_n (j := 0) d_X_holding_65 rfl ?_
    refine r_getR d_X_holding_66 ok_11 (nle rfl) (nle rfl) rfl lf_X_103 q7 ?_
    obtain ⟨q10, hw⟩ := hw
    refine r_callV (av := [ar (gR h2 v0 14)]) (rest := []) (ci := 1) d_X_holding_69 mk_Co_farFromNeed ll_X_206 im_Co_farFromNeed se_Co_farFromNeed rfl (nle rfl) rfl rfl (nle rfl) q10 (s_Co_farFromNeed (by omega) hw (fun r9 h8 hw => ?_))
    show aW none m_X_holding (d + 1) 72 [(0, ar v0), (1, ai v1)] [ai r9] h8 0 0 QQ
    refine r_goto d_X_holding_72 ?_
    exact r_ireturn d_X_holding_81.1 rfl (hQ _ _ hw)
set_option maxRecDepth 100000 in
set_option maxHeartbeats 4000000 in
theorem s_X_holding {d : Nat} (hd : 3 ≤ d) {v0 : Nat} {v1 : Int32} {h : Hp} {Q : Int32 → Hp → Prop} {QQ : Option AV → Hp → Prop} (hw : w_X_holding v0 v1 h Q) (hQ : ∀ r9 h9, Q r9 h9 → QQ (some (ai r9)) h9) : aCall m_X_holding d [ar v0, ai v1] h 0 0 QQ := by
  obtain ⟨d, rfl⟩ : ∃ d9, d = d9 + 1 := ⟨d - 1, by omega⟩
  refine aCall_in pl_X_holding (nle rfl) ?_
  show aW none m_X_holding (d + 1) 0 [(0, ar v0), (1, ai v1)] [] h 0 0 QQ
  unfold w_X_holding at hw
  refine r_iload_n (j := 1) d_X_holding_0 rfl ?_
  refine r_iconst d_X_holding_1 kc_3 ?_
  refine r_icmp_ne d_X_holding_2 (fun w9 => ?_) (fun w9 => ?_)
  · replace hw := hw.2 w9
    refine r_iload_n (j := 1) d_X_holding_13 rfl ?_
    refine r_iconst d_X_holding_14 kc_4 ?_
    refine r_icmp_ne d_X_holding_15 (fun w9 => ?_) (fun w9 => ?_)
    · replace hw := hw.2 w9
      refine r_iload_n (j := 1) d_X_holding_26 rfl ?_
      refine r_iconst d_X_holding_27 kc_5 ?_
      refine r_icmp_eq d_X_holding_28 (fun w9 => ?_) (fun w9 => ?_)
      · replace hw := hw.1 w9
        exact s_X_holding_B45 hd hQ  hw
      · replace hw := hw.2 w9
        refine r_aload_n (j := 0) d_X_holding_31 rfl ?_
        obtain ⟨q11, hw⟩ := hw
        refine r_getR d_X_holding_32 ok_11 (nle rfl) (nle rfl) rfl lf_X_23 q11 ?_
        refine r_iload_n (j := 1) d_X_holding_35 rfl ?_
        obtain ⟨q14, hw⟩ := hw
        refine r_callV (av := [ai v1]) (rest := []) (ci := 1) d_X_holding_36 mk_Co_hasRow ll_X_142 im_Co_hasRow se_Co_hasRow rfl (nle rfl) rfl rfl (nle rfl) q14 (s_Co_hasRow  hw (fun r13 h12 hw => ?_))
        show aW none m_X_holding (d + 1) 39 [(0, ar v0), (1, ai v1)] [ai (b2i r13)] h12 0 0 QQ
        refine r_if_ne d_X_holding_39 (fun w9 => ?_) (fun w9 => ?_)
        · replace hw := hw.2 (fun g9 => w9 (b2i_0.mpr g9))
          exact s_X_holding_B45 hd hQ  hw
        · replace hw := hw.1 (b2i_0.mp w9)
          refine r_ldc d_X_holding_42 lc_X_145 ?_
          exact r_ireturn d_X_holding_44.1 rfl (hQ _ _ hw)
    · replace hw := hw.1 w9
      refine r_aload_n (j := 0) d_X_holding_18 rfl ?_
      obtain ⟨q15, hw⟩ := hw
      refine r_getR d_X_holding_19 ok_11 (nle rfl) (nle rfl) rfl lf_X_23 q15 ?_
      obtain ⟨q18, hw⟩ := hw
      refine r_callV (av := []) (rest := []) (ci := 1) d_X_holding_22 mk_Co_heldSteps ll_X_199 im_Co_heldSteps se_Co_heldSteps rfl (nle rfl) rfl rfl (nle rfl) q18 (s_Co_heldSteps (by omega) hw (fun r17 h16 hw => ?_))
      show aW none m_X_holding (d + 1) 25 [(0, ar v0), (1, ai v1)] [ai r17] h16 0 0 QQ
      exact r_ireturn d_X_holding_25.1 rfl (hQ _ _ hw)
  · replace hw := hw.1 w9
    refine r_aload_n (j := 0) d_X_holding_5 rfl ?_
    obtain ⟨q19, hw⟩ := hw
    refine r_getR d_X_holding_6 ok_11 (nle rfl) (nle rfl) rfl lf_X_23 q19 ?_
    obtain ⟨q22, hw⟩ := hw
    refine r_callV (av := []) (rest := []) (ci := 1) d_X_holding_9 mk_Co_heldGain ll_X_186 im_Co_heldGain se_Co_heldGain rfl (nle rfl) rfl rfl (nle rfl) q22 (s_Co_heldGain (by omega) hw (fun r21 h20 hw => ?_))
    show aW none m_X_holding (d + 1) 12 [(0, ar v0), (1, ai v1)] [ai r21] h20 0 0 QQ
    exact r_ireturn d_X_holding_12.1 rfl (hQ _ _ hw)
set_option maxRecDepth 100000 in
set_option maxHeartbeats 4000000 in
theorem s_X_exchange {d : Nat} (hd : 5 ≤ d) {v0 : Nat} {v1 : Int32} {v2 : Int32} {h : Hp} {Q : Int32 → Hp → Prop} {QQ : Option AV → Hp → Prop} (hw : w_X_exchange v0 v1 v2 h Q) (hQ : ∀ r9 h9, Q r9 h9 → QQ (some (ai r9)) h9) : aCall m_X_exchange d [ar v0, ai v1, ai v2] h 0 0 QQ := by
  obtain ⟨d, rfl⟩ : ∃ d9, d = d9 + 1 := ⟨d - 1, by omega⟩
  refine aCall_in pl_X_exchange (nle rfl) ?_
  show aW none m_X_exchange (d + 1) 0 [(0, ar v0), (1, ai v1), (2, ai v2)] [] h 0 0 QQ
  unfold w_X_exchange at hw
  refine r_aload_n (j := 0) d_X_exchange_0 rfl ?_
  obtain ⟨q1, hw⟩ := hw
  refine r_getR d_X_exchange_1 ok_11 (nle rfl) (nle rfl) rfl lf_X_85 q1 ?_
  refine r_iload_n (j := 1) d_X_exchange_4 rfl ?_
  obtain ⟨q4, hw⟩ := hw
  refine r_callV (av := [ai v1]) (rest := []) (ci := 4) d_X_exchange_5 mk_Ex_find ll_X_171 im_Ex_find se_Ex_find rfl (nle rfl) rfl rfl (nle rfl) q4 (s_Ex_find (by omega) hw (fun r3 h2 hw => ?_))
  show aW none m_X_exchange (d + 1) 8 [(0, ar v0), (1, ai v1), (2, ai v2)] [ai (b2i r3)] h2 0 0 QQ
  refine r_if_ne d_X_exchange_8 (fun w9 => ?_) (fun w9 => ?_)
  · replace hw := hw.2 (fun g9 => w9 (b2i_0.mpr g9))
    refine r_iload_n (j := 2) d_X_exchange_14 rfl ?_
    by_cases o9 : v2.toInt < 0 ∨ 2 < v2.toInt
    · refine r_tabOut d_X_exchange_15 o9 (by decide) ?_
      replace hw := hw.1 o9
      refine r_iload_n (j := 2) d_X_exchange_64 rfl ?_
      refine r_bipush d_X_exchange_65 kb_10 ?_
      refine r_icmp_lt d_X_exchange_67 (fun w9 => ?_) (fun w9 => ?_)
      · replace hw := hw.1 w9
        refine r_ldc d_X_exchange_84 lc_X_145 ?_
        exact r_ireturn d_X_exchange_86.1 rfl (hQ _ _ hw)
      · replace hw := hw.2 w9
        refine r_aload_n (j := 0) d_X_exchange_70 rfl ?_
        obtain ⟨q5, hw⟩ := hw
        refine r_getR d_X_exchange_71 ok_11 (nle rfl) (nle rfl) rfl lf_X_23 q5 ?_
        refine r_iload_n (j := 2) d_X_exchange_74 rfl ?_
        refine r_bipush d_X_exchange_75 kb_10 ?_
        refine r_isub d_X_exchange_77 ?_
        obtain ⟨q8, hw⟩ := hw
        refine r_callV (av := [ai (v2 - (10 : Int32))]) (rest := []) (ci := 1) d_X_exchange_78 mk_Co_hasColumn ll_X_138 im_Co_hasColumn se_Co_hasColumn rfl (nle rfl) rfl rfl (nle rfl) q8 (s_Co_hasColumn  hw (fun r7 h6 hw => ?_))
        show aW none m_X_exchange (d + 1) 81 [(0, ar v0), (1, ai v1), (2, ai v2)] [ai (b2i r7)] h6 0 0 QQ
        refine r_if_ne d_X_exchange_81 (fun w9 => ?_) (fun w9 => ?_)
        · replace hw := hw.2 (fun g9 => w9 (b2i_0.mpr g9))
          refine r_aload_n (j := 0) d_X_exchange_87 rfl ?_
          obtain ⟨q9, hw⟩ := hw
          refine r_getR d_X_exchange_88 ok_11 (nle rfl) (nle rfl) rfl lf_X_85 q9 ?_
          refine r_iload_n (j := 2) d_X_exchange_91 rfl ?_
          refine r_bipush d_X_exchange_92 kb_10 ?_
          refine r_isub d_X_exchange_94 ?_
          obtain ⟨q12, hw⟩ := hw
          refine r_callV (av := [ai (v2 - (10 : Int32))]) (rest := []) (ci := 4) d_X_exchange_95 mk_Ex_shiftOf ll_X_219 im_Ex_shiftOf se_Ex_shiftOf rfl (nle rfl) rfl rfl (nle rfl) q12 (s_Ex_shiftOf (by omega) hw (fun r11 h10 hw => ?_))
          show aW none m_X_exchange (d + 1) 98 [(0, ar v0), (1, ai v1), (2, ai v2)] [ai r11] h10 0 0 QQ
          exact r_ireturn d_X_exchange_98.1 rfl (hQ _ _ hw)
        · replace hw := hw.1 (b2i_0.mp w9)
          refine r_ldc d_X_exchange_84 lc_X_145 ?_
          exact r_ireturn d_X_exchange_86.1 rfl (hQ _ _ hw)
    · have o8 : v2.toInt = 0 ∨ v2.toInt = 1 ∨ v2.toInt = 2 := by omega
      replace hw := hw.2
      rcases o8 with o8 | o8 | o8
      · refine r_tabIn (off := 25) d_X_exchange_15 (by omega) (by omega) (by rw [o8]; rfl) (by decide) ?_
        replace hw := hw.1 o8
        refine r_aload_n (j := 0) d_X_exchange_40 rfl ?_
        obtain ⟨q13, hw⟩ := hw
        refine r_getR d_X_exchange_41 ok_11 (nle rfl) (nle rfl) rfl lf_X_85 q13 ?_
        obtain ⟨q14, hw⟩ := hw
        refine r_getI d_X_exchange_44 ok_4 (nle rfl) (nle rfl) rfl lf_X_210 q14 ?_
        exact r_ireturn d_X_exchange_47.1 rfl (hQ _ _ hw)
      · refine r_tabIn (off := 33) d_X_exchange_15 (by omega) (by omega) (by rw [o8]; rfl) (by decide) ?_
        replace hw := hw.2.1 o8
        refine r_aload_n (j := 0) d_X_exchange_48 rfl ?_
        obtain ⟨q15, hw⟩ := hw
        refine r_getR d_X_exchange_49 ok_11 (nle rfl) (nle rfl) rfl lf_X_85 q15 ?_
        obtain ⟨q16, hw⟩ := hw
        refine r_getI d_X_exchange_52 ok_4 (nle rfl) (nle rfl) rfl lf_X_213 q16 ?_
        exact r_ireturn d_X_exchange_55.1 rfl (hQ _ _ hw)
      · refine r_tabIn (off := 41) d_X_exchange_15 (by omega) (by omega) (by rw [o8]; rfl) (by decide) ?_
        replace hw := hw.2.2 o8
        refine r_aload_n (j := 0) d_X_exchange_56 rfl ?_
        obtain ⟨q17, hw⟩ := hw
        refine r_getR d_X_exchange_57 ok_11 (nle rfl) (nle rfl) rfl lf_X_85 q17 ?_
        obtain ⟨q18, hw⟩ := hw
        refine r_getI d_X_exchange_60 ok_4 (nle rfl) (nle rfl) rfl lf_X_216 q18 ?_
        exact r_ireturn d_X_exchange_63.1 rfl (hQ _ _ hw)
  · replace hw := hw.1 (b2i_0.mp w9)
    refine r_ldc d_X_exchange_11 lc_X_145 ?_
    exact r_ireturn d_X_exchange_13.1 rfl (hQ _ _ hw)
set_option maxRecDepth 100000 in
set_option maxHeartbeats 4000000 in
theorem s_X_isLength {d : Nat} {v0 : Int32} {h : Hp} {Q : Bool → Hp → Prop} {QQ : Option AV → Hp → Prop} (hw : w_X_isLength v0 h Q) (hQ : ∀ r9 h9, Q r9 h9 → QQ (some (ai (b2i r9))) h9) : aCall m_X_isLength d [ai v0] h 0 0 QQ := by
  refine aCall_in pl_X_isLength (nle rfl) ?_
  show aW none m_X_isLength d 0 [(0, ai v0)] [] h 0 0 QQ
  unfold w_X_isLength at hw
  refine r_iload_n (j := 0) d_X_isLength_0 rfl ?_
  refine r_if_lt d_X_isLength_1 (fun w9 => ?_) (fun w9 => ?_)
  · replace hw := hw.1 w9
    refine r_iconst d_X_isLength_14 kc_0 ?_
    exact r_zreturn d_X_isLength_15.1 rfl (Or.inl rfl) (hQ _ _ hw)
  · replace hw := hw.2 w9
    refine r_iload_n (j := 0) d_X_isLength_4 rfl ?_
    refine r_bipush d_X_isLength_5 kb_12 ?_
    refine r_icmp_gt d_X_isLength_7 (fun w9 => ?_) (fun w9 => ?_)
    · replace hw := hw.1 w9
      refine r_iconst d_X_isLength_14 kc_0 ?_
      exact r_zreturn d_X_isLength_15.1 rfl (Or.inl rfl) (hQ _ _ hw)
    · replace hw := hw.2 w9
      refine r_iconst d_X_isLength_10 kc_1 ?_
      refine r_goto d_X_isLength_11 ?_
      exact r_zreturn d_X_isLength_15.1 rfl (Or.inr rfl) (hQ _ _ hw)
set_option maxRecDepth 100000 in
set_option maxHeartbeats 4000000 in
theorem s_X_isStrip {d : Nat} (hd : 1 ≤ d) {v0 : Int32} {v1 : Int32} {h : Hp} {Q : Bool → Hp → Prop} {QQ : Option AV → Hp → Prop} (hw : w_X_isStrip v0 v1 h Q) (hQ : ∀ r9 h9, Q r9 h9 → QQ (some (ai (b2i r9))) h9) : aCall m_X_isStrip d [ai v0, ai v1] h 0 0 QQ := by
  obtain ⟨d, rfl⟩ : ∃ d9, d = d9 + 1 := ⟨d - 1, by omega⟩
  refine aCall_in pl_X_isStrip (nle rfl) ?_
  show aW none m_X_isStrip (d + 1) 0 [(0, ai v0), (1, ai v1)] [] h 0 0 QQ
  unfold w_X_isStrip at hw
  refine r_iload_n (j := 0) d_X_isStrip_0 rfl ?_
  refine r_callS (av := [ai v0]) (rest := []) d_X_isStrip_1 mk_X_isLength ll_X_222 st_X_isLength rfl rfl (nle rfl) (s_X_isLength  hw (fun r2 h1 hw => ?_))
  show aW none m_X_isStrip (d + 1) 4 [(0, ai v0), (1, ai v1)] [ai (b2i r2)] h1 0 0 QQ
  refine r_if_eq d_X_isStrip_4 (fun w9 => ?_) (fun w9 => ?_)
  · replace hw := hw.1 (b2i_0.mp w9)
    refine r_iconst d_X_isStrip_21 kc_0 ?_
    exact r_zreturn d_X_isStrip_22.1 rfl (Or.inl rfl) (hQ _ _ hw)
  · replace hw := hw.2 (fun g9 => w9 (b2i_0.mpr g9))
    refine r_iload_n (j := 1) d_X_isStrip_7 rfl ?_
    refine r_if_lt d_X_isStrip_8 (fun w9 => ?_) (fun w9 => ?_)
    · replace hw := hw.1 w9
      refine r_iconst d_X_isStrip_21 kc_0 ?_
      exact r_zreturn d_X_isStrip_22.1 rfl (Or.inl rfl) (hQ _ _ hw)
    · replace hw := hw.2 w9
      refine r_iload_n (j := 1) d_X_isStrip_11 rfl ?_
      refine r_bipush d_X_isStrip_12 kb_12 ?_
      refine r_icmp_gt d_X_isStrip_14 (fun w9 => ?_) (fun w9 => ?_)
      · replace hw := hw.1 w9
        refine r_iconst d_X_isStrip_21 kc_0 ?_
        exact r_zreturn d_X_isStrip_22.1 rfl (Or.inl rfl) (hQ _ _ hw)
      · replace hw := hw.2 w9
        refine r_iconst d_X_isStrip_17 kc_1 ?_
        refine r_goto d_X_isStrip_18 ?_
        exact r_zreturn d_X_isStrip_22.1 rfl (Or.inr rfl) (hQ _ _ hw)
set_option maxRecDepth 100000 in
set_option maxHeartbeats 4000000 in
theorem s_X_strip {d : Nat} (hd : 5 ≤ d) {v0 : Nat} {v1 : Int32} {v2 : Int32} {v3 : Int32} {bc bs : Nat} {h : Hp} {Q : Int32 → Hp → Prop} {QQ : Option AV → Hp → Prop} (hw : w_X_strip bc bs v0 v1 v2 v3 h Q) (hQ : ∀ r9 h9, Q r9 h9 → QQ (some (ai r9)) h9) : aCall m_X_strip d [ar v0, ai v1, ai v2, ai v3] h bc bs QQ := by
  obtain ⟨d, rfl⟩ : ∃ d9, d = d9 + 1 := ⟨d - 1, by omega⟩
  refine aCall_in pl_X_strip (nle rfl) ?_
  show aW none m_X_strip (d + 1) 0 [(0, ar v0), (1, ai v1), (2, ai v2), (3, ai v3)] [] h bc bs QQ
  unfold w_X_strip at hw
  refine r_iload_n (j := 1) d_X_strip_0 rfl ?_
  refine r_iload_n (j := 2) d_X_strip_1 rfl ?_
  refine r_callS (av := [ai v1, ai v2]) (rest := []) d_X_strip_2 mk_X_isStrip ll_X_225 st_X_isStrip rfl rfl (nle rfl) (s_X_isStrip (by omega) hw (fun r2 h1 hw => ?_))
  show aW none m_X_strip (d + 1) 5 [(0, ar v0), (1, ai v1), (2, ai v2), (3, ai v3)] [ai (b2i r2)] h1 bc bs QQ
  refine r_if_eq d_X_strip_5 (fun w9 => ?_) (fun w9 => ?_)
  · replace hw := hw.1 (b2i_0.mp w9)
    refine r_iconst d_X_strip_17 kc_m1 ?_
    exact r_ireturn d_X_strip_18.1 rfl (hQ _ _ hw)
  · replace hw := hw.2 (fun g9 => w9 (b2i_0.mpr g9))
    refine r_iload_n (j := 3) d_X_strip_8 rfl ?_
    refine r_if_lt d_X_strip_9 (fun w9 => ?_) (fun w9 => ?_)
    · replace hw := hw.1 w9
      refine r_iconst d_X_strip_17 kc_m1 ?_
      exact r_ireturn d_X_strip_18.1 rfl (hQ _ _ hw)
    · replace hw := hw.2 w9
      refine r_iload_n (j := 3) d_X_strip_12 rfl ?_
      refine r_iconst d_X_strip_13 kc_1 ?_
      refine r_icmp_le d_X_strip_14 (fun w9 => ?_) (fun w9 => ?_)
      · replace hw := hw.1 w9
        refine r_aload_n (j := 0) d_X_strip_19 rfl ?_
        obtain ⟨q3, hw⟩ := hw
        refine r_getR d_X_strip_20 ok_11 (nle rfl) (nle rfl) rfl lf_X_62 q3 ?_
        refine r_iload_n (j := 1) d_X_strip_23 rfl ?_
        refine r_iload_n (j := 2) d_X_strip_24 rfl ?_
        obtain ⟨q5, hw⟩ := hw
        obtain ⟨q10, hw⟩ := hw
        obtain ⟨b6, t7, m8, m9, u8, u9, hw⟩ := hw
        subst u8 u9
        refine r_callA (av := [ai v1, ai v2]) (rest := []) (ci := 9) d_X_strip_25 mk_St_sweep ll_X_229 im_St_sweep se_St_sweep rfl (nle rfl) rfl rfl (nle rfl) refB_n (refL_r q5 (refL_i (refL_i (refL_i refL_n)))) q10 (s_St_sweep (by omega) hw (fun h4 hw => ?_))
        show aW none m_X_strip (d + 1) 28 [(0, ar v0), (1, ai v1), (2, ai v2), (3, ai v3)] [] h4 b6 t7 QQ
        refine r_iload_n (j := 3) d_X_strip_28 rfl ?_
        refine r_iconst d_X_strip_29 kc_1 ?_
        refine r_icmp_ne d_X_strip_30 (fun w9 => ?_) (fun w9 => ?_)
        · replace hw := hw.2 w9
          refine r_aload_n (j := 0) d_X_strip_41 rfl ?_
          obtain ⟨q11, hw⟩ := hw
          refine r_getR d_X_strip_42 ok_11 (nle rfl) (nle rfl) rfl lf_X_62 q11 ?_
          obtain ⟨q12, hw⟩ := hw
          refine r_getL d_X_strip_45 ok_9 (nle rfl) (nle rfl) rfl lf_X_235 q12 ?_
          refine r_lconst d_X_strip_48 kl_0 ?_
          refine r_lcmp d_X_strip_49 ?_
          refine r_if_le d_X_strip_50 (fun w9 => ?_) (fun w9 => ?_)
          · replace hw := hw.1 ((lg_cmp_le _ _).mp w9)
            refine r_iconst d_X_strip_57 kc_0 ?_
            exact r_ireturn d_X_strip_58.1 rfl (hQ _ _ hw)
          · replace hw := hw.2 (fun g9 => w9 ((lg_cmp_le _ _).mpr g9))
            refine r_iconst d_X_strip_53 kc_1 ?_
            refine r_goto d_X_strip_54 ?_
            exact r_ireturn d_X_strip_58.1 rfl (hQ _ _ hw)
        · replace hw := hw.1 w9
          refine r_aload_n (j := 0) d_X_strip_33 rfl ?_
          obtain ⟨q13, hw⟩ := hw
          refine r_getR d_X_strip_34 ok_11 (nle rfl) (nle rfl) rfl lf_X_62 q13 ?_
          obtain ⟨q14, hw⟩ := hw
          refine r_getI d_X_strip_37 ok_9 (nle rfl) (nle rfl) rfl lf_X_232 q14 ?_
          exact r_ireturn d_X_strip_40.1 rfl (hQ _ _ hw)
      · replace hw := hw.2 w9
        refine r_iconst d_X_strip_17 kc_m1 ?_
        exact r_ireturn d_X_strip_18.1 rfl (hQ _ _ hw)
set_option maxRecDepth 100000 in
set_option maxHeartbeats 4000000 in
theorem s_X_walks {d : Nat} (hd : 5 ≤ d) {v0 : Nat} {v1 : Int32} {v2 : Int32} {bc bs : Nat} {h : Hp} {Q : Int64 → Hp → Prop} {QQ : Option AV → Hp → Prop} (hw : w_X_walks bc bs v0 v1 v2 h Q) (hQ : ∀ r9 h9, Q r9 h9 → QQ (some (al r9)) h9) : aCall m_X_walks d [ar v0, ai v1, ai v2] h bc bs QQ := by
  obtain ⟨d, rfl⟩ : ∃ d9, d = d9 + 1 := ⟨d - 1, by omega⟩
  refine aCall_in pl_X_walks (nle rfl) ?_
  show aW none m_X_walks (d + 1) 0 [(0, ar v0), (1, ai v1), (2, ai v2)] [] h bc bs QQ
  unfold w_X_walks at hw
  refine r_iload_n (j := 1) d_X_walks_0 rfl ?_
  refine r_iload_n (j := 2) d_X_walks_1 rfl ?_
  refine r_callS (av := [ai v1, ai v2]) (rest := []) d_X_walks_2 mk_X_isStrip ll_X_225 st_X_isStrip rfl rfl (nle rfl) (s_X_isStrip (by omega) hw (fun r2 h1 hw => ?_))
  show aW none m_X_walks (d + 1) 5 [(0, ar v0), (1, ai v1), (2, ai v2)] [ai (b2i r2)] h1 bc bs QQ
  refine r_if_ne d_X_walks_5 (fun w9 => ?_) (fun w9 => ?_)
  · replace hw := hw.2 (fun g9 => w9 (b2i_0.mpr g9))
    refine r_aload_n (j := 0) d_X_walks_12 rfl ?_
    obtain ⟨q3, hw⟩ := hw
    refine r_getR d_X_walks_13 ok_11 (nle rfl) (nle rfl) rfl lf_X_62 q3 ?_
    refine r_iload_n (j := 1) d_X_walks_16 rfl ?_
    refine r_iload_n (j := 2) d_X_walks_17 rfl ?_
    obtain ⟨q5, hw⟩ := hw
    obtain ⟨q10, hw⟩ := hw
    obtain ⟨b6, t7, m8, m9, u8, u9, hw⟩ := hw
    subst u8 u9
    refine r_callA (av := [ai v1, ai v2]) (rest := []) (ci := 9) d_X_walks_18 mk_St_sweep ll_X_229 im_St_sweep se_St_sweep rfl (nle rfl) rfl rfl (nle rfl) refB_n (refL_r q5 (refL_i (refL_i refL_n))) q10 (s_St_sweep (by omega) hw (fun h4 hw => ?_))
    show aW none m_X_walks (d + 1) 21 [(0, ar v0), (1, ai v1), (2, ai v2)] [] h4 b6 t7 QQ
    refine r_aload_n (j := 0) d_X_walks_21 rfl ?_
    obtain ⟨q11, hw⟩ := hw
    refine r_getR d_X_walks_22 ok_11 (nle rfl) (nle rfl) rfl lf_X_62 q11 ?_
    obtain ⟨q12, hw⟩ := hw
    refine r_getL d_X_walks_25 ok_9 (nle rfl) (nle rfl) rfl lf_X_235 q12 ?_
    exact r_lreturn d_X_walks_28.1 rfl (hQ _ _ hw)
  · replace hw := hw.1 (b2i_0.mp w9)
    refine r_ldc2 d_X_walks_8 lc_X_239 ?_
    exact r_lreturn d_X_walks_11.1 rfl (hQ _ _ hw)
set_option maxRecDepth 100000 in
set_option maxHeartbeats 4000000 in
theorem s_X_best {d : Nat} (hd : 5 ≤ d) {v0 : Nat} {v1 : Int32} {v2 : Int32} {bc bs : Nat} {h : Hp} {Q : Int32 → Hp → Prop} {QQ : Option AV → Hp → Prop} (hw : w_X_best bc bs v0 v1 v2 h Q) (hQ : ∀ r9 h9, Q r9 h9 → QQ (some (ai r9)) h9) : aCall m_X_best d [ar v0, ai v1, ai v2] h bc bs QQ := by
  obtain ⟨d, rfl⟩ : ∃ d9, d = d9 + 1 := ⟨d - 1, by omega⟩
  refine aCall_in pl_X_best (nle rfl) ?_
  show aW none m_X_best (d + 1) 0 [(0, ar v0), (1, ai v1), (2, ai v2)] [] h bc bs QQ
  unfold w_X_best at hw
  refine r_iload_n (j := 1) d_X_best_0 rfl ?_
  refine r_iload_n (j := 2) d_X_best_1 rfl ?_
  refine r_callS (av := [ai v1, ai v2]) (rest := []) d_X_best_2 mk_X_isStrip ll_X_225 st_X_isStrip rfl rfl (nle rfl) (s_X_isStrip (by omega) hw (fun r2 h1 hw => ?_))
  show aW none m_X_best (d + 1) 5 [(0, ar v0), (1, ai v1), (2, ai v2)] [ai (b2i r2)] h1 bc bs QQ
  refine r_if_ne d_X_best_5 (fun w9 => ?_) (fun w9 => ?_)
  · replace hw := hw.2 (fun g9 => w9 (b2i_0.mpr g9))
    refine r_aload_n (j := 0) d_X_best_11 rfl ?_
    obtain ⟨q3, hw⟩ := hw
    refine r_getR d_X_best_12 ok_11 (nle rfl) (nle rfl) rfl lf_X_62 q3 ?_
    refine r_iload_n (j := 1) d_X_best_15 rfl ?_
    refine r_iload_n (j := 2) d_X_best_16 rfl ?_
    obtain ⟨q5, hw⟩ := hw
    obtain ⟨q10, hw⟩ := hw
    obtain ⟨b6, t7, m8, m9, u8, u9, hw⟩ := hw
    subst u8 u9
    refine r_callA (av := [ai v1, ai v2]) (rest := []) (ci := 9) d_X_best_17 mk_St_sweep ll_X_229 im_St_sweep se_St_sweep rfl (nle rfl) rfl rfl (nle rfl) refB_n (refL_r q5 (refL_i (refL_i refL_n))) q10 (s_St_sweep (by omega) hw (fun h4 hw => ?_))
    show aW none m_X_best (d + 1) 20 [(0, ar v0), (1, ai v1), (2, ai v2)] [] h4 b6 t7 QQ
    refine r_aload_n (j := 0) d_X_best_20 rfl ?_
    obtain ⟨q11, hw⟩ := hw
    refine r_getR d_X_best_21 ok_11 (nle rfl) (nle rfl) rfl lf_X_62 q11 ?_
    obtain ⟨q12, hw⟩ := hw
    refine r_getL d_X_best_24 ok_9 (nle rfl) (nle rfl) rfl lf_X_235 q12 ?_
    refine r_lconst d_X_best_27 kl_0 ?_
    refine r_lcmp d_X_best_28 ?_
    refine r_if_le d_X_best_29 (fun w9 => ?_) (fun w9 => ?_)
    · replace hw := hw.1 ((lg_cmp_le _ _).mp w9)
      refine r_ldc d_X_best_42 lc_X_145 ?_
      exact r_ireturn d_X_best_44.1 rfl (hQ _ _ hw)
    · replace hw := hw.2 (fun g9 => w9 ((lg_cmp_le _ _).mpr g9))
      refine r_aload_n (j := 0) d_X_best_32 rfl ?_
      refine r_getR d_X_best_33 ok_11 (nle rfl) (nle rfl) rfl lf_X_62 q11 ?_
      refine r_getI d_X_best_36 ok_9 (nle rfl) (nle rfl) rfl lf_X_241 q12 ?_
      refine r_goto d_X_best_39 ?_
      exact r_ireturn d_X_best_44.1 rfl (hQ _ _ hw)
  · replace hw := hw.1 (b2i_0.mp w9)
    refine r_ldc d_X_best_8 lc_X_145 ?_
    exact r_ireturn d_X_best_10.1 rfl (hQ _ _ hw)
set_option maxRecDepth 100000 in
set_option maxHeartbeats 4000000 in
theorem s_X_step {d : Nat} (hd : 5 ≤ d) {v0 : Nat} {v1 : Int32} {v2 : Int32} {v3 : Int32} {bc bs : Nat} {h : Hp} {Q : Int32 → Hp → Prop} {QQ : Option AV → Hp → Prop} (hw : w_X_step bc bs v0 v1 v2 v3 h Q) (hQ : ∀ r9 h9, Q r9 h9 → QQ (some (ai r9)) h9) : aCall m_X_step d [ar v0, ai v1, ai v2, ai v3] h bc bs QQ := by
  obtain ⟨d, rfl⟩ : ∃ d9, d = d9 + 1 := ⟨d - 1, by omega⟩
  refine aCall_in pl_X_step (nle rfl) ?_
  show aW none m_X_step (d + 1) 0 [(0, ar v0), (1, ai v1), (2, ai v2), (3, ai v3)] [] h bc bs QQ
  unfold w_X_step at hw
  refine r_iload_n (j := 1) d_X_step_0 rfl ?_
  refine r_iload_n (j := 2) d_X_step_1 rfl ?_
  refine r_callS (av := [ai v1, ai v2]) (rest := []) d_X_step_2 mk_X_isStrip ll_X_225 st_X_isStrip rfl rfl (nle rfl) (s_X_isStrip (by omega) hw (fun r2 h1 hw => ?_))
  show aW none m_X_step (d + 1) 5 [(0, ar v0), (1, ai v1), (2, ai v2), (3, ai v3)] [ai (b2i r2)] h1 bc bs QQ
  refine r_if_eq d_X_step_5 (fun w9 => ?_) (fun w9 => ?_)
  · replace hw := hw.1 (b2i_0.mp w9)
    refine r_iconst d_X_step_17 kc_m1 ?_
    exact r_ireturn d_X_step_18.1 rfl (hQ _ _ hw)
  · replace hw := hw.2 (fun g9 => w9 (b2i_0.mpr g9))
    refine r_iload_n (j := 3) d_X_step_8 rfl ?_
    refine r_if_lt d_X_step_9 (fun w9 => ?_) (fun w9 => ?_)
    · replace hw := hw.1 w9
      refine r_iconst d_X_step_17 kc_m1 ?_
      exact r_ireturn d_X_step_18.1 rfl (hQ _ _ hw)
    · replace hw := hw.2 w9
      refine r_iload_n (j := 3) d_X_step_12 rfl ?_
      refine r_iload_n (j := 1) d_X_step_13 rfl ?_
      refine r_icmp_lt d_X_step_14 (fun w9 => ?_) (fun w9 => ?_)
      · replace hw := hw.1 w9
        refine r_aload_n (j := 0) d_X_step_19 rfl ?_
        obtain ⟨q3, hw⟩ := hw
        refine r_getR d_X_step_20 ok_11 (nle rfl) (nle rfl) rfl lf_X_62 q3 ?_
        refine r_iload_n (j := 1) d_X_step_23 rfl ?_
        refine r_iload_n (j := 2) d_X_step_24 rfl ?_
        obtain ⟨q5, hw⟩ := hw
        obtain ⟨q10, hw⟩ := hw
        obtain ⟨b6, t7, m8, m9, u8, u9, hw⟩ := hw
        subst u8 u9
        refine r_callA (av := [ai v1, ai v2]) (rest := []) (ci := 9) d_X_step_25 mk_St_sweep ll_X_229 im_St_sweep se_St_sweep rfl (nle rfl) rfl rfl (nle rfl) refB_n (refL_r q5 (refL_i (refL_i (refL_i refL_n)))) q10 (s_St_sweep (by omega) hw (fun h4 hw => ?_))
        show aW none m_X_step (d + 1) 28 [(0, ar v0), (1, ai v1), (2, ai v2), (3, ai v3)] [] h4 b6 t7 QQ
        refine r_aload_n (j := 0) d_X_step_28 rfl ?_
        obtain ⟨q11, hw⟩ := hw
        refine r_getR d_X_step_29 ok_11 (nle rfl) (nle rfl) rfl lf_X_62 q11 ?_
        obtain ⟨q12, hw⟩ := hw
        refine r_getL d_X_step_32 ok_9 (nle rfl) (nle rfl) rfl lf_X_235 q12 ?_
        refine r_lconst d_X_step_35 kl_0 ?_
        refine r_lcmp d_X_step_36 ?_
        refine r_if_le d_X_step_37 (fun w9 => ?_) (fun w9 => ?_)
        · replace hw := hw.1 ((lg_cmp_le _ _).mp w9)
          refine r_iconst d_X_step_51 kc_m1 ?_
          exact r_ireturn d_X_step_52.1 rfl (hQ _ _ hw)
        · replace hw := hw.2 (fun g9 => w9 ((lg_cmp_le _ _).mpr g9))
          refine r_aload_n (j := 0) d_X_step_40 rfl ?_
          refine r_getR d_X_step_41 ok_11 (nle rfl) (nle rfl) rfl lf_X_62 q11 ?_
          refine r_iload_n (j := 3) d_X_step_44 rfl ?_
          refine r_callV (av := [ai v3]) (rest := []) (ci := 9) d_X_step_45 mk_St_columnAt ll_X_244 im_St_columnAt se_St_columnAt rfl (nle rfl) rfl rfl (nle rfl) q12 (s_St_columnAt (by omega) hw (fun r14 h13 hw => ?_))
          show aW none m_X_step (d + 1) 48 [(0, ar v0), (1, ai v1), (2, ai v2), (3, ai v3)] [ai r14] h13 b6 t7 QQ
          refine r_goto d_X_step_48 ?_
          exact r_ireturn d_X_step_52.1 rfl (hQ _ _ hw)
      · replace hw := hw.2 w9
        refine r_iconst d_X_step_17 kc_m1 ?_
        exact r_ireturn d_X_step_18.1 rfl (hQ _ _ hw)
set_option maxRecDepth 100000 in
set_option maxHeartbeats 4000000 in
theorem s_X_countPlans_L2 {d : Nat} (hd : 62 ≤ d + 1) {Q : Int32 → Hp → Prop} {QQ : Option AV → Hp → Prop} (hQ : ∀ r9 h9, Q r9 h9 → QQ (some (ai r9)) h9) {v0 : Nat} {v1 : Int32} {v2 : Int32} : ∀ (n : Nat) (v3 : Int32) (h : Hp), w_X_countPlans_L2 Q  v0 v1 v2 n v3 h → aW none m_X_countPlans (d + 1) 2 [(0, ar v0), (1, ai v1), (2, ai v2), (3, ai v3)] [] h 0 0 QQ := by
  intro n
  induction n with
  | zero => intro v3 h hw; exact hw.elim
  | succ n ih =>
    intro v3 h hw
    unfold w_X_countPlans_L2 at hw
    refine r_iload_n (j := 3) d_X_countPlans_2 rfl ?_
    refine r_iconst d_X_countPlans_3 kc_3 ?_
    refine r_icmp_ge d_X_countPlans_4 (fun w9 => ?_) (fun w9 => ?_)
    · replace hw := hw.1 w9
      refine r_aload_n (j := 0) d_X_countPlans_27 rfl ?_
      obtain ⟨q1, hw⟩ := hw
      refine r_getR d_X_countPlans_28 ok_11 (nle rfl) (nle rfl) rfl lf_X_53 q1 ?_
      refine r_aload_n (j := 0) d_X_countPlans_31 rfl ?_
      refine r_getR d_X_countPlans_32 ok_11 (nle rfl) (nle rfl) rfl lf_X_23 q1 ?_
      refine r_iconst d_X_countPlans_35 kc_m1 ?_
      refine r_iload_n (j := 1) d_X_countPlans_36 rfl ?_
      refine r_aload_n (j := 0) d_X_countPlans_37 rfl ?_
      refine r_getR d_X_countPlans_38 ok_11 (nle rfl) (nle rfl) rfl lf_X_103 q1 ?_
      refine r_iload_n (j := 2) d_X_countPlans_41 rfl ?_
      obtain ⟨q3, hw⟩ := hw
      refine r_callV (av := [ar (gR h v0 2), ai (-1 : Int32), ai v1, ar (gR h v0 14), ai v2]) (rest := []) (ci := 7) d_X_countPlans_42 mk_Ps_run ll_X_250 im_Ps_run se_Ps_run rfl (nle rfl) rfl rfl (nle rfl) q3 (s_Ps_run (by omega) hw (fun h2 hw => ?_))
      show aW none m_X_countPlans (d + 1) 45 [(0, ar v0), (1, ai v1), (2, ai v2), (3, ai v3)] [] h2 0 0 QQ
      refine r_aload_n (j := 0) d_X_countPlans_45 rfl ?_
      obtain ⟨q4, hw⟩ := hw
      refine r_getR d_X_countPlans_46 ok_11 (nle rfl) (nle rfl) rfl lf_X_53 q4 ?_
      obtain ⟨q5, hw⟩ := hw
      refine r_getI d_X_countPlans_49 ok_7 (nle rfl) (nle rfl) rfl lf_X_254 q5 ?_
      exact r_ireturn d_X_countPlans_52.1 rfl (hQ _ _ hw)
    · replace hw := hw.2 w9
      refine r_aload_n (j := 0) d_X_countPlans_7 rfl ?_
      obtain ⟨q6, hw⟩ := hw
      refine r_getR d_X_countPlans_8 ok_11 (nle rfl) (nle rfl) rfl lf_X_103 q6 ?_
      refine r_iload_n (j := 3) d_X_countPlans_11 rfl ?_
      refine r_aload_n (j := 0) d_X_countPlans_12 rfl ?_
      refine r_getR d_X_countPlans_13 ok_11 (nle rfl) (nle rfl) rfl lf_X_23 q6 ?_
      refine r_iload_n (j := 3) d_X_countPlans_16 rfl ?_
      obtain ⟨q9, hw⟩ := hw
      refine r_callV (av := [ai v3]) (rest := [ai v3, ar (gR h v0 14)]) (ci := 1) d_X_countPlans_17 mk_Co_needOf ll_X_154 im_Co_needOf se_Co_needOf rfl (nle rfl) rfl rfl (nle rfl) q9 (s_Co_needOf  hw (fun r8 h7 hw => ?_))
      show aW none m_X_countPlans (d + 1) 20 [(0, ar v0), (1, ai v1), (2, ai v2), (3, ai v3)] [ai r8, ai v3, ar (gR h v0 14)] h7 0 0 QQ
      obtain ⟨q10, hw⟩ := hw
      obtain ⟨q11, hw⟩ := hw
      refine r_iast d_X_countPlans_20 q10 q11 ?_
      refine r_iinc (j := 3) (ls2 := [(3, ai (v3 + (1 : Int32))), (0, ar v0), (1, ai v1), (2, ai v2)]) d_X_countPlans_21 rfl (congrArg (HAdd.hAdd v3) kc_1) (nle rfl) rfl ?_
      refine r_goto d_X_countPlans_24 ?_
      refine r_pick (ls2 := [(0, ar v0), (1, ai v1), (2, ai v2), (3, ai (v3 + (1 : Int32)))]) [1, 2, 3, 0] rfl ?_
      exact ih _ _ hw
set_option maxRecDepth 100000 in
set_option maxHeartbeats 4000000 in
theorem s_X_countPlans {d : Nat} (hd : 62 ≤ d) {v0 : Nat} {v1 : Int32} {v2 : Int32} {h : Hp} {Q : Int32 → Hp → Prop} {QQ : Option AV → Hp → Prop} (hw : w_X_countPlans v0 v1 v2 h Q) (hQ : ∀ r9 h9, Q r9 h9 → QQ (some (ai r9)) h9) : aCall m_X_countPlans d [ar v0, ai v1, ai v2] h 0 0 QQ := by
  obtain ⟨d, rfl⟩ : ∃ d9, d = d9 + 1 := ⟨d - 1, by omega⟩
  refine aCall_in pl_X_countPlans (nle rfl) ?_
  show aW none m_X_countPlans (d + 1) 0 [(0, ar v0), (1, ai v1), (2, ai v2)] [] h 0 0 QQ
  unfold w_X_countPlans at hw
  refine r_iconst d_X_countPlans_0 kc_0 ?_
  refine r_istore_n (ls2 := [(3, ai (0 : Int32)), (0, ar v0), (1, ai v1), (2, ai v2)]) d_X_countPlans_1 (nle rfl) rfl ?_
  obtain ⟨n12, hw⟩ := hw
  refine r_pick (ls2 := [(0, ar v0), (1, ai v1), (2, ai v2), (3, ai (0 : Int32))]) [1, 2, 3, 0] rfl ?_
  exact s_X_countPlans_L2 hd hQ  n12 _ _ hw
set_option maxRecDepth 100000 in
set_option maxHeartbeats 4000000 in
theorem s_X_narrow_L20 {d : Nat} (hd : 63 ≤ d + 1) {Q : Int32 → Hp → Prop} {QQ : Option AV → Hp → Prop} (hQ : ∀ r9 h9, Q r9 h9 → QQ (some (ai r9)) h9) {v0 : Nat} {v1 : Int32} : ∀ (n : Nat) (v2 : Int32) (bc : Nat) (bs : Nat) (h : Hp), w_X_narrow_L20 Q  v0 v1 n v2 bc bs h → aW none m_X_narrow (d + 1) 20 [(0, ar v0), (1, ai v1), (2, ai v2)] [] h bc bs QQ := by
  intro n
  induction n with
  | zero => intro v2 bc bs h hw; exact hw.elim
  | succ n ih =>
    intro v2 bc bs h hw
    unfold w_X_narrow_L20 at hw
    refine r_iload_n (j := 2) d_X_narrow_20 rfl ?_
    refine r_bipush d_X_narrow_21 kb_12 ?_
    refine r_icmp_gt d_X_narrow_23 (fun w9 => ?_) (fun w9 => ?_)
    · replace hw := hw.1 w9
      refine r_iconst d_X_narrow_55 kc_m1 ?_
      exact r_ireturn d_X_narrow_56.1 rfl (hQ _ _ hw)
    · replace hw := hw.2 w9
      refine r_aload_n (j := 0) d_X_narrow_26 rfl ?_
      obtain ⟨q6, hw⟩ := hw
      refine r_getR d_X_narrow_27 ok_11 (nle rfl) (nle rfl) rfl lf_X_62 q6 ?_
      refine r_iload_n (j := 1) d_X_narrow_30 rfl ?_
      refine r_iload_n (j := 2) d_X_narrow_31 rfl ?_
      obtain ⟨q8, hw⟩ := hw
      obtain ⟨q13, hw⟩ := hw
      obtain ⟨b9, t10, m11, m12, u8, u9, hw⟩ := hw
      subst u8 u9
      refine r_callA (av := [ai v1, ai v2]) (rest := []) (ci := 9) d_X_narrow_32 mk_St_sweep ll_X_229 im_St_sweep se_St_sweep rfl (nle rfl) rfl rfl (nle rfl) refB_n (refL_r q8 (refL_i (refL_i refL_n))) q13 (s_St_sweep (by omega) hw (fun h7 hw => ?_))
      show aW none m_X_narrow (d + 1) 35 [(0, ar v0), (1, ai v1), (2, ai v2)] [] h7 b9 t10 QQ
      refine r_aload_n (j := 0) d_X_narrow_35 rfl ?_
      obtain ⟨q14, hw⟩ := hw
      refine r_getR d_X_narrow_36 ok_11 (nle rfl) (nle rfl) rfl lf_X_62 q14 ?_
      obtain ⟨q15, hw⟩ := hw
      refine r_getL d_X_narrow_39 ok_9 (nle rfl) (nle rfl) rfl lf_X_235 q15 ?_
      refine r_lconst d_X_narrow_42 kl_0 ?_
      refine r_lcmp d_X_narrow_43 ?_
      refine r_if_le d_X_narrow_44 (fun w9 => ?_) (fun w9 => ?_)
      · replace hw := hw.1 ((lg_cmp_le _ _).mp w9)
        refine r_iinc (j := 2) (ls2 := [(2, ai (v2 + (1 : Int32))), (0, ar v0), (1, ai v1)]) d_X_narrow_49 rfl (congrArg (HAdd.hAdd v2) kc_1) (nle rfl) rfl ?_
        refine r_goto d_X_narrow_52 ?_
        refine r_pick (ls2 := [(0, ar v0), (1, ai v1), (2, ai (v2 + (1 : Int32)))]) [1, 2, 0] rfl ?_
        exact ih _ _ _ _ hw
      · replace hw := hw.2 (fun g9 => w9 ((lg_cmp_le _ _).mpr g9))
        refine r_iload_n (j := 2) d_X_narrow_47 rfl ?_
        exact r_ireturn d_X_narrow_48.1 rfl (hQ _ _ hw)
set_option maxRecDepth 100000 in
set_option maxHeartbeats 4000000 in
theorem s_X_narrow {d : Nat} (hd : 63 ≤ d) {v0 : Nat} {v1 : Int32} {bc bs : Nat} {h : Hp} {Q : Int32 → Hp → Prop} {QQ : Option AV → Hp → Prop} (hw : w_X_narrow bc bs v0 v1 h Q) (hQ : ∀ r9 h9, Q r9 h9 → QQ (some (ai r9)) h9) : aCall m_X_narrow d [ar v0, ai v1] h bc bs QQ := by
  obtain ⟨d, rfl⟩ : ∃ d9, d = d9 + 1 := ⟨d - 1, by omega⟩
  refine aCall_in pl_X_narrow (nle rfl) ?_
  show aW none m_X_narrow (d + 1) 0 [(0, ar v0), (1, ai v1)] [] h bc bs QQ
  unfold w_X_narrow at hw
  refine r_iload_n (j := 1) d_X_narrow_0 rfl ?_
  refine r_callS (av := [ai v1]) (rest := []) d_X_narrow_1 mk_X_isLength ll_X_222 st_X_isLength rfl rfl (nle rfl) (s_X_isLength  hw (fun r2 h1 hw => ?_))
  show aW none m_X_narrow (d + 1) 4 [(0, ar v0), (1, ai v1)] [ai (b2i r2)] h1 bc bs QQ
  refine r_if_eq d_X_narrow_4 (fun w9 => ?_) (fun w9 => ?_)
  · replace hw := hw.1 (b2i_0.mp w9)
    refine r_iconst d_X_narrow_16 kc_m1 ?_
    exact r_ireturn d_X_narrow_17.1 rfl (hQ _ _ hw)
  · replace hw := hw.2 (fun g9 => w9 (b2i_0.mpr g9))
    refine r_aload_n (j := 0) d_X_narrow_7 rfl ?_
    refine r_iload_n (j := 1) d_X_narrow_8 rfl ?_
    refine r_iconst d_X_narrow_9 kc_1 ?_
    obtain ⟨q5, hw⟩ := hw
    refine r_callV (av := [ai v1, ai (1 : Int32)]) (rest := []) (ci := 11) d_X_narrow_10 mk_X_countPlans ll_X_247 im_X_countPlans se_X_countPlans rfl (nle rfl) rfl rfl (nle rfl) q5 (s_X_countPlans (by omega) hw (fun r4 h3 hw => ?_))
    show aW none m_X_narrow (d + 1) 13 [(0, ar v0), (1, ai v1)] [ai r4] h3 bc bs QQ
    refine r_if_ne d_X_narrow_13 (fun w9 => ?_) (fun w9 => ?_)
    · replace hw := hw.2 w9
      refine r_iconst d_X_narrow_18 kc_0 ?_
      refine r_istore_n (ls2 := [(2, ai (0 : Int32)), (0, ar v0), (1, ai v1)]) d_X_narrow_19 (nle rfl) rfl ?_
      obtain ⟨n16, hw⟩ := hw
      refine r_pick (ls2 := [(0, ar v0), (1, ai v1), (2, ai (0 : Int32))]) [1, 2, 0] rfl ?_
      exact s_X_narrow_L20 hd hQ  n16 _ _ _ _ hw
    · replace hw := hw.1 w9
      refine r_iconst d_X_narrow_16 kc_m1 ?_
      exact r_ireturn d_X_narrow_17.1 rfl (hQ _ _ hw)
set_option maxRecDepth 100000 in
set_option maxHeartbeats 4000000 in
theorem s_X_fewest_L2 {d : Nat} (hd : 63 ≤ d + 1) {Q : Int32 → Hp → Prop} {QQ : Option AV → Hp → Prop} (hQ : ∀ r9 h9, Q r9 h9 → QQ (some (ai r9)) h9) {v0 : Nat} : ∀ (n : Nat) (v1 : Int32) (h : Hp), w_X_fewest_L2 Q  v0 n v1 h → aW none m_X_fewest (d + 1) 2 [(0, ar v0), (1, ai v1)] [] h 0 0 QQ := by
  intro n
  induction n with
  | zero => intro v1 h hw; exact hw.elim
  | succ n ih =>
    intro v1 h hw
    unfold w_X_fewest_L2 at hw
    refine r_iload_n (j := 1) d_X_fewest_2 rfl ?_
    refine r_bipush d_X_fewest_3 kb_12 ?_
    refine r_icmp_gt d_X_fewest_5 (fun w9 => ?_) (fun w9 => ?_)
    · replace hw := hw.1 w9
      refine r_iconst d_X_fewest_25 kc_m1 ?_
      exact r_ireturn d_X_fewest_26.1 rfl (hQ _ _ hw)
    · replace hw := hw.2 w9
      refine r_aload_n (j := 0) d_X_fewest_8 rfl ?_
      refine r_iload_n (j := 1) d_X_fewest_9 rfl ?_
      refine r_iconst d_X_fewest_10 kc_1 ?_
      obtain ⟨q3, hw⟩ := hw
      refine r_callV (av := [ai v1, ai (1 : Int32)]) (rest := []) (ci := 11) d_X_fewest_11 mk_X_countPlans ll_X_247 im_X_countPlans se_X_countPlans rfl (nle rfl) rfl rfl (nle rfl) q3 (s_X_countPlans (by omega) hw (fun r2 h1 hw => ?_))
      show aW none m_X_fewest (d + 1) 14 [(0, ar v0), (1, ai v1)] [ai r2] h1 0 0 QQ
      refine r_if_le d_X_fewest_14 (fun w9 => ?_) (fun w9 => ?_)
      · replace hw := hw.1 w9
        refine r_iinc (j := 1) (ls2 := [(1, ai (v1 + (1 : Int32))), (0, ar v0)]) d_X_fewest_19 rfl (congrArg (HAdd.hAdd v1) kc_1) (nle rfl) rfl ?_
        refine r_goto d_X_fewest_22 ?_
        refine r_pick (ls2 := [(0, ar v0), (1, ai (v1 + (1 : Int32)))]) [1, 0] rfl ?_
        exact ih _ _ hw
      · replace hw := hw.2 w9
        refine r_iload_n (j := 1) d_X_fewest_17 rfl ?_
        exact r_ireturn d_X_fewest_18.1 rfl (hQ _ _ hw)
set_option maxRecDepth 100000 in
set_option maxHeartbeats 4000000 in
theorem s_X_fewest {d : Nat} (hd : 63 ≤ d) {v0 : Nat} {h : Hp} {Q : Int32 → Hp → Prop} {QQ : Option AV → Hp → Prop} (hw : w_X_fewest v0 h Q) (hQ : ∀ r9 h9, Q r9 h9 → QQ (some (ai r9)) h9) : aCall m_X_fewest d [ar v0] h 0 0 QQ := by
  obtain ⟨d, rfl⟩ : ∃ d9, d = d9 + 1 := ⟨d - 1, by omega⟩
  refine aCall_in pl_X_fewest (nle rfl) ?_
  show aW none m_X_fewest (d + 1) 0 [(0, ar v0)] [] h 0 0 QQ
  unfold w_X_fewest at hw
  refine r_iconst d_X_fewest_0 kc_0 ?_
  refine r_istore_n (ls2 := [(1, ai (0 : Int32)), (0, ar v0)]) d_X_fewest_1 (nle rfl) rfl ?_
  obtain ⟨n4, hw⟩ := hw
  refine r_pick (ls2 := [(0, ar v0), (1, ai (0 : Int32))]) [1, 0] rfl ?_
  exact s_X_fewest_L2 hd hQ  n4 _ _ hw
set_option maxRecDepth 100000 in
set_option maxHeartbeats 4000000 in
theorem s_X_optimum {d : Nat} (hd : 64 ≤ d) {v0 : Nat} {v1 : Int32} {h : Hp} {Q : Int32 → Hp → Prop} {QQ : Option AV → Hp → Prop} (hw : w_X_optimum v0 v1 h Q) (hQ : ∀ r9 h9, Q r9 h9 → QQ (some (ai r9)) h9) : aCall m_X_optimum d [ar v0, ai v1] h 0 0 QQ := by
  obtain ⟨d, rfl⟩ : ∃ d9, d = d9 + 1 := ⟨d - 1, by omega⟩
  refine aCall_in pl_X_optimum (nle rfl) ?_
  show aW none m_X_optimum (d + 1) 0 [(0, ar v0), (1, ai v1)] [] h 0 0 QQ
  unfold w_X_optimum at hw
  refine r_iload_n (j := 1) d_X_optimum_0 rfl ?_
  refine r_if_lt d_X_optimum_1 (fun w9 => ?_) (fun w9 => ?_)
  · replace hw := hw.1 w9
    refine r_ldc d_X_optimum_19 lc_X_145 ?_
    exact r_ireturn d_X_optimum_21.1 rfl (hQ _ _ hw)
  · replace hw := hw.2 w9
    refine r_iload_n (j := 1) d_X_optimum_4 rfl ?_
    refine r_iconst d_X_optimum_5 kc_1 ?_
    refine r_icmp_gt d_X_optimum_6 (fun w9 => ?_) (fun w9 => ?_)
    · replace hw := hw.1 w9
      refine r_ldc d_X_optimum_19 lc_X_145 ?_
      exact r_ireturn d_X_optimum_21.1 rfl (hQ _ _ hw)
    · replace hw := hw.2 w9
      refine r_aload_n (j := 0) d_X_optimum_9 rfl ?_
      obtain ⟨q1, hw⟩ := hw
      refine r_getR d_X_optimum_10 ok_11 (nle rfl) (nle rfl) rfl lf_X_71 q1 ?_
      obtain ⟨q4, hw⟩ := hw
      refine r_callV (av := []) (rest := []) (ci := 6) d_X_optimum_13 mk_Op_find ll_X_257 im_Op_find se_Op_find rfl (nle rfl) rfl rfl (nle rfl) q4 (s_Op_find (by omega) hw (fun r3 h2 hw => ?_))
      show aW none m_X_optimum (d + 1) 16 [(0, ar v0), (1, ai v1)] [ai (b2i r3)] h2 0 0 QQ
      refine r_if_ne d_X_optimum_16 (fun w9 => ?_) (fun w9 => ?_)
      · replace hw := hw.2 (fun g9 => w9 (b2i_0.mpr g9))
        refine r_iload_n (j := 1) d_X_optimum_22 rfl ?_
        refine r_if_ne d_X_optimum_23 (fun w9 => ?_) (fun w9 => ?_)
        · replace hw := hw.2 w9
          refine r_aload_n (j := 0) d_X_optimum_36 rfl ?_
          obtain ⟨q5, hw⟩ := hw
          refine r_getR d_X_optimum_37 ok_11 (nle rfl) (nle rfl) rfl lf_X_71 q5 ?_
          obtain ⟨q6, hw⟩ := hw
          refine r_getI d_X_optimum_40 ok_6 (nle rfl) (nle rfl) rfl lf_X_260 q6 ?_
          exact r_ireturn d_X_optimum_43.1 rfl (hQ _ _ hw)
        · replace hw := hw.1 w9
          refine r_aload_n (j := 0) d_X_optimum_26 rfl ?_
          obtain ⟨q7, hw⟩ := hw
          refine r_getR d_X_optimum_27 ok_11 (nle rfl) (nle rfl) rfl lf_X_71 q7 ?_
          obtain ⟨q8, hw⟩ := hw
          refine r_getI d_X_optimum_30 ok_6 (nle rfl) (nle rfl) rfl lf_X_259 q8 ?_
          refine r_goto d_X_optimum_33 ?_
          exact r_ireturn d_X_optimum_43.1 rfl (hQ _ _ hw)
      · replace hw := hw.1 (b2i_0.mp w9)
        refine r_ldc d_X_optimum_19 lc_X_145 ?_
        exact r_ireturn d_X_optimum_21.1 rfl (hQ _ _ hw)
set_option maxRecDepth 100000 in
set_option maxHeartbeats 4000000 in
theorem s_X_plan {d : Nat} (hd : 64 ≤ d) {v0 : Nat} {v1 : Int32} {h : Hp} {Q : Int32 → Hp → Prop} {QQ : Option AV → Hp → Prop} (hw : w_X_plan v0 v1 h Q) (hQ : ∀ r9 h9, Q r9 h9 → QQ (some (ai r9)) h9) : aCall m_X_plan d [ar v0, ai v1] h 0 0 QQ := by
  obtain ⟨d, rfl⟩ : ∃ d9, d = d9 + 1 := ⟨d - 1, by omega⟩
  refine aCall_in pl_X_plan (nle rfl) ?_
  show aW none m_X_plan (d + 1) 0 [(0, ar v0), (1, ai v1)] [] h 0 0 QQ
  unfold w_X_plan at hw
  refine r_aload_n (j := 0) d_X_plan_0 rfl ?_
  obtain ⟨q1, hw⟩ := hw
  refine r_getR d_X_plan_1 ok_11 (nle rfl) (nle rfl) rfl lf_X_23 q1 ?_
  refine r_iload_n (j := 1) d_X_plan_4 rfl ?_
  obtain ⟨q4, hw⟩ := hw
  refine r_callV (av := [ai v1]) (rest := []) (ci := 1) d_X_plan_5 mk_Co_hasColumn ll_X_138 im_Co_hasColumn se_Co_hasColumn rfl (nle rfl) rfl rfl (nle rfl) q4 (s_Co_hasColumn  hw (fun r3 h2 hw => ?_))
  show aW none m_X_plan (d + 1) 8 [(0, ar v0), (1, ai v1)] [ai (b2i r3)] h2 0 0 QQ
  refine r_if_eq d_X_plan_8 (fun w9 => ?_) (fun w9 => ?_)
  · replace hw := hw.1 (b2i_0.mp w9)
    refine r_iconst d_X_plan_21 kc_m1 ?_
    exact r_ireturn d_X_plan_22.1 rfl (hQ _ _ hw)
  · replace hw := hw.2 (fun g9 => w9 (b2i_0.mpr g9))
    refine r_aload_n (j := 0) d_X_plan_11 rfl ?_
    obtain ⟨q5, hw⟩ := hw
    refine r_getR d_X_plan_12 ok_11 (nle rfl) (nle rfl) rfl lf_X_71 q5 ?_
    obtain ⟨q8, hw⟩ := hw
    refine r_callV (av := []) (rest := []) (ci := 6) d_X_plan_15 mk_Op_find ll_X_257 im_Op_find se_Op_find rfl (nle rfl) rfl rfl (nle rfl) q8 (s_Op_find (by omega) hw (fun r7 h6 hw => ?_))
    show aW none m_X_plan (d + 1) 18 [(0, ar v0), (1, ai v1)] [ai (b2i r7)] h6 0 0 QQ
    refine r_if_ne d_X_plan_18 (fun w9 => ?_) (fun w9 => ?_)
    · replace hw := hw.2 (fun g9 => w9 (b2i_0.mpr g9))
      refine r_aload_n (j := 0) d_X_plan_23 rfl ?_
      obtain ⟨q9, hw⟩ := hw
      refine r_getR d_X_plan_24 ok_11 (nle rfl) (nle rfl) rfl lf_X_71 q9 ?_
      refine r_iload_n (j := 1) d_X_plan_27 rfl ?_
      obtain ⟨q12, hw⟩ := hw
      refine r_callV (av := [ai v1]) (rest := []) (ci := 6) d_X_plan_28 mk_Op_oftenOf ll_X_261 im_Op_oftenOf se_Op_oftenOf rfl (nle rfl) rfl rfl (nle rfl) q12 (s_Op_oftenOf  hw (fun r11 h10 hw => ?_))
      show aW none m_X_plan (d + 1) 31 [(0, ar v0), (1, ai v1)] [ai r11] h10 0 0 QQ
      exact r_ireturn d_X_plan_31.1 rfl (hQ _ _ hw)
    · replace hw := hw.1 (b2i_0.mp w9)
      refine r_iconst d_X_plan_21 kc_m1 ?_
      exact r_ireturn d_X_plan_22.1 rfl (hQ _ _ hw)
set_option maxRecDepth 100000 in
set_option maxHeartbeats 4000000 in
theorem s_X_plans {d : Nat} (hd : 63 ≤ d) {v0 : Nat} {v1 : Int32} {h : Hp} {Q : Int32 → Hp → Prop} {QQ : Option AV → Hp → Prop} (hw : w_X_plans v0 v1 h Q) (hQ : ∀ r9 h9, Q r9 h9 → QQ (some (ai r9)) h9) : aCall m_X_plans d [ar v0, ai v1] h 0 0 QQ := by
  obtain ⟨d, rfl⟩ : ∃ d9, d = d9 + 1 := ⟨d - 1, by omega⟩
  refine aCall_in pl_X_plans (nle rfl) ?_
  show aW none m_X_plans (d + 1) 0 [(0, ar v0), (1, ai v1)] [] h 0 0 QQ
  unfold w_X_plans at hw
  refine r_iload_n (j := 1) d_X_plans_0 rfl ?_
  refine r_callS (av := [ai v1]) (rest := []) d_X_plans_1 mk_X_isLength ll_X_222 st_X_isLength rfl rfl (nle rfl) (s_X_isLength  hw (fun r2 h1 hw => ?_))
  show aW none m_X_plans (d + 1) 4 [(0, ar v0), (1, ai v1)] [ai (b2i r2)] h1 0 0 QQ
  refine r_if_eq d_X_plans_4 (fun w9 => ?_) (fun w9 => ?_)
  · replace hw := hw.1 (b2i_0.mp w9)
    refine r_iconst d_X_plans_18 kc_m1 ?_
    exact r_ireturn d_X_plans_19.1 rfl (hQ _ _ hw)
  · replace hw := hw.2 (fun g9 => w9 (b2i_0.mpr g9))
    refine r_aload_n (j := 0) d_X_plans_7 rfl ?_
    refine r_iload_n (j := 1) d_X_plans_8 rfl ?_
    refine r_ldcw d_X_plans_9 lc_X_264 ?_
    obtain ⟨q5, hw⟩ := hw
    refine r_callV (av := [ai v1, ai (1000000 : Int32)]) (rest := []) (ci := 11) d_X_plans_12 mk_X_countPlans ll_X_247 im_X_countPlans se_X_countPlans rfl (nle rfl) rfl rfl (nle rfl) q5 (s_X_countPlans (by omega) hw (fun r4 h3 hw => ?_))
    show aW none m_X_plans (d + 1) 15 [(0, ar v0), (1, ai v1)] [ai r4] h3 0 0 QQ
    refine r_goto d_X_plans_15 ?_
    exact r_ireturn d_X_plans_19.1 rfl (hQ _ _ hw)
set_option maxRecDepth 100000 in
set_option maxHeartbeats 4000000 in
theorem s_X_order {d : Nat} (hd : 64 ≤ d) {v0 : Nat} {v1 : Int32} {h : Hp} {Q : Int32 → Hp → Prop} {QQ : Option AV → Hp → Prop} (hw : w_X_order v0 v1 h Q) (hQ : ∀ r9 h9, Q r9 h9 → QQ (some (ai r9)) h9) : aCall m_X_order d [ar v0, ai v1] h 0 0 QQ := by
  obtain ⟨d, rfl⟩ : ∃ d9, d = d9 + 1 := ⟨d - 1, by omega⟩
  refine aCall_in pl_X_order (nle rfl) ?_
  show aW none m_X_order (d + 1) 0 [(0, ar v0), (1, ai v1)] [] h 0 0 QQ
  unfold w_X_order at hw
  refine r_aload_n (j := 0) d_X_order_0 rfl ?_
  obtain ⟨q1, hw⟩ := hw
  refine r_getR d_X_order_1 ok_11 (nle rfl) (nle rfl) rfl lf_X_71 q1 ?_
  obtain ⟨q4, hw⟩ := hw
  refine r_callV (av := []) (rest := []) (ci := 6) d_X_order_4 mk_Op_find ll_X_257 im_Op_find se_Op_find rfl (nle rfl) rfl rfl (nle rfl) q4 (s_Op_find (by omega) hw (fun r3 h2 hw => ?_))
  show aW none m_X_order (d + 1) 7 [(0, ar v0), (1, ai v1)] [ai (b2i r3)] h2 0 0 QQ
  refine r_if_eq d_X_order_7 (fun w9 => ?_) (fun w9 => ?_)
  · replace hw := hw.1 (b2i_0.mp w9)
    refine r_iconst d_X_order_25 kc_m1 ?_
    exact r_ireturn d_X_order_26.1 rfl (hQ _ _ hw)
  · replace hw := hw.2 (fun g9 => w9 (b2i_0.mpr g9))
    refine r_iload_n (j := 1) d_X_order_10 rfl ?_
    refine r_if_lt d_X_order_11 (fun w9 => ?_) (fun w9 => ?_)
    · replace hw := hw.1 w9
      refine r_iconst d_X_order_25 kc_m1 ?_
      exact r_ireturn d_X_order_26.1 rfl (hQ _ _ hw)
    · replace hw := hw.2 w9
      refine r_iload_n (j := 1) d_X_order_14 rfl ?_
      refine r_aload_n (j := 0) d_X_order_15 rfl ?_
      obtain ⟨q5, hw⟩ := hw
      refine r_getR d_X_order_16 ok_11 (nle rfl) (nle rfl) rfl lf_X_71 q5 ?_
      obtain ⟨q6, hw⟩ := hw
      refine r_getI d_X_order_19 ok_6 (nle rfl) (nle rfl) rfl lf_X_260 q6 ?_
      refine r_icmp_lt d_X_order_22 (fun w9 => ?_) (fun w9 => ?_)
      · replace hw := hw.1 w9
        refine r_aload_n (j := 0) d_X_order_27 rfl ?_
        refine r_getR d_X_order_28 ok_11 (nle rfl) (nle rfl) rfl lf_X_71 q5 ?_
        refine r_iload_n (j := 1) d_X_order_31 rfl ?_
        refine r_callV (av := [ai v1]) (rest := []) (ci := 6) d_X_order_32 mk_Op_columnAt ll_X_265 im_Op_columnAt se_Op_columnAt rfl (nle rfl) rfl rfl (nle rfl) q6 (s_Op_columnAt  hw (fun r8 h7 hw => ?_))
        show aW none m_X_order (d + 1) 35 [(0, ar v0), (1, ai v1)] [ai r8] h7 0 0 QQ
        exact r_ireturn d_X_order_35.1 rfl (hQ _ _ hw)
      · replace hw := hw.2 w9
        refine r_iconst d_X_order_25 kc_m1 ?_
        exact r_ireturn d_X_order_26.1 rfl (hQ _ _ hw)
set_option maxRecDepth 100000 in
set_option maxHeartbeats 4000000 in
theorem s_X_strays {d : Nat} (hd : 64 ≤ d) {v0 : Nat} {h : Hp} {Q : Int32 → Hp → Prop} {QQ : Option AV → Hp → Prop} (hw : w_X_strays v0 h Q) (hQ : ∀ r9 h9, Q r9 h9 → QQ (some (ai r9)) h9) : aCall m_X_strays d [ar v0] h 0 0 QQ := by
  obtain ⟨d, rfl⟩ : ∃ d9, d = d9 + 1 := ⟨d - 1, by omega⟩
  refine aCall_in pl_X_strays (nle rfl) ?_
  show aW none m_X_strays (d + 1) 0 [(0, ar v0)] [] h 0 0 QQ
  unfold w_X_strays at hw
  refine r_aload_n (j := 0) d_X_strays_0 rfl ?_
  obtain ⟨q1, hw⟩ := hw
  refine r_getR d_X_strays_1 ok_11 (nle rfl) (nle rfl) rfl lf_X_71 q1 ?_
  obtain ⟨q4, hw⟩ := hw
  refine r_callV (av := []) (rest := []) (ci := 6) d_X_strays_4 mk_Op_find ll_X_257 im_Op_find se_Op_find rfl (nle rfl) rfl rfl (nle rfl) q4 (s_Op_find (by omega) hw (fun r3 h2 hw => ?_))
  show aW none m_X_strays (d + 1) 7 [(0, ar v0)] [ai (b2i r3)] h2 0 0 QQ
  refine r_if_eq d_X_strays_7 (fun w9 => ?_) (fun w9 => ?_)
  · replace hw := hw.1 (b2i_0.mp w9)
    refine r_iconst d_X_strays_20 kc_m1 ?_
    exact r_ireturn d_X_strays_21.1 rfl (hQ _ _ hw)
  · replace hw := hw.2 (fun g9 => w9 (b2i_0.mpr g9))
    refine r_aload_n (j := 0) d_X_strays_10 rfl ?_
    obtain ⟨q5, hw⟩ := hw
    refine r_getR d_X_strays_11 ok_11 (nle rfl) (nle rfl) rfl lf_X_71 q5 ?_
    obtain ⟨q6, hw⟩ := hw
    refine r_getI d_X_strays_14 ok_6 (nle rfl) (nle rfl) rfl lf_X_266 q6 ?_
    refine r_goto d_X_strays_17 ?_
    exact r_ireturn d_X_strays_21.1 rfl (hQ _ _ hw)
set_option maxRecDepth 100000 in
set_option maxHeartbeats 4000000 in
theorem s_X_sorted {d : Nat} (hd : 64 ≤ d) {v0 : Nat} {h : Hp} {Q : Int32 → Hp → Prop} {QQ : Option AV → Hp → Prop} (hw : w_X_sorted v0 h Q) (hQ : ∀ r9 h9, Q r9 h9 → QQ (some (ai r9)) h9) : aCall m_X_sorted d [ar v0] h 0 0 QQ := by
  obtain ⟨d, rfl⟩ : ∃ d9, d = d9 + 1 := ⟨d - 1, by omega⟩
  refine aCall_in pl_X_sorted (nle rfl) ?_
  show aW none m_X_sorted (d + 1) 0 [(0, ar v0)] [] h 0 0 QQ
  unfold w_X_sorted at hw
  refine r_aload_n (j := 0) d_X_sorted_0 rfl ?_
  obtain ⟨q1, hw⟩ := hw
  refine r_getR d_X_sorted_1 ok_11 (nle rfl) (nle rfl) rfl lf_X_71 q1 ?_
  obtain ⟨q4, hw⟩ := hw
  refine r_callV (av := []) (rest := []) (ci := 6) d_X_sorted_4 mk_Op_find ll_X_257 im_Op_find se_Op_find rfl (nle rfl) rfl rfl (nle rfl) q4 (s_Op_find (by omega) hw (fun r3 h2 hw => ?_))
  show aW none m_X_sorted (d + 1) 7 [(0, ar v0)] [ai (b2i r3)] h2 0 0 QQ
  refine r_if_eq d_X_sorted_7 (fun w9 => ?_) (fun w9 => ?_)
  · replace hw := hw.1 (b2i_0.mp w9)
    refine r_iconst d_X_sorted_20 kc_m1 ?_
    exact r_ireturn d_X_sorted_21.1 rfl (hQ _ _ hw)
  · replace hw := hw.2 (fun g9 => w9 (b2i_0.mpr g9))
    refine r_aload_n (j := 0) d_X_sorted_10 rfl ?_
    obtain ⟨q5, hw⟩ := hw
    refine r_getR d_X_sorted_11 ok_11 (nle rfl) (nle rfl) rfl lf_X_71 q5 ?_
    obtain ⟨q6, hw⟩ := hw
    refine r_getI d_X_sorted_14 ok_6 (nle rfl) (nle rfl) rfl lf_X_269 q6 ?_
    refine r_goto d_X_sorted_17 ?_
    exact r_ireturn d_X_sorted_21.1 rfl (hQ _ _ hw)
set_option maxRecDepth 100000 in
set_option maxHeartbeats 4000000 in
theorem s_X_doubled_B41 {d : Nat} (hd : 4 ≤ d + 1) {Q : Int32 → Hp → Prop} {QQ : Option AV → Hp → Prop} (hQ : ∀ r9 h9, Q r9 h9 → QQ (some (ai r9)) h9) {v0 : Nat} {v1 : Int32} {v2 : Int32} {v3 : Int32} {h : Hp} (hw : w_X_doubled_B41 Q  v0 v1 v2 v3 h) : aW none m_X_doubled (d + 1) 41 [(0, ar v0), (1, ai v1), (2, ai v2), (3, ai v3)] [] h 0 0 QQ := by
  unfold w_X_doubled_B41 at hw
  refine r_aload_n (j := 0) d_X_doubled_41 rfl ?_
  obtain ⟨q1, hw⟩ := hw
  refine r_getR d_X_doubled_42 ok_11 (nle rfl) (nle rfl) rfl lf_X_92 q1 ?_
  refine r_iload_n (j := 1) d_X_doubled_45 rfl ?_
  refine r_iload_n (j := 2) d_X_doubled_46 rfl ?_
  obtain ⟨q3, hw⟩ := hw
  refine r_callV (av := [ai v1, ai v2]) (rest := []) (ci := 3) d_X_doubled_47 mk_Db_raise ll_X_272 im_Db_raise se_Db_raise rfl (nle rfl) rfl rfl (nle rfl) q3 (s_Db_raise (by omega) hw (fun h2 hw => ?_))
  show aW none m_X_doubled (d + 1) 50 [(0, ar v0), (1, ai v1), (2, ai v2), (3, ai v3)] [] h2 0 0 QQ
  refine r_iload_n (j := 3) d_X_doubled_50 rfl ?_
  refine r_iconst d_X_doubled_51 kc_5 ?_
  refine r_icmp_ne d_X_doubled_52 (fun w9 => ?_) (fun w9 => ?_)
  · replace hw := hw.2 w9
    refine r_aload_n (j := 0) d_X_doubled_71 rfl ?_
    obtain ⟨q4, hw⟩ := hw
    refine r_getR d_X_doubled_72 ok_11 (nle rfl) (nle rfl) rfl lf_X_92 q4 ?_
    refine r_iload_n (j := 3) d_X_doubled_75 rfl ?_
    obtain ⟨q7, hw⟩ := hw
    refine r_callV (av := [ai v3]) (rest := []) (ci := 3) d_X_doubled_76 mk_Db_sizeOf ll_X_279 im_Db_sizeOf se_Db_sizeOf rfl (nle rfl) rfl rfl (nle rfl) q7 (s_Db_sizeOf  hw (fun r6 h5 hw => ?_))
    show aW none m_X_doubled (d + 1) 79 [(0, ar v0), (1, ai v1), (2, ai v2), (3, ai v3)] [ai r6] h5 0 0 QQ
    exact r_ireturn d_X_doubled_79.1 rfl (hQ _ _ hw)
  · replace hw := hw.1 w9
    refine r_aload_n (j := 0) d_X_doubled_55 rfl ?_
    obtain ⟨q8, hw⟩ := hw
    refine r_getR d_X_doubled_56 ok_11 (nle rfl) (nle rfl) rfl lf_X_92 q8 ?_
    obtain ⟨q9, hw⟩ := hw
    refine r_getI d_X_doubled_59 ok_3 (nle rfl) (nle rfl) rfl lf_X_275 q9 ?_
    refine r_if_eq d_X_doubled_62 (fun w9 => ?_) (fun w9 => ?_)
    · replace hw := hw.1 w9
      refine r_iconst d_X_doubled_69 kc_0 ?_
      exact r_ireturn d_X_doubled_70.1 rfl (hQ _ _ hw)
    · replace hw := hw.2 w9
      refine r_iconst d_X_doubled_65 kc_1 ?_
      refine r_goto d_X_doubled_66 ?_
      exact r_ireturn d_X_doubled_70.1 rfl (hQ _ _ hw)
set_option maxRecDepth 100000 in
set_option maxHeartbeats 4000000 in
theorem s_X_doubled {d : Nat} (hd : 4 ≤ d) {v0 : Nat} {v1 : Int32} {v2 : Int32} {v3 : Int32} {h : Hp} {Q : Int32 → Hp → Prop} {QQ : Option AV → Hp → Prop} (hw : w_X_doubled v0 v1 v2 v3 h Q) (hQ : ∀ r9 h9, Q r9 h9 → QQ (some (ai r9)) h9) : aCall m_X_doubled d [ar v0, ai v1, ai v2, ai v3] h 0 0 QQ := by
  obtain ⟨d, rfl⟩ : ∃ d9, d = d9 + 1 := ⟨d - 1, by omega⟩
  refine aCall_in pl_X_doubled (nle rfl) ?_
  show aW none m_X_doubled (d + 1) 0 [(0, ar v0), (1, ai v1), (2, ai v2), (3, ai v3)] [] h 0 0 QQ
  unfold w_X_doubled at hw
  refine r_iload_n (j := 1) d_X_doubled_0 rfl ?_
  refine r_if_lt d_X_doubled_1 (fun w9 => ?_) (fun w9 => ?_)
  · replace hw := hw.1 w9
    refine r_iconst d_X_doubled_27 kc_m1 ?_
    exact r_ireturn d_X_doubled_28.1 rfl (hQ _ _ hw)
  · replace hw := hw.2 w9
    refine r_iload_n (j := 1) d_X_doubled_4 rfl ?_
    refine r_iconst d_X_doubled_5 kc_4 ?_
    refine r_icmp_gt d_X_doubled_6 (fun w9 => ?_) (fun w9 => ?_)
    · replace hw := hw.1 w9
      refine r_iconst d_X_doubled_27 kc_m1 ?_
      exact r_ireturn d_X_doubled_28.1 rfl (hQ _ _ hw)
    · replace hw := hw.2 w9
      refine r_iload_n (j := 2) d_X_doubled_9 rfl ?_
      refine r_if_lt d_X_doubled_10 (fun w9 => ?_) (fun w9 => ?_)
      · replace hw := hw.1 w9
        refine r_iconst d_X_doubled_27 kc_m1 ?_
        exact r_ireturn d_X_doubled_28.1 rfl (hQ _ _ hw)
      · replace hw := hw.2 w9
        refine r_iload_n (j := 2) d_X_doubled_13 rfl ?_
        refine r_iconst d_X_doubled_14 kc_3 ?_
        refine r_icmp_gt d_X_doubled_15 (fun w9 => ?_) (fun w9 => ?_)
        · replace hw := hw.1 w9
          refine r_iconst d_X_doubled_27 kc_m1 ?_
          exact r_ireturn d_X_doubled_28.1 rfl (hQ _ _ hw)
        · replace hw := hw.2 w9
          refine r_iload_n (j := 3) d_X_doubled_18 rfl ?_
          refine r_if_lt d_X_doubled_19 (fun w9 => ?_) (fun w9 => ?_)
          · replace hw := hw.1 w9
            refine r_iconst d_X_doubled_27 kc_m1 ?_
            exact r_ireturn d_X_doubled_28.1 rfl (hQ _ _ hw)
          · replace hw := hw.2 w9
            refine r_iload_n (j := 3) d_X_doubled_22 rfl ?_
            refine r_iconst d_X_doubled_23 kc_5 ?_
            refine r_icmp_le d_X_doubled_24 (fun w9 => ?_) (fun w9 => ?_)
            · replace hw := hw.1 w9
              refine r_iload_n (j := 3) d_X_doubled_29 rfl ?_
              refine r_iconst d_X_doubled_30 kc_5 ?_
              refine r_icmp_ge d_X_doubled_31 (fun w9 => ?_) (fun w9 => ?_)
              · replace hw := hw.1 w9
                exact s_X_doubled_B41 hd hQ  hw
              · replace hw := hw.2 w9
                refine r_iload_n (j := 3) d_X_doubled_34 rfl ?_
                refine r_iload_n (j := 1) d_X_doubled_35 rfl ?_
                refine r_icmp_le d_X_doubled_36 (fun w9 => ?_) (fun w9 => ?_)
                · replace hw := hw.1 w9
                  exact s_X_doubled_B41 hd hQ  hw
                · replace hw := hw.2 w9
                  refine r_iconst d_X_doubled_39 kc_m1 ?_
                  exact r_ireturn d_X_doubled_40.1 rfl (hQ _ _ hw)
            · replace hw := hw.2 w9
              refine r_iconst d_X_doubled_27 kc_m1 ?_
              exact r_ireturn d_X_doubled_28.1 rfl (hQ _ _ hw)
set_option maxRecDepth 100000 in
set_option maxHeartbeats 4000000 in
theorem s_X_commonDivisor_L3 {d : Nat} {Q : Int64 → Hp → Prop} {QQ : Option AV → Hp → Prop} (hQ : ∀ r9 h9, Q r9 h9 → QQ (some (al r9)) h9) : ∀ (n : Nat) (v0 : Int64) (v2 : Int64) (v4 : Int32) (h : Hp), w_X_commonDivisor_L3 Q   n v0 v2 v4 h → aW none m_X_commonDivisor d 3 [(0, al v0), (2, al v2), (4, ai v4)] [] h 0 0 QQ := by
  intro n
  induction n with
  | zero => intro v0 v2 v4 h hw; exact hw.elim
  | succ n ih =>
    intro v0 v2 v4 h hw
    unfold w_X_commonDivisor_L3 at hw
    refine r_iload (j := 2) d_X_commonDivisor_3 rfl ?_
    refine r_sipush d_X_commonDivisor_5 ks_200 ?_
    refine r_icmp_ge d_X_commonDivisor_8 (fun w9 => ?_) (fun w9 => ?_)
    · replace hw := hw.1 w9
      refine r_lload_n (j := 0) d_X_commonDivisor_33 rfl ?_
      exact r_lreturn d_X_commonDivisor_34.1 rfl (hQ _ _ hw)
    · replace hw := hw.2 w9
      refine r_lload_n (j := 1) d_X_commonDivisor_11 rfl ?_
      refine r_lconst d_X_commonDivisor_12 kl_0 ?_
      refine r_lcmp d_X_commonDivisor_13 ?_
      refine r_if_eq d_X_commonDivisor_14 (fun w9 => ?_) (fun w9 => ?_)
      · replace hw := hw.1 ((lg_cmp_eq _ _).mp w9)
        refine r_lload_n (j := 0) d_X_commonDivisor_33 rfl ?_
        exact r_lreturn d_X_commonDivisor_34.1 rfl (hQ _ _ hw)
      · replace hw := hw.2 (fun g9 => w9 ((lg_cmp_eq _ _).mpr g9))
        refine r_lload_n (j := 0) d_X_commonDivisor_17 rfl ?_
        refine r_lload_n (j := 1) d_X_commonDivisor_18 rfl ?_
        obtain ⟨q1, hw⟩ := hw
        refine r_lrem d_X_commonDivisor_19 q1 ?_
        refine r_lstore (ls2 := [(5, al (jlrem v0 v2)), (0, al v0), (2, al v2), (4, ai v4)]) d_X_commonDivisor_20 (nle rfl) rfl ?_
        refine r_lload_n (j := 2) d_X_commonDivisor_22 rfl ?_
        refine r_lstore_n (ls2 := [(0, al v2), (5, al (jlrem v0 v2)), (2, al v2), (4, ai v4)]) d_X_commonDivisor_23 (nle rfl) rfl ?_
        refine r_lload (j := 1) d_X_commonDivisor_24 rfl ?_
        refine r_lstore_n (ls2 := [(2, al (jlrem v0 v2)), (0, al v2), (5, al (jlrem v0 v2)), (4, ai v4)]) d_X_commonDivisor_26 (nle rfl) rfl ?_
        refine r_iinc (j := 3) (ls2 := [(4, ai (v4 + (1 : Int32))), (2, al (jlrem v0 v2)), (0, al v2), (5, al (jlrem v0 v2))]) d_X_commonDivisor_27 rfl (congrArg (HAdd.hAdd v4) kc_1) (nle rfl) rfl ?_
        refine r_goto d_X_commonDivisor_30 ?_
        refine r_pick (ls2 := [(0, al v2), (2, al (jlrem v0 v2)), (4, ai (v4 + (1 : Int32)))]) [2, 1, 0] rfl ?_
        exact ih _ _ _ _ hw
set_option maxRecDepth 100000 in
set_option maxHeartbeats 4000000 in
theorem s_X_commonDivisor {d : Nat} {v0 : Int64} {v2 : Int64} {h : Hp} {Q : Int64 → Hp → Prop} {QQ : Option AV → Hp → Prop} (hw : w_X_commonDivisor v0 v2 h Q) (hQ : ∀ r9 h9, Q r9 h9 → QQ (some (al r9)) h9) : aCall m_X_commonDivisor d [al v0, al v2] h 0 0 QQ := by
  refine aCall_in pl_X_commonDivisor (nle rfl) ?_
  show aW none m_X_commonDivisor d 0 [(0, al v0), (2, al v2)] [] h 0 0 QQ
  unfold w_X_commonDivisor at hw
  refine r_iconst d_X_commonDivisor_0 kc_0 ?_
  refine r_istore (ls2 := [(4, ai (0 : Int32)), (0, al v0), (2, al v2)]) d_X_commonDivisor_1 (nle rfl) rfl ?_
  obtain ⟨n2, hw⟩ := hw
  refine r_pick (ls2 := [(0, al v0), (2, al v2), (4, ai (0 : Int32))]) [1, 2, 0] rfl ?_
  exact s_X_commonDivisor_L3 hQ  n2 _ _ _ _ hw
set_option maxRecDepth 100000 in
set_option maxHeartbeats 4000000 in
theorem s_JM_abs_JJ {d : Nat} {v0 : Int64} {h : Hp} {Q : Int64 → Hp → Prop} {QQ : Option AV → Hp → Prop} (hw : w_JM_abs_JJ v0 h Q) (hQ : ∀ r9 h9, Q r9 h9 → QQ (some (al r9)) h9) : aCall m_JM_abs_JJ d [al v0] h 0 0 QQ := by
  refine aCall_in pl_JM_abs_JJ (nle rfl) ?_
  show aW none m_JM_abs_JJ d 0 [(0, al v0)] [] h 0 0 QQ
  unfold w_JM_abs_JJ at hw
  refine r_lload_n (j := 0) d_JM_abs_JJ_0 rfl ?_
  refine r_lconst d_JM_abs_JJ_1 kl_0 ?_
  refine r_lcmp d_JM_abs_JJ_2 ?_
  refine r_if_ge d_JM_abs_JJ_3 (fun w9 => ?_) (fun w9 => ?_)
  · replace hw := hw.1 ((lg_cmp_ge _ _).mp w9)
    refine r_lload_n (j := 0) d_JM_abs_JJ_11 rfl ?_
    exact r_lreturn d_JM_abs_JJ_12.1 rfl (hQ _ _ hw)
  · replace hw := hw.2 (fun g9 => w9 ((lg_cmp_ge _ _).mpr g9))
    refine r_lload_n (j := 0) d_JM_abs_JJ_6 rfl ?_
    refine r_lneg d_JM_abs_JJ_7 ?_
    refine r_goto d_JM_abs_JJ_8 ?_
    exact r_lreturn d_JM_abs_JJ_12.1 rfl (hQ _ _ hw)
set_option maxRecDepth 100000 in
set_option maxHeartbeats 4000000 in
theorem s_X_part {d : Nat} (hd : 1 ≤ d) {v0 : Int64} {v2 : Int64} {v4 : Int32} {h : Hp} {Q : Int32 → Hp → Prop} {QQ : Option AV → Hp → Prop} (hw : w_X_part v0 v2 v4 h Q) (hQ : ∀ r9 h9, Q r9 h9 → QQ (some (ai r9)) h9) : aCall m_X_part d [al v0, al v2, ai v4] h 0 0 QQ := by
  obtain ⟨d, rfl⟩ : ∃ d9, d = d9 + 1 := ⟨d - 1, by omega⟩
  refine aCall_in pl_X_part (nle rfl) ?_
  show aW none m_X_part (d + 1) 0 [(0, al v0), (2, al v2), (4, ai v4)] [] h 0 0 QQ
  unfold w_X_part at hw
  refine r_lload_n (j := 0) d_X_part_0 rfl ?_
  refine r_callS (av := [al v0]) (rest := []) d_X_part_1 mk_JM_abs_JJ ll_X_310 st_JM_abs_JJ rfl rfl (nle rfl) (s_JM_abs_JJ  hw (fun r2 h1 hw => ?_))
  show aW none m_X_part (d + 1) 4 [(0, al v0), (2, al v2), (4, ai v4)] [al r2] h1 0 0 QQ
  refine r_lload_n (j := 1) d_X_part_4 rfl ?_
  refine r_callS (av := [al r2, al v2]) (rest := []) d_X_part_5 mk_X_commonDivisor ll_X_316 st_X_commonDivisor rfl rfl (nle rfl) (s_X_commonDivisor  hw (fun r4 h3 hw => ?_))
  show aW none m_X_part (d + 1) 8 [(0, al v0), (2, al v2), (4, ai v4)] [al r4] h3 0 0 QQ
  refine r_lstore (ls2 := [(5, al r4), (0, al v0), (2, al v2), (4, ai v4)]) d_X_part_8 (nle rfl) rfl ?_
  refine r_lload (j := 0) d_X_part_10 rfl ?_
  refine r_lconst d_X_part_12 kl_1 ?_
  refine r_lcmp d_X_part_13 ?_
  refine r_if_ge d_X_part_14 (fun w9 => ?_) (fun w9 => ?_)
  · replace hw := hw.1 ((lg_cmp_ge _ _).mp w9)
    refine r_iload (j := 3) d_X_part_20 rfl ?_
    refine r_if_ne d_X_part_22 (fun w9 => ?_) (fun w9 => ?_)
    · replace hw := hw.2 w9
      refine r_lload_n (j := 2) d_X_part_29 rfl ?_
      refine r_lload (j := 0) d_X_part_30 rfl ?_
      obtain ⟨q5, hw⟩ := hw
      refine r_ldiv d_X_part_32 q5 ?_
      refine r_l2i d_X_part_33 ?_
      exact r_ireturn d_X_part_34.1 rfl (hQ _ _ hw)
    · replace hw := hw.1 w9
      refine r_lload_n (j := 1) d_X_part_25 rfl ?_
      refine r_goto d_X_part_26 ?_
      refine r_lload (j := 0) d_X_part_30 rfl ?_
      obtain ⟨q6, hw⟩ := hw
      refine r_ldiv d_X_part_32 q6 ?_
      refine r_l2i d_X_part_33 ?_
      exact r_ireturn d_X_part_34.1 rfl (hQ _ _ hw)
  · replace hw := hw.2 (fun g9 => w9 ((lg_cmp_ge _ _).mpr g9))
    refine r_ldc d_X_part_17 lc_X_145 ?_
    exact r_ireturn d_X_part_19.1 rfl (hQ _ _ hw)
set_option maxRecDepth 100000 in
set_option maxHeartbeats 4000000 in
theorem s_X_relaxed {d : Nat} (hd : 4 ≤ d) {v0 : Nat} {v1 : Int32} {h : Hp} {Q : Int32 → Hp → Prop} {QQ : Option AV → Hp → Prop} (hw : w_X_relaxed v0 v1 h Q) (hQ : ∀ r9 h9, Q r9 h9 → QQ (some (ai r9)) h9) : aCall m_X_relaxed d [ar v0, ai v1] h 0 0 QQ := by
  obtain ⟨d, rfl⟩ : ∃ d9, d = d9 + 1 := ⟨d - 1, by omega⟩
  refine aCall_in pl_X_relaxed (nle rfl) ?_
  show aW none m_X_relaxed (d + 1) 0 [(0, ar v0), (1, ai v1)] [] h 0 0 QQ
  unfold w_X_relaxed at hw
  refine r_aload_n (j := 0) d_X_relaxed_0 rfl ?_
  obtain ⟨q1, hw⟩ := hw
  refine r_getR d_X_relaxed_1 ok_11 (nle rfl) (nle rfl) rfl lf_X_78 q1 ?_
  obtain ⟨q3, hw⟩ := hw
  refine r_callV (av := []) (rest := []) (ci := 2) d_X_relaxed_4 mk_Cr_find ll_X_282 im_Cr_find se_Cr_find rfl (nle rfl) rfl rfl (nle rfl) q3 (s_Cr_find (by omega) hw (fun h2 hw => ?_))
  show aW none m_X_relaxed (d + 1) 7 [(0, ar v0), (1, ai v1)] [] h2 0 0 QQ
  refine r_iload_n (j := 1) d_X_relaxed_7 rfl ?_
  refine r_if_lt d_X_relaxed_8 (fun w9 => ?_) (fun w9 => ?_)
  · replace hw := hw.1 w9
    refine r_ldc d_X_relaxed_26 lc_X_145 ?_
    exact r_ireturn d_X_relaxed_28.1 rfl (hQ _ _ hw)
  · replace hw := hw.2 w9
    refine r_iload_n (j := 1) d_X_relaxed_11 rfl ?_
    refine r_iconst d_X_relaxed_12 kc_3 ?_
    refine r_icmp_gt d_X_relaxed_13 (fun w9 => ?_) (fun w9 => ?_)
    · replace hw := hw.1 w9
      refine r_ldc d_X_relaxed_26 lc_X_145 ?_
      exact r_ireturn d_X_relaxed_28.1 rfl (hQ _ _ hw)
    · replace hw := hw.2 w9
      refine r_aload_n (j := 0) d_X_relaxed_16 rfl ?_
      obtain ⟨q4, hw⟩ := hw
      refine r_getR d_X_relaxed_17 ok_11 (nle rfl) (nle rfl) rfl lf_X_78 q4 ?_
      obtain ⟨q5, hw⟩ := hw
      refine r_getI d_X_relaxed_20 ok_2 (nle rfl) (nle rfl) rfl lf_X_284 q5 ?_
      refine r_if_ne d_X_relaxed_23 (fun w9 => ?_) (fun w9 => ?_)
      · replace hw := hw.2 w9
        refine r_iload_n (j := 1) d_X_relaxed_29 rfl ?_
        refine r_iconst d_X_relaxed_30 kc_3 ?_
        refine r_icmp_ne d_X_relaxed_31 (fun w9 => ?_) (fun w9 => ?_)
        · replace hw := hw.2 w9
          refine r_aload_n (j := 0) d_X_relaxed_50 rfl ?_
          refine r_getR d_X_relaxed_51 ok_11 (nle rfl) (nle rfl) rfl lf_X_78 q4 ?_
          refine r_getI d_X_relaxed_54 ok_2 (nle rfl) (nle rfl) rfl lf_X_287 q5 ?_
          refine r_if_eq d_X_relaxed_57 (fun w9 => ?_) (fun w9 => ?_)
          · replace hw := hw.1 w9
            refine r_iload_n (j := 1) d_X_relaxed_63 rfl ?_
            refine r_iconst d_X_relaxed_64 kc_2 ?_
            refine r_icmp_ne d_X_relaxed_65 (fun w9 => ?_) (fun w9 => ?_)
            · replace hw := hw.2 w9
              refine r_aload_n (j := 0) d_X_relaxed_76 rfl ?_
              refine r_getR d_X_relaxed_77 ok_11 (nle rfl) (nle rfl) rfl lf_X_78 q4 ?_
              refine r_getL d_X_relaxed_80 ok_2 (nle rfl) (nle rfl) rfl lf_X_293 q5 ?_
              refine r_aload_n (j := 0) d_X_relaxed_83 rfl ?_
              refine r_getR d_X_relaxed_84 ok_11 (nle rfl) (nle rfl) rfl lf_X_78 q4 ?_
              refine r_getL d_X_relaxed_87 ok_2 (nle rfl) (nle rfl) rfl lf_X_296 q5 ?_
              refine r_iload_n (j := 1) d_X_relaxed_90 rfl ?_
              refine r_callS (av := [al (gL h2 (gR h2 v0 10) 11), al (gL h2 (gR h2 v0 10) 12), ai v1]) (rest := []) d_X_relaxed_91 mk_X_part ll_X_299 st_X_part rfl rfl (nle rfl) (s_X_part (by omega) hw (fun r7 h6 hw => ?_))
              show aW none m_X_relaxed (d + 1) 94 [(0, ar v0), (1, ai v1)] [ai r7] h6 0 0 QQ
              exact r_ireturn d_X_relaxed_94.1 rfl (hQ _ _ hw)
            · replace hw := hw.1 w9
              refine r_aload_n (j := 0) d_X_relaxed_68 rfl ?_
              refine r_getR d_X_relaxed_69 ok_11 (nle rfl) (nle rfl) rfl lf_X_78 q4 ?_
              refine r_getI d_X_relaxed_72 ok_2 (nle rfl) (nle rfl) rfl lf_X_290 q5 ?_
              exact r_ireturn d_X_relaxed_75.1 rfl (hQ _ _ hw)
          · replace hw := hw.2 w9
            refine r_ldc d_X_relaxed_60 lc_X_145 ?_
            exact r_ireturn d_X_relaxed_62.1 rfl (hQ _ _ hw)
        · replace hw := hw.1 w9
          refine r_aload_n (j := 0) d_X_relaxed_34 rfl ?_
          refine r_getR d_X_relaxed_35 ok_11 (nle rfl) (nle rfl) rfl lf_X_78 q4 ?_
          refine r_getI d_X_relaxed_38 ok_2 (nle rfl) (nle rfl) rfl lf_X_287 q5 ?_
          refine r_if_eq d_X_relaxed_41 (fun w9 => ?_) (fun w9 => ?_)
          · replace hw := hw.1 w9
            refine r_iconst d_X_relaxed_48 kc_0 ?_
            exact r_ireturn d_X_relaxed_49.1 rfl (hQ _ _ hw)
          · replace hw := hw.2 w9
            refine r_iconst d_X_relaxed_44 kc_1 ?_
            refine r_goto d_X_relaxed_45 ?_
            exact r_ireturn d_X_relaxed_49.1 rfl (hQ _ _ hw)
      · replace hw := hw.1 w9
        refine r_ldc d_X_relaxed_26 lc_X_145 ?_
        exact r_ireturn d_X_relaxed_28.1 rfl (hQ _ _ hw)
set_option maxRecDepth 100000 in
set_option maxHeartbeats 4000000 in
theorem s_X_fraction {d : Nat} (hd : 4 ≤ d) {v0 : Nat} {v1 : Int32} {v2 : Int32} {h : Hp} {Q : Int32 → Hp → Prop} {QQ : Option AV → Hp → Prop} (hw : w_X_fraction v0 v1 v2 h Q) (hQ : ∀ r9 h9, Q r9 h9 → QQ (some (ai r9)) h9) : aCall m_X_fraction d [ar v0, ai v1, ai v2] h 0 0 QQ := by
  obtain ⟨d, rfl⟩ : ∃ d9, d = d9 + 1 := ⟨d - 1, by omega⟩
  refine aCall_in pl_X_fraction (nle rfl) ?_
  show aW none m_X_fraction (d + 1) 0 [(0, ar v0), (1, ai v1), (2, ai v2)] [] h 0 0 QQ
  unfold w_X_fraction at hw
  refine r_aload_n (j := 0) d_X_fraction_0 rfl ?_
  obtain ⟨q1, hw⟩ := hw
  refine r_getR d_X_fraction_1 ok_11 (nle rfl) (nle rfl) rfl lf_X_78 q1 ?_
  obtain ⟨q3, hw⟩ := hw
  refine r_callV (av := []) (rest := []) (ci := 2) d_X_fraction_4 mk_Cr_find ll_X_282 im_Cr_find se_Cr_find rfl (nle rfl) rfl rfl (nle rfl) q3 (s_Cr_find (by omega) hw (fun h2 hw => ?_))
  show aW none m_X_fraction (d + 1) 7 [(0, ar v0), (1, ai v1), (2, ai v2)] [] h2 0 0 QQ
  refine r_aload_n (j := 0) d_X_fraction_7 rfl ?_
  obtain ⟨q4, hw⟩ := hw
  refine r_getR d_X_fraction_8 ok_11 (nle rfl) (nle rfl) rfl lf_X_23 q4 ?_
  refine r_iload_n (j := 1) d_X_fraction_11 rfl ?_
  obtain ⟨q7, hw⟩ := hw
  refine r_callV (av := [ai v1]) (rest := []) (ci := 1) d_X_fraction_12 mk_Co_hasColumn ll_X_138 im_Co_hasColumn se_Co_hasColumn rfl (nle rfl) rfl rfl (nle rfl) q7 (s_Co_hasColumn  hw (fun r6 h5 hw => ?_))
  show aW none m_X_fraction (d + 1) 15 [(0, ar v0), (1, ai v1), (2, ai v2)] [ai (b2i r6)] h5 0 0 QQ
  refine r_if_eq d_X_fraction_15 (fun w9 => ?_) (fun w9 => ?_)
  · replace hw := hw.1 (b2i_0.mp w9)
    refine r_ldc d_X_fraction_37 lc_X_145 ?_
    exact r_ireturn d_X_fraction_39.1 rfl (hQ _ _ hw)
  · replace hw := hw.2 (fun g9 => w9 (b2i_0.mpr g9))
    refine r_iload_n (j := 2) d_X_fraction_18 rfl ?_
    refine r_if_lt d_X_fraction_19 (fun w9 => ?_) (fun w9 => ?_)
    · replace hw := hw.1 w9
      refine r_ldc d_X_fraction_37 lc_X_145 ?_
      exact r_ireturn d_X_fraction_39.1 rfl (hQ _ _ hw)
    · replace hw := hw.2 w9
      refine r_iload_n (j := 2) d_X_fraction_22 rfl ?_
      refine r_iconst d_X_fraction_23 kc_1 ?_
      refine r_icmp_gt d_X_fraction_24 (fun w9 => ?_) (fun w9 => ?_)
      · replace hw := hw.1 w9
        refine r_ldc d_X_fraction_37 lc_X_145 ?_
        exact r_ireturn d_X_fraction_39.1 rfl (hQ _ _ hw)
      · replace hw := hw.2 w9
        refine r_aload_n (j := 0) d_X_fraction_27 rfl ?_
        obtain ⟨q8, hw⟩ := hw
        refine r_getR d_X_fraction_28 ok_11 (nle rfl) (nle rfl) rfl lf_X_78 q8 ?_
        obtain ⟨q11, hw⟩ := hw
        refine r_callV (av := []) (rest := []) (ci := 2) d_X_fraction_31 mk_Cr_isThere ll_X_303 im_Cr_isThere se_Cr_isThere rfl (nle rfl) rfl rfl (nle rfl) q11 (s_Cr_isThere  hw (fun r10 h9 hw => ?_))
        show aW none m_X_fraction (d + 1) 34 [(0, ar v0), (1, ai v1), (2, ai v2)] [ai (b2i r10)] h9 0 0 QQ
        refine r_if_ne d_X_fraction_34 (fun w9 => ?_) (fun w9 => ?_)
        · replace hw := hw.2 (fun g9 => w9 (b2i_0.mpr g9))
          refine r_aload_n (j := 0) d_X_fraction_40 rfl ?_
          obtain ⟨q12, hw⟩ := hw
          refine r_getR d_X_fraction_41 ok_11 (nle rfl) (nle rfl) rfl lf_X_78 q12 ?_
          refine r_iload_n (j := 1) d_X_fraction_44 rfl ?_
          obtain ⟨q15, hw⟩ := hw
          refine r_callV (av := [ai v1]) (rest := []) (ci := 2) d_X_fraction_45 mk_Cr_upperOf ll_X_306 im_Cr_upperOf se_Cr_upperOf rfl (nle rfl) rfl rfl (nle rfl) q15 (s_Cr_upperOf  hw (fun r14 h13 hw => ?_))
          show aW none m_X_fraction (d + 1) 48 [(0, ar v0), (1, ai v1), (2, ai v2)] [al r14] h13 0 0 QQ
          refine r_aload_n (j := 0) d_X_fraction_48 rfl ?_
          obtain ⟨q16, hw⟩ := hw
          refine r_getR d_X_fraction_49 ok_11 (nle rfl) (nle rfl) rfl lf_X_78 q16 ?_
          obtain ⟨q17, hw⟩ := hw
          refine r_getL d_X_fraction_52 ok_2 (nle rfl) (nle rfl) rfl lf_X_296 q17 ?_
          refine r_iload_n (j := 2) d_X_fraction_55 rfl ?_
          refine r_callS (av := [al r14, al (gL h13 (gR h13 v0 10) 12), ai v2]) (rest := []) d_X_fraction_56 mk_X_part ll_X_299 st_X_part rfl rfl (nle rfl) (s_X_part (by omega) hw (fun r19 h18 hw => ?_))
          show aW none m_X_fraction (d + 1) 59 [(0, ar v0), (1, ai v1), (2, ai v2)] [ai r19] h18 0 0 QQ
          exact r_ireturn d_X_fraction_59.1 rfl (hQ _ _ hw)
        · replace hw := hw.1 (b2i_0.mp w9)
          refine r_ldc d_X_fraction_37 lc_X_145 ?_
          exact r_ireturn d_X_fraction_39.1 rfl (hQ _ _ hw)
set_option maxRecDepth 100000 in
set_option maxHeartbeats 4000000 in
theorem s_X_apart_L44 {d : Nat} (hd : 64 ≤ d + 1) {Q : Int32 → Hp → Prop} {QQ : Option AV → Hp → Prop} (hQ : ∀ r9 h9, Q r9 h9 → QQ (some (ai r9)) h9) {v0 : Nat} {v1 : Int32} : ∀ (n : Nat) (v2 : Int64) (v4 : Int32) (h : Hp), w_X_apart_L44 Q  v0 v1 n v2 v4 h → aW none m_X_apart (d + 1) 44 [(0, ar v0), (1, ai v1), (2, al v2), (4, ai v4)] [] h 0 0 QQ := by
  intro n
  induction n with
  | zero => intro v2 v4 h hw; exact hw.elim
  | succ n ih =>
    intro v2 v4 h hw
    unfold w_X_apart_L44 at hw
    refine r_iload (j := 3) d_X_apart_44 rfl ?_
    refine r_aload_n (j := 0) d_X_apart_46 rfl ?_
    obtain ⟨q12, hw⟩ := hw
    refine r_getR d_X_apart_47 ok_11 (nle rfl) (nle rfl) rfl lf_X_23 q12 ?_
    obtain ⟨q13, hw⟩ := hw
    refine r_getI d_X_apart_50 ok_1 (nle rfl) (nle rfl) rfl lf_X_129 q13 ?_
    refine r_icmp_ge d_X_apart_53 (fun w9 => ?_) (fun w9 => ?_)
    · replace hw := hw.1 w9
      refine r_lload_n (j := 2) d_X_apart_96 rfl ?_
      refine r_aload_n (j := 0) d_X_apart_97 rfl ?_
      refine r_getR d_X_apart_98 ok_11 (nle rfl) (nle rfl) rfl lf_X_78 q12 ?_
      obtain ⟨q14, hw⟩ := hw
      refine r_getL d_X_apart_101 ok_2 (nle rfl) (nle rfl) rfl lf_X_296 q14 ?_
      refine r_iload_n (j := 1) d_X_apart_104 rfl ?_
      refine r_callS (av := [al v2, al (gL h (gR h v0 10) 12), ai v1]) (rest := []) d_X_apart_105 mk_X_part ll_X_299 st_X_part rfl rfl (nle rfl) (s_X_part (by omega) hw (fun r16 h15 hw => ?_))
      show aW none m_X_apart (d + 1) 108 [(0, ar v0), (1, ai v1), (2, al v2), (4, ai v4)] [ai r16] h15 0 0 QQ
      exact r_ireturn d_X_apart_108.1 rfl (hQ _ _ hw)
    · replace hw := hw.2 w9
      refine r_lload_n (j := 2) d_X_apart_56 rfl ?_
      refine r_aload_n (j := 0) d_X_apart_57 rfl ?_
      refine r_getR d_X_apart_58 ok_11 (nle rfl) (nle rfl) rfl lf_X_71 q12 ?_
      refine r_iload (j := 3) d_X_apart_61 rfl ?_
      obtain ⟨q19, hw⟩ := hw
      refine r_callV (av := [ai v4]) (rest := [al v2]) (ci := 6) d_X_apart_63 mk_Op_oftenOf ll_X_261 im_Op_oftenOf se_Op_oftenOf rfl (nle rfl) rfl rfl (nle rfl) q19 (s_Op_oftenOf  hw (fun r18 h17 hw => ?_))
      show aW none m_X_apart (d + 1) 66 [(0, ar v0), (1, ai v1), (2, al v2), (4, ai v4)] [ai r18, al v2] h17 0 0 QQ
      refine r_i2l d_X_apart_66 ?_
      refine r_aload_n (j := 0) d_X_apart_67 rfl ?_
      obtain ⟨q20, hw⟩ := hw
      refine r_getR d_X_apart_68 ok_11 (nle rfl) (nle rfl) rfl lf_X_78 q20 ?_
      obtain ⟨q21, hw⟩ := hw
      refine r_getL d_X_apart_71 ok_2 (nle rfl) (nle rfl) rfl lf_X_296 q21 ?_
      refine r_lmul d_X_apart_74 ?_
      refine r_aload_n (j := 0) d_X_apart_75 rfl ?_
      refine r_getR d_X_apart_76 ok_11 (nle rfl) (nle rfl) rfl lf_X_78 q20 ?_
      refine r_iload (j := 3) d_X_apart_79 rfl ?_
      refine r_callV (av := [ai v4]) (rest := [al ((r18.toInt64) * (gL h17 (gR h17 v0 10) 12)), al v2]) (ci := 2) d_X_apart_81 mk_Cr_upperOf ll_X_306 im_Cr_upperOf se_Cr_upperOf rfl (nle rfl) rfl rfl (nle rfl) q21 (s_Cr_upperOf  hw (fun r23 h22 hw => ?_))
      show aW none m_X_apart (d + 1) 84 [(0, ar v0), (1, ai v1), (2, al v2), (4, ai v4)] [al r23, al ((r18.toInt64) * (gL h17 (gR h17 v0 10) 12)), al v2] h22 0 0 QQ
      refine r_lsub d_X_apart_84 ?_
      refine r_callS (av := [al (((r18.toInt64) * (gL h17 (gR h17 v0 10) 12)) - r23)]) (rest := [al v2]) d_X_apart_85 mk_JM_abs_JJ ll_X_310 st_JM_abs_JJ rfl rfl (nle rfl) (s_JM_abs_JJ  hw (fun r25 h24 hw => ?_))
      show aW none m_X_apart (d + 1) 88 [(0, ar v0), (1, ai v1), (2, al v2), (4, ai v4)] [al r25, al v2] h24 0 0 QQ
      refine r_ladd d_X_apart_88 ?_
      refine r_lstore_n (ls2 := [(2, al (v2 + r25)), (0, ar v0), (1, ai v1), (4, ai v4)]) d_X_apart_89 (nle rfl) rfl ?_
      refine r_iinc (j := 3) (ls2 := [(4, ai (v4 + (1 : Int32))), (2, al (v2 + r25)), (0, ar v0), (1, ai v1)]) d_X_apart_90 rfl (congrArg (HAdd.hAdd v4) kc_1) (nle rfl) rfl ?_
      refine r_goto d_X_apart_93 ?_
      refine r_pick (ls2 := [(0, ar v0), (1, ai v1), (2, al (v2 + r25)), (4, ai (v4 + (1 : Int32)))]) [2, 3, 1, 0] rfl ?_
      exact ih _ _ _ hw
set_option maxRecDepth 100000 in
set_option maxHeartbeats 4000000 in
theorem s_X_apart {d : Nat} (hd : 64 ≤ d) {v0 : Nat} {v1 : Int32} {h : Hp} {Q : Int32 → Hp → Prop} {QQ : Option AV → Hp → Prop} (hw : w_X_apart v0 v1 h Q) (hQ : ∀ r9 h9, Q r9 h9 → QQ (some (ai r9)) h9) : aCall m_X_apart d [ar v0, ai v1] h 0 0 QQ := by
  obtain ⟨d, rfl⟩ : ∃ d9, d = d9 + 1 := ⟨d - 1, by omega⟩
  refine aCall_in pl_X_apart (nle rfl) ?_
  show aW none m_X_apart (d + 1) 0 [(0, ar v0), (1, ai v1)] [] h 0 0 QQ
  unfold w_X_apart at hw
  refine r_aload_n (j := 0) d_X_apart_0 rfl ?_
  obtain ⟨q1, hw⟩ := hw
  refine r_getR d_X_apart_1 ok_11 (nle rfl) (nle rfl) rfl lf_X_78 q1 ?_
  obtain ⟨q3, hw⟩ := hw
  refine r_callV (av := []) (rest := []) (ci := 2) d_X_apart_4 mk_Cr_find ll_X_282 im_Cr_find se_Cr_find rfl (nle rfl) rfl rfl (nle rfl) q3 (s_Cr_find (by omega) hw (fun h2 hw => ?_))
  show aW none m_X_apart (d + 1) 7 [(0, ar v0), (1, ai v1)] [] h2 0 0 QQ
  refine r_iload_n (j := 1) d_X_apart_7 rfl ?_
  refine r_if_lt d_X_apart_8 (fun w9 => ?_) (fun w9 => ?_)
  · replace hw := hw.1 w9
    refine r_ldc d_X_apart_36 lc_X_145 ?_
    exact r_ireturn d_X_apart_38.1 rfl (hQ _ _ hw)
  · replace hw := hw.2 w9
    refine r_iload_n (j := 1) d_X_apart_11 rfl ?_
    refine r_iconst d_X_apart_12 kc_1 ?_
    refine r_icmp_gt d_X_apart_13 (fun w9 => ?_) (fun w9 => ?_)
    · replace hw := hw.1 w9
      refine r_ldc d_X_apart_36 lc_X_145 ?_
      exact r_ireturn d_X_apart_38.1 rfl (hQ _ _ hw)
    · replace hw := hw.2 w9
      refine r_aload_n (j := 0) d_X_apart_16 rfl ?_
      obtain ⟨q4, hw⟩ := hw
      refine r_getR d_X_apart_17 ok_11 (nle rfl) (nle rfl) rfl lf_X_78 q4 ?_
      obtain ⟨q7, hw⟩ := hw
      refine r_callV (av := []) (rest := []) (ci := 2) d_X_apart_20 mk_Cr_isThere ll_X_303 im_Cr_isThere se_Cr_isThere rfl (nle rfl) rfl rfl (nle rfl) q7 (s_Cr_isThere  hw (fun r6 h5 hw => ?_))
      show aW none m_X_apart (d + 1) 23 [(0, ar v0), (1, ai v1)] [ai (b2i r6)] h5 0 0 QQ
      refine r_if_eq d_X_apart_23 (fun w9 => ?_) (fun w9 => ?_)
      · replace hw := hw.1 (b2i_0.mp w9)
        refine r_ldc d_X_apart_36 lc_X_145 ?_
        exact r_ireturn d_X_apart_38.1 rfl (hQ _ _ hw)
      · replace hw := hw.2 (fun g9 => w9 (b2i_0.mpr g9))
        refine r_aload_n (j := 0) d_X_apart_26 rfl ?_
        obtain ⟨q8, hw⟩ := hw
        refine r_getR d_X_apart_27 ok_11 (nle rfl) (nle rfl) rfl lf_X_71 q8 ?_
        obtain ⟨q11, hw⟩ := hw
        refine r_callV (av := []) (rest := []) (ci := 6) d_X_apart_30 mk_Op_find ll_X_257 im_Op_find se_Op_find rfl (nle rfl) rfl rfl (nle rfl) q11 (s_Op_find (by omega) hw (fun r10 h9 hw => ?_))
        show aW none m_X_apart (d + 1) 33 [(0, ar v0), (1, ai v1)] [ai (b2i r10)] h9 0 0 QQ
        refine r_if_ne d_X_apart_33 (fun w9 => ?_) (fun w9 => ?_)
        · replace hw := hw.2 (fun g9 => w9 (b2i_0.mpr g9))
          refine r_lconst d_X_apart_39 kl_0 ?_
          refine r_lstore_n (ls2 := [(2, al (0 : Int64)), (0, ar v0), (1, ai v1)]) d_X_apart_40 (nle rfl) rfl ?_
          refine r_iconst d_X_apart_41 kc_0 ?_
          refine r_istore (ls2 := [(4, ai (0 : Int32)), (2, al (0 : Int64)), (0, ar v0), (1, ai v1)]) d_X_apart_42 (nle rfl) rfl ?_
          obtain ⟨n26, hw⟩ := hw
          refine r_pick (ls2 := [(0, ar v0), (1, ai v1), (2, al (0 : Int64)), (4, ai (0 : Int32))]) [2, 3, 1, 0] rfl ?_
          exact s_X_apart_L44 hd hQ  n26 _ _ _ hw
        · replace hw := hw.1 (b2i_0.mp w9)
          refine r_ldc d_X_apart_36 lc_X_145 ?_
          exact r_ireturn d_X_apart_38.1 rfl (hQ _ _ hw)
set_option maxRecDepth 100000 in
set_option maxHeartbeats 4000000 in
theorem s_X_corners {d : Nat} (hd : 4 ≤ d) {v0 : Nat} {h : Hp} {Q : Int32 → Hp → Prop} {QQ : Option AV → Hp → Prop} (hw : w_X_corners v0 h Q) (hQ : ∀ r9 h9, Q r9 h9 → QQ (some (ai r9)) h9) : aCall m_X_corners d [ar v0] h 0 0 QQ := by
  obtain ⟨d, rfl⟩ : ∃ d9, d = d9 + 1 := ⟨d - 1, by omega⟩
  refine aCall_in pl_X_corners (nle rfl) ?_
  show aW none m_X_corners (d + 1) 0 [(0, ar v0)] [] h 0 0 QQ
  unfold w_X_corners at hw
  refine r_aload_n (j := 0) d_X_corners_0 rfl ?_
  obtain ⟨q1, hw⟩ := hw
  refine r_getR d_X_corners_1 ok_11 (nle rfl) (nle rfl) rfl lf_X_78 q1 ?_
  obtain ⟨q3, hw⟩ := hw
  refine r_callV (av := []) (rest := []) (ci := 2) d_X_corners_4 mk_Cr_find ll_X_282 im_Cr_find se_Cr_find rfl (nle rfl) rfl rfl (nle rfl) q3 (s_Cr_find (by omega) hw (fun h2 hw => ?_))
  show aW none m_X_corners (d + 1) 7 [(0, ar v0)] [] h2 0 0 QQ
  refine r_aload_n (j := 0) d_X_corners_7 rfl ?_
  obtain ⟨q4, hw⟩ := hw
  refine r_getR d_X_corners_8 ok_11 (nle rfl) (nle rfl) rfl lf_X_78 q4 ?_
  obtain ⟨q5, hw⟩ := hw
  refine r_getI d_X_corners_11 ok_2 (nle rfl) (nle rfl) rfl lf_X_284 q5 ?_
  exact r_ireturn d_X_corners_14.1 rfl (hQ _ _ hw)
set_option maxRecDepth 100000 in
set_option maxHeartbeats 4000000 in
theorem s_X_draw {d : Nat} {v0 : Int32} {h : Hp} {Q : Int32 → Hp → Prop} {QQ : Option AV → Hp → Prop} (hw : w_X_draw v0 h Q) (hQ : ∀ r9 h9, Q r9 h9 → QQ (some (ai r9)) h9) : aCall m_X_draw d [ai v0] h 0 0 QQ := by
  refine aCall_in pl_X_draw (nle rfl) ?_
  show aW none m_X_draw d 0 [(0, ai v0)] [] h 0 0 QQ
  unfold w_X_draw at hw
  refine r_iload_n (j := 0) d_X_draw_0 rfl ?_
  refine r_sipush d_X_draw_1 ks_137 ?_
  refine r_imul d_X_draw_4 ?_
  refine r_bipush d_X_draw_5 kb_71 ?_
  refine r_iadd d_X_draw_7 ?_
  refine r_sipush d_X_draw_8 ks_10007 ?_
  refine r_irem d_X_draw_11 (by decide) ?_
  exact r_ireturn d_X_draw_12.1 rfl (hQ _ _ hw)
set_option maxRecDepth 100000 in
set_option maxHeartbeats 4000000 in
theorem s_X_drawSums_L13 {d : Nat} (hd : 2 ≤ d + 1) {Q : Int32 → Hp → Prop} {QQ : Option AV → Hp → Prop} (hQ : ∀ r9 h9, Q r9 h9 → QQ (some (ai r9)) h9) {v0 : Nat} {v2 : Int32} : ∀ (n : Nat) (v1 : Int32) (v3 : Int32) (v4 : Int32) (h : Hp), w_X_drawSums_L13 Q  v0 v2 n v1 v3 v4 h → aW none m_X_drawSums (d + 1) 13 [(0, ar v0), (1, ai v1), (2, ai v2), (3, ai v3), (4, ai v4)] [] h 0 0 QQ := by
  intro n
  induction n with
  | zero => intro v1 v3 v4 h hw; exact hw.elim
  | succ n ih =>
    intro v1 v3 v4 h hw
    unfold w_X_drawSums_L13 at hw
    refine r_iload (j := 4) d_X_drawSums_13 rfl ?_
    refine r_iload_n (j := 2) d_X_drawSums_15 rfl ?_
    refine r_icmp_ge d_X_drawSums_16 (fun w9 => ?_) (fun w9 => ?_)
    · replace hw := hw.1 w9
      refine r_iload_n (j := 3) d_X_drawSums_77 rfl ?_
      exact r_ireturn d_X_drawSums_78.1 rfl (hQ _ _ hw)
    · replace hw := hw.2 w9
      refine r_aload_n (j := 0) d_X_drawSums_19 rfl ?_
      obtain ⟨q3, hw⟩ := hw
      refine r_getR d_X_drawSums_20 ok_11 (nle rfl) (nle rfl) rfl lf_X_23 q3 ?_
      obtain ⟨q4, hw⟩ := hw
      refine r_getI d_X_drawSums_23 ok_1 (nle rfl) (nle rfl) rfl lf_X_129 q4 ?_
      refine r_if_le d_X_drawSums_26 (fun w9 => ?_) (fun w9 => ?_)
      · replace hw := hw.1 w9
        refine r_iload_n (j := 3) d_X_drawSums_77 rfl ?_
        exact r_ireturn d_X_drawSums_78.1 rfl (hQ _ _ hw)
      · replace hw := hw.2 w9
        refine r_iload_n (j := 1) d_X_drawSums_29 rfl ?_
        refine r_callS (av := [ai v1]) (rest := []) d_X_drawSums_30 mk_X_draw ll_X_332 st_X_draw rfl rfl (nle rfl) (s_X_draw  hw (fun r6 h5 hw => ?_))
        show aW none m_X_drawSums (d + 1) 33 [(0, ar v0), (1, ai v1), (2, ai v2), (3, ai v3), (4, ai v4)] [ai r6] h5 0 0 QQ
        refine r_istore_n (ls2 := [(1, ai r6), (0, ar v0), (2, ai v2), (3, ai v3), (4, ai v4)]) d_X_drawSums_33 (nle rfl) rfl ?_
        refine r_iload_n (j := 0) d_X_drawSums_34 rfl ?_
        refine r_aload_n (j := 1) d_X_drawSums_35 rfl ?_
        obtain ⟨q7, hw⟩ := hw
        refine r_getR d_X_drawSums_36 ok_11 (nle rfl) (nle rfl) rfl lf_X_23 q7 ?_
        obtain ⟨q8, hw⟩ := hw
        refine r_getI d_X_drawSums_39 ok_1 (nle rfl) (nle rfl) rfl lf_X_129 q8 ?_
        obtain ⟨q9, hw⟩ := hw
        refine r_irem d_X_drawSums_42 q9 ?_
        refine r_istore (ls2 := [(5, ai (jrem r6 (gI h5 (gR h5 v0 2) 2))), (1, ai r6), (0, ar v0), (2, ai v2), (3, ai v3), (4, ai v4)]) d_X_drawSums_43 (nle rfl) rfl ?_
        refine r_aload_n (j := 2) d_X_drawSums_45 rfl ?_
        refine r_getR d_X_drawSums_46 ok_11 (nle rfl) (nle rfl) rfl lf_X_23 q7 ?_
        refine r_aload_n (j := 2) d_X_drawSums_49 rfl ?_
        refine r_getR d_X_drawSums_50 ok_11 (nle rfl) (nle rfl) rfl lf_X_103 q7 ?_
        refine r_iload (j := 0) d_X_drawSums_53 rfl ?_
        refine r_iconst d_X_drawSums_55 kc_1 ?_
        refine r_callV (av := [ar (gR h5 v0 14), ai (jrem r6 (gI h5 (gR h5 v0 2) 2)), ai (1 : Int32)]) (rest := []) (ci := 1) d_X_drawSums_56 mk_Co_addTo ll_X_335 im_Co_addTo se_Co_addTo rfl (nle rfl) rfl rfl (nle rfl) q8 (s_Co_addTo (by omega) hw (fun h10 hw => ?_))
        show aW none m_X_drawSums (d + 1) 59 [(5, ai (jrem r6 (gI h5 (gR h5 v0 2) 2))), (1, ai r6), (0, ar v0), (2, ai v2), (3, ai v3), (4, ai v4)] [] h10 0 0 QQ
        refine r_iload_n (j := 4) d_X_drawSums_59 rfl ?_
        refine r_aload_n (j := 2) d_X_drawSums_60 rfl ?_
        obtain ⟨q11, hw⟩ := hw
        refine r_getR d_X_drawSums_61 ok_11 (nle rfl) (nle rfl) rfl lf_X_23 q11 ?_
        refine r_iload (j := 0) d_X_drawSums_64 rfl ?_
        obtain ⟨q14, hw⟩ := hw
        refine r_callV (av := [ai (jrem r6 (gI h5 (gR h5 v0 2) 2))]) (rest := [ai v3]) (ci := 1) d_X_drawSums_66 mk_Co_gainOf ll_X_150 im_Co_gainOf se_Co_gainOf rfl (nle rfl) rfl rfl (nle rfl) q14 (s_Co_gainOf  hw (fun r13 h12 hw => ?_))
        show aW none m_X_drawSums (d + 1) 69 [(5, ai (jrem r6 (gI h5 (gR h5 v0 2) 2))), (1, ai r6), (0, ar v0), (2, ai v2), (3, ai v3), (4, ai v4)] [ai r13, ai v3] h12 0 0 QQ
        refine r_iadd d_X_drawSums_69 ?_
        refine r_istore_n (ls2 := [(3, ai (v3 + r13)), (5, ai (jrem r6 (gI h5 (gR h5 v0 2) 2))), (1, ai r6), (0, ar v0), (2, ai v2), (4, ai v4)]) d_X_drawSums_70 (nle rfl) rfl ?_
        refine r_iinc (j := 5) (ls2 := [(4, ai (v4 + (1 : Int32))), (3, ai (v3 + r13)), (5, ai (jrem r6 (gI h5 (gR h5 v0 2) 2))), (1, ai r6), (0, ar v0), (2, ai v2)]) d_X_drawSums_71 rfl (congrArg (HAdd.hAdd v4) kc_1) (nle rfl) rfl ?_
        refine r_goto d_X_drawSums_74 ?_
        refine r_pick (ls2 := [(0, ar v0), (1, ai r6), (2, ai v2), (3, ai (v3 + r13)), (4, ai (v4 + (1 : Int32)))]) [4, 3, 5, 1, 0] rfl ?_
        exact ih _ _ _ _ hw
set_option maxRecDepth 100000 in
set_option maxHeartbeats 4000000 in
theorem s_X_drawSums {d : Nat} (hd : 2 ≤ d) {v0 : Nat} {v1 : Int32} {v2 : Int32} {h : Hp} {Q : Int32 → Hp → Prop} {QQ : Option AV → Hp → Prop} (hw : w_X_drawSums v0 v1 v2 h Q) (hQ : ∀ r9 h9, Q r9 h9 → QQ (some (ai r9)) h9) : aCall m_X_drawSums d [ar v0, ai v1, ai v2] h 0 0 QQ := by
  obtain ⟨d, rfl⟩ : ∃ d9, d = d9 + 1 := ⟨d - 1, by omega⟩
  refine aCall_in pl_X_drawSums (nle rfl) ?_
  show aW none m_X_drawSums (d + 1) 0 [(0, ar v0), (1, ai v1), (2, ai v2)] [] h 0 0 QQ
  unfold w_X_drawSums at hw
  refine r_aload_n (j := 0) d_X_drawSums_0 rfl ?_
  obtain ⟨q1, hw⟩ := hw
  refine r_getR d_X_drawSums_1 ok_11 (nle rfl) (nle rfl) rfl lf_X_103 q1 ?_
  refine r_iconst d_X_drawSums_4 kc_0 ?_
  refine r_callS (av := [ar (gR h v0 14), ai (0 : Int32)]) (rest := []) d_X_drawSums_5 mk_JA_fill_IIV ll_X_326 st_JA_fill_IIV rfl rfl (nle rfl) (s_JA_fill_IIV  hw (fun h2 hw => ?_))
  show aW none m_X_drawSums (d + 1) 8 [(0, ar v0), (1, ai v1), (2, ai v2)] [] h2 0 0 QQ
  refine r_iconst d_X_drawSums_8 kc_0 ?_
  refine r_istore_n (ls2 := [(3, ai (0 : Int32)), (0, ar v0), (1, ai v1), (2, ai v2)]) d_X_drawSums_9 (nle rfl) rfl ?_
  refine r_iconst d_X_drawSums_10 kc_0 ?_
  refine r_istore (ls2 := [(4, ai (0 : Int32)), (3, ai (0 : Int32)), (0, ar v0), (1, ai v1), (2, ai v2)]) d_X_drawSums_11 (nle rfl) rfl ?_
  obtain ⟨n15, hw⟩ := hw
  refine r_pick (ls2 := [(0, ar v0), (1, ai v1), (2, ai v2), (3, ai (0 : Int32)), (4, ai (0 : Int32))]) [2, 3, 4, 1, 0] rfl ?_
  exact s_X_drawSums_L13 hd hQ  n15 _ _ _ _ hw
