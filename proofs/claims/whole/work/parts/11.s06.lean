set_option maxRecDepth 100000 in
set_option maxHeartbeats 4000000 in
theorem s_Tp_isDigit {d : Nat} {v0 : Nat} {v1 : Int32} {h : Hp} {Q : Bool → Hp → Prop} {QQ : Option AV → Hp → Prop} (hw : w_Tp_isDigit v0 v1 h Q) (hQ : ∀ r9 h9, Q r9 h9 → QQ (some (ai (b2i r9))) h9) : aCall m_Tp_isDigit d [ar v0, ai v1] h 0 0 QQ := by
  refine aCall_in pl_Tp_isDigit (nle rfl) ?_
  show aW none m_Tp_isDigit d 0 [(0, ar v0), (1, ai v1)] [] h 0 0 QQ
  unfold w_Tp_isDigit at hw
  refine r_iload_n (j := 1) d_Tp_isDigit_0 rfl ?_
  refine r_aload_n (j := 0) d_Tp_isDigit_1 rfl ?_
  obtain ⟨q1, hw⟩ := hw
  refine r_getI d_Tp_isDigit_2 ok_10 (nle rfl) (nle rfl) rfl lf_Tp_15 q1 ?_
  refine r_icmp_ge d_Tp_isDigit_5 (fun w9 => ?_) (fun w9 => ?_)
  · replace hw := hw.1 w9
    refine r_iconst d_Tp_isDigit_34 kc_0 ?_
    exact r_zreturn d_Tp_isDigit_35.1 rfl (Or.inl rfl) (hQ _ _ hw)
  · replace hw := hw.2 w9
    refine r_aload_n (j := 0) d_Tp_isDigit_8 rfl ?_
    refine r_getR d_Tp_isDigit_9 ok_10 (nle rfl) (nle rfl) rfl lf_Tp_9 q1 ?_
    refine r_iload_n (j := 1) d_Tp_isDigit_12 rfl ?_
    obtain ⟨q2, hw⟩ := hw
    obtain ⟨q3, hw⟩ := hw
    refine r_iald d_Tp_isDigit_13 q2 q3 ?_
    refine r_bipush d_Tp_isDigit_14 kb_48 ?_
    refine r_icmp_lt d_Tp_isDigit_16 (fun w9 => ?_) (fun w9 => ?_)
    · replace hw := hw.1 w9
      refine r_iconst d_Tp_isDigit_34 kc_0 ?_
      exact r_zreturn d_Tp_isDigit_35.1 rfl (Or.inl rfl) (hQ _ _ hw)
    · replace hw := hw.2 w9
      refine r_aload_n (j := 0) d_Tp_isDigit_19 rfl ?_
      refine r_getR d_Tp_isDigit_20 ok_10 (nle rfl) (nle rfl) rfl lf_Tp_9 q1 ?_
      refine r_iload_n (j := 1) d_Tp_isDigit_23 rfl ?_
      refine r_iald d_Tp_isDigit_24 q2 q3 ?_
      refine r_bipush d_Tp_isDigit_25 kb_57 ?_
      refine r_icmp_gt d_Tp_isDigit_27 (fun w9 => ?_) (fun w9 => ?_)
      · replace hw := hw.1 w9
        refine r_iconst d_Tp_isDigit_34 kc_0 ?_
        exact r_zreturn d_Tp_isDigit_35.1 rfl (Or.inl rfl) (hQ _ _ hw)
      · replace hw := hw.2 w9
        refine r_iconst d_Tp_isDigit_30 kc_1 ?_
        refine r_goto d_Tp_isDigit_31 ?_
        exact r_zreturn d_Tp_isDigit_35.1 rfl (Or.inr rfl) (hQ _ _ hw)
set_option maxRecDepth 100000 in
set_option maxHeartbeats 4000000 in
theorem s_Tp_isLetter {d : Nat} {v0 : Nat} {v1 : Int32} {h : Hp} {Q : Bool → Hp → Prop} {QQ : Option AV → Hp → Prop} (hw : w_Tp_isLetter v0 v1 h Q) (hQ : ∀ r9 h9, Q r9 h9 → QQ (some (ai (b2i r9))) h9) : aCall m_Tp_isLetter d [ar v0, ai v1] h 0 0 QQ := by
  refine aCall_in pl_Tp_isLetter (nle rfl) ?_
  show aW none m_Tp_isLetter d 0 [(0, ar v0), (1, ai v1)] [] h 0 0 QQ
  unfold w_Tp_isLetter at hw
  refine r_iload_n (j := 1) d_Tp_isLetter_0 rfl ?_
  refine r_aload_n (j := 0) d_Tp_isLetter_1 rfl ?_
  obtain ⟨q1, hw⟩ := hw
  refine r_getI d_Tp_isLetter_2 ok_10 (nle rfl) (nle rfl) rfl lf_Tp_15 q1 ?_
  refine r_icmp_ge d_Tp_isLetter_5 (fun w9 => ?_) (fun w9 => ?_)
  · replace hw := hw.1 w9
    refine r_iconst d_Tp_isLetter_34 kc_0 ?_
    exact r_zreturn d_Tp_isLetter_35.1 rfl (Or.inl rfl) (hQ _ _ hw)
  · replace hw := hw.2 w9
    refine r_aload_n (j := 0) d_Tp_isLetter_8 rfl ?_
    refine r_getR d_Tp_isLetter_9 ok_10 (nle rfl) (nle rfl) rfl lf_Tp_9 q1 ?_
    refine r_iload_n (j := 1) d_Tp_isLetter_12 rfl ?_
    obtain ⟨q2, hw⟩ := hw
    obtain ⟨q3, hw⟩ := hw
    refine r_iald d_Tp_isLetter_13 q2 q3 ?_
    refine r_bipush d_Tp_isLetter_14 kb_97 ?_
    refine r_icmp_lt d_Tp_isLetter_16 (fun w9 => ?_) (fun w9 => ?_)
    · replace hw := hw.1 w9
      refine r_iconst d_Tp_isLetter_34 kc_0 ?_
      exact r_zreturn d_Tp_isLetter_35.1 rfl (Or.inl rfl) (hQ _ _ hw)
    · replace hw := hw.2 w9
      refine r_aload_n (j := 0) d_Tp_isLetter_19 rfl ?_
      refine r_getR d_Tp_isLetter_20 ok_10 (nle rfl) (nle rfl) rfl lf_Tp_9 q1 ?_
      refine r_iload_n (j := 1) d_Tp_isLetter_23 rfl ?_
      refine r_iald d_Tp_isLetter_24 q2 q3 ?_
      refine r_bipush d_Tp_isLetter_25 kb_122 ?_
      refine r_icmp_gt d_Tp_isLetter_27 (fun w9 => ?_) (fun w9 => ?_)
      · replace hw := hw.1 w9
        refine r_iconst d_Tp_isLetter_34 kc_0 ?_
        exact r_zreturn d_Tp_isLetter_35.1 rfl (Or.inl rfl) (hQ _ _ hw)
      · replace hw := hw.2 w9
        refine r_iconst d_Tp_isLetter_30 kc_1 ?_
        refine r_goto d_Tp_isLetter_31 ?_
        exact r_zreturn d_Tp_isLetter_35.1 rfl (Or.inr rfl) (hQ _ _ hw)
set_option maxRecDepth 100000 in
set_option maxHeartbeats 4000000 in
theorem s_Tp_takeDigits_B35 {d : Nat} (hd : 1 ≤ d + 1) {Q : Hp → Prop} {QQ : Option AV → Hp → Prop} (hQ : ∀ h9, Q h9 → QQ none h9) {v0 : Nat} {h : Hp} (hw : w_Tp_takeDigits_B35 Q  v0 h) : aW none m_Tp_takeDigits (d + 1) 35 [(0, ar v0)] [] h 0 0 QQ := by
  unfold w_Tp_takeDigits_B35 at hw
  refine r_aload_n (j := 0) d_Tp_takeDigits_35 rfl ?_
  refine r_aload_n (j := 0) d_Tp_takeDigits_36 rfl ?_
  obtain ⟨q2, hw⟩ := hw
  refine r_getI d_Tp_takeDigits_37 ok_10 (nle rfl) (nle rfl) rfl lf_Tp_19 q2 ?_
  refine r_aload_n (j := 0) d_Tp_takeDigits_40 rfl ?_
  refine r_getI d_Tp_takeDigits_41 ok_10 (nle rfl) (nle rfl) rfl lf_Tp_25 q2 ?_
  refine r_isub d_Tp_takeDigits_44 ?_
  refine r_iconst d_Tp_takeDigits_45 kc_3 ?_
  refine r_icmp_gt d_Tp_takeDigits_46 (fun w9 => ?_) (fun w9 => ?_)
  · replace hw := hw.1 w9
    refine r_iconst d_Tp_takeDigits_64 kc_1 ?_
    refine r_putI d_Tp_takeDigits_65 ok_10 (nle rfl) (nle rfl) rfl lf_Tp_28 rfl q2 ?_
    exact r_return d_Tp_takeDigits_68.1 rfl (hQ _ hw)
  · replace hw := hw.2 w9
    refine r_aload_n (j := 0) d_Tp_takeDigits_49 rfl ?_
    refine r_aload_n (j := 0) d_Tp_takeDigits_50 rfl ?_
    refine r_getI d_Tp_takeDigits_51 ok_10 (nle rfl) (nle rfl) rfl lf_Tp_19 q2 ?_
    refine r_callV (av := [ai (gI h v0 4)]) (rest := [ar v0]) (ci := 10) d_Tp_takeDigits_54 mk_Tp_isLetter ll_Tp_31 im_Tp_isLetter se_Tp_isLetter rfl (nle rfl) rfl rfl (nle rfl) q2 (s_Tp_isLetter  hw (fun r4 h3 hw => ?_))
    show aW none m_Tp_takeDigits (d + 1) 57 [(0, ar v0)] [ai (b2i r4), ar v0] h3 0 0 QQ
    refine r_if_ne d_Tp_takeDigits_57 (fun w9 => ?_) (fun w9 => ?_)
    · replace hw := hw.2 (fun g9 => w9 (b2i_0.mpr g9))
      refine r_iconst d_Tp_takeDigits_64 kc_1 ?_
      obtain ⟨q5, hw⟩ := hw
      refine r_putI d_Tp_takeDigits_65 ok_10 (nle rfl) (nle rfl) rfl lf_Tp_28 rfl q5 ?_
      exact r_return d_Tp_takeDigits_68.1 rfl (hQ _ hw)
    · replace hw := hw.1 (b2i_0.mp w9)
      refine r_iconst d_Tp_takeDigits_60 kc_3 ?_
      refine r_goto d_Tp_takeDigits_61 ?_
      obtain ⟨q6, hw⟩ := hw
      refine r_putI d_Tp_takeDigits_65 ok_10 (nle rfl) (nle rfl) rfl lf_Tp_28 rfl q6 ?_
      exact r_return d_Tp_takeDigits_68.1 rfl (hQ _ hw)
set_option maxRecDepth 100000 in
set_option maxHeartbeats 4000000 in
theorem s_Tp_takeDigits_L0 {d : Nat} (hd : 1 ≤ d + 1) {Q : Hp → Prop} {QQ : Option AV → Hp → Prop} (hQ : ∀ h9, Q h9 → QQ none h9) {v0 : Nat} : ∀ (n : Nat) (h : Hp), w_Tp_takeDigits_L0 Q  v0 n h → aW none m_Tp_takeDigits (d + 1) 0 [(0, ar v0)] [] h 0 0 QQ := by
  intro n
  induction n with
  | zero => intro h hw; exact hw.elim
  | succ n ih =>
    intro h hw
    unfold w_Tp_takeDigits_L0 at hw
    refine r_aload_n (j := 0) d_Tp_takeDigits_0 rfl ?_
    obtain ⟨q1, hw⟩ := hw
    refine r_getI d_Tp_takeDigits_1 ok_10 (nle rfl) (nle rfl) rfl lf_Tp_19 q1 ?_
    refine r_aload_n (j := 0) d_Tp_takeDigits_4 rfl ?_
    refine r_getI d_Tp_takeDigits_5 ok_10 (nle rfl) (nle rfl) rfl lf_Tp_15 q1 ?_
    refine r_icmp_ge d_Tp_takeDigits_8 (fun w9 => ?_) (fun w9 => ?_)
    · replace hw := hw.1 w9
      exact s_Tp_takeDigits_B35 hd hQ  hw
    · replace hw := hw.2 w9
      refine r_aload_n (j := 0) d_Tp_takeDigits_11 rfl ?_
      refine r_aload_n (j := 0) d_Tp_takeDigits_12 rfl ?_
      refine r_getI d_Tp_takeDigits_13 ok_10 (nle rfl) (nle rfl) rfl lf_Tp_19 q1 ?_
      refine r_callV (av := [ai (gI h v0 4)]) (rest := []) (ci := 10) d_Tp_takeDigits_16 mk_Tp_isDigit ll_Tp_38 im_Tp_isDigit se_Tp_isDigit rfl (nle rfl) rfl rfl (nle rfl) q1 (s_Tp_isDigit  hw (fun r8 h7 hw => ?_))
      show aW none m_Tp_takeDigits (d + 1) 19 [(0, ar v0)] [ai (b2i r8)] h7 0 0 QQ
      refine r_if_eq d_Tp_takeDigits_19 (fun w9 => ?_) (fun w9 => ?_)
      · replace hw := hw.1 (b2i_0.mp w9)
        exact s_Tp_takeDigits_B35 hd hQ  hw
      · replace hw := hw.2 (fun g9 => w9 (b2i_0.mpr g9))
        refine r_aload_n (j := 0) d_Tp_takeDigits_22 rfl ?_
        refine r_dup d_Tp_takeDigits_23 rfl ?_
        obtain ⟨q9, hw⟩ := hw
        refine r_getI d_Tp_takeDigits_24 ok_10 (nle rfl) (nle rfl) rfl lf_Tp_19 q9 ?_
        refine r_iconst d_Tp_takeDigits_27 kc_1 ?_
        refine r_iadd d_Tp_takeDigits_28 ?_
        refine r_putI d_Tp_takeDigits_29 ok_10 (nle rfl) (nle rfl) rfl lf_Tp_19 rfl q9 ?_
        refine r_goto d_Tp_takeDigits_32 ?_
        exact ih _ hw
set_option maxRecDepth 100000 in
set_option maxHeartbeats 4000000 in
theorem s_Tp_takeDigits {d : Nat} (hd : 1 ≤ d) {v0 : Nat} {h : Hp} {Q : Hp → Prop} {QQ : Option AV → Hp → Prop} (hw : w_Tp_takeDigits v0 h Q) (hQ : ∀ h9, Q h9 → QQ none h9) : aCall m_Tp_takeDigits d [ar v0] h 0 0 QQ := by
  obtain ⟨d, rfl⟩ : ∃ d9, d = d9 + 1 := ⟨d - 1, by omega⟩
  refine aCall_in pl_Tp_takeDigits (nle rfl) ?_
  show aW none m_Tp_takeDigits (d + 1) 0 [(0, ar v0)] [] h 0 0 QQ
  unfold w_Tp_takeDigits at hw
  obtain ⟨n10, hw⟩ := hw
  exact s_Tp_takeDigits_L0 hd hQ  n10 _ hw
set_option maxRecDepth 100000 in
set_option maxHeartbeats 4000000 in
theorem s_Tp_takeWord_B35 {d : Nat} (hd : 1 ≤ d + 1) {Q : Hp → Prop} {QQ : Option AV → Hp → Prop} (hQ : ∀ h9, Q h9 → QQ none h9) {v0 : Nat} {h : Hp} (hw : w_Tp_takeWord_B35 Q  v0 h) : aW none m_Tp_takeWord (d + 1) 35 [(0, ar v0)] [] h 0 0 QQ := by
  unfold w_Tp_takeWord_B35 at hw
  refine r_aload_n (j := 0) d_Tp_takeWord_35 rfl ?_
  refine r_aload_n (j := 0) d_Tp_takeWord_36 rfl ?_
  obtain ⟨q2, hw⟩ := hw
  refine r_getI d_Tp_takeWord_37 ok_10 (nle rfl) (nle rfl) rfl lf_Tp_19 q2 ?_
  refine r_aload_n (j := 0) d_Tp_takeWord_40 rfl ?_
  refine r_getI d_Tp_takeWord_41 ok_10 (nle rfl) (nle rfl) rfl lf_Tp_25 q2 ?_
  refine r_isub d_Tp_takeWord_44 ?_
  refine r_bipush d_Tp_takeWord_45 kb_8 ?_
  refine r_icmp_gt d_Tp_takeWord_47 (fun w9 => ?_) (fun w9 => ?_)
  · replace hw := hw.1 w9
    refine r_iconst d_Tp_takeWord_54 kc_1 ?_
    refine r_putI d_Tp_takeWord_55 ok_10 (nle rfl) (nle rfl) rfl lf_Tp_28 rfl q2 ?_
    exact r_return d_Tp_takeWord_58.1 rfl (hQ _ hw)
  · replace hw := hw.2 w9
    refine r_iconst d_Tp_takeWord_50 kc_2 ?_
    refine r_goto d_Tp_takeWord_51 ?_
    refine r_putI d_Tp_takeWord_55 ok_10 (nle rfl) (nle rfl) rfl lf_Tp_28 rfl q2 ?_
    exact r_return d_Tp_takeWord_58.1 rfl (hQ _ hw)
set_option maxRecDepth 100000 in
set_option maxHeartbeats 4000000 in
theorem s_Tp_takeWord_L0 {d : Nat} (hd : 1 ≤ d + 1) {Q : Hp → Prop} {QQ : Option AV → Hp → Prop} (hQ : ∀ h9, Q h9 → QQ none h9) {v0 : Nat} : ∀ (n : Nat) (h : Hp), w_Tp_takeWord_L0 Q  v0 n h → aW none m_Tp_takeWord (d + 1) 0 [(0, ar v0)] [] h 0 0 QQ := by
  intro n
  induction n with
  | zero => intro h hw; exact hw.elim
  | succ n ih =>
    intro h hw
    unfold w_Tp_takeWord_L0 at hw
    refine r_aload_n (j := 0) d_Tp_takeWord_0 rfl ?_
    obtain ⟨q1, hw⟩ := hw
    refine r_getI d_Tp_takeWord_1 ok_10 (nle rfl) (nle rfl) rfl lf_Tp_19 q1 ?_
    refine r_aload_n (j := 0) d_Tp_takeWord_4 rfl ?_
    refine r_getI d_Tp_takeWord_5 ok_10 (nle rfl) (nle rfl) rfl lf_Tp_15 q1 ?_
    refine r_icmp_ge d_Tp_takeWord_8 (fun w9 => ?_) (fun w9 => ?_)
    · replace hw := hw.1 w9
      exact s_Tp_takeWord_B35 hd hQ  hw
    · replace hw := hw.2 w9
      refine r_aload_n (j := 0) d_Tp_takeWord_11 rfl ?_
      refine r_aload_n (j := 0) d_Tp_takeWord_12 rfl ?_
      refine r_getI d_Tp_takeWord_13 ok_10 (nle rfl) (nle rfl) rfl lf_Tp_19 q1 ?_
      refine r_callV (av := [ai (gI h v0 4)]) (rest := []) (ci := 10) d_Tp_takeWord_16 mk_Tp_isLetter ll_Tp_31 im_Tp_isLetter se_Tp_isLetter rfl (nle rfl) rfl rfl (nle rfl) q1 (s_Tp_isLetter  hw (fun r4 h3 hw => ?_))
      show aW none m_Tp_takeWord (d + 1) 19 [(0, ar v0)] [ai (b2i r4)] h3 0 0 QQ
      refine r_if_eq d_Tp_takeWord_19 (fun w9 => ?_) (fun w9 => ?_)
      · replace hw := hw.1 (b2i_0.mp w9)
        exact s_Tp_takeWord_B35 hd hQ  hw
      · replace hw := hw.2 (fun g9 => w9 (b2i_0.mpr g9))
        refine r_aload_n (j := 0) d_Tp_takeWord_22 rfl ?_
        refine r_dup d_Tp_takeWord_23 rfl ?_
        obtain ⟨q5, hw⟩ := hw
        refine r_getI d_Tp_takeWord_24 ok_10 (nle rfl) (nle rfl) rfl lf_Tp_19 q5 ?_
        refine r_iconst d_Tp_takeWord_27 kc_1 ?_
        refine r_iadd d_Tp_takeWord_28 ?_
        refine r_putI d_Tp_takeWord_29 ok_10 (nle rfl) (nle rfl) rfl lf_Tp_19 rfl q5 ?_
        refine r_goto d_Tp_takeWord_32 ?_
        exact ih _ hw
set_option maxRecDepth 100000 in
set_option maxHeartbeats 4000000 in
theorem s_Tp_takeWord {d : Nat} (hd : 1 ≤ d) {v0 : Nat} {h : Hp} {Q : Hp → Prop} {QQ : Option AV → Hp → Prop} (hw : w_Tp_takeWord v0 h Q) (hQ : ∀ h9, Q h9 → QQ none h9) : aCall m_Tp_takeWord d [ar v0] h 0 0 QQ := by
  obtain ⟨d, rfl⟩ : ∃ d9, d = d9 + 1 := ⟨d - 1, by omega⟩
  refine aCall_in pl_Tp_takeWord (nle rfl) ?_
  show aW none m_Tp_takeWord (d + 1) 0 [(0, ar v0)] [] h 0 0 QQ
  unfold w_Tp_takeWord at hw
  obtain ⟨n6, hw⟩ := hw
  exact s_Tp_takeWord_L0 hd hQ  n6 _ hw
set_option maxRecDepth 100000 in
set_option maxHeartbeats 4000000 in
theorem s_Tp_advance_B60 {d : Nat} (hd : 2 ≤ d + 1) {Q : Hp → Prop} {QQ : Option AV → Hp → Prop} (hQ : ∀ h9, Q h9 → QQ none h9) {v0 : Nat} {h : Hp} (hw : w_Tp_advance_B60 Q  v0 h) : aW none m_Tp_advance (d + 1) 60 [(0, ar v0)] [] h 0 0 QQ := by
  unfold w_Tp_advance_B60 at hw
  refine r_aload_n (j := 0) d_Tp_advance_60 rfl ?_
  refine r_aload_n (j := 0) d_Tp_advance_61 rfl ?_
  obtain ⟨q3, hw⟩ := hw
  refine r_getI d_Tp_advance_62 ok_10 (nle rfl) (nle rfl) rfl lf_Tp_25 q3 ?_
  refine r_putI d_Tp_advance_65 ok_10 (nle rfl) (nle rfl) rfl lf_Tp_19 rfl q3 ?_
  refine r_aload_n (j := 0) d_Tp_advance_68 rfl ?_
  refine r_getI d_Tp_advance_69 ok_10 (nle rfl) (nle rfl) rfl lf_Tp_25 (kt eKI q3) ?_
  refine r_aload_n (j := 0) d_Tp_advance_72 rfl ?_
  refine r_getI d_Tp_advance_73 ok_10 (nle rfl) (nle rfl) rfl lf_Tp_15 (kt eKI q3) ?_
  refine r_icmp_lt d_Tp_advance_76 (fun w9 => ?_) (fun w9 => ?_)
  · replace hw := hw.1 w9
    refine r_aload_n (j := 0) d_Tp_advance_87 rfl ?_
    refine r_aload_n (j := 0) d_Tp_advance_88 rfl ?_
    refine r_getI d_Tp_advance_89 ok_10 (nle rfl) (nle rfl) rfl lf_Tp_25 (kt eKI q3) ?_
    refine r_callV (av := [ai (gI (sI h v0 4 (gI h v0 3)) v0 3)]) (rest := []) (ci := 10) d_Tp_advance_92 mk_Tp_isLetter ll_Tp_31 im_Tp_isLetter se_Tp_isLetter rfl (nle rfl) rfl rfl (nle rfl) (kt eKI q3) (s_Tp_isLetter  hw (fun r5 h4 hw => ?_))
    show aW none m_Tp_advance (d + 1) 95 [(0, ar v0)] [ai (b2i r5)] h4 0 0 QQ
    refine r_if_eq d_Tp_advance_95 (fun w9 => ?_) (fun w9 => ?_)
    · replace hw := hw.1 (b2i_0.mp w9)
      refine r_aload_n (j := 0) d_Tp_advance_105 rfl ?_
      refine r_aload_n (j := 0) d_Tp_advance_106 rfl ?_
      obtain ⟨q6, hw⟩ := hw
      refine r_getI d_Tp_advance_107 ok_10 (nle rfl) (nle rfl) rfl lf_Tp_25 q6 ?_
      refine r_callV (av := [ai (gI h4 v0 3)]) (rest := []) (ci := 10) d_Tp_advance_110 mk_Tp_isDigit ll_Tp_38 im_Tp_isDigit se_Tp_isDigit rfl (nle rfl) rfl rfl (nle rfl) q6 (s_Tp_isDigit  hw (fun r8 h7 hw => ?_))
      show aW none m_Tp_advance (d + 1) 113 [(0, ar v0)] [ai (b2i r8)] h7 0 0 QQ
      refine r_if_eq d_Tp_advance_113 (fun w9 => ?_) (fun w9 => ?_)
      · replace hw := hw.1 (b2i_0.mp w9)
        refine r_aload_n (j := 0) d_Tp_advance_123 rfl ?_
        refine r_aload_n (j := 0) d_Tp_advance_124 rfl ?_
        obtain ⟨q9, hw⟩ := hw
        refine r_getI d_Tp_advance_125 ok_10 (nle rfl) (nle rfl) rfl lf_Tp_25 q9 ?_
        refine r_iconst d_Tp_advance_128 kc_1 ?_
        refine r_iadd d_Tp_advance_129 ?_
        refine r_putI d_Tp_advance_130 ok_10 (nle rfl) (nle rfl) rfl lf_Tp_19 rfl q9 ?_
        refine r_aload_n (j := 0) d_Tp_advance_133 rfl ?_
        refine r_aload_n (j := 0) d_Tp_advance_134 rfl ?_
        refine r_getRb eRI d_Tp_advance_135 ok_10 (nle rfl) (nle rfl) rfl lf_Tp_9 (kt eKI q9) ?_
        refine r_aload_n (j := 0) d_Tp_advance_138 rfl ?_
        refine r_getI d_Tp_advance_139 ok_10 (nle rfl) (nle rfl) rfl lf_Tp_25 (kt eKI q9) ?_
        obtain ⟨q10, hw⟩ := hw
        obtain ⟨q11, hw⟩ := hw
        refine r_iald d_Tp_advance_142 (kt eKI q10) (nt eNI q11) ?_
        refine r_bipush d_Tp_advance_143 kb_45 ?_
        refine r_icmp_ne d_Tp_advance_145 (fun w9 => ?_) (fun w9 => ?_)
        · replace hw := hw.2 w9
          refine r_aload_n (j := 0) d_Tp_advance_152 rfl ?_
          refine r_getRb eRI d_Tp_advance_153 ok_10 (nle rfl) (nle rfl) rfl lf_Tp_9 (kt eKI q9) ?_
          refine r_aload_n (j := 0) d_Tp_advance_156 rfl ?_
          refine r_getI d_Tp_advance_157 ok_10 (nle rfl) (nle rfl) rfl lf_Tp_25 (kt eKI q9) ?_
          refine r_iald d_Tp_advance_160 (kt eKI q10) (nt eNI q11) ?_
          refine r_bipush d_Tp_advance_161 kb_59 ?_
          refine r_icmp_ne d_Tp_advance_163 (fun w9 => ?_) (fun w9 => ?_)
          · replace hw := hw.2 w9
            refine r_iconst d_Tp_advance_170 kc_1 ?_
            refine r_putI d_Tp_advance_171 ok_10 (nle rfl) (nle rfl) rfl lf_Tp_28 rfl (kt eKI q9) ?_
            exact r_return d_Tp_advance_174.1 rfl (hQ _ hw)
          · replace hw := hw.1 w9
            refine r_iconst d_Tp_advance_166 kc_5 ?_
            refine r_goto d_Tp_advance_167 ?_
            refine r_putI d_Tp_advance_171 ok_10 (nle rfl) (nle rfl) rfl lf_Tp_28 rfl (kt eKI q9) ?_
            exact r_return d_Tp_advance_174.1 rfl (hQ _ hw)
        · replace hw := hw.1 w9
          refine r_iconst d_Tp_advance_148 kc_4 ?_
          refine r_goto d_Tp_advance_149 ?_
          refine r_putI d_Tp_advance_171 ok_10 (nle rfl) (nle rfl) rfl lf_Tp_28 rfl (kt eKI q9) ?_
          exact r_return d_Tp_advance_174.1 rfl (hQ _ hw)
      · replace hw := hw.2 (fun g9 => w9 (b2i_0.mpr g9))
        refine r_aload_n (j := 0) d_Tp_advance_116 rfl ?_
        obtain ⟨q13, hw⟩ := hw
        refine r_callV (av := []) (rest := []) (ci := 10) d_Tp_advance_117 mk_Tp_takeDigits ll_Tp_41 im_Tp_takeDigits se_Tp_takeDigits rfl (nle rfl) rfl rfl (nle rfl) q13 (s_Tp_takeDigits (by omega) hw (fun h12 hw => ?_))
        show aW none m_Tp_advance (d + 1) 120 [(0, ar v0)] [] h12 0 0 QQ
        refine r_goto d_Tp_advance_120 ?_
        exact r_return d_Tp_advance_174.1 rfl (hQ _ hw)
    · replace hw := hw.2 (fun g9 => w9 (b2i_0.mpr g9))
      refine r_aload_n (j := 0) d_Tp_advance_98 rfl ?_
      obtain ⟨q15, hw⟩ := hw
      refine r_callV (av := []) (rest := []) (ci := 10) d_Tp_advance_99 mk_Tp_takeWord ll_Tp_35 im_Tp_takeWord se_Tp_takeWord rfl (nle rfl) rfl rfl (nle rfl) q15 (s_Tp_takeWord (by omega) hw (fun h14 hw => ?_))
      show aW none m_Tp_advance (d + 1) 102 [(0, ar v0)] [] h14 0 0 QQ
      refine r_goto d_Tp_advance_102 ?_
      exact r_return d_Tp_advance_174.1 rfl (hQ _ hw)
  · replace hw := hw.2 w9
    refine r_aload_n (j := 0) d_Tp_advance_79 rfl ?_
    refine r_iconst d_Tp_advance_80 kc_0 ?_
    refine r_putI d_Tp_advance_81 ok_10 (nle rfl) (nle rfl) rfl lf_Tp_28 rfl (kt eKI q3) ?_
    refine r_goto d_Tp_advance_84 ?_
    exact r_return d_Tp_advance_174.1 rfl (hQ _ hw)
set_option maxRecDepth 100000 in
set_option maxHeartbeats 4000000 in
theorem s_Tp_advance_L8 {d : Nat} (hd : 2 ≤ d + 1) {Q : Hp → Prop} {QQ : Option AV → Hp → Prop} (hQ : ∀ h9, Q h9 → QQ none h9) {v0 : Nat} : ∀ (n : Nat) (h : Hp), w_Tp_advance_L8 Q  v0 n h → aW none m_Tp_advance (d + 1) 8 [(0, ar v0)] [] h 0 0 QQ := by
  intro n
  induction n with
  | zero => intro h hw; exact hw.elim
  | succ n ih =>
    intro h hw
    unfold w_Tp_advance_L8 at hw
    refine r_aload_n (j := 0) d_Tp_advance_8 rfl ?_
    obtain ⟨q2, hw⟩ := hw
    refine r_getI d_Tp_advance_9 ok_10 (nle rfl) (nle rfl) rfl lf_Tp_25 q2 ?_
    refine r_aload_n (j := 0) d_Tp_advance_12 rfl ?_
    refine r_getI d_Tp_advance_13 ok_10 (nle rfl) (nle rfl) rfl lf_Tp_15 q2 ?_
    refine r_icmp_ge d_Tp_advance_16 (fun w9 => ?_) (fun w9 => ?_)
    · replace hw := hw.1 w9
      exact s_Tp_advance_B60 hd hQ  hw
    · replace hw := hw.2 w9
      refine r_aload_n (j := 0) d_Tp_advance_19 rfl ?_
      refine r_getR d_Tp_advance_20 ok_10 (nle rfl) (nle rfl) rfl lf_Tp_9 q2 ?_
      refine r_aload_n (j := 0) d_Tp_advance_23 rfl ?_
      refine r_getI d_Tp_advance_24 ok_10 (nle rfl) (nle rfl) rfl lf_Tp_25 q2 ?_
      obtain ⟨q16, hw⟩ := hw
      obtain ⟨q17, hw⟩ := hw
      refine r_iald d_Tp_advance_27 q16 q17 ?_
      refine r_bipush d_Tp_advance_28 kb_32 ?_
      refine r_icmp_eq d_Tp_advance_30 (fun w9 => ?_) (fun w9 => ?_)
      · replace hw := hw.1 w9
        refine r_aload_n (j := 0) d_Tp_advance_47 rfl ?_
        refine r_dup d_Tp_advance_48 rfl ?_
        refine r_getI d_Tp_advance_49 ok_10 (nle rfl) (nle rfl) rfl lf_Tp_25 q2 ?_
        refine r_iconst d_Tp_advance_52 kc_1 ?_
        refine r_iadd d_Tp_advance_53 ?_
        refine r_putI d_Tp_advance_54 ok_10 (nle rfl) (nle rfl) rfl lf_Tp_25 rfl q2 ?_
        refine r_goto d_Tp_advance_57 ?_
        exact ih _ hw
      · replace hw := hw.2 w9
        refine r_aload_n (j := 0) d_Tp_advance_33 rfl ?_
        refine r_getR d_Tp_advance_34 ok_10 (nle rfl) (nle rfl) rfl lf_Tp_9 q2 ?_
        refine r_aload_n (j := 0) d_Tp_advance_37 rfl ?_
        refine r_getI d_Tp_advance_38 ok_10 (nle rfl) (nle rfl) rfl lf_Tp_25 q2 ?_
        refine r_iald d_Tp_advance_41 q16 q17 ?_
        refine r_bipush d_Tp_advance_42 kb_10 ?_
        refine r_icmp_ne d_Tp_advance_44 (fun w9 => ?_) (fun w9 => ?_)
        · replace hw := hw.2 w9
          exact s_Tp_advance_B60 hd hQ  hw
        · replace hw := hw.1 w9
          refine r_aload_n (j := 0) d_Tp_advance_47 rfl ?_
          refine r_dup d_Tp_advance_48 rfl ?_
          refine r_getI d_Tp_advance_49 ok_10 (nle rfl) (nle rfl) rfl lf_Tp_25 q2 ?_
          refine r_iconst d_Tp_advance_52 kc_1 ?_
          refine r_iadd d_Tp_advance_53 ?_
          refine r_putI d_Tp_advance_54 ok_10 (nle rfl) (nle rfl) rfl lf_Tp_25 rfl q2 ?_
          refine r_goto d_Tp_advance_57 ?_
          exact ih _ hw
set_option maxRecDepth 100000 in
set_option maxHeartbeats 4000000 in
theorem s_Tp_advance {d : Nat} (hd : 2 ≤ d) {v0 : Nat} {h : Hp} {Q : Hp → Prop} {QQ : Option AV → Hp → Prop} (hw : w_Tp_advance v0 h Q) (hQ : ∀ h9, Q h9 → QQ none h9) : aCall m_Tp_advance d [ar v0] h 0 0 QQ := by
  obtain ⟨d, rfl⟩ : ∃ d9, d = d9 + 1 := ⟨d - 1, by omega⟩
  refine aCall_in pl_Tp_advance (nle rfl) ?_
  show aW none m_Tp_advance (d + 1) 0 [(0, ar v0)] [] h 0 0 QQ
  unfold w_Tp_advance at hw
  refine r_aload_n (j := 0) d_Tp_advance_0 rfl ?_
  refine r_aload_n (j := 0) d_Tp_advance_1 rfl ?_
  obtain ⟨q1, hw⟩ := hw
  refine r_getI d_Tp_advance_2 ok_10 (nle rfl) (nle rfl) rfl lf_Tp_19 q1 ?_
  refine r_putI d_Tp_advance_5 ok_10 (nle rfl) (nle rfl) rfl lf_Tp_25 rfl q1 ?_
  obtain ⟨n18, hw⟩ := hw
  exact s_Tp_advance_L8 hd hQ  n18 _ hw
set_option maxRecDepth 100000 in
set_option maxHeartbeats 4000000 in
theorem s_Rd_endLine {d : Nat} (hd : 3 ≤ d) {v0 : Nat} {h : Hp} {Q : Bool → Hp → Prop} {QQ : Option AV → Hp → Prop} (hw : w_Rd_endLine v0 h Q) (hQ : ∀ r9 h9, Q r9 h9 → QQ (some (ai (b2i r9))) h9) : aCall m_Rd_endLine d [ar v0] h 0 0 QQ := by
  obtain ⟨d, rfl⟩ : ∃ d9, d = d9 + 1 := ⟨d - 1, by omega⟩
  refine aCall_in pl_Rd_endLine (nle rfl) ?_
  show aW none m_Rd_endLine (d + 1) 0 [(0, ar v0)] [] h 0 0 QQ
  unfold w_Rd_endLine at hw
  refine r_aload_n (j := 0) d_Rd_endLine_0 rfl ?_
  obtain ⟨q1, hw⟩ := hw
  refine r_getR d_Rd_endLine_1 ok_8 (nle rfl) (nle rfl) rfl lf_Rd_29 q1 ?_
  obtain ⟨q2, hw⟩ := hw
  refine r_getI d_Rd_endLine_4 ok_10 (nle rfl) (nle rfl) rfl lf_Rd_51 q2 ?_
  refine r_iconst d_Rd_endLine_7 kc_5 ?_
  refine r_icmp_eq d_Rd_endLine_8 (fun w9 => ?_) (fun w9 => ?_)
  · replace hw := hw.1 w9
    refine r_aload_n (j := 0) d_Rd_endLine_17 rfl ?_
    refine r_getR d_Rd_endLine_18 ok_8 (nle rfl) (nle rfl) rfl lf_Rd_29 q1 ?_
    refine r_callV (av := []) (rest := []) (ci := 10) d_Rd_endLine_21 mk_Tp_advance ll_Rd_92 im_Tp_advance se_Tp_advance rfl (nle rfl) rfl rfl (nle rfl) q2 (s_Tp_advance (by omega) hw (fun h3 hw => ?_))
    show aW none m_Rd_endLine (d + 1) 24 [(0, ar v0)] [] h3 0 0 QQ
    refine r_iconst d_Rd_endLine_24 kc_1 ?_
    exact r_zreturn d_Rd_endLine_25.1 rfl (Or.inr rfl) (hQ _ _ hw)
  · replace hw := hw.2 w9
    refine r_aload_n (j := 0) d_Rd_endLine_11 rfl ?_
    refine r_iconst d_Rd_endLine_12 kc_2 ?_
    refine r_callV (av := [ai (2 : Int32)]) (rest := []) (ci := 8) d_Rd_endLine_13 mk_Rd_fail ll_Rd_71 im_Rd_fail se_Rd_fail rfl (nle rfl) rfl rfl (nle rfl) q1 (s_Rd_fail  hw (fun r5 h4 hw => ?_))
    show aW none m_Rd_endLine (d + 1) 16 [(0, ar v0)] [ai (b2i r5)] h4 0 0 QQ
    exact r_zreturn d_Rd_endLine_16.1 rfl (b2i_B _) (hQ _ _ hw)
set_option maxRecDepth 100000 in
set_option maxHeartbeats 4000000 in
theorem s_JS_isLatin1 {d : Nat} {v0 : Nat} {h : Hp} {Q : Bool → Hp → Prop} {QQ : Option AV → Hp → Prop} (hw : w_JS_isLatin1 v0 h Q) (hQ : ∀ r9 h9, Q r9 h9 → QQ (some (ai (b2i r9))) h9) : aCall m_JS_isLatin1 d [ar (2 + v0)] h 0 0 QQ := by
  refine aCall_in pl_JS_isLatin1 (nle rfl) ?_
  show aW none m_JS_isLatin1 d 0 [(0, ar (2 + v0))] [] h 0 0 QQ
  unfold w_JS_isLatin1 at hw
  refine r_getsC d_JS_isLatin1_0 lf_JS_38 ?_
  refine r_if_eq d_JS_isLatin1_3 (fun w9 => ?_) (fun w9 => ?_)
  · replace hw := hw.1 w9
    refine r_iconst d_JS_isLatin1_17 kc_0 ?_
    exact r_zreturn d_JS_isLatin1_18.1 rfl (Or.inl rfl) (hQ _ _ hw)
  · replace hw := hw.2 w9
    refine r_aload_n (j := 0) d_JS_isLatin1_6 rfl ?_
    obtain ⟨q1, hw⟩ := hw
    refine r_getSc q1 d_JS_isLatin1_7 lf_JS_15 ?_
    refine r_if_ne d_JS_isLatin1_10 (fun w9 => ?_) (fun w9 => ?_)
    · replace hw := hw.2 w9
      refine r_iconst d_JS_isLatin1_17 kc_0 ?_
      exact r_zreturn d_JS_isLatin1_18.1 rfl (Or.inl rfl) (hQ _ _ hw)
    · replace hw := hw.1 w9
      refine r_iconst d_JS_isLatin1_13 kc_1 ?_
      refine r_goto d_JS_isLatin1_14 ?_
      exact r_zreturn d_JS_isLatin1_18.1 rfl (Or.inr rfl) (hQ _ _ hw)
set_option maxRecDepth 100000 in
set_option maxHeartbeats 4000000 in
theorem s_JP_checkIndex {d : Nat} {v0 : Int32} {v1 : Int32} {v2 : Nat} {h : Hp} {Q : Int32 → Hp → Prop} {QQ : Option AV → Hp → Prop} (hw : w_JP_checkIndex v0 v1 v2 h Q) (hQ : ∀ r9 h9, Q r9 h9 → QQ (some (ai r9)) h9) : aCall m_JP_checkIndex d [ai v0, ai v1, ar v2] h 0 0 QQ := by
  refine aCall_in pl_JP_checkIndex (nle rfl) ?_
  show aW none m_JP_checkIndex d 0 [(0, ai v0), (1, ai v1), (2, ar v2)] [] h 0 0 QQ
  unfold w_JP_checkIndex at hw
  refine r_iload_n (j := 0) d_JP_checkIndex_0 rfl ?_
  refine r_if_lt d_JP_checkIndex_1 (fun w9 => ?_) (fun w9 => ?_)
  · replace hw := hw.1 w9
    refine r_aload_n (j := 2) d_JP_checkIndex_9 rfl ?_
    refine r_iload_n (j := 0) d_JP_checkIndex_10 rfl ?_
    refine r_iload_n (j := 1) d_JP_checkIndex_11 rfl ?_
    exact hw.elim
  · replace hw := hw.2 w9
    refine r_iload_n (j := 0) d_JP_checkIndex_4 rfl ?_
    refine r_iload_n (j := 1) d_JP_checkIndex_5 rfl ?_
    refine r_icmp_lt d_JP_checkIndex_6 (fun w9 => ?_) (fun w9 => ?_)
    · replace hw := hw.1 w9
      refine r_iload_n (j := 0) d_JP_checkIndex_16 rfl ?_
      exact r_ireturn d_JP_checkIndex_17.1 rfl (hQ _ _ hw)
    · replace hw := hw.2 w9
      refine r_aload_n (j := 2) d_JP_checkIndex_9 rfl ?_
      refine r_iload_n (j := 0) d_JP_checkIndex_10 rfl ?_
      refine r_iload_n (j := 1) d_JP_checkIndex_11 rfl ?_
      exact hw.elim
set_option maxRecDepth 100000 in
set_option maxHeartbeats 4000000 in
theorem s_JS_checkIndex {d : Nat} (hd : 1 ≤ d) {v0 : Int32} {v1 : Int32} {h : Hp} {Q : Hp → Prop} {QQ : Option AV → Hp → Prop} (hw : w_JS_checkIndex v0 v1 h Q) (hQ : ∀ h9, Q h9 → QQ none h9) : aCall m_JS_checkIndex d [ai v0, ai v1] h 0 0 QQ := by
  obtain ⟨d, rfl⟩ : ∃ d9, d = d9 + 1 := ⟨d - 1, by omega⟩
  refine aCall_in pl_JS_checkIndex (nle rfl) ?_
  show aW none m_JS_checkIndex (d + 1) 0 [(0, ai v0), (1, ai v1)] [] h 0 0 QQ
  unfold w_JS_checkIndex at hw
  refine r_iload_n (j := 0) d_JS_checkIndex_0 rfl ?_
  refine r_iload_n (j := 1) d_JS_checkIndex_1 rfl ?_
  refine r_getsF d_JS_checkIndex_2 lf_JS_1053 (fun z1 => ?_)
  replace hw := hw z1
  refine r_callS (av := [ai v0, ai v1, ar z1]) (rest := []) d_JS_checkIndex_5 mk_JP_checkIndex ll_JS_1059 st_JP_checkIndex rfl rfl (nle rfl) (s_JP_checkIndex  hw (fun r3 h2 hw => ?_))
  show aW none m_JS_checkIndex (d + 1) 8 [(0, ai v0), (1, ai v1)] [ai r3] h2 0 0 QQ
  refine r_pop d_JS_checkIndex_8 rfl ?_
  exact r_return d_JS_checkIndex_9.1 rfl (hQ _ hw)
set_option maxRecDepth 100000 in
set_option maxHeartbeats 4000000 in
theorem s_JL_charAt {d : Nat} (hd : 2 ≤ d) {v0 : Nat} {v1 : Int32} {h : Hp} {Q : Int32 → Hp → Prop} {QQ : Option AV → Hp → Prop} (hw : w_JL_charAt v0 v1 h Q) (hQ : ∀ r9 h9, Q r9 h9 → QQ (some (ai r9)) h9) : aCall m_JL_charAt d [ar (7 + v0), ai v1] h 0 0 QQ := by
  obtain ⟨d, rfl⟩ : ∃ d9, d = d9 + 1 := ⟨d - 1, by omega⟩
  refine aCall_in pl_JL_charAt (nle rfl) ?_
  show aW none m_JL_charAt (d + 1) 0 [(0, ar (7 + v0)), (1, ai v1)] [] h 0 0 QQ
  unfold w_JL_charAt at hw
  refine r_iload_n (j := 1) d_JL_charAt_0 rfl ?_
  refine r_aload_n (j := 0) d_JL_charAt_1 rfl ?_
  obtain ⟨q1, hw⟩ := hw
  refine r_alenS q1 d_JL_charAt_2 ?_
  refine r_callS (av := [ai v1, ai (Int32.ofNat (lenS.getD v0 0))]) (rest := []) d_JL_charAt_3 mk_JS_checkIndex ll_JL_9 st_JS_checkIndex rfl rfl (nle rfl) (s_JS_checkIndex (by omega) hw (fun h2 hw => ?_))
  show aW none m_JL_charAt (d + 1) 6 [(0, ar (7 + v0)), (1, ai v1)] [] h2 0 0 QQ
  refine r_aload_n (j := 0) d_JL_charAt_6 rfl ?_
  refine r_iload_n (j := 1) d_JL_charAt_7 rfl ?_
  obtain ⟨q3, hw⟩ := hw
  obtain ⟨q4, hw⟩ := hw
  refine r_baldS q3 d_JL_charAt_8 q4 ?_
  refine r_sipush d_JL_charAt_9 ks_255 ?_
  refine r_iand d_JL_charAt_12 ?_
  refine r_i2c d_JL_charAt_13 ?_
  obtain ⟨q5, hw⟩ := hw
  exact r_xreturn d_JL_charAt_14.1 rfl q5 (hQ _ _ hw)
set_option maxRecDepth 100000 in
set_option maxHeartbeats 4000000 in
theorem s_JS_charAt {d : Nat} (hd : 3 ≤ d) {v0 : Nat} {v1 : Int32} {h : Hp} {Q : Int32 → Hp → Prop} {QQ : Option AV → Hp → Prop} (hw : w_JS_charAt v0 v1 h Q) (hQ : ∀ r9 h9, Q r9 h9 → QQ (some (ai r9)) h9) : aCall m_JS_charAt d [ar (2 + v0), ai v1] h 0 0 QQ := by
  obtain ⟨d, rfl⟩ : ∃ d9, d = d9 + 1 := ⟨d - 1, by omega⟩
  refine aCall_in pl_JS_charAt (nle rfl) ?_
  show aW none m_JS_charAt (d + 1) 0 [(0, ar (2 + v0)), (1, ai v1)] [] h 0 0 QQ
  unfold w_JS_charAt at hw
  refine r_aload_n (j := 0) d_JS_charAt_0 rfl ?_
  obtain ⟨q3, hw⟩ := hw
  refine r_callT (av := []) (rest := []) q3 d_JS_charAt_1 mk_JS_isLatin1 ll_JS_492 im_JS_isLatin1 se_JS_isLatin1 rfl rfl (nle rfl) (s_JS_isLatin1  hw (fun r2 h1 hw => ?_))
  show aW none m_JS_charAt (d + 1) 4 [(0, ar (2 + v0)), (1, ai v1)] [ai (b2i r2)] h1 0 0 QQ
  refine r_if_eq d_JS_charAt_4 (fun w9 => ?_) (fun w9 => ?_)
  · replace hw := hw.1 (b2i_0.mp w9)
    refine r_aload_n (j := 0) d_JS_charAt_16 rfl ?_
    obtain ⟨q4, hw⟩ := hw
    refine r_getSv q4 d_JS_charAt_17 lf_JS_9 ?_
    refine r_iload_n (j := 1) d_JS_charAt_20 rfl ?_
    exact hw.elim
  · replace hw := hw.2 (fun g9 => w9 (b2i_0.mpr g9))
    refine r_aload_n (j := 0) d_JS_charAt_7 rfl ?_
    obtain ⟨q5, hw⟩ := hw
    refine r_getSv q5 d_JS_charAt_8 lf_JS_9 ?_
    refine r_iload_n (j := 1) d_JS_charAt_11 rfl ?_
    refine r_callS (av := [ar (7 + v0), ai v1]) (rest := []) d_JS_charAt_12 mk_JL_charAt ll_JS_495 st_JL_charAt rfl rfl (nle rfl) (s_JL_charAt (by omega) hw (fun r7 h6 hw => ?_))
    show aW none m_JS_charAt (d + 1) 15 [(0, ar (2 + v0)), (1, ai v1)] [ai r7] h6 0 0 QQ
    obtain ⟨q8, hw⟩ := hw
    exact r_xreturn d_JS_charAt_15.1 rfl q8 (hQ _ _ hw)
set_option maxRecDepth 100000 in
set_option maxHeartbeats 4000000 in
theorem s_JS_coder {d : Nat} {v0 : Nat} {h : Hp} {Q : Int32 → Hp → Prop} {QQ : Option AV → Hp → Prop} (hw : w_JS_coder v0 h Q) (hQ : ∀ r9 h9, Q r9 h9 → QQ (some (ai r9)) h9) : aCall m_JS_coder d [ar (2 + v0)] h 0 0 QQ := by
  refine aCall_in pl_JS_coder (nle rfl) ?_
  show aW none m_JS_coder d 0 [(0, ar (2 + v0))] [] h 0 0 QQ
  unfold w_JS_coder at hw
  refine r_getsC d_JS_coder_0 lf_JS_38 ?_
  refine r_if_eq d_JS_coder_3 (fun w9 => ?_) (fun w9 => ?_)
  · replace hw := hw.1 w9
    refine r_iconst d_JS_coder_13 kc_1 ?_
    obtain ⟨q1, hw⟩ := hw
    exact r_xreturn d_JS_coder_14.1 rfl q1 (hQ _ _ hw)
  · replace hw := hw.2 w9
    refine r_aload_n (j := 0) d_JS_coder_6 rfl ?_
    obtain ⟨q2, hw⟩ := hw
    refine r_getSc q2 d_JS_coder_7 lf_JS_15 ?_
    refine r_goto d_JS_coder_10 ?_
    obtain ⟨q3, hw⟩ := hw
    exact r_xreturn d_JS_coder_14.1 rfl q3 (hQ _ _ hw)
set_option maxRecDepth 100000 in
set_option maxHeartbeats 4000000 in
theorem s_JS_length {d : Nat} (hd : 1 ≤ d) {v0 : Nat} {h : Hp} {Q : Int32 → Hp → Prop} {QQ : Option AV → Hp → Prop} (hw : w_JS_length v0 h Q) (hQ : ∀ r9 h9, Q r9 h9 → QQ (some (ai r9)) h9) : aCall m_JS_length d [ar (2 + v0)] h 0 0 QQ := by
  obtain ⟨d, rfl⟩ : ∃ d9, d = d9 + 1 := ⟨d - 1, by omega⟩
  refine aCall_in pl_JS_length (nle rfl) ?_
  show aW none m_JS_length (d + 1) 0 [(0, ar (2 + v0))] [] h 0 0 QQ
  unfold w_JS_length at hw
  refine r_aload_n (j := 0) d_JS_length_0 rfl ?_
  obtain ⟨q1, hw⟩ := hw
  refine r_getSv q1 d_JS_length_1 lf_JS_9 ?_
  refine r_alenS q1 d_JS_length_4 ?_
  refine r_aload_n (j := 0) d_JS_length_5 rfl ?_
  refine r_callT (av := []) (rest := [ai (Int32.ofNat (lenS.getD v0 0))]) q1 d_JS_length_6 mk_JS_coder ll_JS_335 im_JS_coder se_JS_coder rfl rfl (nle rfl) (s_JS_coder  hw (fun r3 h2 hw => ?_))
  show aW none m_JS_length (d + 1) 9 [(0, ar (2 + v0))] [ai r3, ai (Int32.ofNat (lenS.getD v0 0))] h2 0 0 QQ
  refine r_ishr d_JS_length_9 ?_
  exact r_ireturn d_JS_length_10.1 rfl (hQ _ _ hw)
set_option maxRecDepth 100000 in
set_option maxHeartbeats 4000000 in
theorem s_Tp_isWord_L28 {d : Nat} (hd : 4 ≤ d + 1) {Q : Bool → Hp → Prop} {QQ : Option AV → Hp → Prop} (hQ : ∀ r9 h9, Q r9 h9 → QQ (some (ai (b2i r9))) h9) {v0 : Nat} {v1 : Nat} : ∀ (n : Nat) (v2 : Int32) (h : Hp), w_Tp_isWord_L28 Q  v0 v1 n v2 h → aW none m_Tp_isWord (d + 1) 28 [(0, ar v0), (1, ar (2 + v1)), (2, ai v2)] [] h 0 0 QQ := by
  intro n
  induction n with
  | zero => intro v2 h hw; exact hw.elim
  | succ n ih =>
    intro v2 h hw
    unfold w_Tp_isWord_L28 at hw
    refine r_iload_n (j := 2) d_Tp_isWord_28 rfl ?_
    refine r_aload_n (j := 1) d_Tp_isWord_29 rfl ?_
    obtain ⟨q7, hw⟩ := hw
    refine r_callT (av := []) (rest := [ai v2]) q7 d_Tp_isWord_30 mk_JS_length ll_Tp_44 im_JS_length se_JS_length rfl rfl (nle rfl) (s_JS_length (by omega) hw (fun r6 h5 hw => ?_))
    show aW none m_Tp_isWord (d + 1) 33 [(0, ar v0), (1, ar (2 + v1)), (2, ai v2)] [ai r6, ai v2] h5 0 0 QQ
    refine r_icmp_ge d_Tp_isWord_33 (fun w9 => ?_) (fun w9 => ?_)
    · replace hw := hw.1 w9
      refine r_iconst d_Tp_isWord_76 kc_1 ?_
      exact r_zreturn d_Tp_isWord_77.1 rfl (Or.inr rfl) (hQ _ _ hw)
    · replace hw := hw.2 w9
      refine r_aload_n (j := 0) d_Tp_isWord_36 rfl ?_
      obtain ⟨q8, hw⟩ := hw
      refine r_getI d_Tp_isWord_37 ok_10 (nle rfl) (nle rfl) rfl lf_Tp_25 q8 ?_
      refine r_iload_n (j := 2) d_Tp_isWord_40 rfl ?_
      refine r_iadd d_Tp_isWord_41 ?_
      refine r_aload_n (j := 0) d_Tp_isWord_42 rfl ?_
      refine r_getI d_Tp_isWord_43 ok_10 (nle rfl) (nle rfl) rfl lf_Tp_15 q8 ?_
      refine r_icmp_ge d_Tp_isWord_46 (fun w9 => ?_) (fun w9 => ?_)
      · replace hw := hw.1 w9
        refine r_iconst d_Tp_isWord_76 kc_1 ?_
        exact r_zreturn d_Tp_isWord_77.1 rfl (Or.inr rfl) (hQ _ _ hw)
      · replace hw := hw.2 w9
        refine r_aload_n (j := 0) d_Tp_isWord_49 rfl ?_
        refine r_getR d_Tp_isWord_50 ok_10 (nle rfl) (nle rfl) rfl lf_Tp_9 q8 ?_
        refine r_aload_n (j := 0) d_Tp_isWord_53 rfl ?_
        refine r_getI d_Tp_isWord_54 ok_10 (nle rfl) (nle rfl) rfl lf_Tp_25 q8 ?_
        refine r_iload_n (j := 2) d_Tp_isWord_57 rfl ?_
        refine r_iadd d_Tp_isWord_58 ?_
        obtain ⟨q9, hw⟩ := hw
        obtain ⟨q10, hw⟩ := hw
        refine r_iald d_Tp_isWord_59 q9 q10 ?_
        refine r_aload_n (j := 1) d_Tp_isWord_60 rfl ?_
        refine r_iload_n (j := 2) d_Tp_isWord_61 rfl ?_
        obtain ⟨q13, hw⟩ := hw
        refine r_callT (av := [ai v2]) (rest := [ai (gI h5 (gR h5 v0 0) (ix ((gI h5 v0 3) + v2)))]) q13 d_Tp_isWord_62 mk_JS_charAt ll_Tp_49 im_JS_charAt se_JS_charAt rfl rfl (nle rfl) (s_JS_charAt (by omega) hw (fun r12 h11 hw => ?_))
        show aW none m_Tp_isWord (d + 1) 65 [(0, ar v0), (1, ar (2 + v1)), (2, ai v2)] [ai r12, ai (gI h5 (gR h5 v0 0) (ix ((gI h5 v0 3) + v2)))] h11 0 0 QQ
        refine r_icmp_eq d_Tp_isWord_65 (fun w9 => ?_) (fun w9 => ?_)
        · replace hw := hw.1 w9
          refine r_iinc (j := 2) (ls2 := [(2, ai (v2 + (1 : Int32))), (0, ar v0), (1, ar (2 + v1))]) d_Tp_isWord_70 rfl (congrArg (HAdd.hAdd v2) kc_1) (nle rfl) rfl ?_
          refine r_goto d_Tp_isWord_73 ?_
          refine r_pick (ls2 := [(0, ar v0), (1, ar (2 + v1)), (2, ai (v2 + (1 : Int32)))]) [1, 2, 0] rfl ?_
          exact ih _ _ hw
        · replace hw := hw.2 w9
          refine r_iconst d_Tp_isWord_68 kc_0 ?_
          exact r_zreturn d_Tp_isWord_69.1 rfl (Or.inl rfl) (hQ _ _ hw)
set_option maxRecDepth 100000 in
set_option maxHeartbeats 4000000 in
theorem s_Tp_isWord {d : Nat} (hd : 4 ≤ d) {v0 : Nat} {v1 : Nat} {h : Hp} {Q : Bool → Hp → Prop} {QQ : Option AV → Hp → Prop} (hw : w_Tp_isWord v0 v1 h Q) (hQ : ∀ r9 h9, Q r9 h9 → QQ (some (ai (b2i r9))) h9) : aCall m_Tp_isWord d [ar v0, ar (2 + v1)] h 0 0 QQ := by
  obtain ⟨d, rfl⟩ : ∃ d9, d = d9 + 1 := ⟨d - 1, by omega⟩
  refine aCall_in pl_Tp_isWord (nle rfl) ?_
  show aW none m_Tp_isWord (d + 1) 0 [(0, ar v0), (1, ar (2 + v1))] [] h 0 0 QQ
  unfold w_Tp_isWord at hw
  refine r_aload_n (j := 0) d_Tp_isWord_0 rfl ?_
  obtain ⟨q1, hw⟩ := hw
  refine r_getI d_Tp_isWord_1 ok_10 (nle rfl) (nle rfl) rfl lf_Tp_28 q1 ?_
  refine r_iconst d_Tp_isWord_4 kc_2 ?_
  refine r_icmp_ne d_Tp_isWord_5 (fun w9 => ?_) (fun w9 => ?_)
  · replace hw := hw.2 w9
    refine r_iconst d_Tp_isWord_24 kc_0 ?_
    exact r_zreturn d_Tp_isWord_25.1 rfl (Or.inl rfl) (hQ _ _ hw)
  · replace hw := hw.1 w9
    refine r_aload_n (j := 0) d_Tp_isWord_8 rfl ?_
    refine r_getI d_Tp_isWord_9 ok_10 (nle rfl) (nle rfl) rfl lf_Tp_19 q1 ?_
    refine r_aload_n (j := 0) d_Tp_isWord_12 rfl ?_
    refine r_getI d_Tp_isWord_13 ok_10 (nle rfl) (nle rfl) rfl lf_Tp_25 q1 ?_
    refine r_isub d_Tp_isWord_16 ?_
    refine r_aload_n (j := 1) d_Tp_isWord_17 rfl ?_
    obtain ⟨q4, hw⟩ := hw
    refine r_callT (av := []) (rest := [ai ((gI h v0 4) - (gI h v0 3))]) q4 d_Tp_isWord_18 mk_JS_length ll_Tp_44 im_JS_length se_JS_length rfl rfl (nle rfl) (s_JS_length (by omega) hw (fun r3 h2 hw => ?_))
    show aW none m_Tp_isWord (d + 1) 21 [(0, ar v0), (1, ar (2 + v1))] [ai r3, ai ((gI h v0 4) - (gI h v0 3))] h2 0 0 QQ
    refine r_icmp_eq d_Tp_isWord_21 (fun w9 => ?_) (fun w9 => ?_)
    · replace hw := hw.1 w9
      refine r_iconst d_Tp_isWord_26 kc_0 ?_
      refine r_istore_n (ls2 := [(2, ai (0 : Int32)), (0, ar v0), (1, ar (2 + v1))]) d_Tp_isWord_27 (nle rfl) rfl ?_
      obtain ⟨n14, hw⟩ := hw
      refine r_pick (ls2 := [(0, ar v0), (1, ar (2 + v1)), (2, ai (0 : Int32))]) [1, 2, 0] rfl ?_
      exact s_Tp_isWord_L28 hd hQ  n14 _ _ hw
    · replace hw := hw.2 w9
      refine r_iconst d_Tp_isWord_24 kc_0 ?_
      exact r_zreturn d_Tp_isWord_25.1 rfl (Or.inl rfl) (hQ _ _ hw)
set_option maxRecDepth 100000 in
set_option maxHeartbeats 4000000 in
theorem s_Rd_isReserved {d : Nat} (hd : 5 ≤ d) {v0 : Nat} {h : Hp} {Q : Bool → Hp → Prop} {QQ : Option AV → Hp → Prop} (hw : w_Rd_isReserved v0 h Q) (hQ : ∀ r9 h9, Q r9 h9 → QQ (some (ai (b2i r9))) h9) : aCall m_Rd_isReserved d [ar v0] h 0 0 QQ := by
  obtain ⟨d, rfl⟩ : ∃ d9, d = d9 + 1 := ⟨d - 1, by omega⟩
  refine aCall_in pl_Rd_isReserved (nle rfl) ?_
  show aW none m_Rd_isReserved (d + 1) 0 [(0, ar v0)] [] h 0 0 QQ
  unfold w_Rd_isReserved at hw
  refine r_aload_n (j := 0) d_Rd_isReserved_0 rfl ?_
  obtain ⟨q1, hw⟩ := hw
  refine r_getR d_Rd_isReserved_1 ok_8 (nle rfl) (nle rfl) rfl lf_Rd_29 q1 ?_
  refine r_ldcS (i := 0) (nle rfl) d_Rd_isReserved_4 rfl ?_
  obtain ⟨q4, hw⟩ := hw
  refine r_callV (av := [ar (2 + 0)]) (rest := []) (ci := 10) d_Rd_isReserved_6 mk_Tp_isWord ll_Rd_63 im_Tp_isWord se_Tp_isWord rfl (nle rfl) rfl rfl (nle rfl) q4 (s_Tp_isWord (by omega) hw (fun r3 h2 hw => ?_))
  show aW none m_Rd_isReserved (d + 1) 9 [(0, ar v0)] [ai (b2i r3)] h2 0 0 QQ
  refine r_if_ne d_Rd_isReserved_9 (fun w9 => ?_) (fun w9 => ?_)
  · replace hw := hw.2 (fun g9 => w9 (b2i_0.mpr g9))
    refine r_iconst d_Rd_isReserved_60 kc_1 ?_
    refine r_goto d_Rd_isReserved_61 ?_
    exact r_zreturn d_Rd_isReserved_65.1 rfl (Or.inr rfl) (hQ _ _ hw)
  · replace hw := hw.1 (b2i_0.mp w9)
    refine r_aload_n (j := 0) d_Rd_isReserved_12 rfl ?_
    obtain ⟨q5, hw⟩ := hw
    refine r_getR d_Rd_isReserved_13 ok_8 (nle rfl) (nle rfl) rfl lf_Rd_29 q5 ?_
    refine r_ldcS (i := 1) (nle rfl) d_Rd_isReserved_16 rfl ?_
    obtain ⟨q8, hw⟩ := hw
    refine r_callV (av := [ar (2 + 1)]) (rest := []) (ci := 10) d_Rd_isReserved_18 mk_Tp_isWord ll_Rd_63 im_Tp_isWord se_Tp_isWord rfl (nle rfl) rfl rfl (nle rfl) q8 (s_Tp_isWord (by omega) hw (fun r7 h6 hw => ?_))
    show aW none m_Rd_isReserved (d + 1) 21 [(0, ar v0)] [ai (b2i r7)] h6 0 0 QQ
    refine r_if_ne d_Rd_isReserved_21 (fun w9 => ?_) (fun w9 => ?_)
    · replace hw := hw.2 (fun g9 => w9 (b2i_0.mpr g9))
      refine r_iconst d_Rd_isReserved_60 kc_1 ?_
      refine r_goto d_Rd_isReserved_61 ?_
      exact r_zreturn d_Rd_isReserved_65.1 rfl (Or.inr rfl) (hQ _ _ hw)
    · replace hw := hw.1 (b2i_0.mp w9)
      refine r_aload_n (j := 0) d_Rd_isReserved_24 rfl ?_
      obtain ⟨q9, hw⟩ := hw
      refine r_getR d_Rd_isReserved_25 ok_8 (nle rfl) (nle rfl) rfl lf_Rd_29 q9 ?_
      refine r_ldcS (i := 2) (nle rfl) d_Rd_isReserved_28 rfl ?_
      obtain ⟨q12, hw⟩ := hw
      refine r_callV (av := [ar (2 + 2)]) (rest := []) (ci := 10) d_Rd_isReserved_30 mk_Tp_isWord ll_Rd_63 im_Tp_isWord se_Tp_isWord rfl (nle rfl) rfl rfl (nle rfl) q12 (s_Tp_isWord (by omega) hw (fun r11 h10 hw => ?_))
      show aW none m_Rd_isReserved (d + 1) 33 [(0, ar v0)] [ai (b2i r11)] h10 0 0 QQ
      refine r_if_ne d_Rd_isReserved_33 (fun w9 => ?_) (fun w9 => ?_)
      · replace hw := hw.2 (fun g9 => w9 (b2i_0.mpr g9))
        refine r_iconst d_Rd_isReserved_60 kc_1 ?_
        refine r_goto d_Rd_isReserved_61 ?_
        exact r_zreturn d_Rd_isReserved_65.1 rfl (Or.inr rfl) (hQ _ _ hw)
      · replace hw := hw.1 (b2i_0.mp w9)
        refine r_aload_n (j := 0) d_Rd_isReserved_36 rfl ?_
        obtain ⟨q13, hw⟩ := hw
        refine r_getR d_Rd_isReserved_37 ok_8 (nle rfl) (nle rfl) rfl lf_Rd_29 q13 ?_
        refine r_ldcS (i := 3) (nle rfl) d_Rd_isReserved_40 rfl ?_
        obtain ⟨q16, hw⟩ := hw
        refine r_callV (av := [ar (2 + 3)]) (rest := []) (ci := 10) d_Rd_isReserved_42 mk_Tp_isWord ll_Rd_63 im_Tp_isWord se_Tp_isWord rfl (nle rfl) rfl rfl (nle rfl) q16 (s_Tp_isWord (by omega) hw (fun r15 h14 hw => ?_))
        show aW none m_Rd_isReserved (d + 1) 45 [(0, ar v0)] [ai (b2i r15)] h14 0 0 QQ
        refine r_if_ne d_Rd_isReserved_45 (fun w9 => ?_) (fun w9 => ?_)
        · replace hw := hw.2 (fun g9 => w9 (b2i_0.mpr g9))
          refine r_iconst d_Rd_isReserved_60 kc_1 ?_
          refine r_goto d_Rd_isReserved_61 ?_
          exact r_zreturn d_Rd_isReserved_65.1 rfl (Or.inr rfl) (hQ _ _ hw)
        · replace hw := hw.1 (b2i_0.mp w9)
          refine r_aload_n (j := 0) d_Rd_isReserved_48 rfl ?_
          obtain ⟨q17, hw⟩ := hw
          refine r_getR d_Rd_isReserved_49 ok_8 (nle rfl) (nle rfl) rfl lf_Rd_29 q17 ?_
          refine r_ldcS (i := 4) (nle rfl) d_Rd_isReserved_52 rfl ?_
          obtain ⟨q20, hw⟩ := hw
          refine r_callV (av := [ar (2 + 4)]) (rest := []) (ci := 10) d_Rd_isReserved_54 mk_Tp_isWord ll_Rd_63 im_Tp_isWord se_Tp_isWord rfl (nle rfl) rfl rfl (nle rfl) q20 (s_Tp_isWord (by omega) hw (fun r19 h18 hw => ?_))
          show aW none m_Rd_isReserved (d + 1) 57 [(0, ar v0)] [ai (b2i r19)] h18 0 0 QQ
          refine r_if_eq d_Rd_isReserved_57 (fun w9 => ?_) (fun w9 => ?_)
          · replace hw := hw.1 (b2i_0.mp w9)
            refine r_iconst d_Rd_isReserved_64 kc_0 ?_
            exact r_zreturn d_Rd_isReserved_65.1 rfl (Or.inl rfl) (hQ _ _ hw)
          · replace hw := hw.2 (fun g9 => w9 (b2i_0.mpr g9))
            refine r_iconst d_Rd_isReserved_60 kc_1 ?_
            refine r_goto d_Rd_isReserved_61 ?_
            exact r_zreturn d_Rd_isReserved_65.1 rfl (Or.inr rfl) (hQ _ _ hw)
set_option maxRecDepth 100000 in
set_option maxHeartbeats 4000000 in
theorem s_Tp_isSameAs_L19 {d : Nat} {Q : Bool → Hp → Prop} {QQ : Option AV → Hp → Prop} (hQ : ∀ r9 h9, Q r9 h9 → QQ (some (ai (b2i r9))) h9) {v0 : Nat} {v1 : Int32} : ∀ (n : Nat) (v3 : Int32) (h : Hp), w_Tp_isSameAs_L19 Q  v0 v1 n v3 h → aW none m_Tp_isSameAs d 19 [(0, ar v0), (1, ai v1), (3, ai v3)] [] h 0 0 QQ := by
  intro n
  induction n with
  | zero => intro v3 h hw; exact hw.elim
  | succ n ih =>
    intro v3 h hw
    unfold w_Tp_isSameAs_L19 at hw
    refine r_aload_n (j := 0) d_Tp_isSameAs_19 rfl ?_
    obtain ⟨q2, hw⟩ := hw
    refine r_getI d_Tp_isSameAs_20 ok_10 (nle rfl) (nle rfl) rfl lf_Tp_25 q2 ?_
    refine r_iload_n (j := 2) d_Tp_isSameAs_23 rfl ?_
    refine r_iadd d_Tp_isSameAs_24 ?_
    refine r_aload_n (j := 0) d_Tp_isSameAs_25 rfl ?_
    refine r_getI d_Tp_isSameAs_26 ok_10 (nle rfl) (nle rfl) rfl lf_Tp_19 q2 ?_
    refine r_icmp_ge d_Tp_isSameAs_29 (fun w9 => ?_) (fun w9 => ?_)
    · replace hw := hw.1 w9
      refine r_iconst d_Tp_isSameAs_62 kc_1 ?_
      exact r_zreturn d_Tp_isSameAs_63.1 rfl (Or.inr rfl) (hQ _ _ hw)
    · replace hw := hw.2 w9
      refine r_aload_n (j := 0) d_Tp_isSameAs_32 rfl ?_
      refine r_getR d_Tp_isSameAs_33 ok_10 (nle rfl) (nle rfl) rfl lf_Tp_9 q2 ?_
      refine r_aload_n (j := 0) d_Tp_isSameAs_36 rfl ?_
      refine r_getI d_Tp_isSameAs_37 ok_10 (nle rfl) (nle rfl) rfl lf_Tp_25 q2 ?_
      refine r_iload_n (j := 2) d_Tp_isSameAs_40 rfl ?_
      refine r_iadd d_Tp_isSameAs_41 ?_
      obtain ⟨q3, hw⟩ := hw
      obtain ⟨q4, hw⟩ := hw
      refine r_iald d_Tp_isSameAs_42 q3 q4 ?_
      refine r_aload_n (j := 0) d_Tp_isSameAs_43 rfl ?_
      refine r_getR d_Tp_isSameAs_44 ok_10 (nle rfl) (nle rfl) rfl lf_Tp_9 q2 ?_
      refine r_iload_n (j := 1) d_Tp_isSameAs_47 rfl ?_
      refine r_iload_n (j := 2) d_Tp_isSameAs_48 rfl ?_
      refine r_iadd d_Tp_isSameAs_49 ?_
      obtain ⟨q5, hw⟩ := hw
      refine r_iald d_Tp_isSameAs_50 q3 q5 ?_
      refine r_icmp_eq d_Tp_isSameAs_51 (fun w9 => ?_) (fun w9 => ?_)
      · replace hw := hw.1 w9
        refine r_iinc (j := 2) (ls2 := [(3, ai (v3 + (1 : Int32))), (0, ar v0), (1, ai v1)]) d_Tp_isSameAs_56 rfl (congrArg (HAdd.hAdd v3) kc_1) (nle rfl) rfl ?_
        refine r_goto d_Tp_isSameAs_59 ?_
        refine r_pick (ls2 := [(0, ar v0), (1, ai v1), (3, ai (v3 + (1 : Int32)))]) [1, 2, 0] rfl ?_
        exact ih _ _ hw
      · replace hw := hw.2 w9
        refine r_iconst d_Tp_isSameAs_54 kc_0 ?_
        exact r_zreturn d_Tp_isSameAs_55.1 rfl (Or.inl rfl) (hQ _ _ hw)
set_option maxRecDepth 100000 in
set_option maxHeartbeats 4000000 in
theorem s_Tp_isSameAs {d : Nat} {v0 : Nat} {v1 : Int32} {v2 : Int32} {h : Hp} {Q : Bool → Hp → Prop} {QQ : Option AV → Hp → Prop} (hw : w_Tp_isSameAs v0 v1 v2 h Q) (hQ : ∀ r9 h9, Q r9 h9 → QQ (some (ai (b2i r9))) h9) : aCall m_Tp_isSameAs d [ar v0, ai v1, ai v2] h 0 0 QQ := by
  refine aCall_in pl_Tp_isSameAs (nle rfl) ?_
  show aW none m_Tp_isSameAs d 0 [(0, ar v0), (1, ai v1), (2, ai v2)] [] h 0 0 QQ
  unfold w_Tp_isSameAs at hw
  refine r_iload_n (j := 2) d_Tp_isSameAs_0 rfl ?_
  refine r_iload_n (j := 1) d_Tp_isSameAs_1 rfl ?_
  refine r_isub d_Tp_isSameAs_2 ?_
  refine r_aload_n (j := 0) d_Tp_isSameAs_3 rfl ?_
  obtain ⟨q1, hw⟩ := hw
  refine r_getI d_Tp_isSameAs_4 ok_10 (nle rfl) (nle rfl) rfl lf_Tp_19 q1 ?_
  refine r_aload_n (j := 0) d_Tp_isSameAs_7 rfl ?_
  refine r_getI d_Tp_isSameAs_8 ok_10 (nle rfl) (nle rfl) rfl lf_Tp_25 q1 ?_
  refine r_isub d_Tp_isSameAs_11 ?_
  refine r_icmp_eq d_Tp_isSameAs_12 (fun w9 => ?_) (fun w9 => ?_)
  · replace hw := hw.1 w9
    refine r_iconst d_Tp_isSameAs_17 kc_0 ?_
    refine r_istore_n (ls2 := [(3, ai (0 : Int32)), (0, ar v0), (1, ai v1), (2, ai v2)]) d_Tp_isSameAs_18 (nle rfl) rfl ?_
    obtain ⟨n6, hw⟩ := hw
    refine r_pick (ls2 := [(0, ar v0), (1, ai v1), (3, ai (0 : Int32))]) [1, 2, 0] rfl ?_
    exact s_Tp_isSameAs_L19 hQ  n6 _ _ hw
  · replace hw := hw.2 w9
    refine r_iconst d_Tp_isSameAs_15 kc_0 ?_
    exact r_zreturn d_Tp_isSameAs_16.1 rfl (Or.inl rfl) (hQ _ _ hw)
set_option maxRecDepth 100000 in
set_option maxHeartbeats 4000000 in
theorem s_Rd_isNewName_B18 {d : Nat} (hd : 6 ≤ d + 1) {Q : Bool → Hp → Prop} {QQ : Option AV → Hp → Prop} (hQ : ∀ r9 h9, Q r9 h9 → QQ (some (ai (b2i r9))) h9) {v0 : Nat} {h : Hp} (hw : w_Rd_isNewName_B18 Q  v0 h) : aW none m_Rd_isNewName (d + 1) 18 [(0, ar v0)] [] h 0 0 QQ := by
  unfold w_Rd_isNewName_B18 at hw
  refine r_aload_n (j := 0) d_Rd_isNewName_18 rfl ?_
  refine r_iconst d_Rd_isNewName_19 kc_2 ?_
  obtain ⟨q5, hw⟩ := hw
  refine r_callV (av := [ai (2 : Int32)]) (rest := []) (ci := 8) d_Rd_isNewName_20 mk_Rd_fail ll_Rd_71 im_Rd_fail se_Rd_fail rfl (nle rfl) rfl rfl (nle rfl) q5 (s_Rd_fail  hw (fun r4 h3 hw => ?_))
  show aW none m_Rd_isNewName (d + 1) 23 [(0, ar v0)] [ai (b2i r4)] h3 0 0 QQ
  exact r_zreturn d_Rd_isNewName_23.1 rfl (b2i_B _) (hQ _ _ hw)
set_option maxRecDepth 100000 in
set_option maxHeartbeats 4000000 in
theorem s_Rd_isNewName_L26 {d : Nat} (hd : 6 ≤ d + 1) {Q : Bool → Hp → Prop} {QQ : Option AV → Hp → Prop} (hQ : ∀ r9 h9, Q r9 h9 → QQ (some (ai (b2i r9))) h9) {v0 : Nat} : ∀ (n : Nat) (v1 : Int32) (h : Hp), w_Rd_isNewName_L26 Q  v0 n v1 h → aW none m_Rd_isNewName (d + 1) 26 [(0, ar v0), (1, ai v1)] [] h 0 0 QQ := by
  intro n
  induction n with
  | zero => intro v1 h hw; exact hw.elim
  | succ n ih =>
    intro v1 h hw
    unfold w_Rd_isNewName_L26 at hw
    refine r_iload_n (j := 1) d_Rd_isNewName_26 rfl ?_
    refine r_aload_n (j := 0) d_Rd_isNewName_27 rfl ?_
    obtain ⟨q8, hw⟩ := hw
    refine r_getR d_Rd_isNewName_28 ok_8 (nle rfl) (nle rfl) rfl lf_Rd_12 q8 ?_
    obtain ⟨q9, hw⟩ := hw
    refine r_getI d_Rd_isNewName_31 ok_1 (nle rfl) (nle rfl) rfl lf_Rd_76 q9 ?_
    refine r_icmp_ge d_Rd_isNewName_34 (fun w9 => ?_) (fun w9 => ?_)
    · replace hw := hw.1 w9
      refine r_iconst d_Rd_isNewName_71 kc_1 ?_
      exact r_zreturn d_Rd_isNewName_72.1 rfl (Or.inr rfl) (hQ _ _ hw)
    · replace hw := hw.2 w9
      refine r_aload_n (j := 0) d_Rd_isNewName_37 rfl ?_
      refine r_getR d_Rd_isNewName_38 ok_8 (nle rfl) (nle rfl) rfl lf_Rd_29 q8 ?_
      refine r_aload_n (j := 0) d_Rd_isNewName_41 rfl ?_
      refine r_getR d_Rd_isNewName_42 ok_8 (nle rfl) (nle rfl) rfl lf_Rd_18 q8 ?_
      refine r_iload_n (j := 1) d_Rd_isNewName_45 rfl ?_
      obtain ⟨q10, hw⟩ := hw
      obtain ⟨q11, hw⟩ := hw
      refine r_iald d_Rd_isNewName_46 q10 q11 ?_
      refine r_aload_n (j := 0) d_Rd_isNewName_47 rfl ?_
      refine r_getR d_Rd_isNewName_48 ok_8 (nle rfl) (nle rfl) rfl lf_Rd_22 q8 ?_
      refine r_iload_n (j := 1) d_Rd_isNewName_51 rfl ?_
      obtain ⟨q12, hw⟩ := hw
      obtain ⟨q13, hw⟩ := hw
      refine r_iald d_Rd_isNewName_52 q12 q13 ?_
      obtain ⟨q16, hw⟩ := hw
      refine r_callV (av := [ai (gI h (gR h v0 2) (ix v1)), ai (gI h (gR h v0 3) (ix v1))]) (rest := []) (ci := 10) d_Rd_isNewName_53 mk_Tp_isSameAs ll_Rd_126 im_Tp_isSameAs se_Tp_isSameAs rfl (nle rfl) rfl rfl (nle rfl) q16 (s_Tp_isSameAs  hw (fun r15 h14 hw => ?_))
      show aW none m_Rd_isNewName (d + 1) 56 [(0, ar v0), (1, ai v1)] [ai (b2i r15)] h14 0 0 QQ
      refine r_if_eq d_Rd_isNewName_56 (fun w9 => ?_) (fun w9 => ?_)
      · replace hw := hw.1 (b2i_0.mp w9)
        refine r_iinc (j := 1) (ls2 := [(1, ai (v1 + (1 : Int32))), (0, ar v0)]) d_Rd_isNewName_65 rfl (congrArg (HAdd.hAdd v1) kc_1) (nle rfl) rfl ?_
        refine r_goto d_Rd_isNewName_68 ?_
        refine r_pick (ls2 := [(0, ar v0), (1, ai (v1 + (1 : Int32)))]) [1, 0] rfl ?_
        exact ih _ _ hw
      · replace hw := hw.2 (fun g9 => w9 (b2i_0.mpr g9))
        refine r_aload_n (j := 0) d_Rd_isNewName_59 rfl ?_
        refine r_iconst d_Rd_isNewName_60 kc_3 ?_
        obtain ⟨q19, hw⟩ := hw
        refine r_callV (av := [ai (3 : Int32)]) (rest := []) (ci := 8) d_Rd_isNewName_61 mk_Rd_fail ll_Rd_71 im_Rd_fail se_Rd_fail rfl (nle rfl) rfl rfl (nle rfl) q19 (s_Rd_fail  hw (fun r18 h17 hw => ?_))
        show aW none m_Rd_isNewName (d + 1) 64 [(0, ar v0), (1, ai v1)] [ai (b2i r18)] h17 0 0 QQ
        exact r_zreturn d_Rd_isNewName_64.1 rfl (b2i_B _) (hQ _ _ hw)
set_option maxRecDepth 100000 in
set_option maxHeartbeats 4000000 in
theorem s_Rd_isNewName {d : Nat} (hd : 6 ≤ d) {v0 : Nat} {h : Hp} {Q : Bool → Hp → Prop} {QQ : Option AV → Hp → Prop} (hw : w_Rd_isNewName v0 h Q) (hQ : ∀ r9 h9, Q r9 h9 → QQ (some (ai (b2i r9))) h9) : aCall m_Rd_isNewName d [ar v0] h 0 0 QQ := by
  obtain ⟨d, rfl⟩ : ∃ d9, d = d9 + 1 := ⟨d - 1, by omega⟩
  refine aCall_in pl_Rd_isNewName (nle rfl) ?_
  show aW none m_Rd_isNewName (d + 1) 0 [(0, ar v0)] [] h 0 0 QQ
  unfold w_Rd_isNewName at hw
  refine r_aload_n (j := 0) d_Rd_isNewName_0 rfl ?_
  obtain ⟨q1, hw⟩ := hw
  refine r_getR d_Rd_isNewName_1 ok_8 (nle rfl) (nle rfl) rfl lf_Rd_29 q1 ?_
  obtain ⟨q2, hw⟩ := hw
  refine r_getI d_Rd_isNewName_4 ok_10 (nle rfl) (nle rfl) rfl lf_Rd_51 q2 ?_
  refine r_iconst d_Rd_isNewName_7 kc_2 ?_
  refine r_icmp_ne d_Rd_isNewName_8 (fun w9 => ?_) (fun w9 => ?_)
  · replace hw := hw.2 w9
    exact s_Rd_isNewName_B18 hd hQ  hw
  · replace hw := hw.1 w9
    refine r_aload_n (j := 0) d_Rd_isNewName_11 rfl ?_
    refine r_callV (av := []) (rest := []) (ci := 8) d_Rd_isNewName_12 mk_Rd_isReserved ll_Rd_123 im_Rd_isReserved se_Rd_isReserved rfl (nle rfl) rfl rfl (nle rfl) q1 (s_Rd_isReserved (by omega) hw (fun r7 h6 hw => ?_))
    show aW none m_Rd_isNewName (d + 1) 15 [(0, ar v0)] [ai (b2i r7)] h6 0 0 QQ
    refine r_if_eq d_Rd_isNewName_15 (fun w9 => ?_) (fun w9 => ?_)
    · replace hw := hw.1 (b2i_0.mp w9)
      refine r_iconst d_Rd_isNewName_24 kc_0 ?_
      refine r_istore_n (ls2 := [(1, ai (0 : Int32)), (0, ar v0)]) d_Rd_isNewName_25 (nle rfl) rfl ?_
      obtain ⟨n20, hw⟩ := hw
      refine r_pick (ls2 := [(0, ar v0), (1, ai (0 : Int32))]) [1, 0] rfl ?_
      exact s_Rd_isNewName_L26 hd hQ  n20 _ _ hw
    · replace hw := hw.2 (fun g9 => w9 (b2i_0.mpr g9))
      exact s_Rd_isNewName_B18 hd hQ  hw
set_option maxRecDepth 100000 in
set_option maxHeartbeats 4000000 in
theorem s_Tp_value_L7 {d : Nat} {Q : Int32 → Hp → Prop} {QQ : Option AV → Hp → Prop} (hQ : ∀ r9 h9, Q r9 h9 → QQ (some (ai r9)) h9) {v0 : Nat} : ∀ (n : Nat) (v1 : Int32) (v2 : Int32) (h : Hp), w_Tp_value_L7 Q  v0 n v1 v2 h → aW none m_Tp_value d 7 [(0, ar v0), (1, ai v1), (2, ai v2)] [] h 0 0 QQ := by
  intro n
  induction n with
  | zero => intro v1 v2 h hw; exact hw.elim
  | succ n ih =>
    intro v1 v2 h hw
    unfold w_Tp_value_L7 at hw
    refine r_iload_n (j := 2) d_Tp_value_7 rfl ?_
    refine r_aload_n (j := 0) d_Tp_value_8 rfl ?_
    obtain ⟨q2, hw⟩ := hw
    refine r_getI d_Tp_value_9 ok_10 (nle rfl) (nle rfl) rfl lf_Tp_19 q2 ?_
    refine r_icmp_ge d_Tp_value_12 (fun w9 => ?_) (fun w9 => ?_)
    · replace hw := hw.1 w9
      refine r_iload_n (j := 1) d_Tp_value_54 rfl ?_
      exact r_ireturn d_Tp_value_55.1 rfl (hQ _ _ hw)
    · replace hw := hw.2 w9
      refine r_iload_n (j := 2) d_Tp_value_15 rfl ?_
      refine r_aload_n (j := 0) d_Tp_value_16 rfl ?_
      refine r_getI d_Tp_value_17 ok_10 (nle rfl) (nle rfl) rfl lf_Tp_15 q2 ?_
      refine r_icmp_ge d_Tp_value_20 (fun w9 => ?_) (fun w9 => ?_)
      · replace hw := hw.1 w9
        refine r_iload_n (j := 1) d_Tp_value_54 rfl ?_
        exact r_ireturn d_Tp_value_55.1 rfl (hQ _ _ hw)
      · replace hw := hw.2 w9
        refine r_iload_n (j := 2) d_Tp_value_23 rfl ?_
        refine r_aload_n (j := 0) d_Tp_value_24 rfl ?_
        refine r_getI d_Tp_value_25 ok_10 (nle rfl) (nle rfl) rfl lf_Tp_25 q2 ?_
        refine r_iconst d_Tp_value_28 kc_3 ?_
        refine r_iadd d_Tp_value_29 ?_
        refine r_icmp_ge d_Tp_value_30 (fun w9 => ?_) (fun w9 => ?_)
        · replace hw := hw.1 w9
          refine r_iload_n (j := 1) d_Tp_value_54 rfl ?_
          exact r_ireturn d_Tp_value_55.1 rfl (hQ _ _ hw)
        · replace hw := hw.2 w9
          refine r_iload_n (j := 1) d_Tp_value_33 rfl ?_
          refine r_bipush d_Tp_value_34 kb_10 ?_
          refine r_imul d_Tp_value_36 ?_
          refine r_aload_n (j := 0) d_Tp_value_37 rfl ?_
          refine r_getR d_Tp_value_38 ok_10 (nle rfl) (nle rfl) rfl lf_Tp_9 q2 ?_
          refine r_iload_n (j := 2) d_Tp_value_41 rfl ?_
          obtain ⟨q3, hw⟩ := hw
          obtain ⟨q4, hw⟩ := hw
          refine r_iald d_Tp_value_42 q3 q4 ?_
          refine r_iadd d_Tp_value_43 ?_
          refine r_bipush d_Tp_value_44 kb_48 ?_
          refine r_isub d_Tp_value_46 ?_
          refine r_istore_n (ls2 := [(1, ai (((v1 * (10 : Int32)) + (gI h (gR h v0 0) (ix v2))) - (48 : Int32))), (0, ar v0), (2, ai v2)]) d_Tp_value_47 (nle rfl) rfl ?_
          refine r_iinc (j := 2) (ls2 := [(2, ai (v2 + (1 : Int32))), (1, ai (((v1 * (10 : Int32)) + (gI h (gR h v0 0) (ix v2))) - (48 : Int32))), (0, ar v0)]) d_Tp_value_48 rfl (congrArg (HAdd.hAdd v2) kc_1) (nle rfl) rfl ?_
          refine r_goto d_Tp_value_51 ?_
          refine r_pick (ls2 := [(0, ar v0), (1, ai (((v1 * (10 : Int32)) + (gI h (gR h v0 0) (ix v2))) - (48 : Int32))), (2, ai (v2 + (1 : Int32)))]) [2, 1, 0] rfl ?_
          exact ih _ _ _ hw
set_option maxRecDepth 100000 in
set_option maxHeartbeats 4000000 in
theorem s_Tp_value {d : Nat} {v0 : Nat} {h : Hp} {Q : Int32 → Hp → Prop} {QQ : Option AV → Hp → Prop} (hw : w_Tp_value v0 h Q) (hQ : ∀ r9 h9, Q r9 h9 → QQ (some (ai r9)) h9) : aCall m_Tp_value d [ar v0] h 0 0 QQ := by
  refine aCall_in pl_Tp_value (nle rfl) ?_
  show aW none m_Tp_value d 0 [(0, ar v0)] [] h 0 0 QQ
  unfold w_Tp_value at hw
  refine r_iconst d_Tp_value_0 kc_0 ?_
  refine r_istore_n (ls2 := [(1, ai (0 : Int32)), (0, ar v0)]) d_Tp_value_1 (nle rfl) rfl ?_
  refine r_aload_n (j := 1) d_Tp_value_2 rfl ?_
  obtain ⟨q1, hw⟩ := hw
  refine r_getI d_Tp_value_3 ok_10 (nle rfl) (nle rfl) rfl lf_Tp_25 q1 ?_
  refine r_istore_n (ls2 := [(2, ai (gI h v0 3)), (1, ai (0 : Int32)), (0, ar v0)]) d_Tp_value_6 (nle rfl) rfl ?_
  obtain ⟨n5, hw⟩ := hw
  refine r_pick (ls2 := [(0, ar v0), (1, ai (0 : Int32)), (2, ai (gI h v0 3))]) [2, 1, 0] rfl ?_
  exact s_Tp_value_L7 hQ  n5 _ _ _ hw
set_option maxRecDepth 100000 in
set_option maxHeartbeats 4000000 in
theorem s_Rd_isNumber_B35 {d : Nat} (hd : 1 ≤ d + 1) {Q : Bool → Hp → Prop} {QQ : Option AV → Hp → Prop} (hQ : ∀ r9 h9, Q r9 h9 → QQ (some (ai (b2i r9))) h9) {v0 : Nat} {h : Hp} (hw : w_Rd_isNumber_B35 Q  v0 h) : aW none m_Rd_isNumber (d + 1) 35 [(0, ar v0)] [] h 0 0 QQ := by
  unfold w_Rd_isNumber_B35 at hw
  refine r_aload_n (j := 0) d_Rd_isNumber_35 rfl ?_
  refine r_iconst d_Rd_isNumber_36 kc_4 ?_
  obtain ⟨q7, hw⟩ := hw
  refine r_callV (av := [ai (4 : Int32)]) (rest := []) (ci := 8) d_Rd_isNumber_37 mk_Rd_fail ll_Rd_71 im_Rd_fail se_Rd_fail rfl (nle rfl) rfl rfl (nle rfl) q7 (s_Rd_fail  hw (fun r6 h5 hw => ?_))
  show aW none m_Rd_isNumber (d + 1) 40 [(0, ar v0)] [ai (b2i r6)] h5 0 0 QQ
  refine r_if_eq d_Rd_isNumber_40 (fun w9 => ?_) (fun w9 => ?_)
  · replace hw := hw.1 (b2i_0.mp w9)
    refine r_iconst d_Rd_isNumber_47 kc_0 ?_
    exact r_zreturn d_Rd_isNumber_48.1 rfl (Or.inl rfl) (hQ _ _ hw)
  · replace hw := hw.2 (fun g9 => w9 (b2i_0.mpr g9))
    refine r_iconst d_Rd_isNumber_43 kc_1 ?_
    refine r_goto d_Rd_isNumber_44 ?_
    exact r_zreturn d_Rd_isNumber_48.1 rfl (Or.inr rfl) (hQ _ _ hw)
set_option maxRecDepth 100000 in
set_option maxHeartbeats 4000000 in
theorem s_Rd_isNumber {d : Nat} (hd : 1 ≤ d) {v0 : Nat} {v1 : Int32} {v2 : Int32} {h : Hp} {Q : Bool → Hp → Prop} {QQ : Option AV → Hp → Prop} (hw : w_Rd_isNumber v0 v1 v2 h Q) (hQ : ∀ r9 h9, Q r9 h9 → QQ (some (ai (b2i r9))) h9) : aCall m_Rd_isNumber d [ar v0, ai v1, ai v2] h 0 0 QQ := by
  obtain ⟨d, rfl⟩ : ∃ d9, d = d9 + 1 := ⟨d - 1, by omega⟩
  refine aCall_in pl_Rd_isNumber (nle rfl) ?_
  show aW none m_Rd_isNumber (d + 1) 0 [(0, ar v0), (1, ai v1), (2, ai v2)] [] h 0 0 QQ
  unfold w_Rd_isNumber at hw
  refine r_aload_n (j := 0) d_Rd_isNumber_0 rfl ?_
  obtain ⟨q1, hw⟩ := hw
  refine r_getR d_Rd_isNumber_1 ok_8 (nle rfl) (nle rfl) rfl lf_Rd_29 q1 ?_
  obtain ⟨q2, hw⟩ := hw
  refine r_getI d_Rd_isNumber_4 ok_10 (nle rfl) (nle rfl) rfl lf_Rd_51 q2 ?_
  refine r_iconst d_Rd_isNumber_7 kc_3 ?_
  refine r_icmp_eq d_Rd_isNumber_8 (fun w9 => ?_) (fun w9 => ?_)
  · replace hw := hw.1 w9
    refine r_aload_n (j := 0) d_Rd_isNumber_17 rfl ?_
    refine r_getR d_Rd_isNumber_18 ok_8 (nle rfl) (nle rfl) rfl lf_Rd_29 q1 ?_
    refine r_callV (av := []) (rest := []) (ci := 10) d_Rd_isNumber_21 mk_Tp_value ll_Rd_99 im_Tp_value se_Tp_value rfl (nle rfl) rfl rfl (nle rfl) q2 (s_Tp_value  hw (fun r4 h3 hw => ?_))
    show aW none m_Rd_isNumber (d + 1) 24 [(0, ar v0), (1, ai v1), (2, ai v2)] [ai r4] h3 0 0 QQ
    refine r_istore_n (ls2 := [(3, ai r4), (0, ar v0), (1, ai v1), (2, ai v2)]) d_Rd_isNumber_24 (nle rfl) rfl ?_
    refine r_iload_n (j := 0) d_Rd_isNumber_25 rfl ?_
    refine r_iload_n (j := 2) d_Rd_isNumber_26 rfl ?_
    refine r_icmp_lt d_Rd_isNumber_27 (fun w9 => ?_) (fun w9 => ?_)
    · replace hw := hw.1 w9
      refine r_pick (ls2 := [(0, ar v0)]) [1] rfl ?_
      exact s_Rd_isNumber_B35 hd hQ  hw
    · replace hw := hw.2 w9
      refine r_iload_n (j := 0) d_Rd_isNumber_30 rfl ?_
      refine r_iload_n (j := 3) d_Rd_isNumber_31 rfl ?_
      refine r_icmp_le d_Rd_isNumber_32 (fun w9 => ?_) (fun w9 => ?_)
      · replace hw := hw.1 w9
        refine r_iconst d_Rd_isNumber_43 kc_1 ?_
        refine r_goto d_Rd_isNumber_44 ?_
        exact r_zreturn d_Rd_isNumber_48.1 rfl (Or.inr rfl) (hQ _ _ hw)
      · replace hw := hw.2 w9
        refine r_pick (ls2 := [(0, ar v0)]) [1] rfl ?_
        exact s_Rd_isNumber_B35 hd hQ  hw
  · replace hw := hw.2 w9
    refine r_aload_n (j := 0) d_Rd_isNumber_11 rfl ?_
    refine r_iconst d_Rd_isNumber_12 kc_2 ?_
    refine r_callV (av := [ai (2 : Int32)]) (rest := []) (ci := 8) d_Rd_isNumber_13 mk_Rd_fail ll_Rd_71 im_Rd_fail se_Rd_fail rfl (nle rfl) rfl rfl (nle rfl) q1 (s_Rd_fail  hw (fun r9 h8 hw => ?_))
    show aW none m_Rd_isNumber (d + 1) 16 [(0, ar v0), (1, ai v1), (2, ai v2)] [ai (b2i r9)] h8 0 0 QQ
    exact r_zreturn d_Rd_isNumber_16.1 rfl (b2i_B _) (hQ _ _ hw)
set_option maxRecDepth 100000 in
set_option maxHeartbeats 4000000 in
theorem s_Rd_readSigned_B66 {d : Nat} (hd : 3 ≤ d + 1) {Q : Bool → Hp → Prop} {QQ : Option AV → Hp → Prop} (hQ : ∀ r9 h9, Q r9 h9 → QQ (some (ai (b2i r9))) h9) {v0 : Nat} {s0 : Nat} {s1 : Int32} {s2 : Int32} {h : Hp} (hw : w_Rd_readSigned_B66 Q  v0 s0 s1 s2 h) : aW none m_Rd_readSigned (d + 1) 66 [(0, ar v0)] [ai s2, ai s1, ar s0] h 0 0 QQ := by
  unfold w_Rd_readSigned_B66 at hw
  obtain ⟨q11, hw⟩ := hw
  refine r_callV (av := [ai s1, ai s2]) (rest := []) (ci := 1) d_Rd_readSigned_66 mk_Co_put ll_Rd_108 im_Co_put se_Co_put rfl (nle rfl) rfl rfl (nle rfl) q11 (s_Co_put  hw (fun h10 hw => ?_))
  show aW none m_Rd_readSigned (d + 1) 69 [(0, ar v0)] [] h10 0 0 QQ
  refine r_aload_n (j := 0) d_Rd_readSigned_69 rfl ?_
  obtain ⟨q12, hw⟩ := hw
  refine r_getR d_Rd_readSigned_70 ok_8 (nle rfl) (nle rfl) rfl lf_Rd_29 q12 ?_
  obtain ⟨q14, hw⟩ := hw
  refine r_callV (av := []) (rest := []) (ci := 10) d_Rd_readSigned_73 mk_Tp_advance ll_Rd_92 im_Tp_advance se_Tp_advance rfl (nle rfl) rfl rfl (nle rfl) q14 (s_Tp_advance (by omega) hw (fun h13 hw => ?_))
  show aW none m_Rd_readSigned (d + 1) 76 [(0, ar v0)] [] h13 0 0 QQ
  refine r_iconst d_Rd_readSigned_76 kc_1 ?_
  exact r_zreturn d_Rd_readSigned_77.1 rfl (Or.inr rfl) (hQ _ _ hw)
set_option maxRecDepth 100000 in
set_option maxHeartbeats 4000000 in
theorem s_Rd_readSigned_B28 {d : Nat} (hd : 3 ≤ d + 1) {Q : Bool → Hp → Prop} {QQ : Option AV → Hp → Prop} (hQ : ∀ r9 h9, Q r9 h9 → QQ (some (ai (b2i r9))) h9) {v0 : Nat} {v1 : Int32} {v2 : Int32} {v3 : Int32} {h : Hp} (hw : w_Rd_readSigned_B28 Q  v0 v1 v2 v3 h) : aW none m_Rd_readSigned (d + 1) 28 [(0, ar v0), (1, ai v1), (2, ai v2), (3, ai v3)] [] h 0 0 QQ := by
  unfold w_Rd_readSigned_B28 at hw
  refine r_aload_n (j := 0) d_Rd_readSigned_28 rfl ?_
  refine r_iconst d_Rd_readSigned_29 kc_0 ?_
  refine r_iload_n (j := 2) d_Rd_readSigned_30 rfl ?_
  obtain ⟨q5, hw⟩ := hw
  refine r_callV (av := [ai (0 : Int32), ai v2]) (rest := []) (ci := 8) d_Rd_readSigned_31 mk_Rd_isNumber ll_Rd_95 im_Rd_isNumber se_Rd_isNumber rfl (nle rfl) rfl rfl (nle rfl) q5 (s_Rd_isNumber (by omega) hw (fun r4 h3 hw => ?_))
  show aW none m_Rd_readSigned (d + 1) 34 [(0, ar v0), (1, ai v1), (2, ai v2), (3, ai v3)] [ai (b2i r4)] h3 0 0 QQ
  refine r_if_ne d_Rd_readSigned_34 (fun w9 => ?_) (fun w9 => ?_)
  · replace hw := hw.2 (fun g9 => w9 (b2i_0.mpr g9))
    refine r_aload_n (j := 0) d_Rd_readSigned_39 rfl ?_
    obtain ⟨q6, hw⟩ := hw
    refine r_getR d_Rd_readSigned_40 ok_8 (nle rfl) (nle rfl) rfl lf_Rd_12 q6 ?_
    refine r_iload_n (j := 1) d_Rd_readSigned_43 rfl ?_
    refine r_iload_n (j := 3) d_Rd_readSigned_44 rfl ?_
    refine r_if_eq d_Rd_readSigned_45 (fun w9 => ?_) (fun w9 => ?_)
    · replace hw := hw.1 w9
      refine r_aload_n (j := 0) d_Rd_readSigned_59 rfl ?_
      refine r_getR d_Rd_readSigned_60 ok_8 (nle rfl) (nle rfl) rfl lf_Rd_29 q6 ?_
      obtain ⟨q9, hw⟩ := hw
      refine r_callV (av := []) (rest := [ai v1, ar (gR h3 v0 1)]) (ci := 10) d_Rd_readSigned_63 mk_Tp_value ll_Rd_99 im_Tp_value se_Tp_value rfl (nle rfl) rfl rfl (nle rfl) q9 (s_Tp_value  hw (fun r8 h7 hw => ?_))
      show aW none m_Rd_readSigned (d + 1) 66 [(0, ar v0), (1, ai v1), (2, ai v2), (3, ai v3)] [ai r8, ai v1, ar (gR h3 v0 1)] h7 0 0 QQ
      refine r_pick (ls2 := [(0, ar v0)]) [0] rfl ?_
      exact s_Rd_readSigned_B66 hd hQ  hw
    · replace hw := hw.2 w9
      refine r_aload_n (j := 0) d_Rd_readSigned_48 rfl ?_
      refine r_getR d_Rd_readSigned_49 ok_8 (nle rfl) (nle rfl) rfl lf_Rd_29 q6 ?_
      obtain ⟨q17, hw⟩ := hw
      refine r_callV (av := []) (rest := [ai v1, ar (gR h3 v0 1)]) (ci := 10) d_Rd_readSigned_52 mk_Tp_value ll_Rd_99 im_Tp_value se_Tp_value rfl (nle rfl) rfl rfl (nle rfl) q17 (s_Tp_value  hw (fun r16 h15 hw => ?_))
      show aW none m_Rd_readSigned (d + 1) 55 [(0, ar v0), (1, ai v1), (2, ai v2), (3, ai v3)] [ai r16, ai v1, ar (gR h3 v0 1)] h15 0 0 QQ
      refine r_ineg d_Rd_readSigned_55 ?_
      refine r_goto d_Rd_readSigned_56 ?_
      refine r_pick (ls2 := [(0, ar v0)]) [0] rfl ?_
      exact s_Rd_readSigned_B66 hd hQ  hw
  · replace hw := hw.1 (b2i_0.mp w9)
    refine r_iconst d_Rd_readSigned_37 kc_0 ?_
    exact r_zreturn d_Rd_readSigned_38.1 rfl (Or.inl rfl) (hQ _ _ hw)
set_option maxRecDepth 100000 in
set_option maxHeartbeats 4000000 in
theorem s_Rd_readSigned_B16 {d : Nat} (hd : 3 ≤ d + 1) {Q : Bool → Hp → Prop} {QQ : Option AV → Hp → Prop} (hQ : ∀ r9 h9, Q r9 h9 → QQ (some (ai (b2i r9))) h9) {v0 : Nat} {v1 : Int32} {v2 : Int32} {s0 : Int32} {h : Hp} (hw : w_Rd_readSigned_B16 Q  v0 v1 v2 s0 h) : aW none m_Rd_readSigned (d + 1) 16 [(0, ar v0), (1, ai v1), (2, ai v2)] [ai s0] h 0 0 QQ := by
  unfold w_Rd_readSigned_B16 at hw
  refine r_istore_n (ls2 := [(3, ai s0), (0, ar v0), (1, ai v1), (2, ai v2)]) d_Rd_readSigned_16 (nle rfl) rfl ?_
  refine r_iload_n (j := 0) d_Rd_readSigned_17 rfl ?_
  refine r_if_eq d_Rd_readSigned_18 (fun w9 => ?_) (fun w9 => ?_)
  · replace hw := hw.1 w9
    refine r_pick (ls2 := [(0, ar v0), (1, ai v1), (2, ai v2), (3, ai s0)]) [1, 2, 3, 0] rfl ?_
    exact s_Rd_readSigned_B28 hd hQ  hw
  · replace hw := hw.2 w9
    refine r_aload_n (j := 1) d_Rd_readSigned_21 rfl ?_
    obtain ⟨q18, hw⟩ := hw
    refine r_getR d_Rd_readSigned_22 ok_8 (nle rfl) (nle rfl) rfl lf_Rd_29 q18 ?_
    obtain ⟨q20, hw⟩ := hw
    refine r_callV (av := []) (rest := []) (ci := 10) d_Rd_readSigned_25 mk_Tp_advance ll_Rd_92 im_Tp_advance se_Tp_advance rfl (nle rfl) rfl rfl (nle rfl) q20 (s_Tp_advance (by omega) hw (fun h19 hw => ?_))
    show aW none m_Rd_readSigned (d + 1) 28 [(3, ai s0), (0, ar v0), (1, ai v1), (2, ai v2)] [] h19 0 0 QQ
    refine r_pick (ls2 := [(0, ar v0), (1, ai v1), (2, ai v2), (3, ai s0)]) [1, 2, 3, 0] rfl ?_
    exact s_Rd_readSigned_B28 hd hQ  hw
set_option maxRecDepth 100000 in
set_option maxHeartbeats 4000000 in
theorem s_Rd_readSigned {d : Nat} (hd : 3 ≤ d) {v0 : Nat} {v1 : Int32} {v2 : Int32} {h : Hp} {Q : Bool → Hp → Prop} {QQ : Option AV → Hp → Prop} (hw : w_Rd_readSigned v0 v1 v2 h Q) (hQ : ∀ r9 h9, Q r9 h9 → QQ (some (ai (b2i r9))) h9) : aCall m_Rd_readSigned d [ar v0, ai v1, ai v2] h 0 0 QQ := by
  obtain ⟨d, rfl⟩ : ∃ d9, d = d9 + 1 := ⟨d - 1, by omega⟩
  refine aCall_in pl_Rd_readSigned (nle rfl) ?_
  show aW none m_Rd_readSigned (d + 1) 0 [(0, ar v0), (1, ai v1), (2, ai v2)] [] h 0 0 QQ
  unfold w_Rd_readSigned at hw
  refine r_aload_n (j := 0) d_Rd_readSigned_0 rfl ?_
  obtain ⟨q1, hw⟩ := hw
  refine r_getR d_Rd_readSigned_1 ok_8 (nle rfl) (nle rfl) rfl lf_Rd_29 q1 ?_
  obtain ⟨q2, hw⟩ := hw
  refine r_getI d_Rd_readSigned_4 ok_10 (nle rfl) (nle rfl) rfl lf_Rd_51 q2 ?_
  refine r_iconst d_Rd_readSigned_7 kc_4 ?_
  refine r_icmp_ne d_Rd_readSigned_8 (fun w9 => ?_) (fun w9 => ?_)
  · replace hw := hw.2 w9
    refine r_iconst d_Rd_readSigned_15 kc_0 ?_
    exact s_Rd_readSigned_B16 hd hQ  hw
  · replace hw := hw.1 w9
    refine r_iconst d_Rd_readSigned_11 kc_1 ?_
    refine r_goto d_Rd_readSigned_12 ?_
    exact s_Rd_readSigned_B16 hd hQ  hw
